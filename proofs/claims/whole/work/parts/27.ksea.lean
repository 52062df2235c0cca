/-! the record; whose hands -/
def f_se (I : am_I) (b : Int32) (k : Nat) (s : Int32) : Int32 := b * (b * (b * s + I 3 k) + I 4 k) + I 5 k
theorem k_X8_sealed {s b : Int32} {n : Nat} {I : am_I} {L : am_L} (hn : I 2 4 = nI n) (hn1 : n ≤ 100) : am_K M_X8_sealed 0 [.ref 2, .int s, .int b] I L (am_qf (some (.int (am_it (f_se I b) s n))) I L) := by
  have key : ∀ k, k ≤ n → B_X8_sealed_5 (am_qf (some (.int (am_it (f_se I b) s n))) I L) I L b (am_it (f_se I b) s k) (nI k) := by
    refine am_down ?_ (fun k hk ih => ?_)
    · exact s_X8_sealed_5 ⟨fun _ => ⟨rfl, rfl, rfl⟩, fun c1 => absurd (by rw [hn]; exact Int32.le_refl _) c1⟩
    · have hc : (nI k).toNatClampNeg = k := nI_clamp (by omega)
      have hv := am_vI (k := k) (n := 100) (by omega) (by decide)
      exact s_X8_sealed_5 ⟨fun c1 => absurd c1 (by rw [hn]; exact nI_ge hk (by omega)), fun _ => ⟨hv, hv, hv, by rw [hc, ← nI_succ]; exact ih⟩⟩
  exact bm_intro (by decide +kernel) (Nat.le_of_ble_eq_true rfl) (show B_X8_sealed_0 _ _ _ _ _ from s_X8_sealed_0 (key 0 (Nat.zero_le _)))
def f_kept (I : am_I) : am_I := am_cp (am_cp (am_cp (am_u I 2 4 (I 11 7)) 3 19 100) 4 20 100) 5 21 100
def f_keep (I : am_I) (n : Nat) : am_I := am_u (am_u (f_kept I) 2 5 (am_it (f_se (f_kept I) 31) 5 n)) 2 6 (am_it (f_se (am_u (f_kept I) 2 5 (am_it (f_se (f_kept I) 31) 5 n)) 33) 7 n)
theorem k_X8_copyRows {n : Nat} {I : am_I} {L : am_L} (hn : I 11 7 = nI n) (hn1 : n ≤ 100) : am_K M_X8_copyRows 1 [.ref 2, .ref 11] I L (am_qf none (f_keep I n) L) := by
  have h1 : f_kept I 2 4 = nI n := by simp [f_kept, am_cp, am_u, hn]
  refine bm_intro (by decide +kernel) (Nat.le_of_ble_eq_true rfl) (show B_X8_copyRows_0 _ _ _ from s_X8_copyRows_0 ⟨_, am_qf_i (k_X8_sealed h1 hn1), fun v I3 L4 e => ?_⟩)
  obtain ⟨rfl, rfl, rfl⟩ := e
  refine ⟨_, am_qf_i (k_X8_sealed (by rw [am_u_ne _ (Or.inr (by decide))]; exact h1) hn1), fun v I3 L4 e => ?_⟩
  obtain ⟨rfl, rfl, rfl⟩ := e
  exact ⟨rfl, rfl, rfl⟩
def am_pw (b : Int32) : Nat → Int32
  | 0 => 1
  | n + 1 => am_pw b n * b
def f_fits (I : am_I) (a b : Int32) (n j : Nat) : am_I := fun x y => if x = 6 then (if n - j ≤ y ∧ y < n then (if a * am_pw 35937 (n - 1 - y) = b * am_pw 29791 (n - 1 - y) then 1 else 0) else I 6 y) else I x y
theorem f_fits_0 (I : am_I) (a b : Int32) (n : Nat) : f_fits I a b n 0 = I := by
  funext x y
  by_cases h : x = 6
  · have h2 : ¬ (n - 0 ≤ y ∧ y < n) := by omega
    simp [f_fits, h]
    intro h3 h4
    omega
  · simp [f_fits, h]
theorem f_fits_s (I : am_I) (a b : Int32) {n j : Nat} (hj : j < n) : am_u (f_fits I a b n j) 6 (n - 1 - j) (if a * am_pw 35937 j = b * am_pw 29791 j then 1 else 0) = f_fits I a b n (j + 1) := by
  funext x y
  by_cases h : x = 6
  · subst h
    by_cases hy : y = n - 1 - j
    · have h1 : n - (j + 1) ≤ y ∧ y < n := by omega
      have h2 : n - 1 - y = j := by omega
      simp [am_u, f_fits, h1, h2, hy]
      have h3 : n - 1 - (n - 1 - j) = j := by omega
      have h4 : n - (j + 1) ≤ n - 1 - j ∧ n - 1 - j < n := by omega
      simp [h3, h4]
      intro h5
      omega
    · by_cases h1 : n - j ≤ y ∧ y < n
      · have h2 : n - (j + 1) ≤ y ∧ y < n := by omega
        simp [am_u, f_fits, hy, h1, h2]
      · have h2 : ¬ (n - (j + 1) ≤ y ∧ y < n) := by omega
        simp only [am_u, f_fits, if_pos rfl, if_neg hy, if_neg h1, if_neg h2, if_true]
  · simp [am_u, f_fits, h]
def f_cntf (a b : Int32) (j : Nat) (c : Int32) : Int32 := if a * am_pw 35937 j = b * am_pw 29791 j then c + 1 else c
theorem k_X8_lookWhichFit {a b : Int32} {n : Nat} {I : am_I} {L : am_L} (hn : I 2 4 = nI n) (hn1 : n ≤ 100) (h1 : 1 ≤ n) : am_K M_X8_lookWhichFit 0 [.ref 2, .int a, .int b] I L (am_qf (some (.int (am_it (f_cntf a b) 0 n))) (f_fits I a b n n) L) := by
  have key : ∀ j, j ≤ n → B_X8_lookWhichFit_16 (am_qf (some (.int (am_it (f_cntf a b) 0 n))) (f_fits I a b n n) L) (f_fits I a b n j) L a b (am_pw 29791 j) (am_pw 35937 j) (am_it (f_cntf a b) 0 j) (nI (n - j) - 1) := by
    refine am_down ?_ (fun j hj ih => ?_)
    · rw [Nat.sub_self]
      exact s_X8_lookWhichFit_16 ⟨fun _ => ⟨rfl, rfl, rfl⟩, fun c1 => absurd (by decide) c1⟩
    · have h2 : nI (n - j) - 1 = nI (n - 1 - j) := by rw [show n - j = (n - 1 - j) + 1 by omega]; exact nI_pred _
      have h3 : nI (n - (j + 1)) - 1 = nI (n - 1 - j) + -1 := by rw [show n - (j + 1) = n - 1 - j by omega, Int32.sub_eq_add_neg]
      have hc : (nI (n - 1 - j)).toNatClampNeg = n - 1 - j := nI_clamp (by omega)
      have hv := am_vI (k := n - 1 - j) (n := 100) (by omega) (by decide)
      rw [h2]
      rw [h3, am_it, f_cntf] at ih
      have hs := f_fits_s I a b hj
      refine s_X8_lookWhichFit_16 ⟨fun c1 => absurd c1 (nI_pos (by omega)), fun _ => ⟨fun c2 => ⟨⟨hv, by decide⟩, hv, fun c3 => ?_, fun c3 => ?_⟩, fun c2 => ⟨⟨hv, by decide⟩, hv, fun c3 => ?_, fun c3 => ?_⟩⟩⟩
      · rw [if_neg c2] at ih hs
        rw [hc, hs]; exact ih
      · exact absurd (am_u_eq _ _ _ _) c3
      · exact absurd ((am_u_eq _ _ _ _).symm.trans c3) (by decide)
      · rw [if_pos c2] at ih hs
        rw [hc, hs]; exact ih
  have k0 := key 0 (Nat.zero_le _)
  rw [f_fits_0, Nat.sub_zero] at k0
  refine bm_intro (by decide +kernel) (Nat.le_of_ble_eq_true rfl) (show B_X8_lookWhichFit_0 _ _ _ _ _ from s_X8_lookWhichFit_0 ?_)
  rw [hn]; exact k0
def f_ds (I : am_I) (k : Nat) (h : Int64) : Int64 := 31 * h + (I 5 k).toInt64
theorem k_X8_digested {n : Nat} {h : Int64} {I : am_I} {L : am_L} (hn : I 2 4 = nI n) (hn1 : n ≤ 100) : am_K M_X8_digested 0 [.ref 2, .long h] I L (am_qf (some (.long (am_it (f_ds I) h n))) I L) := by
  have key : ∀ k, k ≤ n → B_X8_digested_5 (am_qf (some (.long (am_it (f_ds I) h n))) I L) I L (am_it (f_ds I) h k) (nI k) := by
    refine am_down ?_ (fun k hk ih => ?_)
    · exact s_X8_digested_5 ⟨fun _ => ⟨rfl, rfl, rfl⟩, fun c1 => absurd (by rw [hn]; exact Int32.le_refl _) c1⟩
    · have hc : (nI k).toNatClampNeg = k := nI_clamp (by omega)
      have hv := am_vI (k := k) (n := 100) (by omega) (by decide)
      exact s_X8_digested_5 ⟨fun c1 => absurd c1 (by rw [hn]; exact nI_ge hk (by omega)), fun _ => ⟨hv, by rw [hc, ← nI_succ]; exact ih⟩⟩
  exact bm_intro (by decide +kernel) (Nat.le_of_ble_eq_true rfl) (show B_X8_digested_0 _ _ _ _ from s_X8_digested_0 (key 0 (Nat.zero_le _)))
/-- the i-th of the rows that fit: m rows from r on are left, c have been seen -/
def f_ith (c : Nat → Prop) [DecidablePred c] (w : Int32) : Nat → Nat → Int32 → Int32
  | 0, _, _ => -5
  | m + 1, r, s => if c r then (if s = w then nI r else f_ith c w m (r + 1) (s + 1)) else f_ith c w m (r + 1) s
theorem k_find59 {w : Int32} {n : Nat} {I : am_I} {L : am_L} (hn : I 2 4 = nI n) (hn1 : n ≤ 100) : B_X8_findAltered_59 (am_qf (some (.int (f_ith (fun r => ¬ I 6 r = 0) w n 0 0))) I L) I L w 0 0 := by
  have key : ∀ k, k ≤ n → ∀ s, B_X8_findAltered_59 (am_qf (some (.int (f_ith (fun r => ¬ I 6 r = 0) w (n - k) k s))) I L) I L w s (nI k) := by
    refine am_down (fun s => ?_) (fun k hk ih s => ?_)
    · rw [Nat.sub_self]
      exact s_X8_findAltered_59 ⟨fun _ => ⟨rfl, rfl, rfl⟩, fun c1 => absurd (by rw [hn]; exact Int32.le_refl _) c1⟩
    · have hc : (nI k).toNatClampNeg = k := nI_clamp (by omega)
      have hv := am_vI (k := k) (n := 100) (by omega) (by decide)
      rw [show n - k = (n - (k + 1)) + 1 by omega, f_ith]
      refine s_X8_findAltered_59 ⟨fun c1 => absurd c1 (by rw [hn]; exact nI_ge hk (by omega)), fun _ => ⟨hv, fun c2 => ⟨fun c3 => ?_, fun c3 => ?_⟩, fun c2 => ?_⟩⟩
      · rw [hc] at c2
        rw [if_pos c2, if_neg c3, ← nI_succ]; exact ih _
      · rw [hc] at c2
        rw [if_pos c2, if_pos c3]; exact ⟨rfl, rfl, rfl⟩
      · rw [hc] at c2
        rw [if_neg (fun h => h c2), ← nI_succ]; exact ih _
  exact key 0 (Nat.zero_le _) 0
def f_chk (I : am_I) (n : Nat) (w : Int32) : Int32 × am_I :=
  let a := I 2 5 - am_it (f_se I 31) 5 n
  let b := I 2 6 - am_it (f_se I 33) 7 n
  if a = 0 ∧ b = 0 then (-1, I) else if w = -1 then (am_it (f_cntf a b) 0 n, f_fits I a b n n) else (f_ith (fun r => ¬ f_fits I a b n n 6 r = 0) w n 0 0, f_fits I a b n n)
theorem k_X8_findAltered {w : Int32} {n : Nat} {I : am_I} {L : am_L} (hn : I 2 4 = nI n) (hn1 : n ≤ 100) (h0 : n = 0 → I 2 5 = 5 ∧ I 2 6 = 7) : am_K M_X8_findAltered 1 [.ref 2, .int w] I L (am_qf (some (.int (f_chk I n w).1)) (f_chk I n w).2 L) := by
  refine bm_intro (by decide +kernel) (Nat.le_of_ble_eq_true rfl) (show B_X8_findAltered_0 _ _ _ _ from s_X8_findAltered_0 ⟨_, am_qf_i (k_X8_sealed hn hn1), fun v I3 L4 e => ?_⟩)
  obtain ⟨rfl, rfl, rfl⟩ := e
  refine ⟨_, am_qf_i (k_X8_sealed hn hn1), fun v I3 L4 e => ?_⟩
  obtain ⟨rfl, rfl, rfl⟩ := e
  have hf : ∀ a b, f_fits I3 a b n n 2 4 = nI n := fun a b => by simp [f_fits, hn]
  refine ⟨fun c1 => ⟨_, am_qf_i (k_X8_lookWhichFit hn hn1 ?_), fun v I5 L6 e => ?_⟩, fun c1 => ⟨fun c2 => ⟨_, am_qf_i (k_X8_lookWhichFit hn hn1 ?_), fun v I5 L6 e => ?_⟩, fun c2 => ?_⟩⟩
  · rcases Nat.eq_zero_or_pos n with h | h
    · subst h; exact absurd (by rw [(h0 rfl).1]; exact Int32.sub_self 5) c1
    · exact h
  · obtain ⟨rfl, rfl, rfl⟩ := e
    refine ⟨fun c3 => ?_, fun c3 => ?_⟩
    · rw [f_chk, if_neg (fun h => c1 h.1), if_neg c3]; exact k_find59 (hf _ _) hn1
    · rw [f_chk, if_neg (fun h => c1 h.1), if_pos c3]; exact ⟨rfl, rfl, rfl⟩
  · rcases Nat.eq_zero_or_pos n with h | h
    · subst h; exact absurd (by rw [(h0 rfl).2]; exact Int32.sub_self 7) c2
    · exact h
  · obtain ⟨rfl, rfl, rfl⟩ := e
    refine ⟨fun c3 => ?_, fun c3 => ?_⟩
    · rw [f_chk, if_neg (fun h => c2 h.2), if_neg c3]; exact k_find59 (hf _ _) hn1
    · rw [f_chk, if_neg (fun h => c2 h.2), if_pos c3]; exact ⟨rfl, rfl, rfl⟩
  · rw [f_chk, if_pos ⟨c1, c2⟩]; exact ⟨rfl, rfl, rfl⟩
