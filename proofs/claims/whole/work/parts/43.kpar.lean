/-! the rule reader: the pure words and the small methods -/
def q_I (I : am_I) (p o : Nat) (f : Int32) : am_I := am_ro I 184 (am_f (am_f (am_f (I 184) 3 (nI p)) 4 (nI o)) 5 f)
theorem q_I_ne (I : am_I) (p o : Nat) (f : Int32) {a : Nat} (h : a ≠ 184) : q_I I p o f a = I a := am_ro_ne _ _ h
theorem q_I_2 (I : am_I) (p o : Nat) (f : Int32) : q_I I p o f 184 3 = nI p := by rw [q_I, am_ro_at, am_f_ne _ _ (by decide), am_f_ne _ _ (by decide), am_f_eq]
theorem q_I_3 (I : am_I) (p o : Nat) (f : Int32) : q_I I p o f 184 4 = nI o := by rw [q_I, am_ro_at, am_f_ne _ _ (by decide), am_f_eq]
theorem q_I_4 (I : am_I) (p o : Nat) (f : Int32) : q_I I p o f 184 5 = f := by rw [q_I, am_ro_at, am_f_eq]
theorem q_I_n (I : am_I) (p o : Nat) (f : Int32) : q_I I p o f 184 2 = I 184 2 := by rw [q_I, am_ro_at, am_f_ne _ _ (by decide), am_f_ne _ _ (by decide), am_f_ne _ _ (by decide)]
theorem am_f_c {α : Type} (A : Nat → α) {j k : Nat} (v w : α) (h : j ≠ k) : am_f (am_f A j v) k w = am_f (am_f A k w) j v := by
  funext b; simp only [am_f]
  by_cases h1 : b = k
  · rw [if_pos h1, if_neg (fun e => h (e.symm.trans h1)), if_pos h1]
  · rw [if_neg h1, if_neg h1]
theorem q_I_u2 (I : am_I) (p o : Nat) (f : Int32) (q : Nat) : am_u (q_I I p o f) 184 3 (nI q) = q_I I q o f := by
  rw [q_I, am_ro_u, am_f_c _ _ _ (show 5 ≠ 3 by decide), am_f_c _ _ _ (show 4 ≠ 3 by decide), am_f_f, q_I]
theorem q_I_u3 (I : am_I) (p o : Nat) (f : Int32) (q : Nat) : am_u (q_I I p o f) 184 4 (nI q) = q_I I p q f := by
  rw [q_I, am_ro_u, am_f_c _ _ _ (show 5 ≠ 4 by decide), am_f_f, q_I]
theorem q_I_u4 (I : am_I) (p o : Nat) (f g : Int32) : am_u (q_I I p o f) 184 5 g = q_I I p o g := by rw [q_I, am_ro_u, am_f_f, q_I]
theorem q_I_start (I : am_I) : am_u (am_u (am_u I 184 3 0) 184 4 0) 184 5 (-1) = q_I I 0 0 (-1) := by
  rw [am_u_ro, am_u_ro, am_u_ro, am_ro_rr, am_ro_rr, am_ro_at, am_ro_at, q_I]; rfl
/-- behind blanks -/
def q_sk (T : Nat → Int32) : Nat → Nat → Nat
  | 0, p => p
  | m + 1, p => if T p = 32 then q_sk T m (p + 1) else p
def q_s (T : Nat → Int32) (n p : Nat) : Nat := q_sk T (n - p) p
def q_c (T : Nat → Int32) (n p : Nat) : Int32 := if p < n then T p else -1
theorem q_sk_le (T : Nat → Int32) : ∀ m p, p ≤ q_sk T m p ∧ q_sk T m p ≤ p + m := by
  intro m
  induction m with
  | zero => intro p; exact ⟨Nat.le_refl _, Nat.le_refl _⟩
  | succ m ih =>
    intro p
    rw [q_sk]
    split
    · have := ih (p + 1); omega
    · omega
theorem q_s_le (T : Nat → Int32) {n p : Nat} (h : p ≤ n) : p ≤ q_s T n p ∧ q_s T n p ≤ n := by have := q_sk_le T (n - p) p; rw [q_s]; omega
theorem q_s_b {T : Nat → Int32} {n p : Nat} (h : p < n) (hb : T p = 32) : q_s T n p = q_s T n (p + 1) := by
  rw [q_s, q_s, show n - p = (n - (p + 1)) + 1 by omega, q_sk, if_pos hb]
theorem q_s_nb {T : Nat → Int32} {n p : Nat} (h : p < n) (hb : ¬ T p = 32) : q_s T n p = p := by
  rw [q_s, show n - p = (n - (p + 1)) + 1 by omega, q_sk, if_neg hb]
theorem q_s_end {T : Nat → Int32} {n p : Nat} (h : n ≤ p) : q_s T n p = p := by
  rw [q_s, show n - p = 0 by omega, q_sk]
theorem k_X7_next {n p o : Nat} {f : Int32} {I : am_I} {L : am_L} (hn : I 184 2 = nI n) (hn1 : n ≤ 40) (hp : p ≤ n) : am_K M_X7_next 0 [.ref 184] (q_I I p o f) L (am_qf (some (.int (q_c (I 186) n (q_s (I 186) n p)))) (q_I I (q_s (I 186) n p) o f) L) := by
  have h15 : ∀ p o f, q_I I p o f 184 2 = nI n := fun p o f => by rw [q_I_n]; exact hn
  have key : ∀ p, p ≤ n → B_X7_next_0 (am_qf (some (.int (q_c (I 186) n (q_s (I 186) n p)))) (q_I I (q_s (I 186) n p) o f) L) (q_I I p o f) L := by
    refine am_down ?_ (fun p hp ih => ?_)
    · rw [q_s_end (Nat.le_refl _), q_c, if_neg (Nat.lt_irrefl _)]
      refine s_X7_next_0 ⟨fun _ => ⟨fun _ => ⟨rfl, rfl, rfl⟩, fun c => absurd ?_ c⟩, fun c => absurd ?_ c⟩ <;>
      · rw [h15, q_I_2]; exact Int32.le_refl _
    · have hk2 : (nI p).toNatClampNeg = p := nI_clamp (by omega)
      have hvk : vp_in (nI p) 40 := am_vI (by omega) (by decide)
      have hge : ¬ nI n ≤ nI p := nI_ge hp (by omega)
      have hge2 : ¬ q_I I p o f 184 2 ≤ q_I I p o f 184 3 := by rw [h15, q_I_2]; exact hge
      refine s_X7_next_0 ⟨fun c => absurd c hge2, fun _ => ?_⟩
      rw [q_I_2, hk2, q_I_ne _ _ _ _ (show 186 ≠ 184 by decide)]
      refine ⟨hvk, fun c2 => ⟨fun c => absurd c (by rw [h15]; exact hge), fun _ => ⟨hvk, ?_⟩⟩, fun c2 => ?_⟩
      · rw [q_s_nb hp c2, q_c, if_pos hp]
        exact ⟨rfl, rfl, rfl⟩
      · rw [← nI_succ, q_I_u2, q_s_b hp c2]
        exact ih
  exact bm_intro (by decide +kernel) (Nat.le_of_ble_eq_true rfl) (show B_X7_next_0 _ _ _ from key p hp)
/-! takes and refuse -/
def q_tb (T : Nat → Int32) (n : Nat) (c : Int32) (p : Nat) (f : Int32) : Int32 := if ¬ f = -1 then 0 else if q_c T n (q_s T n p) = c then 1 else 0
def q_tp (T : Nat → Int32) (n : Nat) (c : Int32) (p : Nat) (f : Int32) : Nat := if ¬ f = -1 then p else if q_c T n (q_s T n p) = c then q_s T n p + 1 else q_s T n p
theorem k_X7_takes {n p o : Nat} {c f : Int32} {I : am_I} {L : am_L} (hn : I 184 2 = nI n) (hn1 : n ≤ 40) (hp : p ≤ n) : am_K M_X7_takes 1 [.ref 184, .int c] (q_I I p o f) L (am_qf (some (.int (q_tb (I 186) n c p f))) (q_I I (q_tp (I 186) n c p f) o f) L) := by
  generalize hQ : am_qf (some (.int (q_tb (I 186) n c p f))) (q_I I (q_tp (I 186) n c p f) o f) L = Q
  refine bm_intro (by decide +kernel) (Nat.le_of_ble_eq_true rfl) (show B_X7_takes_0 _ _ _ _ from s_X7_takes_0 ⟨fun c1 => ?_, fun c1 => ⟨_, am_qf_i (k_X7_next hn hn1 hp), fun v I7 L8 e => ?_⟩⟩)
  · rw [q_I_4] at c1
    rw [← hQ, q_tb, q_tp, if_pos c1, if_pos c1]
    exact ⟨rfl, rfl, rfl⟩
  · rw [q_I_4] at c1
    obtain ⟨q1, q2, q3⟩ := e
    rw [q1, q2, q3]
    refine ⟨fun c2 => ?_, fun c2 => ?_⟩
    · rw [q_I_2, ← nI_succ, q_I_u2, ← hQ, q_tb, q_tp, if_neg (fun h : ¬ f = -1 => h c1), if_neg (fun h : ¬ f = -1 => h c1), if_pos c2, if_pos c2]
      exact ⟨rfl, rfl, rfl⟩
    · rw [← hQ, q_tb, q_tp, if_neg (fun h : ¬ f = -1 => h c1), if_neg (fun h : ¬ f = -1 => h c1), if_neg c2, if_neg c2]
      exact ⟨rfl, rfl, rfl⟩
theorem q_tp_le {T : Nat → Int32} {n p : Nat} {c f : Int32} (h : p ≤ n) (hc : ¬ c = -1) : p ≤ q_tp T n c p f ∧ q_tp T n c p f ≤ n ∧ (¬ q_tb T n c p f = 0 → p + 1 ≤ q_tp T n c p f) := by
  have hs := q_s_le T h
  rw [q_tp, q_tb]
  split
  · exact ⟨Nat.le_refl _, h, fun q => absurd rfl q⟩
  · split
    · rename_i h2
      refine ⟨by omega, ?_, fun _ => by omega⟩
      rw [q_c] at h2
      split at h2
      · omega
      · exact absurd h2.symm hc
    · exact ⟨hs.1, hs.2, fun q => absurd rfl q⟩
def q_rf (k : Int32) (p : Nat) (f : Int32) : Int32 := if f = -1 then 10 * nI p + k else f
theorem k_X7_refuse {p o : Nat} {k f : Int32} {I : am_I} {L : am_L} : am_K M_X7_refuse 0 [.ref 184, .int k] (q_I I p o f) L (am_qf (some (.long 0)) (q_I I p o (q_rf k p f)) L) := by
  refine bm_intro (by decide +kernel) (Nat.le_of_ble_eq_true rfl) (show B_X7_refuse_0 _ _ _ _ from s_X7_refuse_0 ⟨fun c1 => ?_, fun c1 => ?_⟩)
  · rw [q_I_4] at c1
    rw [q_rf, if_neg c1]
    exact ⟨rfl, rfl, rfl⟩
  · rw [q_I_4] at c1
    rw [q_rf, if_pos c1, q_I_2, q_I_u4]
    exact ⟨rfl, rfl, rfl⟩
/-! numbers -/
def q_ek (T : Nat → Int32) : Nat → Nat → Nat
  | 0, p => p
  | m + 1, p => if 48 ≤ T p ∧ T p ≤ 57 then q_ek T m (p + 1) else p
def q_e (T : Nat → Int32) (n p : Nat) : Nat := q_ek T (n - p) p
theorem q_ek_le (T : Nat → Int32) : ∀ m p, p ≤ q_ek T m p ∧ q_ek T m p ≤ p + m := by
  intro m
  induction m with
  | zero => intro p; exact ⟨Nat.le_refl _, Nat.le_refl _⟩
  | succ m ih =>
    intro p
    rw [q_ek]
    split
    · have := ih (p + 1); omega
    · omega
theorem q_e_le (T : Nat → Int32) {n p : Nat} (h : p ≤ n) : p ≤ q_e T n p ∧ q_e T n p ≤ n := by have := q_ek_le T (n - p) p; rw [q_e]; omega
theorem q_e_d {T : Nat → Int32} {n p : Nat} (h : p < n) (hb : 48 ≤ T p ∧ T p ≤ 57) : q_e T n p = q_e T n (p + 1) := by
  rw [q_e, q_e, show n - p = (n - (p + 1)) + 1 by omega, q_ek, if_pos hb]
theorem q_e_nd {T : Nat → Int32} {n p : Nat} (h : p < n) (hb : ¬ (48 ≤ T p ∧ T p ≤ 57)) : q_e T n p = p := by
  rw [q_e, show n - p = (n - (p + 1)) + 1 by omega, q_ek, if_neg hb]
theorem q_e_end {T : Nat → Int32} {n p : Nat} (h : n ≤ p) : q_e T n p = p := by
  rw [q_e, show n - p = 0 by omega, q_ek]
def q_nv (T : Nat → Int32) (p k : Nat) (v : Int64) : Int64 := 10 * v + (T (p + k)).toInt64 - 48
def q_num (T : Nat → Int32) (n p : Nat) : Int64 := if q_e T n p - p ≤ 6 then am_it (q_nv T p) 0 (q_e T n p - p) else 0
def q_np (T : Nat → Int32) (n p : Nat) : Nat := if q_e T n p - p ≤ 6 then q_e T n p else p
def q_nf (T : Nat → Int32) (n p : Nat) (f : Int32) : Int32 := if q_e T n p - p ≤ 6 then f else q_rf 2 p f
theorem k_X7_number {n p o : Nat} {f : Int32} {I : am_I} {L : am_L} (hn : I 184 2 = nI n) (hn1 : n ≤ 40) (hp : p ≤ n) : am_K M_X7_number 1 [.ref 184] (q_I I p o f) L (am_qf (some (.long (q_num (I 186) n p))) (q_I I (q_np (I 186) n p) o (q_nf (I 186) n p f)) L) := by
  generalize hQ : am_qf (some (.long (q_num (I 186) n p))) (q_I I (q_np (I 186) n p) o (q_nf (I 186) n p f)) L = Q
  have h15 : ∀ p o f, q_I I p o f 184 2 = nI n := fun p o f => by rw [q_I_n]; exact hn
  have hel := q_e_le (I 186) hp
  have sm : ∀ e, p ≤ e → e ≤ n → nI e - nI p = nI (e - p) := fun e h1 h2 => by
    rw [show e = (e - p) + p by omega, ← nI_qa, Int32.add_sub_cancel, show e - p + p - p = e - p by omega]
  -- reading
  have k2 : q_e (I 186) n p - p ≤ 6 → ∀ k, k ≤ q_e (I 186) n p - p → B_X7_number_50 Q (q_I I (p + k) o f) L (nI (q_e (I 186) n p)) (am_it (q_nv (I 186) p) 0 k) := by
    intro h6
    refine am_down ?_ (fun k hk ih => ?_)
    · refine s_X7_number_50 ⟨fun _ => ?_, fun c => absurd ?_ c⟩
      · rw [← hQ, q_num, q_np, q_nf, if_pos h6, if_pos h6, if_pos h6, show p + (q_e (I 186) n p - p) = q_e (I 186) n p by omega]
        exact ⟨rfl, rfl, rfl⟩
      · rw [q_I_2, show p + (q_e (I 186) n p - p) = q_e (I 186) n p by omega]; exact Int32.le_refl _
    · have e1 : am_it (q_nv (I 186) p) 0 (k + 1) = q_nv (I 186) p k (am_it (q_nv (I 186) p) 0 k) := rfl
      rw [e1, q_nv] at ih
      refine s_X7_number_50 ⟨fun c => absurd c (by rw [q_I_2]; exact nI_ge (by omega) (by omega)), fun _ => ?_⟩
      rw [q_I_2, nI_clamp (by omega), q_I_ne _ _ _ _ (show 186 ≠ 184 by decide), ← nI_succ, q_I_u2]
      exact ⟨am_vI (by omega) (by decide), ih⟩
  have fin : (nI (q_e (I 186) n p) - nI p ≤ 6 → B_X7_number_50 Q (q_I I p o f) L (nI (q_e (I 186) n p)) 0) ∧ (¬ nI (q_e (I 186) n p) - nI p ≤ 6 → ∃ P9 : Int64 → am_I → am_L → Prop, am_K M_X7_refuse 0 [.ref 184, .int 2] (q_I I p o f) L (am_ql P9) ∧ ∀ (v13 : Int64) I11 L12, P9 v13 I11 L12 → Q (some (.long v13)) I11 L12) := by
    rw [sm _ hel.1 hel.2]
    by_cases h6 : q_e (I 186) n p - p ≤ 6
    · exact ⟨fun _ => k2 h6 0 (Nat.zero_le _), fun c => absurd (Int32.not_lt.mp (fun q : (6 : Int32) < nI (q_e (I 186) n p - p) => nI_nlt (a := 6) (by omega) (by omega) q)) c⟩
    · refine ⟨fun c => absurd c (nI_ge (a := 6) (by omega) (by omega)), fun _ => ⟨_, am_qf_l k_X7_refuse, fun v I7 L8 e => ?_⟩⟩
      obtain ⟨q1, q2, q3⟩ := e
      rw [q1, q2, q3, ← hQ, q_num, q_np, q_nf, if_neg h6, if_neg h6, if_neg h6]
      exact ⟨rfl, rfl, rfl⟩
  have key : ∀ k, k ≤ n → p ≤ k → q_e (I 186) n p = q_e (I 186) n k → B_X7_number_5 Q (q_I I p o f) L (nI k) := by
    refine am_down (fun h1 h2 => ?_) (fun k hk ih h1 h2 => ?_)
    · rw [q_e_end (Nat.le_refl n)] at h2
      rw [h2] at fin
      refine s_X7_number_5 ⟨fun _ => ?_, fun c => absurd (by rw [h15]; exact Int32.le_refl _) c⟩
      rw [q_I_2]; exact fin
    · refine s_X7_number_5 ⟨fun c => absurd c (by rw [h15]; exact nI_ge hk (by omega)), fun _ => ?_⟩
      rw [nI_clamp (by omega), q_I_ne _ _ _ _ (show 186 ≠ 184 by decide)]
      refine ⟨am_vI (by omega) (by decide), fun c2 => ?_, fun c2 => ?_⟩
      · rw [q_e_nd hk c2] at h2
        rw [h2] at fin
        rw [q_I_2]; exact fin
      · rw [← nI_succ]
        exact ih (by omega) (by rw [h2, q_e_d hk c2])
  refine bm_intro (by decide +kernel) (Nat.le_of_ble_eq_true rfl) (show B_X7_number_0 _ _ _ from s_X7_number_0 ?_)
  rw [q_I_2]
  exact key p hp (Nat.le_refl _) rfl
