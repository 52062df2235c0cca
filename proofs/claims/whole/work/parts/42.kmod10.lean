/-! the reference's pays: the rounds -/
theorem am_u_u {α : Type} (f : Nat → Nat → α) (k j : Nat) (v w : α) : am_u (am_u f k j v) k j w = am_u f k j w := by
  funext a b
  simp only [am_u]
  split
  · split <;> rfl
  · rfl
def g_go (C E : Nat → Int64) (h : Nat) (a : Int32) : Int32 := if ¬ a = 0 then 1 else if E h = C h then 0 else 1
theorem g_go_0 {C E : Nat → Int64} : ∀ m, (∀ h, h < m → E h = C h) → am_it (g_go C E) 0 m = 0 := by
  intro m
  induction m with
  | zero => intro _; rfl
  | succ m ih =>
    intro h
    have e1 : am_it (g_go C E) 0 (m + 1) = g_go C E m (am_it (g_go C E) 0 m) := rfl
    rw [e1, ih (fun k hk => h k (by omega)), g_go, if_neg (fun c => c rfl), if_pos (h m (by omega))]
theorem g_go_1 {C E : Nat → Int64} : ∀ m, (∃ h, h < m ∧ ¬ E h = C h) → am_it (g_go C E) 0 m = 1 := by
  intro m
  induction m with
  | zero => rintro ⟨h, hh, _⟩; omega
  | succ m ih =>
    rintro ⟨h, hh, hne⟩
    have e1 : am_it (g_go C E) 0 (m + 1) = g_go C E m (am_it (g_go C E) 0 m) := rfl
    rw [e1, g_go]
    by_cases hm : h = m
    · subst hm
      rw [if_neg hne]
      split <;> rfl
    · rw [ih ⟨h, by omega, hne⟩, if_pos (by decide)]
theorem k_fp219 {Q : am_S} {I : am_I} {L : am_L} {n np h : Nat} {go : Int32} {A B C D : Nat → Int64} (hh : h < 8) (hA : ∀ s, s < 8 → A s = g_own L n np s) (hB : ∀ s, s < 8 → B s = g_du L s)
    (ih : B_X12_findPays_202 Q I (am_r4 L A B C (am_f D h (g_nx L n np C h))) (g_go C (g_nx L n np C) h go) (nI h + 1)) : B_X12_findPays_219 Q I (am_r4 L A B C D) go (nI h) (A h) 0 := by
  have hr : ∀ A B C D, am_r4 L A B C D 191 = L 191 := am_r4_191 L
  have hc : (nI h).toNatClampNeg = h := nI_clamp (by omega)
  have hv : vp_in (nI h) 8 := am_vI hh (by decide)
  rw [hA h hh]
  have key : ∀ k, k ≤ 8 → B_X12_findPays_219 Q I (am_r4 L A B C D) go (nI h) (am_it (g_gp L C h) (g_own L n np h) k) (nI k) := by
    refine am_down ?_ (fun k hk ih2 => ?_)
    · refine s_X12_findPays_219 ⟨fun _ => ?_, fun c1 => absurd (by decide) c1⟩
      simp only [hc, am_r4_196, am_r4_197, am_r4_198, am_r4_u198, am_f_eq]
      rw [g_go, g_nx, g_gets] at ih
      rw [hB h hh]
      refine ⟨hv, fun c2 => ⟨hv, hv, fun c3 => ?_, fun c3 => ⟨hv, hv, fun c4 => ?_, fun c4 => ?_⟩⟩, fun c2 => ⟨hv, fun c3 => ?_, fun c3 => ⟨hv, hv, fun c4 => ?_, fun c4 => ?_⟩⟩⟩
      · rw [if_pos c3, if_pos c2] at ih; exact ih
      · rw [if_neg (fun q : ¬ go = 0 => q c3), if_pos c2, if_pos c4] at ih; exact ih
      · rw [if_neg (fun q : ¬ go = 0 => q c3), if_pos c2, if_neg c4] at ih; exact ih
      · rw [if_pos c3, if_neg c2] at ih; exact ih
      · rw [if_neg (fun q : ¬ go = 0 => q c3), if_neg c2, if_pos c4] at ih; exact ih
      · rw [if_neg (fun q : ¬ go = 0 => q c3), if_neg c2, if_neg c4] at ih; exact ih
    · have e1 : am_it (g_gp L C h) (g_own L n np h) (k + 1) = g_gp L C h k (am_it (g_gp L C h) (g_own L n np h) k) := rfl
      rw [e1, g_gp, nI_succ] at ih2
      have hk2 : (nI k).toNatClampNeg = k := nI_clamp (by omega)
      have hvk : vp_in (nI k) 8 := am_vI hk (by decide)
      refine s_X12_findPays_219 ⟨fun c1 => absurd c1 (nI_ge (b := 8) hk (by omega)), fun _ => ⟨hvk, fun c2 => ?_, fun c2 => ?_⟩⟩
      · rw [hk2, am_r4_196, hB k hk] at c2
        rw [i_du hk hh, hk2, hr, am_r4_196, am_r4_197, hB k hk]
        rw [if_neg c2] at ih2
        exact ⟨hvk, v_du hk hh, hvk, c2, ih2⟩
      · rw [hk2, am_r4_196, hB k hk] at c2
        rw [if_pos c2] at ih2
        exact ih2
  exact key 0 (Nat.zero_le _)
theorem k_fp194 {Q : am_S} {L : am_L} {n np : Nat} {gr : Int32} {I0 : am_I} {m : Nat} (hm : ∀ i, i < m → ∃ h, h < 8 ∧ ¬ g_sq L n np gr (i + 1) h = g_sq L n np gr i h) (hm2 : ∀ h, h < 8 → g_sq L n np gr (m + 1) h = g_sq L n np gr m h)
    (fin : ∀ A B C D, (∀ s, s < 8 → A s = g_own L n np s ∧ B s = g_du L s ∧ C s = g_sq L n np gr m s) → Q none (am_u I0 190 10 (nI m)) (am_r4 L A B C D)) : ∀ i, i ≤ m → ∀ A B C D, (∀ s, s < 8 → A s = g_own L n np s ∧ B s = g_du L s ∧ C s = g_sq L n np gr i s) → B_X12_findPays_194 Q (am_u I0 190 10 (nI i)) (am_r4 L A B C D) 1 := by
  have hr : ∀ A B C D, am_r4 L A B C D 191 = L 191 := am_r4_191 L
  -- one round
  have one : ∀ i A B C D, (∀ s, s < 8 → A s = g_own L n np s ∧ B s = g_du L s ∧ C s = g_sq L n np gr i s) → (∀ C' D', (∀ s, s < 8 → C' s = g_sq L n np gr (i + 1) s) → B_X12_findPays_348 Q (am_u I0 190 10 (nI i)) (am_r4 L A B C' D') (am_it (g_go C (g_nx L n np C)) 0 8) 8) → B_X12_findPays_194 Q (am_u I0 190 10 (nI i)) (am_r4 L A B C D) 1 := by
    intro i A B C D hs hend
    have hnx : g_nx L n np C = g_sq L n np gr (i + 1) := g_nx_c (fun s h => (hs s h).2.2)
    have k2 : ∀ k, k ≤ 8 → B_X12_findPays_348 Q (am_u I0 190 10 (nI i)) (am_r4 L A B (am_fi (am_fi (g_nx L n np C) D 8) C k) (am_fi (g_nx L n np C) D 8)) (am_it (g_go C (g_nx L n np C)) 0 8) (nI k) := by
      refine am_down ?_ (fun k hk ih2 => ?_)
      · exact hend _ _ (fun s h => by rw [am_fi_lt _ _ h, am_fi_lt _ _ h, hnx])
      · have hk2 : (nI k).toNatClampNeg = k := nI_clamp (by omega)
        have hvk : vp_in (nI k) 8 := am_vI hk (by decide)
        refine s_X12_findPays_348 ⟨fun c1 => absurd c1 (nI_ge (b := 8) hk (by omega)), fun _ => ⟨hvk, hvk, ?_⟩⟩
        rw [hk2, am_r4_198, am_r4_u197, am_fi_s, ← nI_succ]
        exact ih2
    have k1 : ∀ k, k ≤ 8 → B_X12_findPays_202 Q (am_u I0 190 10 (nI i)) (am_r4 L A B C (am_fi (g_nx L n np C) D k)) (am_it (g_go C (g_nx L n np C)) 0 k) (nI k) := by
      refine am_down ?_ (fun k hk ih2 => ?_)
      · refine s_X12_findPays_202 ⟨fun _ => ?_, fun c1 => absurd (by decide) c1⟩
        have h0 := k2 0 (Nat.zero_le _)
        rw [am_fi_0] at h0
        exact h0
      · have hk2 : (nI k).toNatClampNeg = k := nI_clamp (by omega)
        have hvk : vp_in (nI k) 8 := am_vI hk (by decide)
        have e1 : am_it (g_go C (g_nx L n np C)) 0 (k + 1) = g_go C (g_nx L n np C) k (am_it (g_go C (g_nx L n np C)) 0 k) := rfl
        rw [e1, ← am_fi_s, nI_succ] at ih2
        refine s_X12_findPays_202 ⟨fun c1 => absurd c1 (nI_ge (b := 8) hk (by omega)), fun _ => ⟨hvk, ?_⟩⟩
        rw [hk2, am_r4_195]
        exact k_fp219 hk (fun s h => (hs s h).1) (fun s h => (hs s h).2.1) ih2
    have h0 := k1 0 (Nat.zero_le _)
    rw [am_fi_0] at h0
    exact s_X12_findPays_194 ⟨fun c => absurd c (by decide), fun _ => h0⟩
  refine am_down (fun A B C D hs => ?_) (fun i hi ih A B C D hs => ?_)
  · refine one m A B C D hs (fun C' D' hC => ?_)
    have hg : am_it (g_go C (g_nx L n np C)) 0 8 = 0 := g_go_0 8 (fun h hh => by
      rw [show g_nx L n np C = g_sq L n np gr (m + 1) from g_nx_c (fun s h => (hs s h).2.2), hm2 h hh, (hs h hh).2.2])
    rw [hg]
    refine s_X12_findPays_348 ⟨fun _ => ⟨fun _ => ?_, fun c => absurd rfl c⟩, fun c1 => absurd (by decide) c1⟩
    rw [am_u_eq, am_u_u, Int32.add_zero]
    exact s_X12_findPays_194 ⟨fun _ => fin A B C' D' (fun s h => ⟨(hs s h).1, (hs s h).2.1, by rw [hC s h, hm2 s h]⟩), fun c => absurd rfl c⟩
  · refine one i A B C D hs (fun C' D' hC => ?_)
    have hg : am_it (g_go C (g_nx L n np C)) 0 8 = 1 := g_go_1 8 (by
      obtain ⟨h, hh, hne⟩ := hm i hi
      exact ⟨h, hh, by rw [show g_nx L n np C = g_sq L n np gr (i + 1) from g_nx_c (fun s h => (hs s h).2.2), (hs h hh).2.2]; exact hne⟩)
    rw [hg]
    refine s_X12_findPays_348 ⟨fun _ => ⟨fun c => absurd c (by decide), fun _ => ?_⟩, fun c1 => absurd (by decide) c1⟩
    rw [am_u_eq, am_u_u, ← nI_succ]
    exact ih A B C' D' (fun s h => ⟨(hs s h).1, (hs s h).2.1, hC s h⟩)
/-- what the heaps are behind findPays -/
def g_paid (L : am_L) (n np : Nat) (gr : Int32) (m : Nat) (I : am_I) (I' : am_I) (L' : am_L) : Prop := ∃ A B C D, I' = am_u I 190 10 (nI m) ∧ L' = am_r4 L A B C D ∧ ∀ s, s < 8 → A s = g_own L n np s ∧ B s = g_du L s ∧ C s = g_sq L n np gr m s
theorem k_X12_findPays {gr : Int32} {n np w0 m : Nat} {I : am_I} {L : am_L} (hn : Int64.toInt32 (L 191 1177) = nI n) (hn1 : n ≤ 100) (hpp : Int64.toInt32 (L 191 1176) = nI np) (hpp1 : np ≤ 12) (hw : Int64.toInt32 (L 191 1178) = nI w0) (hw1 : w0 < 60) (hr : ∀ r, r < n → ∃ m, m < 60 ∧ Int64.toInt32 (L 191 (37 + 3 * r)) = nI m ∧ ¬ L 191 (664 + m) = 0) (hm : ∀ i, i < m → ∃ h, h < 8 ∧ ¬ g_sq L n np gr (i + 1) h = g_sq L n np gr i h) (hm2 : ∀ h, h < 8 → g_sq L n np gr (m + 1) h = g_sq L n np gr m h) : am_K M_X12_findPays 2 [.ref 190, .int gr] I L (am_qv (g_paid L n np gr m I)) := by
  refine bm_intro (by decide +kernel) (Nat.le_of_ble_eq_true rfl) (show B_X12_findPays_0 _ _ _ _ from s_X12_findPays_0 (k_fp2 hn hn1 hpp hpp1 hw hw1 hr (fun A B C D hs => ?_)))
  exact k_fp194 (i := 0) hm hm2 (fun A B C D hs => ⟨rfl, A, B, C, D, rfl, rfl, hs⟩) (Nat.zero_le _) A B C D hs
