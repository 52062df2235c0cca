/-! the reference's pays: the first part -/
theorem k_fp26 {Q : am_S} {I : am_I} {L : am_L} {gr : Int32} {n np w0 h : Nat} (hh : h < 8) (hn : Int64.toInt32 (L 191 1177) = nI n) (hn1 : n ≤ 100) (hpp : Int64.toInt32 (L 191 1176) = nI np) (hpp1 : np ≤ 12) (hw : Int64.toInt32 (L 191 1178) = nI w0) (hw1 : w0 < 60) (hm : ∀ r, r < n → ∃ m, m < 60 ∧ Int64.toInt32 (L 191 (37 + 3 * r)) = nI m ∧ ¬ L 191 (664 + m) = 0) {A B C D : Nat → Int64}
    (ih : B_X12_findPays_125 Q I (am_r4 L (am_f A h (g_own L n np h)) (am_f B h 0) C D) gr (nI h) 0) : B_X12_findPays_26 Q I (am_r4 L (am_f A h (L 191 (844 + h))) B C D) gr (nI h) 0 := by
  have hr : ∀ A B C D, am_r4 L A B C D 191 = L 191 := am_r4_191 L
  have hc : (nI h).toNatClampNeg = h := nI_clamp (by omega)
  have hv : vp_in (nI h) 8 := am_vI hh (by decide)
  have fin : ∀ x, am_mx x = g_own L n np h → vp_in (nI h) 8 ∧ (((0 : Int64) ≤ x → (vp_in (nI h) 8 ∧ (vp_in (nI h) 8 ∧ (vp_in (nI h) 8 ∧ (B_X12_findPays_125 Q I (am_r4 L (am_f A h x) (am_f B h 0) C D) gr (nI h) (0)))))) ∧ (¬ (0 : Int64) ≤ x → (vp_in (nI h) 8 ∧ (vp_in (nI h) 8 ∧ (B_X12_findPays_125 Q I (am_r4 L (am_f A h 0) (am_f B h 0) C D) gr (nI h) (0)))))) := by
    intro x hx
    refine ⟨hv, fun c => ⟨hv, hv, hv, ?_⟩, fun c => ⟨hv, hv, ?_⟩⟩
    · rw [am_mx_le c] at hx; rw [hx]; exact ih
    · rw [am_mx_nle c] at hx; rw [← hx] at ih; exact ih
  have key : L 191 1192 = 1 → ∀ k, k ≤ np → B_X12_findPays_26 Q I (am_r4 L (am_f A h (am_it (g_ow L n h) (L 191 (844 + h)) k)) B C D) gr (nI h) (nI k) := by
    intro hs
    refine am_down ?_ (fun k hk ih2 => ?_)
    · refine s_X12_findPays_26 ⟨fun _ => ?_, fun c1 => absurd (by rw [hr, hpp]; exact Int32.le_refl _) c1⟩
      rw [hc]
      simp only [am_r4_195, am_r4_u195, am_r4_u196, am_f_f, am_f_eq]
      exact fin _ (by rw [g_own, if_pos hs])
    · have e1 : am_it (g_ow L n h) (L 191 (844 + h)) (k + 1) = g_ow L n h k (am_it (g_ow L n h) (L 191 (844 + h)) k) := rfl
      rw [e1, g_ow, nI_succ] at ih2
      refine s_X12_findPays_26 ⟨fun c1 => absurd c1 (by rw [hr, hpp]; exact nI_ge hk (by omega)), fun _ => ⟨fun c2 => absurd (by rw [hr]; exact hs) c2, fun _ => ⟨hv, v_per_0 (by omega), fun c3 => ⟨hv, ?_⟩, fun c3 => ?_⟩⟩⟩
      · rw [i_per_0 (by omega), hr] at c3
        rw [if_neg c3] at ih2
        rw [hc, am_r4_195, am_r4_u195, am_f_f, am_f_eq]
        exact ih2
      · rw [i_per_0 (by omega), hr] at c3
        rw [if_pos c3] at ih2
        refine ⟨_, am_qf_l (k_X12_countOf (n := n) (w0 := w0) (by rw [hr]; exact hn) hn1 (by omega) (by rw [hr]; exact hw) hw1 (by rw [hr]; exact hm)), fun v I7 L8 e => ?_⟩
        obtain ⟨q1, q2, q3⟩ := e
        rw [q1, q2, q3, hc, am_r4_195, am_r4_u195, am_f_f, am_f_eq, g_cnt_c (hr _ _ _ _)]
        exact ⟨hv, ih2⟩
  by_cases hs : L 191 1192 = 1
  · exact key hs 0 (Nat.zero_le _)
  · refine s_X12_findPays_26 ⟨fun _ => ?_, fun _ => ⟨fun _ => ?_, fun c => absurd (by rw [hr] at c; exact c) hs⟩⟩ <;>
    · rw [hc]
      simp only [am_r4_195, am_r4_u195, am_r4_u196, am_f_f, am_f_eq]
      exact fin _ (by rw [g_own, if_neg hs])
theorem k_fp125 {Q : am_S} {I : am_I} {L : am_L} {gr : Int32} {h : Nat} (hh : h < 8) {A B C D : Nat → Int64}
    (ih : B_X12_findPays_2 Q I (am_r4 L A (am_f B h (g_du L h)) (am_f C h (if gr = 0 then 0 else g_du L h)) D) gr (nI h + 1)) : B_X12_findPays_125 Q I (am_r4 L A (am_f B h 0) C D) gr (nI h) 0 := by
  have hr : ∀ A B C D, am_r4 L A B C D 191 = L 191 := am_r4_191 L
  have hc : (nI h).toNatClampNeg = h := nI_clamp (by omega)
  have hv : vp_in (nI h) 8 := am_vI hh (by decide)
  have key : ∀ k, k ≤ 8 → B_X12_findPays_125 Q I (am_r4 L A (am_f B h (am_sum (fun k => L 191 (852 + 8 * h + k)) k)) C D) gr (nI h) (nI k) := by
    refine am_down ?_ (fun k hk ih2 => ?_)
    · refine s_X12_findPays_125 ⟨fun _ => ⟨fun c => ⟨hv, ?_⟩, fun c => ⟨hv, hv, ?_⟩⟩, fun c1 => absurd (by decide) c1⟩
      · rw [if_pos c] at ih
        rw [hc, am_r4_u197]; exact ih
      · rw [if_neg c] at ih
        rw [hc, am_r4_196, am_r4_u197, am_f_eq]; exact ih
    · have e1 : am_sum (fun k => L 191 (852 + 8 * h + k)) (k + 1) = am_sum (fun k => L 191 (852 + 8 * h + k)) k + L 191 (852 + 8 * h + k) := rfl
      rw [e1, nI_succ] at ih2
      refine s_X12_findPays_125 ⟨fun c1 => absurd c1 (nI_ge (b := 8) hk (by omega)), fun _ => ⟨hv, v_du hh hk, hv, ?_⟩⟩
      rw [i_du hh hk, hc, hr, am_r4_196, am_r4_u196, am_f_f, am_f_eq]
      exact ih2
  exact key 0 (Nat.zero_le _)
def g_p0 (L : am_L) (gr : Int32) (h : Nat) : Int64 := if gr = 0 then 0 else g_du L h
theorem k_fp2 {Q : am_S} {I : am_I} {L : am_L} {gr : Int32} {n np w0 : Nat} (hn : Int64.toInt32 (L 191 1177) = nI n) (hn1 : n ≤ 100) (hpp : Int64.toInt32 (L 191 1176) = nI np) (hpp1 : np ≤ 12) (hw : Int64.toInt32 (L 191 1178) = nI w0) (hw1 : w0 < 60) (hm : ∀ r, r < n → ∃ m, m < 60 ∧ Int64.toInt32 (L 191 (37 + 3 * r)) = nI m ∧ ¬ L 191 (664 + m) = 0)
    (ih : ∀ A B C D, (∀ s, s < 8 → A s = g_own L n np s ∧ B s = g_du L s ∧ C s = g_p0 L gr s) → B_X12_findPays_194 Q (am_u I 190 10 0) (am_r4 L A B C D) 1) : B_X12_findPays_2 Q I L gr 0 := by
  have hr : ∀ A B C D, am_r4 L A B C D 191 = L 191 := am_r4_191 L
  have key : ∀ h, h ≤ 8 → B_X12_findPays_2 Q I (am_r4 L (am_fi (g_own L n np) (L 195) h) (am_fi (g_du L) (L 196) h) (am_fi (g_p0 L gr) (L 197) h) (L 198)) gr (nI h) := by
    refine am_down ?_ (fun h hh ih2 => ?_)
    · refine s_X12_findPays_2 ⟨fun _ => ?_, fun c1 => absurd (by decide) c1⟩
      exact ih _ _ _ _ (fun s hs => ⟨am_fi_lt _ _ hs, am_fi_lt _ _ hs, am_fi_lt _ _ hs⟩)
    · refine s_X12_findPays_2 ⟨fun c1 => absurd c1 (nI_ge (b := 8) hh (by omega)), fun _ => ⟨v_coi hh, am_vI hh (by decide), ?_⟩⟩
      rw [i_coi hh, hr, nI_clamp (by omega), am_r4_u195]
      refine k_fp26 hh hn hn1 hpp hpp1 hw hw1 hm (k_fp125 hh ?_)
      rw [← am_fi_s, ← am_fi_s, ← am_fi_s, nI_succ] at ih2
      exact ih2
  have h0 := key 0 (Nat.zero_le _)
  rw [am_fi_0, am_fi_0, am_fi_0, am_r4_self] at h0
  exact h0
