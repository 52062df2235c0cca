/-! the reference's reader: a sign between values, from the loop's head -/
theorem r_C_sign {Q : am_S} {I : am_I} {L : am_L} {T : Nat → Int32} {n p : Nat} {S : List Int32} {V : List Int64} {o : Nat} (hT : r_T L T n) (hp : p ≤ n) (hrk : 0 < r_rk (q_c T n (q_s T n p))) (hn : r_nb S + 1 ≤ V.length) (hV : V.length ≤ 64) (hS : S.length ≤ 128) (hS2 : (r_wd (r_lv (q_c T n (q_s T n p))) S V).1.length < 128) (hsub : ∀ A : Nat → Int32, r_sta A S → r_sta A (r_wd (r_lv (q_c T n (q_s T n p))) S V).1)
    (h1 : r_3 (q_c T n (q_s T n p)) (r_wd (r_lv (q_c T n (q_s T n p))) S V).1 → r_C Q I L (q_s T n p) (10 * nI (q_s T n p) + 1) (r_wd (r_lv (q_c T n (q_s T n p))) S V).1 (r_wd (r_lv (q_c T n (q_s T n p))) S V).2 o 0)
    (h2 : ¬ r_3 (q_c T n (q_s T n p)) (r_wd (r_lv (q_c T n (q_s T n p))) S V).1 → r_C Q I L (q_s T n p + 1) (-1) (q_c T n (q_s T n p) :: (r_wd (r_lv (q_c T n (q_s T n p))) S V).1) (r_wd (r_lv (q_c T n (q_s T n p))) S V).2 o 1) : r_C Q I L p (-1) S V o 0 := fun A W hA hW => by
  have hn40 := hT.1
  have hsl := q_s_le T hp
  have k := k_r346 (p := q_s T n p) (I := I) (L := L) (Q := Q) (o := o) hn hV hS hS2 (by omega) hsub h1 h2 hA hW
  refine s_X12_reads_26 ⟨fun c => absurd c (by decide), fun _ => ⟨fun c => absurd (r_I_12 _ _ _ _ _ _) c, fun _ => ⟨_, am_qf_i (k_X12_ahead (r_T_ro hT W) hp), fun v I7 L8 e => ?_⟩⟩⟩
  obtain ⟨q1, q2, q3⟩ := e
  rw [q1, q2, q3]
  have h41 : ¬ q_c T n (q_s T n p) = 41 := fun h => by rw [h] at hrk; exact absurd hrk (by decide)
  refine ⟨fun _ => ⟨fun _ => ⟨_, am_qf_i k_X12_rank, fun v I7 L8 e => ?_⟩, fun c => absurd c h41⟩, fun c => absurd rfl c⟩
  obtain ⟨q1, q2, q3⟩ := e
  rw [q1, q2, q3]
  refine ⟨fun c => absurd hrk (Int32.not_lt.mpr c), fun _ => ⟨_, am_qf_i k_X12_rank, fun v I7 L8 e => ?_⟩⟩
  obtain ⟨q1, q2, q3⟩ := e
  rw [q1, q2, q3]
  refine ⟨fun c => ⟨_, am_qf_i k_X12_rank, fun v I7 L8 e => ?_⟩, fun c => ?_⟩
  · obtain ⟨q1, q2, q3⟩ := e
    rw [q1, q2, q3]
    rw [r_lv, if_neg c] at k
    exact k
  · rw [r_lv, if_pos c] at k
    exact k
