/-! the reference's reader: names, signs before a value -/
theorem r_C_bad {Q : am_S} {I : am_I} {L : am_L} {T : Nat → Int32} {n p : Nat} {S : List Int32} {V : List Int64} {o : Nat} (hT : r_T L T n) (hp : p ≤ n) (hd : ¬ (48 ≤ q_c T n (q_s T n p) ∧ q_c T n (q_s T n p) ≤ 57)) (hnm : r_nm (q_c T n (q_s T n p)) = -1) (h1 : ¬ q_c T n (q_s T n p) = 33) (h2 : ¬ q_c T n (q_s T n p) = 45) (h3 : ¬ q_c T n (q_s T n p) = 40)
    (h : r_C Q I L (q_s T n p) (10 * nI (q_s T n p) + 1) S V o 1) : r_C Q I L p (-1) S V o 1 := fun A W hA hW => by
  refine s_X12_reads_26 ⟨fun c => absurd c (by decide), fun _ => ⟨fun c => absurd (r_I_12 _ _ _ _ _ _) c, fun _ => ⟨_, am_qf_i (k_X12_ahead (r_T_ro hT W) hp), fun v I7 L8 e => ?_⟩⟩⟩
  obtain ⟨q1, q2, q3⟩ := e
  rw [q1, q2, q3]
  refine ⟨fun c => absurd c (by decide), fun _ => ⟨fun _ => ⟨_, am_qf_i k_X12_nameOf, fun v I7 L8 e => ?_⟩, fun c => absurd c hd⟩⟩
  obtain ⟨q1, q2, q3⟩ := e
  rw [q1, q2, q3]
  refine ⟨fun _ => ⟨fun c => absurd c h1, fun _ => ⟨fun _ => ⟨fun _ => ⟨fun _ => ?_, fun c => absurd c h3⟩, fun c => absurd c h3⟩, fun c => absurd c h2⟩⟩, fun c => absurd hnm c⟩
  rw [r_I_11, r_I_u12]
  exact h A W hA hW
theorem r_C_name {Q : am_S} {I : am_I} {L : am_L} {T : Nat → Int32} {n p x : Nat} {S : List Int32} {V : List Int64} {o : Nat} (hT : r_T L T n) (hp : p ≤ n) (hd : ¬ (48 ≤ q_c T n (q_s T n p) ∧ q_c T n (q_s T n p) ≤ 57)) (hnm : r_nm (q_c T n (q_s T n p)) = nI x) (hx : x < 7) (hV : V.length < 64) (hS : S.length ≤ 128)
    (h : r_C Q I L (q_s T n p + 1) (-1) (r_sd S (L 201 x)).1 ((r_sd S (L 201 x)).2 :: V) o 0) : r_C Q I L p (-1) S V o 1 := fun A W hA hW => by
  refine s_X12_reads_26 ⟨fun c => absurd c (by decide), fun _ => ⟨fun c => absurd (r_I_12 _ _ _ _ _ _) c, fun _ => ⟨_, am_qf_i (k_X12_ahead (r_T_ro hT W) hp), fun v I7 L8 e => ?_⟩⟩⟩
  obtain ⟨q1, q2, q3⟩ := e
  rw [q1, q2, q3]
  refine ⟨fun c => absurd c (by decide), fun _ => ⟨fun _ => ⟨_, am_qf_i k_X12_nameOf, fun v I7 L8 e => ?_⟩, fun c => absurd c hd⟩⟩
  obtain ⟨q1, q2, q3⟩ := e
  rw [q1, q2, q3, hnm]
  refine ⟨fun c => absurd (show 0 ≤ nI x from Int32.not_lt.mp (nI_pos (by omega))) (by rw [c]; decide), fun _ => ⟨_, am_qf_i k_X12_nameOf, fun v I7 L8 e => ?_⟩⟩
  obtain ⟨q1, q2, q3⟩ := e
  rw [q1, q2, q3, hnm, r_I_11, ← nI_succ, r_I_u11, nI_clamp (by omega), am_ro_ne L W (show 201 ≠ 199 by decide)]
  refine ⟨am_vI hx (by decide), _, k_X12_stands hA hW hV hS, fun I7 L8 e => ?_⟩
  obtain ⟨W2, e1, e2, e3⟩ := e
  rw [e1, e2]
  exact h A W2 (r_sd_sta hA _) e3
