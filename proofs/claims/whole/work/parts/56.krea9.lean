/-! the reference's reader: what does not fit behind a value; a bracket closes -/
theorem r_C_bad2 {Q : am_S} {I : am_I} {L : am_L} {T : Nat → Int32} {n p : Nat} {S : List Int32} {V : List Int64} {o : Nat} (hT : r_T L T n) (hp : p ≤ n) (ho : o ≤ 8) (hd : r_rk (q_c T n (q_s T n p)) = 0) (h1 : ¬ (q_c T n (q_s T n p) = 41 ∧ 0 < o)) (h2 : ¬ (q_c T n (q_s T n p) = -1 ∧ o = 0))
    (h : r_C Q I L (q_s T n p) (10 * nI (q_s T n p) + 1) S V o 0) : r_C Q I L p (-1) S V o 0 := fun A W hA hW => by
  refine s_X12_reads_26 ⟨fun c => absurd c (by decide), fun _ => ⟨fun c => absurd (r_I_12 _ _ _ _ _ _) c, fun _ => ⟨_, am_qf_i (k_X12_ahead (r_T_ro hT W) hp), fun v I7 L8 e => ?_⟩⟩⟩
  obtain ⟨q1, q2, q3⟩ := e
  rw [q1, q2, q3]
  have hh : B_X12_reads_26 Q (am_u (r_I I (q_s T n p) (-1) V.length S.length A) 190 12 (10 * r_I I (q_s T n p) (-1) V.length S.length A 190 11 + 1)) (am_ro L 199 W) (nI o) 0 1 := by
    rw [r_I_11, r_I_u12]; exact h A W hA hW
  have ho0 : nI o = 0 → o = 0 := fun e => by
    have e2 := congrArg Int32.toNatClampNeg e
    rw [nI_clamp (by omega)] at e2
    exact e2
  have hz : ¬ (r_rk (q_c T n (q_s T n p))) ≤ 0 → False := fun c => c (by rw [hd]; decide)
  refine ⟨fun _ => ⟨fun c1 => ⟨_, am_qf_i k_X12_rank, fun v I7 L8 e => ?_⟩, fun c1 => ⟨fun c2 => ⟨_, am_qf_i k_X12_rank, fun v I7 L8 e => ?_⟩, fun c2 => ?_⟩⟩, fun c => absurd rfl c⟩
  · obtain ⟨q1, q2, q3⟩ := e
    rw [q1, q2, q3]
    exact ⟨fun _ => ⟨fun _ => hh, fun c3 => ⟨fun _ => hh, fun c4 => absurd ⟨c3, ho0 c4⟩ h2⟩⟩, fun c => (hz c).elim⟩
  · obtain ⟨q1, q2, q3⟩ := e
    rw [q1, q2, q3]
    exact ⟨fun _ => ⟨fun _ => hh, fun c3 => ⟨fun _ => hh, fun c4 => absurd ⟨c3, ho0 c4⟩ h2⟩⟩, fun c => (hz c).elim⟩
  · refine absurd ⟨c1, ?_⟩ h1
    by_cases h0 : o = 0
    · exact absurd (by rw [h0]; decide) c2
    · omega
/-- the bracket's works, then it goes, and its value comes -/
theorem r_C_close {Q : am_S} {I : am_I} {L : am_L} {T : Nat → Int32} {n p : Nat} {S S2 : List Int32} {V V2 : List Int64} {x : Int64} {c : Int32} {o : Nat} (hT : r_T L T n) (hp : p ≤ n) (ho : o < 8) (hd : q_c T n (q_s T n p) = 41) (hn : r_nb S + 1 ≤ V.length) (hV : V.length ≤ 64) (hS : S.length ≤ 128) (hV2 : V2.length < 64) (hS2 : S2.length < 128) (hw : r_wd 1 S V = (c :: S2, x :: V2)) (hsub : ∀ A : Nat → Int32, r_sta A S → r_sta A S2)
    (h : r_C Q I L (q_s T n p + 1) (-1) (r_sd S2 x).1 ((r_sd S2 x).2 :: V2) o 0) : r_C Q I L p (-1) S V (o + 1) 0 := fun A W hA hW => by
  refine s_X12_reads_26 ⟨fun c => absurd c (by decide), fun _ => ⟨fun c => absurd (r_I_12 _ _ _ _ _ _) c, fun _ => ⟨_, am_qf_i (k_X12_ahead (r_T_ro hT W) hp), fun v I7 L8 e => ?_⟩⟩⟩
  obtain ⟨q1, q2, q3⟩ := e
  rw [q1, q2, q3, hd]
  refine ⟨fun _ => ⟨fun c1 => absurd rfl c1, fun _ => ⟨fun c2 => absurd c2 (nI_ge (a := 0) (Nat.succ_pos _) (by omega)), fun _ => ?_⟩⟩, fun c => absurd rfl c⟩
  rw [r_I_11, ← nI_succ, r_I_u11]
  refine ⟨_, k_X12_worksDown hA hW hn hV hS, fun I7 L8 e => ?_⟩
  obtain ⟨W2, e1, e2, e3⟩ := e
  rw [hw] at e1 e3
  rw [e1, e2]
  have v1 : nI (V2.length + 1) - 1 = nI V2.length := by rw [nI_succ, Int32.add_sub_cancel]
  have s1 : nI (S2.length + 1) - 1 = nI S2.length := by rw [nI_succ, Int32.add_sub_cancel]
  rw [show r_I I (q_s T n p + 1) (-1) (c :: S2, x :: V2).2.length (c :: S2, x :: V2).1.length A = r_I I (q_s T n p + 1) (-1) (V2.length + 1) (S2.length + 1) A from rfl, r_I_14, r_I_16, v1, s1, r_I_u16, r_I_u14, nI_clamp (by omega), am_ro_at]
  obtain ⟨hx, hV3⟩ := e3
  rw [hx]
  refine ⟨am_vI (by omega) (by decide), _, k_X12_stands (hsub A hA) hV3 hV2 (by omega), fun I7 L8 e => ?_⟩
  obtain ⟨W3, e1, e2, e3⟩ := e
  rw [e1, e2, show nI (o + 1) + -1 = nI o by rw [nI_succ, Int32.add_assoc, show (1 : Int32) + -1 = 0 by decide, Int32.add_zero]]
  exact h A W3 (r_sd_sta (hsub A hA) _) e3
