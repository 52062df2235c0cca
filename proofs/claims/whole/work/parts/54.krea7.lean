/-! the reference's reader: a sign before a value, a bracket opens -/
theorem r_push {A : Nat → Int32} {S : List Int32} (h : r_sta A S) (c : Int32) : r_sta (am_f A S.length c) (c :: S) := ⟨am_f_eq _ _ _, (r_sta_f (Nat.le_refl _)).mpr h⟩
theorem r_C_un {Q : am_S} {I : am_I} {L : am_L} {T : Nat → Int32} {n p : Nat} {S : List Int32} {V : List Int64} {o : Nat} (hT : r_T L T n) (hp : p ≤ n) (hd : q_c T n (q_s T n p) = 33 ∨ q_c T n (q_s T n p) = 45) (hS : S.length < 128)
    (h : r_C Q I L (q_s T n p + 1) (-1) ((if q_c T n (q_s T n p) = 33 then 1001 else 1002) :: S) V o 1) : r_C Q I L p (-1) S V o 1 := fun A W hA hW => by
  refine s_X12_reads_26 ⟨fun c => absurd c (by decide), fun _ => ⟨fun c => absurd (r_I_12 _ _ _ _ _ _) c, fun _ => ⟨_, am_qf_i (k_X12_ahead (r_T_ro hT W) hp), fun v I7 L8 e => ?_⟩⟩⟩
  obtain ⟨q1, q2, q3⟩ := e
  rw [q1, q2, q3]
  have hnd : ¬ (48 ≤ q_c T n (q_s T n p) ∧ q_c T n (q_s T n p) ≤ 57) := by
    rcases hd with hd | hd <;> · rw [hd]; decide
  have hnm : r_nm (q_c T n (q_s T n p)) = -1 := by
    rcases hd with hd | hd <;> · rw [hd]; decide
  refine ⟨fun c => absurd c (by decide), fun _ => ⟨fun _ => ⟨_, am_qf_i k_X12_nameOf, fun v I7 L8 e => ?_⟩, fun c => absurd c hnd⟩⟩
  obtain ⟨q1, q2, q3⟩ := e
  rw [q1, q2, q3]
  have hv : vp_in (r_I I (q_s T n p) (-1) V.length S.length A 190 16) 128 := by rw [r_I_16]; exact am_vI hS (by decide)
  have hh : ∀ c, (if q_c T n (q_s T n p) = 33 then (1001 : Int32) else 1002) = c → B_X12_reads_26 Q (am_u (am_u (am_u (r_I I (q_s T n p) (-1) V.length S.length A) 190 11 (r_I I (q_s T n p) (-1) V.length S.length A 190 11 + 1)) 200 (r_I I (q_s T n p) (-1) V.length S.length A 190 16).toNatClampNeg c) 190 16 (r_I I (q_s T n p) (-1) V.length S.length A 190 16 + 1)) (am_ro L 199 W) (nI o) 1 1 := by
    intro c hc
    rw [hc] at h
    rw [r_I_11, r_I_16, nI_clamp (by omega), ← nI_succ, ← nI_succ, r_I_u11, r_I_u200, r_I_u16]
    exact h _ W (r_push hA c) hW
  refine ⟨fun _ => ⟨fun c1 => ⟨fun c => absurd c1 c, fun _ => ⟨hv, hh _ (if_pos c1)⟩⟩, fun c1 => ⟨fun c => absurd (hd.resolve_left c1) c, fun _ => ⟨fun _ => ⟨hv, hh _ (if_neg c1)⟩, fun c => absurd c c1⟩⟩⟩, fun c => absurd hnm c⟩
theorem r_C_open {Q : am_S} {I : am_I} {L : am_L} {T : Nat → Int32} {n p : Nat} {S : List Int32} {V : List Int64} {o : Nat} (hT : r_T L T n) (hp : p ≤ n) (hd : q_c T n (q_s T n p) = 40) (hS : S.length < 128) (ho : o ≤ 8)
    (h : if o < 8 then r_C Q I L (q_s T n p + 1) (-1) (1000 :: S) V (o + 1) 1 else r_C Q I L (q_s T n p) (10 * nI (q_s T n p) + 3) S V o 1) : r_C Q I L p (-1) S V o 1 := fun A W hA hW => by
  refine s_X12_reads_26 ⟨fun c => absurd c (by decide), fun _ => ⟨fun c => absurd (r_I_12 _ _ _ _ _ _) c, fun _ => ⟨_, am_qf_i (k_X12_ahead (r_T_ro hT W) hp), fun v I7 L8 e => ?_⟩⟩⟩
  obtain ⟨q1, q2, q3⟩ := e
  rw [q1, q2, q3]
  have hnd : ¬ (48 ≤ q_c T n (q_s T n p) ∧ q_c T n (q_s T n p) ≤ 57) := by rw [hd]; decide
  have hnm : r_nm (q_c T n (q_s T n p)) = -1 := by rw [hd]; decide
  have h33 : ¬ q_c T n (q_s T n p) = 33 := by rw [hd]; decide
  have h45 : ¬ q_c T n (q_s T n p) = 45 := by rw [hd]; decide
  refine ⟨fun c => absurd c (by decide), fun _ => ⟨fun _ => ⟨_, am_qf_i k_X12_nameOf, fun v I7 L8 e => ?_⟩, fun c => absurd c hnd⟩⟩
  obtain ⟨q1, q2, q3⟩ := e
  rw [q1, q2, q3]
  refine ⟨fun _ => ⟨fun c => absurd c h33, fun _ => ⟨fun _ => ⟨fun c => absurd hd c, fun _ => ⟨fun c1 => ⟨fun c => absurd hd c, fun _ => ?_⟩, fun c1 => ?_⟩⟩, fun c => absurd c h45⟩⟩, fun c => absurd hnm c⟩
  · have h8 : ¬ o < 8 := fun h8 => nI_ge (b := 8) h8 (by omega) c1
    rw [if_neg h8] at h
    rw [r_I_11, r_I_u12]
    exact h A W hA hW
  · have h8 : o < 8 := by
      by_cases h8 : o < 8
      · exact h8
      · exact absurd (Int32.not_lt.mp (nI_nlt (b := 8) (by omega) (by omega))) c1
    rw [if_pos h8] at h
    rw [r_I_11, r_I_16, nI_clamp (by omega), ← nI_succ, ← nI_succ, ← nI_succ, r_I_u11, r_I_u200, r_I_u16]
    exact ⟨am_vI hS (by decide), h _ W (r_push hA 1000) hW⟩
