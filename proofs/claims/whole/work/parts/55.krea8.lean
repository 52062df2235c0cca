/-! the reference's reader: behind a value -/
theorem r_C_end {Q : am_S} {I : am_I} {L : am_L} {T : Nat → Int32} {n p : Nat} {S : List Int32} {V : List Int64} (hT : r_T L T n) (hp : p ≤ n) (hd : q_c T n (q_s T n p) = -1) (hn : r_nb S + 1 ≤ V.length) (hV : V.length ≤ 64) (hS : S.length ≤ 128)
    (h : ∀ p v s A W, r_sta W (r_wd 1 S V).2 → Q (some (.int 1)) (r_I I p (-1) v s A) (am_u (am_ro L 199 W) 190 18 (W 0))) : r_C Q I L p (-1) S V 0 0 := fun A W hA hW => by
  refine s_X12_reads_26 ⟨fun c => absurd c (by decide), fun _ => ⟨fun c => absurd (r_I_12 _ _ _ _ _ _) c, fun _ => ⟨_, am_qf_i (k_X12_ahead (r_T_ro hT W) hp), fun v I7 L8 e => ?_⟩⟩⟩
  obtain ⟨q1, q2, q3⟩ := e
  rw [q1, q2, q3, hd]
  refine ⟨fun _ => ⟨fun _ => ⟨_, am_qf_i k_X12_rank, fun v I7 L8 e => ?_⟩, fun c => absurd c (by decide)⟩, fun c => absurd rfl c⟩
  obtain ⟨q1, q2, q3⟩ := e
  rw [q1, q2, q3]
  refine ⟨fun _ => ⟨fun c => absurd rfl c, fun _ => ⟨fun c => absurd rfl c, fun _ => ⟨_, k_X12_worksDown hA hW hn hV hS, fun I7 L8 e => ?_⟩⟩⟩, fun c => absurd (show r_rk (-1) ≤ 0 by decide) c⟩
  obtain ⟨W2, e1, e2, e3⟩ := e
  rw [e1, e2]
  refine s_X12_reads_26 ⟨fun _ => ⟨fun c => absurd (r_I_12 _ _ _ _ _ _) c, fun _ => ⟨fun c => absurd (r_I_12 _ _ _ _ _ _) c, fun _ => ?_⟩⟩, fun c => absurd rfl c⟩
  rw [am_ro_at]
  exact h _ _ _ _ W2 e3
