/-! the reference's reader: a sign between values -/
def r_3 (c : Int32) : List Int32 → Prop
  | [] => False
  | d :: _ => r_rk c = 3 ∧ d < 1000 ∧ r_rk d = 3
def r_lv (c : Int32) : Int32 := if r_rk c = 3 then 4 else r_rk c
theorem k_r346 {Q : am_S} {I : am_I} {L : am_L} {p : Nat} {c : Int32} {S : List Int32} {V : List Int64} {o : Nat} (hn : r_nb S + 1 ≤ V.length) (hV : V.length ≤ 64) (hS : S.length ≤ 128) (hS2 : (r_wd (r_lv c) S V).1.length < 128) (hp : p < 2 ^ 20) (hsub : ∀ A : Nat → Int32, r_sta A S → r_sta A (r_wd (r_lv c) S V).1)
    (h1 : r_3 c (r_wd (r_lv c) S V).1 → r_C Q I L p (10 * nI p + 1) (r_wd (r_lv c) S V).1 (r_wd (r_lv c) S V).2 o 0)
    (h2 : ¬ r_3 c (r_wd (r_lv c) S V).1 → r_C Q I L (p + 1) (-1) (c :: (r_wd (r_lv c) S V).1) (r_wd (r_lv c) S V).2 o 1) {A : Nat → Int32} {W : Nat → Int64} (hA : r_sta A S) (hW : r_sta W V) : B_X12_reads_346 Q (r_I I p (-1) V.length S.length A) (am_ro L 199 W) (nI o) 0 1 c (r_lv c) := by
  refine s_X12_reads_346 ⟨_, k_X12_worksDown hA hW hn hV hS, fun I7 L8 e => ?_⟩
  obtain ⟨W2, e1, e2, e3⟩ := e
  have hA2 := hsub A hA
  generalize r_wd (r_lv c) S V = R at *
  obtain ⟨S2, V2⟩ := R
  rw [e1, e2]
  refine ⟨_, am_qf_i k_X12_rank, fun v I7 L8 e => ?_⟩
  obtain ⟨q1, q2, q3⟩ := e
  rw [q1, q2, q3]
  have hlen : S2.length < 128 := hS2
  have push : ¬ r_3 c S2 → vp_in (nI S2.length) 128 ∧ B_X12_reads_26 Q (r_I I (p + 1) (-1) V2.length (S2.length + 1) (am_f A S2.length c)) (am_ro L 199 W2) (nI o) 1 1 := fun h => ⟨am_vI hlen (by decide), h2 h _ W2 (r_push hA2 c) e3⟩
  have pu : ∀ A', A' = A → am_u (am_u (am_u (r_I I p (-1) V2.length S2.length A') 190 11 (nI p + 1)) 200 (nI S2.length).toNatClampNeg c) 190 16 (nI S2.length + 1) = r_I I (p + 1) (-1) V2.length (S2.length + 1) (am_f A S2.length c) := fun A' hA' => by
    rw [hA', nI_clamp (by omega), ← nI_succ, ← nI_succ, r_I_u11, r_I_u200, r_I_u16]
  simp only [r_I_11, r_I_16, r_I_200, pu A rfl]
  match S2, hA2, push, h1, hlen with
  | [], _, push, _, _ =>
    exact ⟨fun _ => push (fun q => q), fun _ => ⟨fun _ => push (fun q => q), fun c => absurd (Int32.le_refl _) c⟩⟩
  | d :: S3, hA2, push, h1, hlen =>
    have s1 : nI (S3.length + 1) - 1 = nI S3.length := by rw [nI_succ, Int32.add_sub_cancel]
    have hl : S3.length + 1 < 128 := hlen
    have hvp : vp_in (nI S3.length) 128 := am_vI (by omega) (by decide)
    refine ⟨fun c1 => push (fun q => c1 q.1), fun c1 => ⟨fun c2 => absurd c2 (nI_ge (a := 0) (Nat.succ_pos _) (by show S3.length + 1 < _; omega)), fun _ => ?_⟩⟩
    rw [show (d :: S3).length = S3.length + 1 from rfl, s1, nI_clamp (by omega), hA2.1]
    refine ⟨hvp, fun c2 => push (fun q => absurd c2 (Int32.not_le.mpr q.2.1)), fun c2 => ⟨hvp, _, am_qf_i k_X12_rank, fun v I7 L8 e => ?_⟩⟩
    obtain ⟨q1, q2, q3⟩ := e
    rw [q1, q2, q3]
    refine ⟨fun c3 => ?_, fun c3 => ?_⟩
    · have := push (fun q => c3 q.2.2)
      rw [r_I_11, r_I_16, ← nI_succ, ← nI_succ, r_I_u11, nI_clamp (by omega), r_I_u200, r_I_u16]
      exact this
    · have := h1 ⟨c1, Int32.not_le.mp c2, c3⟩ A W2 hA2 e3
      rw [r_I_11, r_I_u12]
      exact this
