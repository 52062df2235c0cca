/-! the reference's reader: worksDown and stands on lists -/
def r_nb : List Int32 → Nat
  | [] => 0
  | c :: S => (if c < 1000 then 1 else 0) + r_nb S
def r_at (I : am_I) (L : am_L) (p : Nat) (f : Int32) (A : Nat → Int32) (R : List Int32 × List Int64) (I' : am_I) (L' : am_L) : Prop := ∃ W, I' = r_I I p f R.2.length R.1.length A ∧ L' = am_ro L 199 W ∧ r_sta W R.2
theorem k_wd {least f : Int32} {p : Nat} {A : Nat → Int32} {I : am_I} {L : am_L} : ∀ (S : List Int32) (V : List Int64) (W : Nat → Int64), r_sta A S → r_sta W V → r_nb S + 1 ≤ V.length → V.length ≤ 64 → S.length ≤ 128 → B_X12_worksDown_0 (am_qv (r_at I L p f A (r_wd least S V))) (r_I I p f V.length S.length A) (am_ro L 199 W) least := by
  intro S
  induction S with
  | nil =>
    intro V W hA hW hn hv hs
    have e : r_wd least [] V = ([], V) := by rw [r_wd]; intro c S b a V h; exact absurd h (by simp)
    refine s_X12_worksDown_0 ⟨fun _ => ⟨rfl, W, ?_, rfl, ?_⟩, fun c => absurd ?_ c⟩
    · rw [e]
    · rw [e]; exact hW
    · rw [r_I_16]; exact Int32.le_refl _
  | cons c S ih =>
    intro V W hA hW hn hv hs
    obtain ⟨hc, hA2⟩ := hA
    have hs' : S.length + 1 ≤ 128 := hs
    have s1 : nI (S.length + 1) - 1 = nI S.length := by rw [nI_succ, Int32.add_sub_cancel]
    have hvp : vp_in (nI S.length) 128 := am_vI (by omega) (by decide)
    refine s_X12_worksDown_0 ⟨fun h => absurd h (by rw [r_I_16]; exact nI_ge (a := 0) (Nat.succ_pos _) (by show S.length + 1 < _; omega)), fun _ => ?_⟩
    rw [r_I_16, show (c :: S).length = S.length + 1 from rfl, s1, nI_clamp (by omega), r_I_200, hc]
    refine ⟨hvp, fun c1 => ?_, fun c1 => ⟨hvp, _, am_qf_i k_X12_rank, fun v I7 L8 e => ?_⟩⟩
    · have e : r_wd least (c :: S) V = (c :: S, V) := by
        match V with
        | [] => rw [r_wd]; intro c S b a V h; simp
        | [x] => rw [r_wd]; intro c S b a V h; simp
        | b :: a :: V => rw [r_wd, if_neg (fun q => absurd c1 (Int32.not_le.mpr q.1))]
      rw [e]
      exact ⟨rfl, W, rfl, rfl, hW⟩
    · obtain ⟨q1, q2, q3⟩ := e
      rw [q1, q2, q3]
      have c2 : c < 1000 := Int32.not_le.mp c1
      rw [r_nb, if_pos c2] at hn
      match V, hW, hn, hv with
      | [], _, hn, _ => exact absurd hn (by simp)
      | [x], _, hn, _ => exact absurd hn (by show ¬ 1 + r_nb S + 1 ≤ 1; omega)
      | b :: a :: V, hW, hn, hv =>
        obtain ⟨hb, ha, hV⟩ := hW
        have hn' : 1 + r_nb S + 1 ≤ V.length + 2 := hn
        have hv' : V.length + 2 ≤ 64 := hv
        refine ⟨fun c3 => ?_, fun c3 => ⟨_, am_qf_v (k_X12_works (v := V.length) (s := S.length) hv' hs'), fun I7 L8 e => ?_⟩⟩
        · have e : r_wd least (c :: S) (b :: a :: V) = (c :: S, b :: a :: V) := by rw [r_wd, if_neg (fun q => absurd c3 (Int32.not_lt.mpr q.2))]
          rw [e]
          exact ⟨rfl, W, rfl, rfl, hb, ha, hV⟩
        · obtain ⟨q2, q3⟩ := e
          have e : r_wd least (c :: S) (b :: a :: V) = r_wd least S (r_op c a b :: V) := by rw [r_wd, if_pos ⟨c2, Int32.not_lt.mp c3⟩]
          rw [q2, q3, hc, am_ro_at, ha, show W (V.length + 1) = b from hb, am_ro_u, e]
          have h := ih (r_op c a b :: V) (am_f W V.length (r_op c a b)) hA2 ⟨am_f_eq _ _ _, (r_sta_f (Nat.le_refl _)).mpr hV⟩ (by show r_nb S + 1 ≤ V.length + 1; omega) (by show V.length + 1 ≤ 64; omega) (by omega)
          exact h
theorem k_X12_worksDown {least f : Int32} {p : Nat} {A : Nat → Int32} {I : am_I} {L : am_L} {S : List Int32} {V : List Int64} {W : Nat → Int64} (hA : r_sta A S) (hW : r_sta W V) (hn : r_nb S + 1 ≤ V.length) (hv : V.length ≤ 64) (hs : S.length ≤ 128) : am_K M_X12_worksDown 1 [.ref 190, .int least] (r_I I p f V.length S.length A) (am_ro L 199 W) (am_qv (r_at I L p f A (r_wd least S V))) :=
  bm_intro (by decide +kernel) (Nat.le_of_ble_eq_true rfl) (show B_X12_worksDown_0 _ _ _ _ from k_wd S V W hA hW hn hv hs)
/-- a value comes: the signs before it work -/
def r_un (c : Int32) (v : Int64) : Int64 := if ¬ c = 1001 then -v else if ¬ v = 0 then 0 else 1
def r_sd : List Int32 → Int64 → List Int32 × Int64
  | [], v => ([], v)
  | c :: S, v => if c ≤ 1000 then (c :: S, v) else r_sd S (r_un c v)
theorem k_sd {f : Int32} {p : Nat} {A : Nat → Int32} {I : am_I} {L : am_L} {V : List Int64} {W : Nat → Int64} (hW : r_sta W V) (hv : V.length < 64) : ∀ (S : List Int32) (v : Int64), r_sta A S → S.length ≤ 128 → B_X12_stands_2 (am_qv (r_at I L p f A ((r_sd S v).1, (r_sd S v).2 :: V))) (r_I I p f V.length S.length A) (am_ro L 199 W) v := by
  have fin : ∀ (S : List Int32) (v : Int64), vp_in (r_I I p f V.length S.length A 190 14) 64 ∧ am_qv (r_at I L p f A (S, v :: V)) none (am_u (r_I I p f V.length S.length A) 190 14 (r_I I p f V.length S.length A 190 14 + 1)) (am_u (am_ro L 199 W) 199 (r_I I p f V.length S.length A 190 14).toNatClampNeg v) := by
    intro S v
    rw [r_I_14, ← nI_succ, r_I_u14, nI_clamp (by omega), am_ro_u]
    exact ⟨am_vI hv (by decide), rfl, _, rfl, rfl, am_f_eq _ _ _, (r_sta_f (Nat.le_refl _)).mpr hW⟩
  intro S
  induction S with
  | nil =>
    intro v hA hs
    rw [r_sd]
    exact s_X12_stands_2 ⟨fun _ => fin [] v, fun c => absurd (by rw [r_I_16]; exact Int32.le_refl _) c⟩
  | cons c S ih =>
    intro v hA hs
    obtain ⟨hc, hA2⟩ := hA
    have hs' : S.length + 1 ≤ 128 := hs
    have s1 : nI (S.length + 1) - 1 = nI S.length := by rw [nI_succ, Int32.add_sub_cancel]
    have hvp : vp_in (nI S.length) 128 := am_vI (by omega) (by decide)
    refine s_X12_stands_2 ⟨fun h => absurd h (by rw [r_I_16]; exact nI_ge (a := 0) (Nat.succ_pos _) (by show S.length + 1 < _; omega)), fun _ => ?_⟩
    rw [show r_I I p f V.length (c :: S).length A 190 16 = nI (S.length + 1) from r_I_16 _ _ _ _ _ _, s1, nI_clamp (by omega), r_I_200, hc]
    refine ⟨hvp, fun c1 => ?_, fun c1 => ⟨hvp, fun c2 => ?_, fun c2 => ⟨fun c3 => ?_, fun c3 => ?_⟩⟩⟩
    · rw [r_sd, if_pos c1]
      exact fin (c :: S) v
    · have h := ih (-v) hA2 (by omega)
      rw [r_I_u16, r_sd, if_neg c1, r_un, if_pos c2]
      exact h
    · have h := ih 0 hA2 (by omega)
      rw [r_I_u16, r_sd, if_neg c1, r_un, if_neg (fun q => q c2), if_pos c3]
      exact h
    · have h := ih 1 hA2 (by omega)
      rw [r_I_u16, r_sd, if_neg c1, r_un, if_neg (fun q => q c2), if_neg (fun q => q c3)]
      exact h
theorem k_X12_stands {f : Int32} {p : Nat} {A : Nat → Int32} {I : am_I} {L : am_L} {S : List Int32} {V : List Int64} {W : Nat → Int64} {v : Int64} (hA : r_sta A S) (hW : r_sta W V) (hv : V.length < 64) (hs : S.length ≤ 128) : am_K M_X12_stands 0 [.ref 190, .long v] (r_I I p f V.length S.length A) (am_ro L 199 W) (am_qv (r_at I L p f A ((r_sd S v).1, (r_sd S v).2 :: V))) :=
  bm_intro (by decide +kernel) (Nat.le_of_ble_eq_true rfl) (show B_X12_stands_0 _ _ _ _ from s_X12_stands_0 (k_sd hW hv S v hA hs))
