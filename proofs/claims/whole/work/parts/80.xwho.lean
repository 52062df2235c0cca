/-! best and whose -/
variable {xc : Nat → Int32}
theorem x_and1a (x : BitVec 32) : x &&& 1#32 = 1#32 ↔ x.getLsbD 0 = true := by
  rw [BitVec.and_one_eq_setWidth_ofBool_getLsbD]
  cases x.getLsbD 0 <;> decide
theorem x_and1b (x : BitVec 64) : x &&& 1#64 = 1#64 ↔ x.getLsbD 0 = true := by
  rw [BitVec.and_one_eq_setWidth_ofBool_getLsbD]
  cases x.getLsbD 0 <;> decide
theorem x_bit32 {x : Int32} {k : Nat} (hk : k < 32) : (x >>> (nI k &&& 31)) &&& 1 = 1 ↔ x.toBitVec.getLsbD k = true := by
  have hs : ∀ k, k < 32 → ((nI k &&& 31).toBitVec.smod 32).toNat = k := by decide
  rw [← Int32.toBitVec_inj, Int32.toBitVec_and, Int32.toBitVec_shiftRight]
  show _ &&& 1#32 = 1#32 ↔ _
  rw [x_and1a, BitVec.sshiftRight', hs k hk, BitVec.getLsbD_sshiftRight]
  simp [hk]
theorem x_bit64 {x : Int64} {k : Nat} (hk : k < 32) : (x >>> ((nI k).toInt64 &&& 63)) &&& 1 = 1 ↔ x.toBitVec.getLsbD k = true := by
  have hs : ∀ k, k < 32 → (((nI k).toInt64 &&& 63).toBitVec.smod 64).toNat = k := by decide
  rw [← Int64.toBitVec_inj, Int64.toBitVec_and, Int64.toBitVec_shiftRight]
  show _ &&& 1#64 = 1#64 ↔ _
  rw [x_and1b, BitVec.sshiftRight', hs k hk, BitVec.getLsbD_sshiftRight]
  simp [show k < 64 by omega]
theorem x_bits {x : Int32} {k : Nat} (hk : k < 32) : (x.toInt64 >>> ((nI k).toInt64 &&& 63)) &&& 1 = 1 ↔ (x >>> (nI k &&& 31)) &&& 1 = 1 := by
  rw [x_bit32 hk, x_bit64 hk, Int32.toBitVec_toInt64, BitVec.getLsbD_signExtend]
  simp [show k < 64 by omega, hk]
theorem x_a32 {a b : Int32} (h1 : -(2 ^ 31) ≤ a.toInt + b.toInt) (h2 : a.toInt + b.toInt < 2 ^ 31) : (a + b).toInt = a.toInt + b.toInt ∧ (a + b).toInt64 = a.toInt64 + b.toInt64 := by
  have e : (a + b).toInt = a.toInt + b.toInt := by
    rw [Int32.toInt_add]
    simp only [Int.bmod_def]
    omega
  refine ⟨e, ?_⟩
  rw [← Int64.toInt_inj, Int64.toInt_add, Int32.toInt_toInt64, Int32.toInt_toInt64, Int32.toInt_toInt64, e]
  simp only [Int.bmod_def]
  omega
theorem x_s32 {a b : Int32} (h1 : -(2 ^ 31) ≤ a.toInt - b.toInt) (h2 : a.toInt - b.toInt < 2 ^ 31) : (a - b).toInt = a.toInt - b.toInt ∧ (a - b).toInt64 = a.toInt64 - b.toInt64 := by
  have e : (a - b).toInt = a.toInt - b.toInt := by
    rw [Int32.toInt_sub]
    simp only [Int.bmod_def]
    omega
  refine ⟨e, ?_⟩
  rw [← Int64.toInt_inj, Int64.toInt_sub, Int32.toInt_toInt64, Int32.toInt_toInt64, Int32.toInt_toInt64, e]
  simp only [Int.bmod_def]
  omega
theorem x_ns {k : Nat} {I : am_I} {ns np ng : Nat} (o : x_cla I np ng ns) (hk : k < ns) : (1 ≤ (I 44 k).toInt ∧ (I 44 k).toInt ≤ 100000) ∧ (0 ≤ (I 45 k).toInt ∧ (I 45 k).toInt ≤ 100000) ∧ (1 ≤ (I 46 k).toInt ∧ (I 46 k).toInt ≤ 24) := by
  obtain ⟨⟨h1, h2⟩, ⟨h3, h4⟩, h5, h6⟩ := o.2.2.2.2.2.2 k hk
  rw [Int32.le_iff_toInt_le] at h1 h2 h3 h4 h5 h6
  exact ⟨⟨h1, h2⟩, ⟨h3, h4⟩, h5, h6⟩
theorem x_mos_eq {I : am_I} {L : am_L} {np ng ns : Nat} (hR : x_R I L (L 191)) (o : x_cla I np ng ns) (s : Int32) : g_mos L ns s = (f_mos I ns s).toInt64 := by
  have h8 := o.2.2.2.1
  have key : ∀ k, k ≤ ns → (0 ≤ (am_it (f_mo I s) 0 k).toInt ∧ (am_it (f_mo I s) 0 k).toInt ≤ 24 * k) ∧ am_it (g_mo L s) 0 k = (am_it (f_mo I s) 0 k).toInt64 := by
    intro k
    induction k with
    | zero => intro _; exact ⟨⟨Int.le_refl _, Int.le_refl _⟩, rfl⟩
    | succ k ih =>
      intro hk
      obtain ⟨⟨i1, i2⟩, i3⟩ := ih (by omega)
      obtain ⟨_, _, b1, b2⟩ := x_ns o (show k < ns by omega)
      show (0 ≤ (f_mo I s k (am_it (f_mo I s) 0 k)).toInt ∧ (f_mo I s k (am_it (f_mo I s) 0 k)).toInt ≤ 24 * (k + 1 : Nat)) ∧ g_mo L s k (am_it (g_mo L s) 0 k) = (f_mo I s k (am_it (f_mo I s) 0 k)).toInt64
      rw [i3, f_mo, g_mo, xh_sui_2 hR (show k < 8 by omega)]
      split
      · obtain ⟨e1, e2⟩ := x_a32 (a := am_it (f_mo I s) 0 k) (b := I 46 k) (by omega) (by omega)
        rw [e1, e2]
        exact ⟨by omega, rfl⟩
      · exact ⟨by omega, rfl⟩
  exact (key ns (Nat.le_refl _)).2
theorem x_gas_eq {I : am_I} {L : am_L} {np ng ns : Nat} (hR : x_R I L (L 191)) (o : x_cla I np ng ns) (s : Int32) : g_brs L ns s = (f_gas I ns s).toInt64 := by
  have h8 := o.2.2.2.1
  have key : ∀ k, k ≤ ns → (-(100000 * k) ≤ (am_it (f_ga I s) 0 k).toInt ∧ (am_it (f_ga I s) 0 k).toInt ≤ 100000 * k) ∧ am_it (g_br L s) 0 k = (am_it (f_ga I s) 0 k).toInt64 := by
    intro k
    induction k with
    | zero => intro _; exact ⟨⟨Int.le_refl _, Int.le_refl _⟩, rfl⟩
    | succ k ih =>
      intro hk
      obtain ⟨⟨i1, i2⟩, i3⟩ := ih (by omega)
      obtain ⟨⟨b1, b2⟩, ⟨b3, b4⟩, _⟩ := x_ns o (show k < ns by omega)
      show (-(100000 * (k + 1 : Nat)) ≤ (f_ga I s k (am_it (f_ga I s) 0 k)).toInt ∧ (f_ga I s k (am_it (f_ga I s) 0 k)).toInt ≤ 100000 * (k + 1 : Nat)) ∧ g_br L s k (am_it (g_br L s) 0 k) = (f_ga I s k (am_it (f_ga I s) 0 k)).toInt64
      rw [i3, f_ga, g_br, xh_sui_0 hR (show k < 8 by omega), xh_sui_1 hR (show k < 8 by omega)]
      split
      · obtain ⟨d1, d2⟩ := x_s32 (a := I 44 k) (b := I 45 k) (by omega) (by omega)
        obtain ⟨e1, e2⟩ := x_a32 (a := am_it (f_ga I s) 0 k) (b := I 44 k - I 45 k) (by omega) (by omega)
        rw [e1, e2, d1, d2]
        exact ⟨by omega, rfl⟩
      · exact ⟨by omega, rfl⟩
  exact (key ns (Nat.le_refl _)).2
theorem x_bs_eq {I : am_I} {L : am_L} {np ng ns : Nat} {m : Int32} (hR : x_R I L (L 191)) (o : x_cla I np ng ns) : ∀ j, am_it (g_bs L ns m) (0, 0, 0) j = (am_it (f_bs I ns m) 0 j, g_brs L ns (am_it (f_bs I ns m) 0 j), g_mos L ns (am_it (f_bs I ns m) 0 j)) := by
  intro j
  induction j with
  | zero =>
    have z : ∀ k, k < 8 → ¬ (((0 : Int32) >>> (nI k &&& 31)) &&& 1 = 1) := by decide
    have h8 := o.2.2.2.1
    have z1 : ∀ k, k ≤ ns → am_it (g_br L 0) 0 k = 0 ∧ am_it (g_mo L 0) 0 k = 0 := by
      intro k
      induction k with
      | zero => intro _; exact ⟨rfl, rfl⟩
      | succ k ih =>
        intro hk
        show g_br L 0 k (am_it (g_br L 0) 0 k) = 0 ∧ g_mo L 0 k (am_it (g_mo L 0) 0 k) = 0
        rw [(ih (by omega)).1, (ih (by omega)).2, g_br, g_mo, if_neg (z k (by omega)), if_neg (z k (by omega))]
        exact ⟨rfl, rfl⟩
    obtain ⟨e1, e2⟩ := z1 ns (Nat.le_refl _)
    show (0, 0, 0) = ((0 : Int32), am_it (g_br L 0) 0 ns, am_it (g_mo L 0) 0 ns)
    rw [e1, e2]
  | succ j ih =>
    show g_bs L ns m j (am_it (g_bs L ns m) (0, 0, 0) j) = (f_bs I ns m j (am_it (f_bs I ns m) 0 j), g_brs L ns (f_bs I ns m j (am_it (f_bs I ns m) 0 j)), g_mos L ns (f_bs I ns m j (am_it (f_bs I ns m) 0 j)))
    rw [ih]
    generalize am_it (f_bs I ns m) 0 j = b
    rw [g_bs, f_bs]
    dsimp only
    simp only [x_mos_eq hR o, x_gas_eq hR o, am_lt64, am_le64, x_eq64]
    by_cases c1 : m < f_mos I ns (nI (j + 1))
    · simp only [if_pos c1]
    · simp only [if_neg c1]
      by_cases c2 : f_gas I ns b < f_gas I ns (nI (j + 1))
      · simp only [if_pos c2, if_pos (Int32.le_of_lt c2)]
      · simp only [if_neg c2]
        by_cases c3 : f_gas I ns b ≤ f_gas I ns (nI (j + 1))
        · have c4 : f_gas I ns (nI (j + 1)) = f_gas I ns b := Int32.le_antisymm (Int32.not_lt.mp c2) c3
          simp only [if_pos c3, if_pos c4]
          by_cases c5 : f_mos I ns b ≤ f_mos I ns (nI (j + 1))
          · simp only [if_pos c5]
          · simp only [if_neg c5]
        · have c4 : ¬ f_gas I ns (nI (j + 1)) = f_gas I ns b := fun e => c3 (by rw [e]; exact Int32.le_refl _)
          simp only [if_neg c3, if_neg c4]
theorem x_best {a b : Int32} {I : am_I} {L : am_L} (h : x_Inv xc I L) : am_K M_X11_best 2 [.ref 0, .int a, .int b] I L (x_Q xc M_X12_best 1 [.ref 190, .int a, .int b]) := by
  obtain ⟨hR, hF, ⟨np, n, w, nt, nh, ng, ns, nl, nc, o1, o2, o3, o4, o5⟩, _⟩ := id h
  have g1 := fun (p : 0 ≤ a ∧ a ≤ 60) (q : 0 ≤ b ∧ b ≤ 1) => (bm_intro (by decide +kernel) (Nat.le_of_ble_eq_true rfl) (show B_X12_best_0 _ _ _ _ _ from s_X12_best_0 ⟨fun c => absurd p c, fun _ => ⟨fun _ => k_best36 (m := a) (w := b) (I := I) (xt_ns hR o3) o3.2.2.2.1, fun c => absurd q c⟩⟩) : am_K M_X12_best 1 [.ref 190, .int a, .int b] I L _)
  refine bm_intro (by decide +kernel) (Nat.le_of_ble_eq_true rfl) (show B_X11_best_0 _ _ _ _ _ from s_X11_best_0 ⟨fun c1 => ?_, fun c1 => ⟨fun c2 => ?_, fun c2 => ?_⟩⟩)
  · exact x_lf h (bm_intro (by decide +kernel) (Nat.le_of_ble_eq_true rfl) (show B_X12_best_0 _ _ _ _ _ from s_X12_best_0 ⟨fun _ => ⟨rfl, rfl, rfl⟩, fun q => absurd q c1⟩))
  · refine ⟨_, am_qf_i (k_X0_bestSet o3.2.2.1 o3.2.2.2.1), fun v I3 L4 e => ?_⟩
    obtain ⟨e1, e2, e3⟩ := e
    subst e1; subst e2; subst e3
    have g := g1 c1 c2
    rw [x_bs_eq hR o3, x_gas_eq hR o3] at g
    dsimp only at g
    rw [am_l2i_id] at g
    refine ⟨fun c3 => ?_, fun c3 => ?_⟩
    · refine ⟨_, am_qf_i (k_X0_gainOf o3.2.2.1 o3.2.2.2.1), fun v I5 L6 e => ?_⟩
      obtain ⟨e1, e2, e3⟩ := e
      subst e1; subst e2; subst e3
      rw [if_neg c3] at g
      exact x_lf h g
    · rw [if_pos c3] at g
      exact x_lf h g
  · exact x_lf h (bm_intro (by decide +kernel) (Nat.le_of_ble_eq_true rfl) (show B_X12_best_0 _ _ _ _ _ from s_X12_best_0 ⟨fun q => absurd c1 q, fun _ => ⟨fun q => absurd q c2, fun _ => ⟨rfl, rfl, rfl⟩⟩⟩))
/-! whose -/
theorem x_sz : ∀ s, s < 256 → f_bc (nI s) = am_it (g_sz (nI s)) 0 10 ∧ f_bc (nI s) ≤ 8 := by decide +kernel
theorem x_may_eq {I : am_I} {L : am_L} {nt nh : Nat} (hR : x_R I L (L 191)) (o : x_pap I nt nh) {t : Nat} (ht : t < nt) : am_it (g_may L t) 0 nh = am_it (f_may I t) 0 nh := by
  refine am_it_congr nh (fun k hk c => ?_)
  obtain ⟨d, f, hd, hf, e1, e2⟩ := o.2.2.2.2 t ht
  have b1 := o.2.1
  have b2 := o.2.2.2.1
  rw [g_may, f_may, xh_han_0 hR (by omega), xh_han_1 hR (by omega), xh_trd_0 hR (by omega), xh_trd_3 hR (by omega), am_l2i_id, am_l2i_id, e1, e2]
  simp only [x_bits (x := I 35 k) (show d < 32 by omega), x_bits (x := I 36 k) (show f < 32 by omega), Int32.or_zero]
theorem x_all_eq {I : am_I} {L : am_L} {nt nh : Nat} (hR : x_R I L (L 191)) (o : x_pap I nt nh) (s : Int32) : g_all L s nh nt ↔ f_all (f_cp I nh nt nt) s nt := by
  have e38 : ∀ t, t < nt → (f_cp I nh nt nt 38 t = 0 ↔ g_wrong L t = 0) := fun t ht => by
    rw [f_cp, if_pos rfl, if_pos ht, xw_all hR o ht]
    split
    · rename_i q; exact ⟨fun _ => q, fun _ => rfl⟩
    · rename_i q; exact ⟨fun z => absurd z (by decide), fun z => absurd z q⟩
  have e37 : ∀ t, t < nt → f_cp I nh nt nt 37 t = am_it (g_may L t) 0 nh := fun t ht => by
    rw [f_cp, if_neg (by decide), if_pos rfl, if_pos ht, x_may_eq hR o ht]
  constructor
  · intro h t ht
    rw [e38 t ht, e37 t ht]; exact h t ht
  · intro h t ht
    have := h t ht
    rw [e38 t ht, e37 t ht] at this; exact this
theorem x_ls_eq {I : am_I} {L : am_L} {nt nh : Nat} (hR : x_R I L (L 191)) (o : x_pap I nt nh) : ∀ k, k ≤ 256 → (am_it (f_ls (f_cp I nh nt nt) nt) (-5, 0, 0, 0) k = (-5, 0, 0, 0) ∧ am_it (g_ls L nh nt) (9, 0, 0, 0) k = (9, 0, 0, 0)) ∨ (am_it (g_ls L nh nt) (9, 0, 0, 0) k = am_it (f_ls (f_cp I nh nt nt) nt) (-5, 0, 0, 0) k ∧ (am_it (f_ls (f_cp I nh nt nt) nt) (-5, 0, 0, 0) k).1 ≤ 8 ∧ ∃ c, c < k ∧ (am_it (f_ls (f_cp I nh nt nt) nt) (-5, 0, 0, 0) k).2.1 = nI (c + 1)) := by
  intro k
  induction k with
  | zero => intro _; exact Or.inl ⟨rfl, rfl⟩
  | succ k ih =>
    intro hk
    obtain ⟨z1, z2⟩ := x_sz k (by omega)
    have hall := x_all_eq hR o (nI k)
    show (f_ls _ nt k _ = _ ∧ g_ls L nh nt k _ = _) ∨ (g_ls L nh nt k _ = f_ls _ nt k _ ∧ (f_ls _ nt k _).1 ≤ 8 ∧ ∃ c, c < k + 1 ∧ (f_ls _ nt k _).2.1 = nI (c + 1))
    have n9 : ¬ (9 : Int32) < am_it (g_sz (nI k)) 0 10 := by
      rw [← z1]
      exact fun q => absurd (Int32.lt_of_lt_of_le q z2) (by decide)
    have n9' : ¬ (9 : Int32) ≤ am_it (g_sz (nI k)) 0 10 := by
      rw [← z1]
      exact fun q => absurd (Int32.le_trans q z2) (by decide)
    rcases ih (by omega) with ⟨i1, i2⟩ | ⟨i1, i2, c, i3, i4⟩
    · rw [i1, i2]
      by_cases q : f_all (f_cp I nh nt nt) (nI k) nt
      · refine Or.inr ?_
        rw [f_ls_y q, if_pos rfl, g_ls_4 n9 (hall.mpr q) n9', ← z1]
        exact ⟨rfl, z2, 0, by omega, rfl⟩
      · refine Or.inl ?_
        rw [f_ls_n q, g_ls_2 n9 (fun z => q (hall.mp z))]
        exact ⟨rfl, rfl⟩
    · refine Or.inr ?_
      rw [i1]
      generalize am_it (f_ls (f_cp I nh nt nt) nt) (-5, 0, 0, 0) k = v at *
      by_cases q : f_all (f_cp I nh nt nt) (nI k) nt
      · have hne : ¬ v.2.1 = 0 := by
          rw [i4]
          intro z
          have := congrArg Int32.toNatClampNeg z
          rw [nI_clamp (by omega)] at this
          exact absurd this (by simp)
        rw [f_ls_y q, if_neg hne]
        by_cases c1 : v.1 ≤ f_bc (nI k)
        · rw [if_pos c1]
          by_cases c2 : f_bc (nI k) = v.1
          · rw [if_pos c2, g_ls_3 (by rw [← z1, c2]; exact Int32.lt_irrefl) (hall.mpr q) (by rw [← z1]; exact c1)]
            refine ⟨rfl, i2, c + 1, by omega, ?_⟩
            show v.2.1 + 1 = _
            rw [i4, ← nI_succ]
          · rw [if_neg c2, g_ls_1 (by rw [← z1]; exact Int32.lt_of_le_of_ne c1 (fun e => c2 e.symm))]
            exact ⟨rfl, i2, c, by omega, i4⟩
        · rw [if_neg c1, g_ls_4 (by rw [← z1]; exact fun z => c1 (Int32.le_of_lt z)) (hall.mpr q) (by rw [← z1]; exact c1), ← z1]
          exact ⟨rfl, z2, 0, by omega, rfl⟩
      · rw [f_ls_n q]
        by_cases c1 : v.1 < am_it (g_sz (nI k)) 0 10
        · rw [g_ls_1 c1]; exact ⟨rfl, i2, c, by omega, i4⟩
        · rw [g_ls_2 c1 (fun z => q (hall.mp z))]; exact ⟨rfl, i2, c, by omega, i4⟩
theorem x_whose {w : Int32} {I : am_I} {L : am_L} (h : x_Inv xc I L) : am_K M_X11_whose 3 [.ref 0, .int w] I L (x_Q xc M_X12_whose 3 [.ref 190, .int w]) := by
  obtain ⟨hR, hF, ⟨np, n, nw, nt, nh, ng, ns, nl, nc, o1, o2, o3, o4, o5⟩, _⟩ := id h
  refine bm_intro (by decide +kernel) (Nat.le_of_ble_eq_true rfl) (show B_X11_whose_0 _ _ _ _ from s_X11_whose_0 ⟨fun c1 => ?_, fun c1 => ?_⟩)
  · refine ⟨_, am_qf_i (k_X6_leastSets o2.1 o2.2.1 o2.2.2.1 o2.2.2.2.1 (xt_hdf o2)), fun v I3 L4 e => ?_⟩
    obtain ⟨e1, e2, e3⟩ := e
    subst e1; subst e2; subst e3
    have sm : x_sm I L4 (f_cp I nh nt nt) L4 := ⟨fun a x h1 h2 h3 h4 h5 h6 => by rw [f_cp, if_neg h3, if_neg h2], fun _ _ _ _ _ _ _ _ => rfl⟩
    have h2 := x_keep h sm
    refine x_lf h2 ?_
    have e : g_pick w (am_it (g_ls L4 nh nt) (9, 0, 0, 0) (2 ^ nh)) = f_pick w (am_it (f_ls (f_cp I nh nt nt) nt) (-5, 0, 0, 0) (2 ^ nh)) := by
      rcases x_ls_eq hR o2 (2 ^ nh) (am_pow2l o2.2.2.2.1) with ⟨q1, q2⟩ | ⟨q1, q2, _⟩
      · rw [q1, q2, g_pick, f_pick, if_pos rfl]
      · have q9 : ¬ (am_it (f_ls (f_cp I nh nt nt) nt) (-5, 0, 0, 0) (2 ^ nh)).1 = 9 := fun z => absurd q2 (by rw [z]; decide)
        rw [q1, g_pick, f_pick, if_neg q9]
    rw [← e]
    exact bm_intro (by decide +kernel) (Nat.le_of_ble_eq_true rfl) (show B_X12_whose_0 _ _ _ _ from s_X12_whose_0 ⟨fun _ => k_whose29 (xt_nt hR o2) o2.2.1 (xt_nh hR o2) o2.2.2.2.1 (xt_hd hR o2), fun q => absurd c1 q⟩)
  · exact x_lf h (bm_intro (by decide +kernel) (Nat.le_of_ble_eq_true rfl) (show B_X12_whose_0 _ _ _ _ from s_X12_whose_0 ⟨fun q => absurd q c1, fun _ => ⟨rfl, rfl, rfl⟩⟩))
