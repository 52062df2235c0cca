/-! dealt, tide and moved -/
variable {xc : Nat → Int32}
theorem x_inb {I : am_I} {L : am_L} {np n w : Nat} (o : x_led I L np n w) (p : Int32) : (0 ≤ (am_sum (f_in I p) n).toInt ∧ (am_sum (f_in I p) n).toInt ≤ 100000000) ∧ (0 ≤ (am_sum (f_out I p 0) n).toInt ∧ (am_sum (f_out I p 0) n).toInt ≤ 100000000) := by
  have hn := o.2.2.2.1
  have one : ∀ r, r < n → (0 ≤ (f_in I p r).toInt ∧ (f_in I p r).toInt ≤ (1000000 : Nat)) ∧ (0 ≤ (f_out I p 0 r).toInt ∧ (f_out I p 0 r).toInt ≤ (1000000 : Nat)) := by
    intro r hr
    obtain ⟨p', m, h1, h2, h3, h4, h5, h6⟩ := o.2.2.2.2.2.2.2.1 r hr
    rw [Int32.le_iff_toInt_le] at h5 h6
    have z : (0 : Int32).toInt = 0 := by decide
    have z5 : (-1000000 : Int32).toInt = -1000000 := by decide
    have z6 : (1000000 : Int32).toInt = 1000000 := by decide
    rw [z5] at h5
    rw [z6] at h6
    rw [f_in, f_out]
    refine ⟨?_, ?_⟩
    · split
      · split
        · decide
        · rename_i c
          rw [Int32.le_iff_toInt_le] at c
          rw [Int32.toInt_toInt64]; omega
      · decide
    · split
      · split
        · decide
        · split
          · decide
          · rename_i c _
            rw [Int32.le_iff_toInt_le] at c
            have e : (-(I 21 r).toInt64).toInt = -(I 21 r).toInt := by
              rw [Int64.toInt_neg, Int32.toInt_toInt64]
              simp only [Int.bmod_def]
              omega
            rw [e]; omega
      · decide
  obtain ⟨_, i2, i3⟩ := x_sumbd (f := f_in I p) (c := 1000000) n (by omega) (fun k hk => (one k hk).1)
  obtain ⟨_, j2, j3⟩ := x_sumbd (f := f_out I p 0) (c := 1000000) n (by omega) (fun k hk => (one k hk).2)
  omega
theorem x_tide_eq {I : am_I} {L M : am_L} {np n w : Nat} {s : Int64} (hR : x_R I L (L 191)) (o : x_led I L np n w) (hM : ∀ p, p < np → M 161 p = am_sum (f_in I (nI p)) n ∧ M 162 p = am_sum (f_out I (nI p) 0) n) (hs : 0 ≤ s.toInt ∧ s.toInt ≤ 10000000) : ∃ r, g_tide L n np s = some r ∧ ((0 ≤ (f_rise M np s 13 1 1).1.toInt ∧ (f_rise M np s 13 1 1).1.toInt ≤ 2147483648) ∧ (0 < (f_rise M np s 13 1 1).2.toInt ∧ (f_rise M np s 13 1 1).2.toInt ≤ 2147483648)) ∧ ((0 ≤ r.1.toInt ∧ r.1.toInt ≤ 2147483648) ∧ (0 < r.2.toInt ∧ r.2.toInt ≤ 2147483648)) ∧ (f_rise M np s 13 1 1).1.toInt * r.2.toInt = r.1.toInt * (f_rise M np s 13 1 1).2.toInt := by
  have hn := o.2.1
  have hb : x_bd (fun p => (g_in L (nI p) n).toInt) (fun p => (g_out L (nI p) n).toInt) np := fun p hp => by
    have ne := x_nI1 p (by omega)
    have := x_inb o (nI p)
    rw [xs_in hR o ne, xs_out hR o ne] at this
    exact this
  have hM2 : ∀ p, p < np → (M 161 p).toInt = (g_in L (nI p) n).toInt ∧ (M 162 p).toInt = (g_out L (nI p) n).toInt := fun p hp => by
    have ne := x_nI1 p (by omega)
    rw [(hM p hp).1, (hM p hp).2, xs_in hR o ne, xs_out hR o ne]
    exact ⟨rfl, rfl⟩
  have hG : ∀ p, p < np → (g_in L (nI p) n).toInt = (fun p => (g_in L (nI p) n).toInt) p ∧ (g_out L (nI p) n).toInt = (fun p => (g_out L (nI p) n).toInt) p := fun _ _ => ⟨rfl, rfl⟩
  generalize (fun p => (g_in L (nI p) n).toInt) = X at hb hG
  generalize (fun p => (g_out L (nI p) n).toInt) = Y at hb hG
  have hM3 : ∀ p, p < np → (M 161 p).toInt = X p ∧ (M 162 p).toInt = Y p := fun p hp => by
    rw [(hM2 p hp).1, (hM2 p hp).2]; exact hG p hp
  have hx : ∀ p, p < np → 0 ≤ X p := fun p hp => (hb p hp).1.1
  have hy : ∀ p, p < np → 0 ≤ Y p := fun p hp => (hb p hp).2.1
  have one1 : (1 : Int64).toInt = 1 := by decide
  obtain ⟨⟨f1, f2⟩, f3, f4⟩ := x_rise hn hb hM3 hs 13 1 1 (by decide) (by decide)
  rw [one1] at f1 f2
  have hw : (am_sum (g_w1 L n) np).toInt = t_sum (t_g X Y 1 1) np := by
    have one : ∀ p, p < np → (g_w1 L n p).toInt = t_g X Y 1 1 p := by
      intro p hp
      obtain ⟨e1, e2⟩ := hG p hp
      obtain ⟨⟨x0, x1⟩, y0, y1⟩ := hb p hp
      rw [g_w1, x_mxI, Int64.one_mul, Int64.one_mul, x_s64 (by omega) (by omega), e1, e2, t_g]
      split <;> split <;> omega
    have one2 : ∀ p, p < np → 0 ≤ (g_w1 L n p).toInt ∧ (g_w1 L n p).toInt ≤ (100000000 : Nat) := by
      intro p hp
      obtain ⟨⟨x0, x1⟩, y0, y1⟩ := hb p hp
      rw [one p hp, t_g]
      split <;> omega
    rw [(x_sumbd (f := g_w1 L n) (c := 100000000) np (by omega) one2).1]
    exact t_sum_congr np one
  have hlt : s < am_sum (g_w1 L n) np ↔ s.toInt < t_sum (t_g X Y 1 1) np := by rw [Int64.lt_iff_toInt_lt, hw]
  rcases t_rise_top (s := s.toInt) hn hx hy hs.1 with ⟨t1, t2⟩ | ⟨t1, t2⟩
  · rw [t2] at f1 f2
    refine ⟨(1, 1), ?_, ?_, ?_, ?_⟩
    · rw [g_tide, if_neg (fun q => by have := hlt.mp q; omega)]
    · rw [f1, f2]; decide
    · decide
    · rw [f1, f2]; rfl
  · have zT : x_T 0 = fun _ => false := by funext k; show (0#32).getLsbD k = false; simp
    have z0 : ∀ f : Nat → Int, t_sum (t_in (x_T 0) f) np = 0 := fun f => by
      rw [t_sum_congr (g := fun _ => 0) np (fun k _ => by rw [t_in, zT]; rfl)]; exact t_sum_zero np
    have zi : (0 : Int64).toInt = 0 := by decide
    rcases x_lowest hn hb hG 0 with ⟨q1, q2⟩ | ⟨p, q1, q2⟩
    · exfalso
      have : t_sum (t_g X Y 1 1) np = 0 := by
        rw [t_sum_congr (g := fun _ => 0) np (fun k hk => ?_)]
        · exact t_sum_zero np
        · rw [t_g]
          have hk0 := hx k hk
          have hk1 := hy k hk
          rcases q2 k hk with c | c
          · rw [zT] at c; exact absurd c Bool.false_ne_true
          · rw [if_neg (by omega)]
      have := hs.1
      omega
    · obtain ⟨r, r1, r2, r3, r4⟩ := x_tdl hn hb hG hs 20 0 0 0 p (fun r _ h => by rw [zT] at h; exact absurd h Bool.false_ne_true) (by rw [z0]; rfl) (by rw [z0]; rfl) q1 q2 (by rw [zi, Int.zero_mul, Int.add_zero]; exact Int.mul_nonneg hs.1 (hx p q2.1)) (Nat.le_trans (t_un_le np) (by omega))
      rw [← f1, ← f2] at t2
      refine ⟨r, ?_, ⟨⟨t2.2.1, f3⟩, t2.1, f4⟩, ⟨⟨r2.2.1, r3⟩, r2.1, r4⟩, t_uniq hx t2 r2⟩
      rw [g_tide, if_pos (hlt.mpr t1)]; exact r1
/-- equal levels pay the same -/
theorem x_paid_eq {a b A B x y : Int64} (ha : 0 ≤ a.toInt ∧ a.toInt ≤ 2147483648) (hb : 0 < b.toInt ∧ b.toInt ≤ 2147483648) (hA : 0 ≤ A.toInt ∧ A.toInt ≤ 2147483648) (hB : 0 < B.toInt ∧ B.toInt ≤ 2147483648) (hx : 0 ≤ x.toInt ∧ x.toInt ≤ 100000000) (hy : 0 ≤ y.toInt ∧ y.toInt ≤ 100000000) (he : a.toInt * B.toInt = A.toInt * b.toInt) : am_mx (A * x - B * y) / B = am_mx (am_cut (a * x - b * y) b) := by
  obtain ⟨m1, k1, l1⟩ := x_mm (A := 2147483648) (B := 100000000) ha.1 ha.2 hx.1 hx.2 (by decide)
  obtain ⟨m2, k2, l2⟩ := x_mm (A := 2147483648) (B := 100000000) (Int.le_of_lt hb.1) hb.2 hy.1 hy.2 (by decide)
  obtain ⟨m3, k3, l3⟩ := x_mm (A := 2147483648) (B := 100000000) hA.1 hA.2 hx.1 hx.2 (by decide)
  obtain ⟨m4, k4, l4⟩ := x_mm (A := 2147483648) (B := 100000000) (Int.le_of_lt hB.1) hB.2 hy.1 hy.2 (by decide)
  have e1 : (a * x - b * y).toInt = a.toInt * x.toInt - b.toInt * y.toInt := by rw [x_s64 (by rw [m1, m2]; omega) (by rw [m1, m2]; omega), m1, m2]
  have e2 : (A * x - B * y).toInt = A.toInt * x.toInt - B.toInt * y.toInt := by rw [x_s64 (by rw [m3, m4]; omega) (by rw [m3, m4]; omega), m3, m4]
  have key : (a * x - b * y).toInt * B.toInt = (A * x - B * y).toInt * b.toInt := by
    rw [e1, e2]
    generalize a.toInt = a' at *
    generalize A.toInt = A' at *
    generalize b.toInt = b' at *
    generalize B.toInt = B' at *
    generalize x.toInt = x' at *
    generalize y.toInt = y' at *
    have g1 : (a' * x' - b' * y') * B' = (a' * B') * x' - b' * B' * y' := by grind
    have g2 : (A' * x' - B' * y') * b' = (A' * b') * x' - b' * B' * y' := by grind
    rw [g1, g2, he]
  generalize a * x - b * y = z at *
  generalize A * x - B * y = Z at *
  have hb0 : ¬ b = 0 := fun q => by rw [q] at hb; exact absurd hb.1 (by decide)
  rw [am_cut, if_neg hb0]
  by_cases hz : 0 ≤ z.toInt
  · have hZ : 0 ≤ Z.toInt := by
      have h1 : 0 ≤ Z.toInt * b.toInt := by rw [← key]; exact Int.mul_nonneg hz (Int.le_of_lt hB.1)
      refine t_div hb.1 ?_
      rw [Int.zero_mul]; exact h1
    have d1 := x_d64 hz hb.1
    have d2 : 0 ≤ (z / b).toInt := by rw [d1]; exact Int.ediv_nonneg hz (Int.le_of_lt hb.1)
    rw [am_mx_le (Int64.le_iff_toInt_le.mpr hZ), am_mx_le (Int64.le_iff_toInt_le.mpr d2), ← Int64.toInt_inj, x_d64 hZ hB.1, d1]
    rw [← Int.mul_ediv_mul_of_pos_left Z.toInt B.toInt hb.1, ← key, Int.mul_comm B.toInt b.toInt, Int.mul_ediv_mul_of_pos_left _ _ hB.1]
  · have hZ : Z.toInt < 0 := by
      refine Int.not_le.mp (fun q => hz ?_)
      have h1 : 0 ≤ z.toInt * B.toInt := by rw [key]; exact Int.mul_nonneg q (Int.le_of_lt hb.1)
      refine t_div hB.1 ?_
      rw [Int.zero_mul]; exact h1
    have d1 : (z / b).toInt ≤ 0 := by
      rw [Int64.toInt_div_of_ne_right _ _ (fun e => by rw [e] at hb; exact absurd hb.1 (by decide))]
      have g := Int.neg_tdiv (-z.toInt) b.toInt
      rw [Int.neg_neg] at g
      rw [g, Int.tdiv_eq_ediv_of_nonneg (by omega)]
      have := Int.ediv_nonneg (show 0 ≤ -z.toInt by omega) (Int.le_of_lt hb.1)
      omega
    have l : am_mx (z / b) = 0 := by
      rw [← Int64.toInt_inj, x_mxI]
      show _ = (0 : Int)
      split <;> omega
    have r : am_mx Z = 0 := by
      rw [← Int64.toInt_inj, x_mxI]
      show _ = (0 : Int)
      split <;> omega
    rw [l, r, ← Int64.toInt_inj, x_d64 (by decide) hB.1]
    exact Int.zero_ediv _
/-- equal levels have the same lowest terms -/
theorem x_gcd_nn : ∀ f (a b : Int64), 0 ≤ a.toInt → 0 ≤ b.toInt → 0 ≤ (am_gcd f a b).toInt := by
  intro f
  induction f with
  | zero => intro a b h _; exact h
  | succ f ih =>
    intro a b ha hb
    rw [am_gcd]
    split
    · exact ha
    · rename_i c
      refine ih b _ hb ?_
      rw [x_rem c, Int.tmod_eq_emod_of_nonneg ha]
      exact Int.emod_nonneg _ (fun z => c (Int64.toInt_inj.mp z))
theorem x_frac_n {a b A B : Nat} (hb : 0 < b) (hB : 0 < B) (he : a * B = A * b) : a / Nat.gcd a b = A / Nat.gcd A B ∧ b / Nat.gcd a b = B / Nat.gcd A B := by
  have hg : Nat.gcd a b * B = Nat.gcd A B * b := by
    rw [← Nat.gcd_mul_right, ← Nat.gcd_mul_right, he, Nat.mul_comm b B]
  refine ⟨?_, ?_⟩
  · rw [← Nat.mul_div_mul_right a _ hB, ← Nat.mul_div_mul_right A _ hb, he, hg]
  · rw [← Nat.mul_div_mul_right b _ hB, ← Nat.mul_div_mul_right B _ hb, hg, Nat.mul_comm b B]
theorem x_frac_eq {a b A B : Int64} (ha : 0 ≤ a.toInt) (hb : 0 < b.toInt) (hA : 0 ≤ A.toInt) (hB : 0 < B.toInt) (he : a.toInt * B.toInt = A.toInt * b.toInt) : A / am_gcd 200 A B = a / am_gcd 200 a b ∧ B / am_gcd 200 A B = b / am_gcd 200 a b := by
  have gen : ∀ a b : Int64, 0 ≤ a.toInt → 0 < b.toInt → (a / am_gcd 200 a b).toInt = ((a.toInt.toNat / Nat.gcd a.toInt.toNat b.toInt.toNat : Nat) : Int) ∧ (b / am_gcd 200 a b).toInt = ((b.toInt.toNat / Nat.gcd a.toInt.toNat b.toInt.toNat : Nat) : Int) := by
    intro a b ha hb
    have hb0 : ¬ b = 0 := fun q => by rw [q] at hb; exact absurd hb (by decide)
    obtain ⟨_, h2, h3⟩ := x_gz200 a hb0
    have h4 := x_gcd_nn 200 a b ha (Int.le_of_lt hb)
    have h5 : (am_gcd 200 a b).toInt ≠ 0 := fun z => h2 (Int64.toInt_inj.mp z)
    have e1 : a.toInt.natAbs = a.toInt.toNat := by omega
    have e2 : b.toInt.natAbs = b.toInt.toNat := by omega
    rw [e1, e2] at h3
    have h6 : (am_gcd 200 a b).toInt = ((Nat.gcd a.toInt.toNat b.toInt.toNat : Nat) : Int) := by omega
    have e3 : a.toInt = ((a.toInt.toNat : Nat) : Int) := by omega
    have e4 : b.toInt = ((b.toInt.toNat : Nat) : Int) := by omega
    rw [x_d64 ha (by omega), x_d64 (Int.le_of_lt hb) (by omega), h6]
    refine ⟨?_, ?_⟩
    · rw [Int.natCast_ediv, ← e3]
    · rw [Int.natCast_ediv, ← e4]
  obtain ⟨g1, g2⟩ := gen a b ha hb
  obtain ⟨g3, g4⟩ := gen A B hA hB
  have he2 : a.toInt.toNat * B.toInt.toNat = A.toInt.toNat * b.toInt.toNat := by
    have e1 : a.toInt = ((a.toInt.toNat : Nat) : Int) := by omega
    have e2 : b.toInt = ((b.toInt.toNat : Nat) : Int) := by omega
    have e3 : A.toInt = ((A.toInt.toNat : Nat) : Int) := by omega
    have e4 : B.toInt = ((B.toInt.toNat : Nat) : Int) := by omega
    rw [e1, e2, e3, e4] at he
    exact_mod_cast he
  obtain ⟨n1, n2⟩ := x_frac_n (by omega) (by omega) he2
  refine ⟨?_, ?_⟩
  · rw [← Int64.toInt_inj, g1, g3, n1]
  · rw [← Int64.toInt_inj, g2, g4, n2]
/-! the three calls -/
def f_lvl (I : am_I) (L : am_L) (n np : Nat) (s : Int64) : am_L := f_tl (f_look I L n np) (f_rise (f_look I L n np) np s 13 1 1).1 (f_rise (f_look I L n np) np s 13 1 1).2
theorem f_lvl_sm {I : am_I} {L : am_L} {n np : Nat} {s : Int64} : x_sm I L I (f_lvl I L n np s) := ⟨fun _ _ _ _ _ _ _ _ => rfl, fun a x h1 h2 h3 h4 h5 h6 => by
  rw [f_lvl, f_tl_n _ _ _ h2, f_look, if_neg h3, if_neg h4]⟩
theorem am_t2_sm {I : am_I} {L : am_L} {a b : Int64} : x_sm I L I (am_t2 L a b) := ⟨fun _ _ _ _ _ _ _ _ => rfl, fun p x h1 h2 h3 h4 h5 h6 => by
  rw [am_t2, am_u_ne _ (Or.inl h5), am_u_ne _ (Or.inl h5)]⟩
theorem x_look {I : am_I} {L : am_L} {n np : Nat} : ∀ p, p < np → f_look I L n np 161 p = am_sum (f_in I (nI p)) n ∧ f_look I L n np 162 p = am_sum (f_out I (nI p) 0) n := fun p hp => by
  rw [f_look, if_pos rfl, if_pos hp, f_look, if_neg (by decide), if_pos rfl, if_pos hp]
  exact ⟨rfl, rfl⟩
theorem x_amt {a : Int32} (h : 0 ≤ a ∧ a ≤ 10000000) : 0 ≤ a.toInt64.toInt ∧ a.toInt64.toInt ≤ 10000000 := by
  rw [Int32.toInt_toInt64]
  obtain ⟨h1, h2⟩ := h
  rw [Int32.le_iff_toInt_le] at h1 h2
  exact ⟨h1, h2⟩
/-- what the reference pays at the tide, in any heap in step with the fund's -/
theorem x_pay_tide {I : am_I} {L N : am_L} {np n w p : Nat} {s : Int64} (hR : x_R I N (N 191)) (o : x_led I N np n w) (hs : 0 ≤ s.toInt ∧ s.toInt ≤ 10000000) (hp : p < np) : ∃ r : Int64 × Int64, am_K M_X12_dealtTo 5 [.ref 190, .int (nI p), .int 3, .long s] I N (am_qf (some (.long (f_paid (f_lvl I L n np s) p))) I (am_t2 N r.1 r.2)) := by
  obtain ⟨r, h1, h2, h3, h4⟩ := x_tide_eq (M := f_look I L n np) hR o x_look hs
  have hr : ¬ r.2 = 0 := fun q => by have := h3.2.1; rw [q] at this; exact absurd this (by decide)
  have k := k_X12_dealtTo3 (p := p) (I := I) (xt_n hR o) o.2.2.2.1 (xt_np hR o) o.2.1 h1 hr
  have ne := x_nI1 p (by have := o.2.1; omega)
  have hb := x_inb o (nI p)
  rw [xs_in hR o ne, xs_out hR o ne] at hb
  have e := x_paid_eq h2.1 h2.2 h3.1 h3.2 hb.1 hb.2 h4
  have e2 : f_paid (f_lvl I L n np s) p = am_mx (am_cut ((f_rise (f_look I L n np) np s 13 1 1).1 * g_in N (nI p) n - (f_rise (f_look I L n np) np s 13 1 1).2 * g_out N (nI p) n) (f_rise (f_look I L n np) np s 13 1 1).2) := by
    rw [f_paid, f_lvl, f_tl_a, f_tl_b, f_tl_n _ _ _ (by decide), f_tl_n _ _ _ (by decide), (x_look p hp).1, (x_look p hp).2, xs_in hR o ne, xs_out hR o ne]
    rfl
  have ez : am_sum (g_went N (nI p) 0 59 1) n = g_out N (nI p) n := rfl
  rw [ez] at e
  refine ⟨r, ?_⟩
  rw [e2, ← e]
  exact k
theorem x_rise_k {I : am_I} {L : am_L} {np n w : Nat} {a : Int32} (o : x_led I L np n w) : am_K M_X9_rise 2 [.ref 160, .ref 11, .int a] I L (am_qf none I (f_lvl I L n np a.toInt64)) := k_X9_rise o.2.2.1 o.2.2.2.1 o.1 o.2.1
theorem x_tide {a : Int32} {I : am_I} {L : am_L} (h : x_Inv xc I L) : am_K M_X11_tide 3 [.ref 0, .int a] I L (x_Q xc M_X12_tide 5 [.ref 190, .int a]) := by
  obtain ⟨hR, hF, ⟨np, n, w, nt, nh, ng, ns, nl, nc, o1, o2, o3, o4, o5⟩, _⟩ := id h
  refine bm_intro (by decide +kernel) (Nat.le_of_ble_eq_true rfl) (show B_X11_tide_0 _ _ _ _ from s_X11_tide_0 ⟨fun c1 => ?_, fun c1 => ?_⟩)
  · refine ⟨_, am_qf_v (x_rise_k o1), fun I3 L4 e => ?_⟩
    obtain ⟨q1, q2⟩ := e
    rw [q1, q2]
    have h1 := x_keep h (f_lvl_sm (I := I) (L := L) (n := n) (np := np) (s := a.toInt64))
    obtain ⟨r, t1, t2, t3, t4⟩ := x_tide_eq (M := f_look I L n np) hR o1 x_look (x_amt c1)
    have e2 : f_lvl I L n np a.toInt64 160 2 = (f_rise (f_look I L n np) np a.toInt64 13 1 1).1 := by rw [f_lvl, f_tl_a]
    have e3 : f_lvl I L n np a.toInt64 160 3 = (f_rise (f_look I L n np) np a.toInt64 13 1 1).2 := by rw [f_lvl, f_tl_b]
    rw [e2, e3]
    have hb0 : ¬ (f_rise (f_look I L n np) np a.toInt64 13 1 1).2 = 0 := fun q => by have := t2.2.1; rw [q] at this; exact absurd this (by decide)
    have hr0 : ¬ r.2 = 0 := fun q => by have := t3.2.1; rw [q] at this; exact absurd this (by decide)
    refine ⟨_, am_qf_v (x_become hb0), fun I5 L6 e => ?_⟩
    obtain ⟨q1, q2⟩ := e
    rw [q1, q2]
    obtain ⟨d1, d2⟩ := x_frac_eq t2.1.1 t2.2.1 t3.1.1 t3.2.1 t4
    rw [← d1, ← d2]
    generalize hN : f_lvl I L n np a.toInt64 = N at *
    have e191 : x_L7 N (r.1 / am_gcd 200 r.1 r.2) (r.2 / am_gcd 200 r.1 r.2) 191 = L 191 := by
      funext x
      rw [x_L7, am_u_ne _ (Or.inl (by decide)), am_u_ne _ (Or.inl (by decide)), ← hN, f_lvl, f_tl_n _ _ _ (by decide), f_look, if_neg (by decide), if_neg (by decide)]
    have tg : g_tide (x_L7 N (r.1 / am_gcd 200 r.1 r.2) (r.2 / am_gcd 200 r.1 r.2)) n np a.toInt64 = some r := by
      have hw : g_w1 (x_L7 N (r.1 / am_gcd 200 r.1 r.2) (r.2 / am_gcd 200 r.1 r.2)) n = g_w1 L n := by funext k; rw [g_w1, g_w1, g_in_c e191, g_out_c e191]
      have ht : ∀ f ups outs t, g_tdl (x_L7 N (r.1 / am_gcd 200 r.1 r.2) (r.2 / am_gcd 200 r.1 r.2)) n np a.toInt64 f ups outs t = g_tdl L n np a.toInt64 f ups outs t := by
        intro f
        induction f with
        | zero => intro _ _ _; rfl
        | succ f ih => intro ups outs t; rw [g_tdl, g_tdl, g_in_c e191, g_out_c e191, g_low_c e191, ih]
      rw [g_tide, hw, ht]
      exact t1
    refine bm_intro (by decide +kernel) (Nat.le_of_ble_eq_true rfl) (show B_X12_tide_0 _ _ _ _ from s_X12_tide_0 ⟨fun _ => ?_, fun q => absurd c1 q⟩)
    refine ⟨_, am_qf_v (k_X12_findTide (by rw [e191]; exact xt_n hR o1) o1.2.2.2.1 (by rw [e191]; exact xt_np hR o1) o1.2.1 tg), fun I5 L6 e => ?_⟩
    obtain ⟨q1, q2⟩ := e
    rw [q1, q2, am_t2_3, am_t2_4]
    refine ⟨_, am_qf_v (x_tell hr0), fun I5 L6 e => ?_⟩
    obtain ⟨q1, q2⟩ := e
    rw [q1, q2]
    refine ⟨rfl, ?_⟩
    have h2 := x_told (a := r.1 / am_gcd 200 r.1 r.2) (b := r.2 / am_gcd 200 r.1 r.2) (x_keep h1 (am_t2_sm (a := r.1) (b := r.2)))
    have es : x_L91 (am_t2 (x_L7 N (r.1 / am_gcd 200 r.1 r.2) (r.2 / am_gcd 200 r.1 r.2)) r.1 r.2) (r.1 / am_gcd 200 r.1 r.2) (r.2 / am_gcd 200 r.1 r.2) = x_L91 (x_L7 (am_t2 N r.1 r.2) (r.1 / am_gcd 200 r.1 r.2) (r.2 / am_gcd 200 r.1 r.2)) (r.1 / am_gcd 200 r.1 r.2) (r.2 / am_gcd 200 r.1 r.2) := by
      funext p x
      simp only [x_L91, x_L7, am_t2, am_u]
      by_cases h7 : p = 7
      · subst h7; simp
      · by_cases h190 : p = 190
        · subst h190; simp
        · simp [h7, h190]
    rw [es]; exact h2
  · exact x_lf h (bm_intro (by decide +kernel) (Nat.le_of_ble_eq_true rfl) (show B_X12_tide_0 _ _ _ _ from s_X12_tide_0 ⟨fun q => absurd q c1, fun _ => ⟨rfl, rfl, rfl⟩⟩))
theorem x_dealt {a b c : Int32} {I : am_I} {L : am_L} (h : x_Inv xc I L) : am_K M_X11_dealt 6 [.ref 0, .int a, .int b, .int c] I L (x_Q xc M_X12_dealt 6 [.ref 190, .int a, .int b, .int c]) := by
  obtain ⟨hR, hF, ⟨np, n, w, nt, nh, ng, ns, nl, nc, o1, o2, o3, o4, o5⟩, _⟩ := id h
  have hx : ∀ m, m < 60 → 1 ≤ I 39 m := fun m hm => (o3.2.2.2.2.1 m hm).1
  have tp : Int64.toInt32 (L 191 1176) = I 11 3 := x_i32 (xh_np hR)
  refine bm_intro (by decide +kernel) (Nat.le_of_ble_eq_true rfl) (show B_X11_dealt_0 _ _ _ _ _ _ from s_X11_dealt_0 ⟨fun c1 => ?_, fun c1 => ⟨fun c2 => ⟨fun c3 => ⟨fun c4 => ?_, fun c4 => ?_⟩, fun c3 => ?_⟩, fun c2 => ?_⟩⟩)
  · exact x_lf h (bm_intro (by decide +kernel) (Nat.le_of_ble_eq_true rfl) (show B_X12_dealt_0 _ _ _ _ _ _ from s_X12_dealt_0 (by rw [tp]; exact ⟨fun _ => ⟨rfl, rfl, rfl⟩, fun q => absurd q c1⟩)))
  · subst c4
    obtain ⟨k, hk, rfl⟩ := x_per o1 c1
    have hk12 : k < 12 := Nat.lt_of_lt_of_le hk o1.2.1
    refine ⟨_, am_qf_v (x_rise_k o1), fun I3 L4 e => ?_⟩
    obtain ⟨q1, q2⟩ := e
    rw [q1, q2]
    refine ⟨_, am_qf_l (k_X9_paidTo hk12), fun v I5 L6 e => ?_⟩
    obtain ⟨q1, q2, q3⟩ := e
    rw [q1, q2, q3]
    have h1 := x_keep h (f_lvl_sm (I := I) (L := L) (n := n) (np := np) (s := c.toInt64))
    have o1' : x_led I (f_lvl I L n np c.toInt64) np n w := by
      have e18 : f_lvl I L n np c.toInt64 18 = L 18 := funext fun x => f_lvl_sm.2 18 x (by decide) (by decide) (by decide) (by decide) (by decide) (by decide)
      rw [x_led, e18]; exact o1
    obtain ⟨r, kr⟩ := x_pay_tide (L := L) h1.1 o1' (x_amt c3) hk
    have tp' : Int64.toInt32 (f_lvl I L n np c.toInt64 191 1176) = I 11 3 := x_i32 (xh_np h1.1)
    refine bm_intro (by decide +kernel) (Nat.le_of_ble_eq_true rfl) (show B_X12_dealt_0 _ _ _ _ _ _ from s_X12_dealt_0 ?_)
    rw [tp']
    refine ⟨fun q => absurd c1 q, fun _ => ⟨fun q => absurd c2 q, fun _ => ⟨fun q => absurd c3 q, fun _ => ⟨_, am_qf_l kr, fun v I5 L6 e => ?_⟩⟩⟩⟩
    obtain ⟨q1, q2, q3⟩ := e
    rw [q1, q2, q3]
    exact ⟨rfl, x_keep h1 am_t2_sm⟩
  · obtain ⟨k, hk, rfl⟩ := x_per o1 c1
    have hk12 : k < 12 := Nat.lt_of_lt_of_le hk o1.2.1
    have hw60 := o1.2.2.2.2.2.1
    refine ⟨_, am_qf_l (k_X0_dealtTo o1.2.2.1 o1.2.2.2.1 o1.1 o1.2.1 (by rw [o1.2.2.2.2.1]; exact am_vI hw60 (by decide)) (xt_hmf o1) (am_vI hk12 (by decide))), fun v I5 L6 e => ?_⟩
    obtain ⟨q1, q2, q3⟩ := e
    rw [q1, q2, q3, x_deal_eq hR o1 hx hk12]
    refine x_lf h (bm_intro (by decide +kernel) (Nat.le_of_ble_eq_true rfl) (show B_X12_dealt_0 _ _ _ _ _ _ from s_X12_dealt_0 ?_))
    rw [tp]
    refine ⟨fun q => absurd c1 q, fun _ => ⟨fun q => absurd c2 q, fun _ => ⟨fun q => absurd c3 q, fun _ => ⟨_, am_qf_l (k_X12_dealtTo (xt_n hR o1) o1.2.2.2.1 (xt_np hR o1) o1.2.1 hk12 (xt_w hR o1) hw60 (xt_hm hR o1 o3) c4), fun v I5 L6 e => ?_⟩⟩⟩⟩
    obtain ⟨q1, q2, q3⟩ := e
    rw [q1, q2, q3]
    exact ⟨rfl, rfl, rfl⟩
  · exact x_lf h (bm_intro (by decide +kernel) (Nat.le_of_ble_eq_true rfl) (show B_X12_dealt_0 _ _ _ _ _ _ from s_X12_dealt_0 (by rw [tp]; exact ⟨fun q => absurd c1 q, fun _ => ⟨fun q => absurd c2 q, fun _ => ⟨fun _ => ⟨rfl, rfl, rfl⟩, fun q => absurd q c3⟩⟩⟩)))
  · exact x_lf h (bm_intro (by decide +kernel) (Nat.le_of_ble_eq_true rfl) (show B_X12_dealt_0 _ _ _ _ _ _ from s_X12_dealt_0 (by rw [tp]; exact ⟨fun q => absurd c1 q, fun _ => ⟨fun _ => ⟨rfl, rfl, rfl⟩, fun q => absurd q c2⟩⟩)))
def f_mvs (d : Nat → Int64) (a : Int32) (k : Nat) (acc : Int32) : Int32 := if a = 0 then (if d k ≤ 0 then acc else acc ||| (1 <<< (nI k &&& 31))) else (if 0 ≤ d k then acc else acc ||| (1 <<< (nI k &&& 31)))
theorem x_moved {a b : Int32} {I : am_I} {L : am_L} (h : x_Inv xc I L) : am_K M_X11_moved 6 [.ref 0, .int a, .int b] I L (x_Q xc M_X12_moved 6 [.ref 190, .int a, .int b]) := by
  obtain ⟨hR, hF, ⟨np, n, w, nt, nh, ng, ns, nl, nc, o1, o2, o3, o4, o5⟩, _⟩ := id h
  have hx : ∀ m, m < 60 → 1 ≤ I 39 m := fun m hm => (o3.2.2.2.2.1 m hm).1
  have hw60 := o1.2.2.2.2.2.1
  have hp12 := o1.2.1
  refine bm_intro (by decide +kernel) (Nat.le_of_ble_eq_true rfl) (show B_X11_moved_0 _ _ _ _ _ from s_X11_moved_0 ⟨fun c1 => ?_, fun c1 => ⟨fun c2 => ?_, fun c2 => ?_⟩⟩)
  · exact x_lf h (bm_intro (by decide +kernel) (Nat.le_of_ble_eq_true rfl) (show B_X12_moved_0 _ _ _ _ _ from s_X12_moved_0 ⟨fun _ => ⟨rfl, rfl, rfl⟩, fun q => absurd q c1⟩))
  · refine ⟨_, am_qf_v (x_rise_k o1), fun I3 L4 e => ?_⟩
    obtain ⟨q1, q2⟩ := e
    rw [q1, q2]
    have h1 := x_keep h (f_lvl_sm (I := I) (L := L) (n := n) (np := np) (s := a.toInt64))
    have led : ∀ N, x_sm I (f_lvl I L n np a.toInt64) I N → x_led I N np n w := fun N hN => by
      have e18 : N 18 = L 18 := funext fun x => (hN.2 18 x (by decide) (by decide) (by decide) (by decide) (by decide) (by decide)).trans (f_lvl_sm.2 18 x (by decide) (by decide) (by decide) (by decide) (by decide) (by decide))
      rw [x_led, e18]; exact o1
    have l0 := led _ x_sm_rf
    generalize hD : (fun k => f_paid (f_lvl I L n np a.toInt64) k - f_deal I (f_lvl I L n np a.toInt64) n np (nI k) 0 a) = d
    have hd : ∀ k, f_paid (f_lvl I L n np a.toInt64) k - f_deal I (f_lvl I L n np a.toInt64) n np (nI k) 0 a = d k := fun k => by rw [← hD]
    have ref : am_K M_X12_moved 6 [.ref 190, .int a, .int b] I (f_lvl I L n np a.toInt64) (fun r2 I'' L'' => r2 = some (.int (am_it (f_mvs d b) 0 np)) ∧ x_Inv xc I'' L'') := by
      generalize hV : am_it (f_mvs d b) 0 np = V
      have key : ∀ k, k ≤ np → ∀ N, x_sm I (f_lvl I L n np a.toInt64) I N → B_X12_moved_25 (fun r2 I'' L'' => r2 = some (.int V) ∧ x_Inv xc I'' L'') I N a b (am_it (f_mvs d b) 0 k) (nI k) := by
        refine am_down (fun N hN => ?_) (fun k hk ih N hN => ?_)
        · have hI := x_keep h1 hN
          exact s_X12_moved_25 ⟨fun _ => ⟨by rw [hV], hI⟩, fun q => absurd (by rw [xt_np hI.1 (led N hN)]; exact Int32.le_refl _) q⟩
        · have hI := x_keep h1 hN
          have lN := led N hN
          obtain ⟨r, kr⟩ := x_pay_tide (L := L) hI.1 lN (x_amt c1) hk
          refine s_X12_moved_25 ⟨fun q => absurd q (by rw [xt_np hI.1 lN]; exact nI_ge hk (by omega)), fun _ => ⟨_, am_qf_l kr, fun v I5 L6 e => ?_⟩⟩
          obtain ⟨q1, q2, q3⟩ := e
          rw [q1, q2, q3]
          have hN2 : x_sm I (f_lvl I L n np a.toInt64) I (am_t2 N r.1 r.2) := x_sm_tr hN am_t2_sm
          have hI2 := x_keep h1 hN2
          have lN2 := led _ hN2
          refine ⟨_, am_qf_l (k_X12_dealtTo (xt_n hI2.1 lN2) o1.2.2.2.1 (xt_np hI2.1 lN2) o1.2.1 (show k < 12 by omega) (xt_w hI2.1 lN2) hw60 (xt_hm hI2.1 lN2 o3) (by decide)), fun v I5 L6 e => ?_⟩
          obtain ⟨q1, q2, q3⟩ := e
          rw [q1, q2, q3]
          have ed : g_dl (am_t2 N r.1 r.2) n k 0 a.toInt64 (am_sum (fun q => g_cnt (am_t2 N r.1 r.2) n q 0) np) = f_deal I (f_lvl I L n np a.toInt64) n np (nI k) 0 a := by
            have fd : ∀ N N' : am_L, f_deal I N n np (nI k) 0 a = f_deal I N' n np (nI k) 0 a := fun _ _ => by simp only [f_deal, f_cnt, if_true]
            rw [← x_deal_eq hI2.1 lN2 hx (show k < 12 by omega)]
            exact fd _ _
          rw [ed, hd]
          have ih2 := ih _ hN2
          rw [am_it_s, f_mvs, nI_succ] at ih2
          refine ⟨fun c3 => ?_, fun c3 => ?_⟩
          · rw [if_neg c3] at ih2
            have hb1 : b = 1 := by
              obtain ⟨z1, z2⟩ := c2
              rw [← Int32.toInt_inj]
              rw [← Int32.toInt_inj] at c3
              rw [Int32.le_iff_toInt_le] at z1 z2
              have y0 : (0 : Int32).toInt = 0 := by decide
              have y1 : (1 : Int32).toInt = 1 := by decide
              omega
            refine ⟨fun q => absurd hb1 q, fun _ => ⟨fun c4 => ?_, fun c4 => ?_⟩⟩
            · rw [if_pos c4] at ih2; rw [Int32.or_zero]; exact ih2
            · rw [if_neg c4] at ih2; exact ih2
          · rw [if_pos c3] at ih2
            have hb1 : ¬ b = 1 := fun q => by rw [c3] at q; exact absurd q (by decide)
            refine ⟨fun c4 => ?_, fun c4 => ⟨fun _ => ?_, fun q => absurd q hb1⟩⟩
            · rw [if_neg (Int64.not_le.mpr c4)] at ih2; exact ih2
            · rw [if_pos (Int64.not_lt.mp c4)] at ih2; rw [Int32.or_zero]; exact ih2
      exact bm_intro (by decide +kernel) (Nat.le_of_ble_eq_true rfl) (show B_X12_moved_0 _ _ _ _ _ from s_X12_moved_0 ⟨fun q => absurd c1 q, fun _ => ⟨fun _ => key 0 (Nat.zero_le _) _ x_sm_rf, fun q => absurd c2 q⟩⟩)
    have key : ∀ k, k ≤ np → B_X11_moved_42 (x_Q xc M_X12_moved 6 [.ref 190, .int a, .int b]) I (f_lvl I L n np a.toInt64) a b (am_it (f_mvs d b) 0 k) (nI k) := by
      refine am_down ?_ (fun k hk ih => ?_)
      · exact s_X11_moved_42 ⟨fun _ => ref, fun q => absurd (by rw [o1.1]; exact Int32.le_refl _) q⟩
      · refine s_X11_moved_42 ⟨fun q => absurd q (by rw [o1.1]; exact nI_ge hk (by omega)), fun _ => ⟨_, am_qf_l (k_X9_paidTo (show k < 12 by omega)), fun v I5 L6 e => ?_⟩⟩
        obtain ⟨q1, q2, q3⟩ := e
        rw [q1, q2, q3]
        refine ⟨_, am_qf_l (k_X0_dealtTo o1.2.2.1 o1.2.2.2.1 o1.1 o1.2.1 (by rw [o1.2.2.2.2.1]; exact am_vI hw60 (by decide)) (xt_hmf o1) (am_vI (show k < 12 by omega) (by decide))), fun v I5 L6 e => ?_⟩
        obtain ⟨q1, q2, q3⟩ := e
        rw [q1, q2, q3, hd]
        rw [am_it_s, f_mvs, nI_succ] at ih
        refine ⟨fun c3 => ⟨fun c4 => ?_, fun c4 => ?_⟩, fun c3 => ⟨fun c4 => ?_, fun c4 => ?_⟩⟩
        · rw [if_neg c3, if_pos c4] at ih; exact ih
        · rw [if_neg c3, if_neg c4] at ih; exact ih
        · rw [if_pos c3, if_pos c4] at ih; exact ih
        · rw [if_pos c3, if_neg c4] at ih; exact ih
    exact key 0 (Nat.zero_le _)
  · exact x_lf h (bm_intro (by decide +kernel) (Nat.le_of_ble_eq_true rfl) (show B_X12_moved_0 _ _ _ _ _ from s_X12_moved_0 ⟨fun q => absurd c1 q, fun _ => ⟨fun q => absurd q c2, fun _ => ⟨rfl, rfl, rfl⟩⟩⟩))
