/-! calls that only read, by program (gen/k78.py): falls, count, dealt, take, digest -/
variable {xc : Nat → Int32}
theorem x_i32s {a b : Int32} (ha : 0 ≤ a ∧ a ≤ 1000000) (hb : 0 ≤ b ∧ b ≤ 1000000) : (a - b).toInt64 = a.toInt64 - b.toInt64 := by
  have h1 := ha.1
  have h2 := ha.2
  have h3 := hb.1
  have h4 := hb.2
  rw [Int32.le_iff_toInt_le] at h1 h2 h3 h4
  have a0 : (0 : Int32).toInt = 0 := by decide
  have a1 : (1000000 : Int32).toInt = 1000000 := by decide
  apply Int64.toInt_inj.mp
  rw [Int32.toInt_toInt64, Int32.toInt_sub, Int64.toInt_sub, Int32.toInt_toInt64, Int32.toInt_toInt64]
  simp only [Int.bmod_def]
  omega
theorem i_spn_m {k : Nat} (hk : k < 12) : (((336 : Int32) + ((4 : Int32) * nI k)) + (3 : Int32) - (1 : Int32)).toNatClampNeg = 338 + 4 * k := by
  rw [show ((336 : Int32) + ((4 : Int32) * nI k)) + (3 : Int32) - (1 : Int32) = ((336 : Int32) + ((4 : Int32) * nI k)) + (2 : Int32) by rw [Int32.sub_eq_add_neg, Int32.add_assoc]; rfl]
  exact i_spn_2 hk
theorem v_spn_m {k : Nat} (hk : k < 12) : vp_in (((336 : Int32) + ((4 : Int32) * nI k)) + (3 : Int32) - (1 : Int32)) 1200 := by
  rw [show ((336 : Int32) + ((4 : Int32) * nI k)) + (3 : Int32) - (1 : Int32) = ((336 : Int32) + ((4 : Int32) * nI k)) + (2 : Int32) by rw [Int32.sub_eq_add_neg, Int32.add_assoc]; rfl]
  exact v_spn_2 hk
theorem x_find_s {c : Nat → Prop} [DecidablePred c] {k : Nat} (hk : k < 12) : am_find c (12 - k) k = if c k then nI k else am_find c (12 - (k + 1)) (k + 1) := by
  rw [show 12 - k = (12 - (k + 1)) + 1 by omega, am_find]
theorem k_gfalls0 {I : am_I} {L : am_L} (hR : x_R I L (L 191)) (ho : x_hou I) : B_X12_falls_25 (am_qf (some (.int (am_find (fun k => am_it (f_fa I) (L 11 11) (k + 1) < 0) 12 0))) I L) I L 0 (L 11 11) 0 := by
  have key : ∀ k, k ≤ 12 → B_X12_falls_25 (am_qf (some (.int (am_find (fun k => am_it (f_fa I) (L 11 11) (k + 1) < 0) (12 - k) k))) I L) I L 0 (am_it (f_fa I) (L 11 11) k) (nI k) := by
    refine am_down ?_ (fun k hk ih => ?_)
    · exact s_X12_falls_25 ⟨fun _ => ⟨rfl, rfl, rfl⟩, fun c1 => absurd (by decide) c1⟩
    · rw [x_find_s hk]
      have z := ho.2.2.2 k hk
      have e1 : am_it (f_fa I) (L 11 11) (k + 1) = am_it (f_fa I) (L 11 11) k + ((I 24 k).toInt64 - (I 27 k).toInt64) := by
        have : am_it (f_fa I) (L 11 11) (k + 1) = f_fa I k (am_it (f_fa I) (L 11 11) k) := rfl
        rw [this, f_fa, x_i32s z.1 z.2.2.2]
      refine s_X12_falls_25 ⟨fun c1 => absurd c1 (by rw [nI_12]; exact nI_ge hk (by omega)), fun _ => ?_⟩
      rw [Int32.add_zero, Int32.sub_zero, i_spn_0 hk, i_spn_3 hk, xh_spn_0 hR hk, xh_spn_3 hR hk, ← e1, ← nI_succ]
      refine ⟨v_spn_0 hk, v_spn_3 hk, fun c2 => ?_, fun c2 => ?_⟩
      · rw [if_neg (Int64.not_lt.mpr c2)]; exact ih
      · rw [if_pos (Int64.not_le.mp c2)]; exact ⟨rfl, rfl, rfl⟩
  exact key 0 (Nat.zero_le _)
theorem k_gfalls1 {I : am_I} {L : am_L} (hR : x_R I L (L 191)) (ho : x_hou I) : B_X12_falls_25 (am_qf (some (.int (am_find (fun k => am_it (f_fb I) (L 11 11) (k + 1) < 0) 12 0))) I L) I L 1 (L 11 11) 0 := by
  have key : ∀ k, k ≤ 12 → B_X12_falls_25 (am_qf (some (.int (am_find (fun k => am_it (f_fb I) (L 11 11) (k + 1) < 0) (12 - k) k))) I L) I L 1 (am_it (f_fb I) (L 11 11) k) (nI k) := by
    refine am_down ?_ (fun k hk ih => ?_)
    · exact s_X12_falls_25 ⟨fun _ => ⟨rfl, rfl, rfl⟩, fun c1 => absurd (by decide) c1⟩
    · rw [x_find_s hk]
      have z := ho.2.2.2 k hk
      have e1 : am_it (f_fb I) (L 11 11) (k + 1) = am_it (f_fb I) (L 11 11) k + ((I 25 k).toInt64 - (I 26 k).toInt64) := by
        have : am_it (f_fb I) (L 11 11) (k + 1) = f_fb I k (am_it (f_fb I) (L 11 11) k) := rfl
        rw [this, f_fb, x_i32s z.2.1 z.2.2.1]
      refine s_X12_falls_25 ⟨fun c1 => absurd c1 (by rw [nI_12]; exact nI_ge hk (by omega)), fun _ => ?_⟩
      rw [i_spn_1 hk, i_spn_m hk, xh_spn_1 hR hk, xh_spn_2 hR hk, ← e1, ← nI_succ]
      refine ⟨v_spn_1 hk, v_spn_m hk, fun c2 => ?_, fun c2 => ?_⟩
      · rw [if_neg (Int64.not_lt.mpr c2)]; exact ih
      · rw [if_pos (Int64.not_le.mp c2)]; exact ⟨rfl, rfl, rfl⟩
  exact key 0 (Nat.zero_le _)
theorem am_mx_nn (x : Int64) : 0 ≤ am_mx x := by
  rw [am_mx]
  split
  · exact Int64.le_refl _
  · rename_i h; exact Int64.not_lt.mp h
theorem x_cnt_nn {I : am_I} {L : am_L} {np n w : Nat} (o : x_led I L np n w) {p : Nat} (hp : p < 12) (v : Int32) : 0 ≤ f_cnt I L n (nI p) v := by
  rw [f_cnt]
  split
  · exact am_mx_nn _
  · split
    · rw [nI_clamp (by omega), Int64.le_iff_toInt_le]
      have a0 : (0 : Int64).toInt = 0 := by decide
      have := (o.2.2.2.2.2.2.2.2.1 p hp).1
      omega
    · exact am_mx_nn _
theorem x_call_eq {I : am_I} {L : am_L} {np n w : Nat} (hR : x_R I L (L 191)) (o : x_led I L np n w) (hx : ∀ m, m < 60 → 1 ≤ I 39 m) (v : Int32) : am_sum (fun q => f_cnt I L n (nI q) v) np = am_sum (fun q => g_cnt L n q v) np := am_sum_congr np (fun k hk => xs_cnt hR o hx (by have := o.2.1; omega))
theorem x_deal_eq {I : am_I} {L : am_L} {np n w p : Nat} (hR : x_R I L (L 191)) (o : x_led I L np n w) (hx : ∀ m, m < 60 → 1 ≤ I 39 m) (hp : p < 12) (v s : Int32) : f_deal I L n np (nI p) v s = g_dl L n p v s.toInt64 (am_sum (fun q => g_cnt L n q v) np) := by
  have hnn := x_cnt_nn o hp v
  rw [f_deal, g_dl, x_call_eq hR o hx v]
  rw [xs_cnt hR o hx hp] at hnn ⊢
  generalize g_cnt L n p v = c at *
  generalize am_sum (fun q => g_cnt L n q v) np = all
  by_cases h : all = 0
  · rw [if_pos h, if_neg (fun q => q h), am_mn]
    by_cases h0 : 0 < c
    · rw [if_pos h0]
    · rw [if_neg h0]
      have h1 := Int64.not_lt.mp h0
      apply Int64.toInt_inj.mp
      rw [Int64.le_iff_toInt_le] at h1 hnn
      omega
  · rw [if_neg h, if_pos h, am_mn]
    by_cases h1 : s.toInt64 * c / all < c
    · rw [if_pos h1, if_pos (Int64.le_of_lt h1)]
    · rw [if_neg h1]
      by_cases h2 : s.toInt64 * c / all ≤ c
      · rw [if_pos h2]
        have h3 := Int64.not_lt.mp h1
        apply Int64.toInt_inj.mp
        rw [Int64.le_iff_toInt_le] at h2 h3
        omega
      · rw [if_neg h2]
/-! take -/
theorem x_take_eq {I : am_I} {L : am_L} {np n w p : Nat} (hR : x_R I L (L 191)) (o : x_led I L np n w) (hp : p < 12) : f_take I n (nI p) = g_take L n p := by
  have hne : ¬ nI p = -1 := fun q => absurd (show nI p < 0 by rw [q]; decide) (nI_pos (by omega))
  have hg : (L 191 (1 + 3 * p) = 1) ↔ I 17 p = 1 := by
    rw [xh_per_1 hR hp]
    exact x_eq64 (y := 1)
  rw [f_take, g_take, nI_clamp (by omega), x_i32 (xh_now hR), x_i32 (xh_good hR), x_i32 (xh_bad hR)]
  by_cases h1 : I 17 p = 1
  · rw [if_pos h1, if_pos (hg.mpr h1), if_pos (hg.mpr h1), xs_out hR o hne, xs_out hR o hne, xs_in hR o hne, am_mn]
    show (if am_mx (g_out L (nI p) n - g_in L (nI p) n) < _ then _ else _) = _
    by_cases h2 : am_mx (g_out L (nI p) n - g_in L (nI p) n) < am_sum (g_went L (nI p) (I 11 8 - I 13 6) 59 1) n
    · rw [if_pos h2, if_neg (Int64.not_le.mpr h2)]; rfl
    · rw [if_neg h2, if_pos (Int64.not_lt.mp h2)]
  · rw [if_neg h1, if_neg (fun q => h1 (hg.mp q)), if_neg (fun q => h1 (hg.mp q)), xs_out hR o hne]
theorem x_with_eq {I : am_I} {L : am_L} {np n w p : Nat} (hR : x_R I L (L 191)) (o : x_led I L np n w) (A : Nat → Int64) (hp : p < np) : ∀ k, k ≤ np → p < k → am_it (g_tf L n) A k p = f_take I n (nI p) := by
  intro k
  induction k with
  | zero => intro _ h; exact absurd h (Nat.not_lt_zero _)
  | succ k ih =>
    intro hk h
    have e1 : am_it (g_tf L n) A (k + 1) = g_tf L n k (am_it (g_tf L n) A k) := rfl
    rw [e1, g_tf]
    by_cases hx : p = k
    · subst hx
      rw [am_f_eq, x_take_eq hR o (by have := o.2.1; omega)]
    · rw [am_f_ne _ _ hx]; exact ih (by omega) (by omega)
theorem x_lead_eq {I : am_I} {L : am_L} {np ng ns : Nat} (hR : x_R I L (L 191)) (o3 : x_cla I np ng ns) (hnp : np ≤ 12) {m g : Nat} (hg : g < ng) {M : am_L} {A : Nat → Int64} (h : ∀ p, p < np → M 47 p = A p) : ∀ p, p < np → f_leadm I m g M 47 p = g_gt L m g A p := by
  have hg30 : g < 30 := by have := o3.2.1; omega
  obtain ⟨x, y, hx, hy, e1, e2⟩ := o3.2.2.2.2.2.1 g hg
  intro p hp
  have hc : (L 191 (726 + 4 * g) = (nI m).toInt64) ↔ I 42 g = nI m := by rw [xh_gif_2 hR hg30]; exact x_eq64
  have ga : g_at L (724 + 4 * g) = x := by rw [g_at, xh_gif_0 hR hg30, am_l2i_id, e1, nI_clamp (by omega)]
  have gb : g_at L (725 + 4 * g) = y := by rw [g_at, xh_gif_1 hR hg30, am_l2i_id, e2, nI_clamp (by omega)]
  rw [f_leadm, g_gt]
  by_cases h1 : I 42 g = nI m
  · rw [if_pos h1, if_neg (fun q => q (hc.mpr h1)), f_lead, g_gx, ga, gb, xh_gif_3 hR hg30, e1, e2, nI_clamp (by omega), nI_clamp (by omega), h x hx]
    try dsimp only
    have eg : (if (I 43 g).toInt64 < A x then (I 43 g).toInt64 else A x) = (if A x ≤ (I 43 g).toInt64 then A x else (I 43 g).toInt64) := by
      by_cases q : A x ≤ (I 43 g).toInt64
      · rw [if_pos q, if_neg (Int64.not_lt.mpr q)]
      · rw [if_neg q, if_pos (Int64.not_le.mp q)]
    rw [eg]
    generalize (if A x ≤ (I 43 g).toInt64 then A x else (I 43 g).toInt64) = t
    by_cases hpy : p = y
    · subst hpy
      rw [am_u_eq, am_f_eq]
      by_cases hxy : p = x
      · subst hxy
        rw [am_u_eq, am_f_eq]
      · rw [am_u_ne _ (Or.inr hxy), am_f_ne _ _ hxy, h p hp]
    · rw [am_u_ne _ (Or.inr hpy), am_f_ne _ _ hpy]
      by_cases hxy : p = x
      · subst hxy
        rw [am_u_eq, am_f_eq]
      · rw [am_u_ne _ (Or.inr hxy), am_f_ne _ _ hxy, h p hp]
  · rw [if_neg h1, if_pos (fun q => h1 (hc.mp q))]
    exact h p hp
theorem x_leads_eq {I : am_I} {L : am_L} {np ng ns : Nat} (hR : x_R I L (L 191)) (o3 : x_cla I np ng ns) (hnp : np ≤ 12) {M : am_L} {A : Nat → Int64} (h : ∀ p, p < np → M 47 p = A p) : ∀ k p, p < np → am_it (f_leads I ng) M k 47 p = am_it (g_tm L ng) A k p := by
  intro k
  induction k with
  | zero => exact h
  | succ k ih =>
    have key : ∀ g, g ≤ ng → ∀ p, p < np → am_it (f_leadm I k) (am_it (f_leads I ng) M k) g 47 p = am_it (g_gt L k) (am_it (g_tm L ng) A k) g p := by
      intro g
      induction g with
      | zero => intro _; exact ih
      | succ g ihg =>
        intro hg
        exact x_lead_eq hR o3 hnp (by omega) (ihg (by omega))
    exact key ng (Nat.le_refl _)
theorem f_lead_sm {I J : am_I} {L M : am_L} {ng : Nat} (h : x_sm I L J M) : ∀ k, x_sm I L J (am_it (f_leads I ng) M k) := by
  have one : ∀ (m g : Nat) (K : am_L), x_sm I L J K → x_sm I L J (f_leadm I m g K) := by
    intro m g K hK
    rw [f_leadm]
    split
    · refine ⟨hK.1, fun a x h1 h2 h3 h4 h5 h6 => ?_⟩
      rw [f_lead]
      try dsimp only
      rw [am_u_ne _ (Or.inl h1), am_u_ne _ (Or.inl h1)]
      exact hK.2 a x h1 h2 h3 h4 h5 h6
    · exact hK
  intro k
  induction k with
  | zero => exact h
  | succ k ih =>
    have key : ∀ g, x_sm I L J (am_it (f_leadm I k) (am_it (f_leads I ng) M k) g) := by
      intro g
      induction g with
      | zero => exact ih
      | succ g ihg => exact one _ _ _ ihg
    exact key ng
/-! digest -/
theorem am_it3 {L : am_L} {e : Nat} {h : Int64} : ∀ m, am_it (g_su L e) h (3 * m) = am_it (fun k x => 31 * (31 * (31 * x + L 191 (e + 3 * k)) + L 191 (e + 3 * k + 1)) + L 191 (e + 3 * k + 2)) h m := by
  intro m
  induction m with
  | zero => rfl
  | succ m ih =>
    show g_su L e (3 * m + 2) (g_su L e (3 * m + 1) (g_su L e (3 * m) (am_it (g_su L e) h (3 * m)))) = _
    rw [ih]; rfl
theorem am_it4 {L : am_L} {e : Nat} {h : Int64} : ∀ m, am_it (g_su L e) h (4 * m) = am_it (fun k x => 31 * (31 * (31 * (31 * x + L 191 (e + 4 * k)) + L 191 (e + 4 * k + 1)) + L 191 (e + 4 * k + 2)) + L 191 (e + 4 * k + 3)) h m := by
  intro m
  induction m with
  | zero => rfl
  | succ m ih =>
    show g_su L e (4 * m + 3) (g_su L e (4 * m + 2) (g_su L e (4 * m + 1) (g_su L e (4 * m) (am_it (g_su L e) h (4 * m))))) = _
    rw [ih]; rfl
theorem am_it2 {L : am_L} {e : Nat} {h : Int64} : ∀ m, am_it (g_su L e) h (2 * m) = am_it (fun k x => 31 * (31 * x + L 191 (e + 2 * k)) + L 191 (e + 2 * k + 1)) h m := by
  intro m
  induction m with
  | zero => rfl
  | succ m ih =>
    show g_su L e (2 * m + 1) (g_su L e (2 * m) (am_it (g_su L e) h (2 * m))) = _
    rw [ih]; rfl
def f_dg1 (I : am_I) (nt k : Nat) (h : Int64) : Int64 := 31 * h + (f_many I nt (nI k)).toInt64
def f_dg2 (I : am_I) (L : am_L) (np n k : Nat) (h : Int64) : Int64 := 31 * h + f_acc I L np n (nI k)
def f_dgA (I : am_I) (L : am_L) (np n nt ng : Nat) : Int64 := am_it (f_gi I) (am_it (f_dt I) (am_it (f_dr I) (am_it (f_dp I L) (am_it (f_dg2 I L np n) (am_it (f_dg1 I nt) 383 11) 6) np) n) nt) ng
def f_dgB (I : am_I) (h : Int64) (nl nh ns nc : Nat) : Int64 := am_it (f_ru I) (am_it (f_su I) (am_it (f_dh I) (am_it (f_le I) (am_it (f_hos I) h 8) nl) nh) ns) nc
def f_dig (I : am_I) (L : am_L) (np n nt ng nl nh ns nc nr : Nat) : Int64 := 31 * (31 * am_it (f_ds I) (f_dgB I (f_dgA I L np n nt ng) nl nh ns nc) nr + L 7 0) + L 7 1
theorem x_dig_eq {I : am_I} {L : am_L} {np n w nt nh ng ns nl nc nr : Nat} (hR : x_R I L (L 191)) (hF : x_fra L) (o1 : x_led I L np n w) (o2 : x_pap I nt nh) (o3 : x_cla I np ng ns) (o5 : x_let I nl nc) (r0 : nr ≤ 100) (r1 : I 2 4 = nI nr) (r2 : I 190 20 = nI nr) (r3 : ∀ r, r < nr → I 202 (3 * r) = I 3 r ∧ I 202 (3 * r + 1) = I 4 r ∧ I 202 (3 * r + 2) = I 5 r) : f_dig I L np n nt ng nl nh ns nc nr = g_dig I L np n nt ng nl nh ns nc nr := by
  have b1 := o1.2.1
  have b2 := o1.2.2.2.1
  have b3 := o2.2.1
  have b4 := o2.2.2.2.1
  have b5 := o3.2.1
  have b6 := o3.2.2.2.1
  have b7 := o5.2.1
  have b8 := o5.2.2.2.1
  have e1 : am_it (f_dg2 I L np n) (am_it (f_dg1 I nt) 383 11) 6 = am_it (g_dg2 L np n) (am_it (g_dg1 I L nt) 383 11) 6 := by
    rw [am_it_congr (f := f_dg1 I nt) (g := g_dg1 I L nt) 11 (fun k _ x => by rw [f_dg1, g_dg1, x_many_eq hR o2 r1 r2])]
    exact am_it_congr 6 (fun k _ x => by rw [f_dg2, g_dg2, x_acc_eq hR o1])
  have eA : f_dgA I L np n nt ng = g_dgA I L np n nt ng := by
    rw [f_dgA, g_dgA, e1, am_it3, am_it3, am_it4, am_it4]
    rw [am_it_congr (f := f_dp I L) (g := fun k x => 31 * (31 * (31 * x + L 191 (0 + 3 * k)) + L 191 (0 + 3 * k + 1)) + L 191 (0 + 3 * k + 2)) np (fun k hk x => by
      rw [f_dp, show 0 + 3 * k + 1 = 1 + 3 * k by omega, show 0 + 3 * k + 2 = 2 + 3 * k by omega, xh_per_0 hR (by omega), xh_per_1 hR (by omega), xh_per_2 hR (by omega)])]
    rw [am_it_congr (f := f_dr I) (g := fun k x => 31 * (31 * (31 * x + L 191 (36 + 3 * k)) + L 191 (36 + 3 * k + 1)) + L 191 (36 + 3 * k + 2)) n (fun k hk x => by
      rw [f_dr, show 36 + 3 * k + 1 = 37 + 3 * k by omega, show 36 + 3 * k + 2 = 38 + 3 * k by omega, xh_row_0 hR (by omega), xh_row_1 hR (by omega), xh_row_2 hR (by omega)])]
    rw [am_it_congr (f := f_dt I) (g := fun k x => 31 * (31 * (31 * (31 * x + L 191 (504 + 4 * k)) + L 191 (504 + 4 * k + 1)) + L 191 (504 + 4 * k + 2)) + L 191 (504 + 4 * k + 3)) nt (fun k hk x => by
      rw [f_dt, show 504 + 4 * k + 1 = 505 + 4 * k by omega, show 504 + 4 * k + 2 = 506 + 4 * k by omega, show 504 + 4 * k + 3 = 507 + 4 * k by omega, xh_trd_0 hR (by omega), xh_trd_1 hR (by omega), xh_trd_2 hR (by omega), xh_trd_3 hR (by omega)])]
    exact am_it_congr ng (fun k hk x => by
      rw [f_gi, show 724 + 4 * k + 1 = 725 + 4 * k by omega, show 724 + 4 * k + 2 = 726 + 4 * k by omega, show 724 + 4 * k + 3 = 727 + 4 * k by omega, xh_gif_0 hR (by omega), xh_gif_1 hR (by omega), xh_gif_2 hR (by omega), xh_gif_3 hR (by omega)])
  have eB : ∀ h, f_dgB I h nl nh ns nc = g_dgB L h nl nh ns nc := by
    intro h
    rw [f_dgB, g_dgB, am_it3, am_it2, am_it3]
    rw [am_it_congr (f := f_hos I) (g := g_dg3 L) 8 (fun k hk x => by
      rw [f_hos, g_dg3, xh_coi hR hk]
      exact am_it_congr 8 (fun j hj y => by rw [f_ho, g_su, show 852 + 8 * k + j = 852 + (k * 8 + j) by omega, xh_due hR (by omega)]))]
    rw [am_it_congr (f := f_le I) (g := fun k x => 31 * (31 * (31 * x + L 191 (916 + 3 * k)) + L 191 (916 + 3 * k + 1)) + L 191 (916 + 3 * k + 2)) nl (fun k hk x => by
      rw [f_le, show 916 + 3 * k + 1 = 917 + 3 * k by omega, show 916 + 3 * k + 2 = 918 + 3 * k by omega, xh_let_0 hR (by omega), xh_let_1 hR (by omega), xh_let_2 hR (by omega)])]
    rw [am_it_congr (f := f_dh I) (g := fun k x => 31 * (31 * x + L 191 (1016 + 2 * k)) + L 191 (1016 + 2 * k + 1)) nh (fun k hk x => by
      rw [f_dh, show 1016 + 2 * k + 1 = 1017 + 2 * k by omega, xh_han_0 hR (by omega), xh_han_1 hR (by omega)])]
    rw [am_it_congr (f := f_su I) (g := fun k x => 31 * (31 * (31 * x + L 191 (1032 + 3 * k)) + L 191 (1032 + 3 * k + 1)) + L 191 (1032 + 3 * k + 2)) ns (fun k hk x => by
      rw [f_su, show 1032 + 3 * k + 1 = 1033 + 3 * k by omega, show 1032 + 3 * k + 2 = 1034 + 3 * k by omega, xh_sui_0 hR (by omega), xh_sui_1 hR (by omega), xh_sui_2 hR (by omega)])]
    exact am_it_congr nc (fun k hk x => by rw [f_ru, g_su, xh_rul hR (by omega)])
  rw [f_dig, g_dig, eB, eA, am_it_congr (f := f_ds I) (g := g_dg4 I) nr (fun k hk x => by rw [f_ds, g_dg4, (r3 k hk).2.2])]
  rw [← hF.1, ← hF.2]
  rfl
theorem k_X11_digest {np n nt ng nl nh ns nc nr : Nat} {I : am_I} {L : am_L} (hp : I 11 3 = nI np) (hp1 : np ≤ 12) (hn : I 11 7 = nI n) (hn1 : n ≤ 100) (ht : I 12 7 = nI nt) (ht1 : nt ≤ 40) (hd : ∀ t, t < nt → vp_in (I 31 t) 30) (hg : I 13 5 = nI ng) (hg1 : ng ≤ 30) (hl : I 15 3 = nI nl) (hl1 : nl ≤ 20) (hh : I 12 10 = nI nh) (hh1 : nh ≤ 8) (hs : I 13 11 = nI ns) (hs1 : ns ≤ 8) (hc : I 15 5 = nI nc) (hc1 : nc ≤ 40) (hr : I 2 4 = nI nr) (hr1 : nr ≤ 100) : am_K M_X11_digest 3 [.ref 0] I L (am_qf (some (.long (f_dig I L np n nt ng nl nh ns nc nr))) I L) := by
  generalize hQ : am_qf (some (.long (f_dig I L np n nt ng nl nh ns nc nr))) I L = Q
  have k2 : ∀ k, k ≤ 6 → B_X11_digest_33 Q I L (am_it (f_dg2 I L np n) (am_it (f_dg1 I nt) 383 11) k) (nI k) := by
    refine am_down ?_ (fun k hk ih => ?_)
    · refine s_X11_digest_33 ⟨fun _ => ⟨_, am_qf_l (k_X4_digested hn hn1 hp hp1), fun v I3 L4 e => ?_⟩, fun c => absurd (by decide) c⟩
      obtain ⟨q1, q2, q3⟩ := e
      rw [q1, q2, q3]
      refine ⟨_, am_qf_l (k_X6_digestedTrades ht ht1), fun v I3 L4 e => ?_⟩
      obtain ⟨q1, q2, q3⟩ := e
      rw [q1, q2, q3]
      refine ⟨_, am_qf_l (k_X0_digestedGifts hg hg1), fun v I3 L4 e => ?_⟩
      obtain ⟨q1, q2, q3⟩ := e
      rw [q1, q2, q3]
      refine ⟨_, am_qf_l k_X3_digested, fun v I3 L4 e => ?_⟩
      obtain ⟨q1, q2, q3⟩ := e
      rw [q1, q2, q3]
      refine ⟨_, am_qf_l (k_X5_digestedLetters hl hl1), fun v I3 L4 e => ?_⟩
      obtain ⟨q1, q2, q3⟩ := e
      rw [q1, q2, q3]
      refine ⟨_, am_qf_l (k_X6_digestedHands hh hh1), fun v I3 L4 e => ?_⟩
      obtain ⟨q1, q2, q3⟩ := e
      rw [q1, q2, q3]
      refine ⟨_, am_qf_l (k_X0_digestedSuits hs hs1), fun v I3 L4 e => ?_⟩
      obtain ⟨q1, q2, q3⟩ := e
      rw [q1, q2, q3]
      refine ⟨_, am_qf_l (k_X5_digestedRules hc hc1), fun v I3 L4 e => ?_⟩
      obtain ⟨q1, q2, q3⟩ := e
      rw [q1, q2, q3]
      refine ⟨_, am_qf_l (k_X8_digested hr hr1), fun v I3 L4 e => ?_⟩
      obtain ⟨q1, q2, q3⟩ := e
      rw [q1, q2, q3, ← hQ]
      exact ⟨rfl, rfl, rfl⟩
    · refine s_X11_digest_33 ⟨fun c => absurd c (nI_ge (b := 6) hk (by omega)), fun _ => ⟨_, am_qf_l (k_X11_account hn hn1 hp hp1), fun v I3 L4 e => ?_⟩⟩
      obtain ⟨q1, q2, q3⟩ := e
      rw [q1, q2, q3, ← nI_succ]
      exact ih
  have k1 : ∀ k, k ≤ 11 → B_X11_digest_6 Q I L (am_it (f_dg1 I nt) 383 k) (nI k) := by
    refine am_down ?_ (fun k hk ih => ?_)
    · exact s_X11_digest_6 ⟨fun _ => k2 0 (Nat.zero_le _), fun c => absurd (by decide) c⟩
    · refine s_X11_digest_6 ⟨fun c => absurd c (nI_ge (b := 11) hk (by omega)), fun _ => ⟨_, am_qf_i (k_X11_many ht ht1 hd), fun v I3 L4 e => ?_⟩⟩
      obtain ⟨q1, q2, q3⟩ := e
      rw [q1, q2, q3, ← nI_succ]
      exact ih
  exact bm_intro (by decide +kernel) (Nat.le_of_ble_eq_true rfl) (show B_X11_digest_0 _ _ _ from s_X11_digest_0 (k1 0 (Nat.zero_le _)))
theorem x_digest  {I : am_I} {L : am_L} (h : x_Inv xc I L) : am_K M_X11_digest 3 [.ref 0] I L (x_Q xc M_X12_digest 3 [.ref 190]) := by
  obtain ⟨hR, hF, ⟨np, n, w, nt, nh, ng, ns, nl, nc, o1, o2, o3, o4, o5⟩, hI, hr, _⟩ := id h
  obtain ⟨nr, r0, r1, r2, r3, r4, r5⟩ := hr
  exact x_rq h (k_X11_digest o1.1 o1.2.1 o1.2.2.1 o1.2.2.2.1 o2.1 o2.2.1 (xt_hdf o2) o3.1 o3.2.1 o5.1 o5.2.1 o2.2.2.1 o2.2.2.2.1 o3.2.2.1 o3.2.2.2.1 o5.2.2.1 o5.2.2.2.1 r1 r0) (k_X12_digest (xt_np hR o1) o1.2.1 (xt_n hR o1) o1.2.2.2.1 (xt_nt hR o2) o2.2.1 (xt_hd hR o2) (xt_ng hR o3) o3.2.1 (xt_nl hR o5) o5.2.1 (xt_nh hR o2) o2.2.2.2.1 (xt_ns hR o3) o3.2.2.2.1 (xt_nc hR o5) o5.2.2.2.1 r2 r0) (by rw [x_dig_eq hR hF o1 o2 o3 o5 r0 r1 r2 r3])
theorem x_falls {a : Int32} {I : am_I} {L : am_L} (h : x_Inv xc I L) : am_K M_X11_falls 1 [.ref 0, .int a] I L (x_Q xc M_X12_falls 1 [.ref 190, .int a]) := by
  obtain ⟨hR, hF, ⟨np, n, w, nt, nh, ng, ns, nl, nc, o1, o2, o3, o4, o5⟩, hI, hr, _⟩ := id h
  have t5 : L 191 1185 = L 11 11 := xh_acc hR
  by_cases c0 : a = 0
  · refine bm_intro (by decide +kernel) (Nat.le_of_ble_eq_true rfl) (show B_X11_falls_0 _ _ _ _ from s_X11_falls_0 ⟨fun _ => ⟨_, am_qf_i k_X4_firstBelowa, fun v I1 L1 e => ?_⟩, fun q => absurd c0 q⟩)
    obtain ⟨q1, q2, q3⟩ := e
    rw [q1, q2, q3]
    subst c0
    refine x_lf h (bm_intro (by decide +kernel) (Nat.le_of_ble_eq_true rfl) (show B_X12_falls_0 _ _ _ _ from s_X12_falls_0 (by rw [t5]; exact ⟨fun _ => (k_gfalls0 hR o4), fun q => absurd (show (0 : Int32) ≤ 0 ∧ (0 : Int32) ≤ 1 by decide) q⟩)))
  by_cases c1 : a = 1
  · refine bm_intro (by decide +kernel) (Nat.le_of_ble_eq_true rfl) (show B_X11_falls_0 _ _ _ _ from s_X11_falls_0 ⟨fun q => absurd q c0, fun _ => ⟨fun _ => ⟨_, am_qf_i k_X4_firstBelowb, fun v I1 L1 e => ?_⟩, fun q => absurd c1 q⟩⟩)
    obtain ⟨q1, q2, q3⟩ := e
    rw [q1, q2, q3]
    subst c1
    refine x_lf h (bm_intro (by decide +kernel) (Nat.le_of_ble_eq_true rfl) (show B_X12_falls_0 _ _ _ _ from s_X12_falls_0 (by rw [t5]; exact ⟨fun _ => (k_gfalls1 hR o4), fun q => absurd (show (0 : Int32) ≤ 1 ∧ (1 : Int32) ≤ 1 by decide) q⟩)))
  have hb : ¬ (0 ≤ a ∧ a ≤ 1) := by
    intro q
    obtain ⟨k, k1, k2⟩ := x_ix q.1 (show a ≤ nI 1 from q.2) (by decide)
    have : k = 0 ∨ k = 1 := by omega
    rcases this with e | e <;> subst e
    · exact c0 k2
    · exact c1 k2
  refine bm_intro (by decide +kernel) (Nat.le_of_ble_eq_true rfl) (show B_X11_falls_0 _ _ _ _ from s_X11_falls_0 ⟨fun q => absurd q c0, fun _ => ⟨fun q => absurd q c1, fun _ => x_lf h ?_⟩⟩)
  exact bm_intro (by decide +kernel) (Nat.le_of_ble_eq_true rfl) (show B_X12_falls_0 _ _ _ _ from s_X12_falls_0 ⟨fun q => absurd q hb, fun _ => ⟨rfl, rfl, rfl⟩⟩)
theorem x_count {a : Int32} {b : Int32} {I : am_I} {L : am_L} (h : x_Inv xc I L) : am_K M_X11_count 5 [.ref 0, .int a, .int b] I L (x_Q xc M_X12_count 3 [.ref 190, .int a, .int b]) := by
  obtain ⟨hR, hF, ⟨np, n, w, nt, nh, ng, ns, nl, nc, o1, o2, o3, o4, o5⟩, hI, hr, _⟩ := id h
  have t1 : Int64.toInt32 (L 191 1176) = I 11 3 := x_i32 (xh_np hR)
  have hx : ∀ m, m < 60 → 1 ≤ I 39 m := fun m hm => (o3.2.2.2.2.1 m hm).1
  by_cases c3 : 0 ≤ b ∧ b ≤ 2
  rotate_left
  · by_cases c1 : a = -1
    · exact bm_intro (by decide +kernel) (Nat.le_of_ble_eq_true rfl) (show B_X11_count_0 _ _ _ _ _ from s_X11_count_0 ⟨fun _ => ⟨fun q => absurd q c3, fun _ => x_lf h (bm_intro (by decide +kernel) (Nat.le_of_ble_eq_true rfl) (show B_X12_count_0 _ _ _ _ _ from s_X12_count_0 (by rw [t1]; exact ⟨fun _ => ⟨rfl, rfl, rfl⟩, fun q => absurd q c3⟩)))⟩, fun q => absurd c1 q⟩)
    · exact bm_intro (by decide +kernel) (Nat.le_of_ble_eq_true rfl) (show B_X11_count_0 _ _ _ _ _ from s_X11_count_0 ⟨fun q => absurd q c1, fun _ => ⟨fun _ => ⟨fun q => absurd q c3, fun _ => x_lf h (bm_intro (by decide +kernel) (Nat.le_of_ble_eq_true rfl) (show B_X12_count_0 _ _ _ _ _ from s_X12_count_0 (by rw [t1]; exact ⟨fun _ => ⟨rfl, rfl, rfl⟩, fun q => absurd q c3⟩)))⟩, fun _ => x_lf h (bm_intro (by decide +kernel) (Nat.le_of_ble_eq_true rfl) (show B_X12_count_0 _ _ _ _ _ from s_X12_count_0 (by rw [t1]; exact ⟨fun _ => ⟨rfl, rfl, rfl⟩, fun q => absurd q c3⟩)))⟩⟩)
  by_cases c1 : a = -1
  · refine bm_intro (by decide +kernel) (Nat.le_of_ble_eq_true rfl) (show B_X11_count_0 _ _ _ _ _ from s_X11_count_0 ⟨fun _ => ⟨fun _ => ⟨fun q => absurd c1 q, fun _ => ⟨_, am_qf_l (k_X0_countOfAll o1.2.2.1 o1.2.2.2.1 o1.1 o1.2.1 (by rw [o1.2.2.2.2.1]; exact am_vI o1.2.2.2.2.2.1 (by decide)) (xt_hmf o1)), fun v I1 L1 e => ?_⟩⟩, fun q => absurd c3 q⟩, fun q => absurd c1 q⟩)
    obtain ⟨q1, q2, q3⟩ := e
    rw [q1, q2, q3, x_call_eq hR o1 hx]
    refine x_lf h (bm_intro (by decide +kernel) (Nat.le_of_ble_eq_true rfl) (show B_X12_count_0 _ _ _ _ _ from s_X12_count_0 (by rw [t1]; exact ⟨fun q => absurd c3 q, fun _ => ⟨fun _ => ⟨fun q => absurd c1 q, fun _ => ⟨_, am_qf_l (k_X12_allCounts (xt_n hR o1) o1.2.2.2.1 (xt_np hR o1) o1.2.1 (xt_w hR o1) o1.2.2.2.2.2.1 (xt_hm hR o1 o3)), fun v I1 L1 e => by obtain ⟨q1, q2, q3⟩ := e; rw [q1, q2, q3]; exact ⟨rfl, rfl, rfl⟩⟩⟩, fun q => absurd c1 q⟩⟩)))
  by_cases c2 : 0 ≤ a ∧ a ≤ I 11 3 - 1
  rotate_left
  · exact bm_intro (by decide +kernel) (Nat.le_of_ble_eq_true rfl) (show B_X11_count_0 _ _ _ _ _ from s_X11_count_0 ⟨fun q => absurd q c1, fun _ => ⟨fun q => absurd q c2, fun _ => x_lf h (bm_intro (by decide +kernel) (Nat.le_of_ble_eq_true rfl) (show B_X12_count_0 _ _ _ _ _ from s_X12_count_0 (by rw [t1]; exact ⟨fun q => absurd c3 q, fun _ => ⟨fun q => absurd q c1, fun _ => ⟨fun q => absurd q c2, fun _ => ⟨rfl, rfl, rfl⟩⟩⟩⟩)))⟩⟩)
  obtain ⟨k, hkp, e0⟩ := x_per o1 c2
  subst e0
  have hk : k < 12 := Nat.lt_of_lt_of_le hkp o1.2.1
  refine bm_intro (by decide +kernel) (Nat.le_of_ble_eq_true rfl) (show B_X11_count_0 _ _ _ _ _ from s_X11_count_0 ⟨fun q => absurd q c1, fun _ => ⟨fun _ => ⟨fun _ => ⟨fun _ => ⟨_, am_qf_l (k_X0_countOf o1.2.2.1 o1.2.2.2.1 (by rw [o1.2.2.2.2.1]; exact am_vI o1.2.2.2.2.2.1 (by decide)) (xt_hmf o1) (am_vI hk (by decide))), fun v I1 L1 e => ?_⟩, fun q => absurd q c1⟩, fun q => absurd c3 q⟩, fun q => absurd c2 q⟩⟩)
  obtain ⟨q1, q2, q3⟩ := e
  rw [q1, q2, q3, xs_cnt hR o1 hx hk]
  refine x_lf h (bm_intro (by decide +kernel) (Nat.le_of_ble_eq_true rfl) (show B_X12_count_0 _ _ _ _ _ from s_X12_count_0 (by rw [t1]; exact ⟨fun q => absurd c3 q, fun _ => ⟨fun q => absurd q c1, fun _ => ⟨fun _ => ⟨fun _ => ⟨_, am_qf_l (k_X12_countOf (xt_n hR o1) o1.2.2.2.1 hk (xt_w hR o1) o1.2.2.2.2.2.1 (xt_hm hR o1 o3)), fun v I1 L1 e => by obtain ⟨q1, q2, q3⟩ := e; rw [q1, q2, q3]; exact ⟨rfl, rfl, rfl⟩⟩, fun q => absurd q c1⟩, fun q => absurd c2 q⟩⟩⟩)))
theorem x_take {a : Int32} {b : Int32} {I : am_I} {L : am_L} (h : x_Inv xc I L) : am_K M_X11_take 4 [.ref 0, .int a, .int b] I L (x_Q xc M_X12_take 4 [.ref 190, .int a, .int b]) := by
  obtain ⟨hR, hF, ⟨np, n, w, nt, nh, ng, ns, nl, nc, o1, o2, o3, o4, o5⟩, hI, hr, _⟩ := id h
  have t1 : Int64.toInt32 (L 191 1176) = I 11 3 := x_i32 (xh_np hR)
  by_cases c1 : 0 ≤ a ∧ a ≤ I 11 3 - 1
  rotate_left
  · exact bm_intro (by decide +kernel) (Nat.le_of_ble_eq_true rfl) (show B_X11_take_0 _ _ _ _ _ from s_X11_take_0 ⟨fun _ => x_lf h (bm_intro (by decide +kernel) (Nat.le_of_ble_eq_true rfl) (show B_X12_take_0 _ _ _ _ _ from s_X12_take_0 (by rw [t1]; exact ⟨fun _ => ⟨rfl, rfl, rfl⟩, fun q => absurd q c1⟩))), fun q => absurd q c1⟩)
  by_cases c2 : 0 ≤ b ∧ b ≤ 1
  rotate_left
  · exact bm_intro (by decide +kernel) (Nat.le_of_ble_eq_true rfl) (show B_X11_take_0 _ _ _ _ _ from s_X11_take_0 ⟨fun q => absurd c1 q, fun _ => ⟨fun q => absurd q c2, fun _ => x_lf h (bm_intro (by decide +kernel) (Nat.le_of_ble_eq_true rfl) (show B_X12_take_0 _ _ _ _ _ from s_X12_take_0 (by rw [t1]; exact ⟨fun q => absurd c1 q, fun _ => ⟨fun q => absurd q c2, fun _ => ⟨rfl, rfl, rfl⟩⟩⟩)))⟩⟩)
  obtain ⟨k, hkp, e0⟩ := x_per o1 c1
  subst e0
  have hk : k < 12 := Nat.lt_of_lt_of_le hkp o1.2.1
  have gv : ∀ g, g < ng → ∃ x y, x < np ∧ y < np ∧ I 40 g = nI x ∧ I 41 g = nI y := fun g hg => o3.2.2.2.2.2.1 g hg
  have kg := fun (M : am_L) (J : am_I) (hM : M 191 = L 191) => k_X12_take (p := k) (w := b) (I := J) (L := M) (by rw [hM]; exact xt_n hR o1) o1.2.2.2.1 (by rw [hM]; exact xt_np hR o1) o1.2.1 hkp (by rw [hM]; exact xt_ng hR o3) o3.2.1 (fun g hg => by
    obtain ⟨x, y, hx, hy, e1, e2⟩ := gv g hg
    have h30 : g < 30 := by have := o3.2.1; omega
    have := o1.2.1
    rw [hM, xh_gif_0 hR h30, xh_gif_1 hR h30, am_l2i_id, am_l2i_id, e1, e2]
    exact ⟨am_vI (by omega) (by decide), am_vI (by omega) (by decide)⟩) c2
  have sm2 : ∀ (M : am_L) (J : am_I) (A : Nat → Int64), x_sm J M J (am_ro M 194 A) := fun M J A => ⟨fun _ _ _ _ _ _ _ _ => rfl, fun a x h1 h2 h3 h4 h5 h6 => am_ro_ne' (by omega)⟩
  by_cases cb : b = 0
  · refine bm_intro (by decide +kernel) (Nat.le_of_ble_eq_true rfl) (show B_X11_take_0 _ _ _ _ _ from s_X11_take_0 ⟨fun q => absurd c1 q, fun _ => ⟨fun _ => ⟨fun q => absurd cb q, fun _ => ⟨_, am_qf_l (k_X0_toTakeFrom o1.2.2.1 o1.2.2.2.1 (am_vI hk (by decide))), fun v I1 L1 e => ?_⟩⟩, fun q => absurd c2 q⟩⟩)
    obtain ⟨q1, q2, q3⟩ := e
    rw [q1, q2, q3]
    have e3 : g_tk L n np ng b k = f_take I n (nI k) := by
      rw [g_tk, if_neg (by rw [cb]; decide)]
      exact x_with_eq hR o1 _ hkp np (Nat.le_refl _) hkp
    refine am_mono (kg L I rfl) (fun r I2 L2 q => ?_)
    obtain ⟨q1, q2, q3⟩ := q
    rw [q1, q2, q3, e3]
    exact ⟨rfl, x_keep h (sm2 L I _)⟩
  have cb1 : b = 1 := by
    obtain ⟨j, j1, j2⟩ := x_ix c2.1 (show b ≤ nI 1 from c2.2) (by decide)
    have : j = 0 ∨ j = 1 := by omega
    rcases this with e | e <;> subst e
    · exact absurd j2 cb
    · exact j2
  refine bm_intro (by decide +kernel) (Nat.le_of_ble_eq_true rfl) (show B_X11_take_0 _ _ _ _ _ from s_X11_take_0 ⟨fun q => absurd c1 q, fun _ => ⟨fun _ => ⟨fun _ => ⟨_, am_qf_l (k_X0_takenFrom o1.2.2.1 o1.2.2.2.1 o1.1 o1.2.1 o3.1 o3.2.1 (fun g hg => ?_) (am_vI hk (by decide))), fun v I1 L1 e => ?_⟩, fun q => absurd q cb⟩, fun q => absurd c2 q⟩⟩)
  · obtain ⟨x, y, hx, hy, e1, e2⟩ := gv g hg
    have := o1.2.1
    rw [e1, e2]
    exact ⟨am_vI (by omega) (by decide), am_vI (by omega) (by decide)⟩
  obtain ⟨q1, q2, q3⟩ := e
  rw [q1, q2, q3, nI_clamp (by omega)]
  have w0 : ∀ p, p < np → f_with I L n np 47 p = am_it (g_tf L n) (L 194) np p := fun p hp => by
    rw [x_with_eq hR o1 _ hp np (Nat.le_refl _) hp, f_with, if_pos rfl, if_pos hp]
  have e3 : g_tk L n np ng b k = am_it (f_leads I ng) (f_with I L n np) 60 47 k := by
    rw [g_tk, if_pos cb1]
    exact (x_leads_eq hR o3 o1.2.1 w0 60 k hkp).symm
  have s1 : x_sm I L I (am_it (f_leads I ng) (f_with I L n np) 60) := f_lead_sm (M := f_with I L n np) ⟨fun _ _ _ _ _ _ _ _ => rfl, fun a x h1 h2 h3 h4 h5 h6 => by rw [f_with, if_neg h1]⟩ 60
  have e191 : am_it (f_leads I ng) (f_with I L n np) 60 191 = L 191 := funext fun x => s1.2 191 x (by decide) (by decide) (by decide) (by decide) (by decide) (by decide)
  generalize hM : am_it (f_leads I ng) (f_with I L n np) 60 = M at *
  have e194 : M 194 = L 194 := by
    rw [← hM]
    have one : ∀ (m g : Nat) (K : am_L), f_leadm I m g K 194 = K 194 := by
      intro m g K
      rw [f_leadm]
      split
      · funext x
        rw [f_lead]
        try dsimp only
        rw [am_u_ne _ (Or.inl (by decide)), am_u_ne _ (Or.inl (by decide))]
      · rfl
    have two : ∀ (m g : Nat) (K : am_L), am_it (f_leadm I m) K g 194 = K 194 := by
      intro m g K
      induction g with
      | zero => rfl
      | succ g ih => exact (one _ _ _).trans ih
    have three : ∀ (m : Nat) (K : am_L), am_it (f_leads I ng) K m 194 = K 194 := by
      intro m K
      induction m with
      | zero => rfl
      | succ m ih => exact (two _ _ _).trans ih
    rw [three]
    funext x
    rw [f_with, if_neg (by decide)]
  have e4 : g_tk M n np ng b = g_tk L n np ng b := by
    have a1 : g_tf M = g_tf L := by funext n' k' A; rw [g_tf, g_tf, g_take_c e191]
    have a2 : g_tm M = g_tm L := by funext n' k' A; unfold g_tm g_gt g_gx g_at; simp only [e191]
    unfold g_tk
    rw [a1, a2, e194]
  have k2 := kg M I e191
  rw [e4] at k2
  refine am_mono k2 (fun r I2 L2 q => ?_)
  obtain ⟨q1, q2, q3⟩ := q
  rw [q1, q2, q3, e3]
  exact ⟨rfl, x_keep h (x_sm_tr s1 (sm2 M I _))⟩
