/-! sums on both sides -/
theorem x_eq64 {x y : Int32} : x.toInt64 = y.toInt64 ↔ x = y := ⟨fun h => by have := congrArg Int64.toInt32 h; rw [am_l2i_id, am_l2i_id] at this; exact this, fun h => by rw [h]⟩
theorem x_z64 : (0 : Int64) = (0 : Int32).toInt64 := by decide
theorem x_lt0 {x : Int32} : x.toInt64 < 0 ↔ x < 0 := by rw [x_z64, am_lt64]
theorem x_e0 {x : Int32} : x.toInt64 = 0 ↔ x = 0 := by rw [x_z64, x_eq64]
theorem x_tri (x : Int32) : (x < 0 ∧ x ≤ 0 ∧ ¬ 0 ≤ x ∧ ¬ x = 0) ∨ x = 0 ∨ (¬ x < 0 ∧ ¬ x ≤ 0 ∧ 0 ≤ x ∧ ¬ x = 0) := by
  simp only [Int32.lt_iff_toInt_lt, Int32.le_iff_toInt_le, ← Int32.toInt_inj]
  have a0 : (0 : Int32).toInt = 0 := by decide
  omega
theorem am_sum_sub {f g : Nat → Int64} : ∀ n, am_sum (fun k => f k - g k) n = am_sum f n - am_sum g n := by
  intro n
  induction n with
  | zero => show (0 : Int64) = 0 - 0; decide
  | succ n ih =>
    rw [am_sum, am_sum, am_sum, ih]
    simp only [Int64.sub_eq_add_neg, Int64.neg_add]
    rw [Int64.add_assoc, Int64.add_assoc]
    congr 1
    rw [← Int64.add_assoc, ← Int64.add_assoc]
    congr 1
    exact Int64.add_comm _ _
section XS
variable {I : am_I} {L : am_L} {np n w : Nat}
theorem xg_went (hR : x_R I L (L 191)) {p a b o : Int32} {r : Nat} (hr : r < 100) : g_went L p a b o r = if (p = -1 ∨ I 19 r = p) ∧ a ≤ I 20 r ∧ I 20 r ≤ b then (if I 21 r < 0 then (if o = 1 then -(I 21 r).toInt64 else 0) else (if o = 0 then (I 21 r).toInt64 else 0)) else 0 := by
  rw [g_went, xh_row_0 hR hr, xh_row_1 hR hr, xh_row_2 hR hr]
  simp only [x_eq64, am_le64, x_lt0]
theorem x_row1 (o : x_led I L np n w) {r : Nat} (hr : r < n) : (0 ≤ I 20 r ∧ I 20 r ≤ 59 ∧ ¬ 60 < I 20 r ∧ ¬ I 20 r < 0) ∧ (I 20 r).toNatClampNeg < 60 ∧ r < 100 := by
  obtain ⟨p, m, h1, h2, h3, h4, h5⟩ := o.2.2.2.2.2.2.2.1 r hr
  have hn := o.2.2.2.1
  rw [h4, nI_clamp (by omega)]
  refine ⟨⟨?_, ?_, ?_, ?_⟩, h2, by omega⟩
  · exact Int32.not_lt.mp (nI_pos (by omega))
  · rw [show (59 : Int32) = nI 59 by decide]; exact Int32.not_lt.mp (nI_nlt (by omega) (by omega))
  · rw [show (60 : Int32) = nI 60 by decide]; exact nI_nlt (by omega) (by omega)
  · exact nI_pos (by omega)
theorem xs_in (hR : x_R I L (L 191)) (o : x_led I L np n w) {p : Int32} (hp : ¬ p = -1) : am_sum (f_in I p) n = g_in L p n := by
  refine am_sum_congr n (fun r hr => ?_)
  have hm := x_row1 o hr
  rw [xg_went hR hm.2.2, f_in]
  by_cases h1 : I 19 r = p
  · rcases x_tri (I 21 r) with ⟨t1, t2, t3, t4⟩ | t | ⟨t1, t2, t3, t4⟩
    · simp [h1, hp, hm.1.1, hm.1.2.1, t1, t2]
    · simp [h1, hp, hm.1.1, hm.1.2.1, t]
    · simp [h1, hp, hm.1.1, hm.1.2.1, t1, t2]
  · simp [h1, hp]
theorem xs_out (hR : x_R I L (L 191)) (o : x_led I L np n w) {p m : Int32} (hp : ¬ p = -1) : am_sum (f_out I p m) n = am_sum (g_went L p m 59 1) n := by
  refine am_sum_congr n (fun r hr => ?_)
  have hm := x_row1 o hr
  rw [xg_went hR hm.2.2, f_out]
  by_cases h1 : I 19 r = p
  · by_cases h2 : I 20 r < m
    · have h3 : ¬ m ≤ I 20 r := Int32.not_le.mpr h2
      simp [h1, hp, h2, h3]
    · have h3 : m ≤ I 20 r := Int32.not_lt.mp h2
      rcases x_tri (I 21 r) with ⟨t1, t2, t3, t4⟩ | t | ⟨t1, t2, t3, t4⟩
      · simp [h1, hp, h2, h3, hm.1.2.1, t1, t3]
      · simp [h1, hp, h2, h3, hm.1.2.1, t]
      · simp [h1, hp, h2, h3, hm.1.2.1, t1, t3]
  · simp [h1, hp]
theorem xs_ina (hR : x_R I L (L 191)) (o : x_led I L np n w) {a b b' : Int32} (hb : ∀ r, r < n → (I 20 r ≤ b' ↔ ¬ b < I 20 r)) : am_sum (f_ina I a b) n = am_sum (g_went L (-1) a b' 0) n := by
  refine am_sum_congr n (fun r hr => ?_)
  have hm := x_row1 o hr
  rw [xg_went hR hm.2.2, f_ina]
  have hbr := hb r hr
  by_cases h2 : I 20 r < a
  · have h3 : ¬ a ≤ I 20 r := Int32.not_le.mpr h2
    simp [h2, h3]
  · have h3 : a ≤ I 20 r := Int32.not_lt.mp h2
    by_cases h4 : b < I 20 r
    · have h5 : ¬ I 20 r ≤ b' := fun q => (hbr.mp q) h4
      simp [h2, h3, h4, h5]
    · have h5 : I 20 r ≤ b' := hbr.mpr h4
      rcases x_tri (I 21 r) with ⟨t1, t2, t3, t4⟩ | t | ⟨t1, t2, t3, t4⟩
      · simp [h2, h3, h4, h5, t1, t2]
      · simp [h2, h3, h4, h5, t]
      · simp [h2, h3, h4, h5, t1, t2]
theorem xs_outa (hR : x_R I L (L 191)) (o : x_led I L np n w) {a b b' : Int32} (hb : ∀ r, r < n → (I 20 r ≤ b' ↔ ¬ b < I 20 r)) : am_sum (f_outa I a b) n = am_sum (g_went L (-1) a b' 1) n := by
  refine am_sum_congr n (fun r hr => ?_)
  have hm := x_row1 o hr
  rw [xg_went hR hm.2.2, f_outa]
  have hbr := hb r hr
  by_cases h2 : I 20 r < a
  · have h3 : ¬ a ≤ I 20 r := Int32.not_le.mpr h2
    simp [h2, h3]
  · have h3 : a ≤ I 20 r := Int32.not_lt.mp h2
    by_cases h4 : b < I 20 r
    · have h5 : ¬ I 20 r ≤ b' := fun q => (hbr.mp q) h4
      simp [h2, h3, h4, h5]
    · have h5 : I 20 r ≤ b' := hbr.mpr h4
      rcases x_tri (I 21 r) with ⟨t1, t2, t3, t4⟩ | t | ⟨t1, t2, t3, t4⟩
      · simp [h2, h3, h4, h5, t1, t3]
      · simp [h2, h3, h4, h5, t]
      · simp [h2, h3, h4, h5, t1, t3]
theorem x_b60 (o : x_led I L np n w) : ∀ r, r < n → (I 20 r ≤ 59 ↔ ¬ 60 < I 20 r) := fun r hr => by
  have hm := x_row1 o hr
  exact ⟨fun _ => hm.1.2.2.1, fun _ => hm.1.2.1⟩
theorem x_bm {m : Int32} : ∀ r, r < n → (I 20 r ≤ m ↔ ¬ m < I 20 r) := fun r _ => Int32.not_lt.symm
theorem xs_net (hR : x_R I L (L 191)) (o : x_led I L np n w) {p m : Int32} (hp : ¬ p = -1) : am_sum (f_net I p m) n = am_sum (g_went L p 0 m 0) n - am_sum (g_went L p 0 m 1) n := by
  rw [← am_sum_sub]
  refine am_sum_congr n (fun r hr => ?_)
  have hm := x_row1 o hr
  rw [xg_went hR hm.2.2, xg_went hR hm.2.2, f_net]
  by_cases h1 : I 19 r = p
  · by_cases h4 : m < I 20 r
    · have h5 : ¬ I 20 r ≤ m := Int32.not_le.mpr h4
      simp [h1, hp, h4, h5]
    · have h5 : I 20 r ≤ m := Int32.not_lt.mp h4
      rcases x_tri (I 21 r) with ⟨t1, t2, t3, t4⟩ | t | ⟨t1, t2, t3, t4⟩
      · simp [h1, hp, hm.1.1, h4, h5, t1]
      · simp [h1, hp, hm.1.1, h4, h5, t]
      · simp [h1, hp, hm.1.1, h4, h5, t1]
  · simp [h1, hp]
theorem xs_c0 (hR : x_R I L (L 191)) (o : x_led I L np n w) {p : Int32} : am_sum (f_net I p 60) n = am_sum (g_c L p 0) n := by
  refine am_sum_congr n (fun r hr => ?_)
  have hm := x_row1 o hr
  rw [g_c, xh_row_0 hR hm.2.2, xh_row_2 hR hm.2.2, f_net, if_neg hm.1.2.2.1, if_pos rfl]
  simp only [x_eq64]
theorem x_at64 {e : Nat} {x : Int32} (h : L 191 e = x.toInt64) : g_at L e = x.toNatClampNeg := by rw [g_at, h, am_l2i_id]
theorem xs_c2 (hR : x_R I L (L 191)) (o : x_led I L np n w) (hx : ∀ m, m < 60 → 1 ≤ I 39 m) {p v : Int32} (hv : ¬ v = 0) : am_sum (f_idx I p) n = am_sum (g_c L p v) n := by
  refine am_sum_congr n (fun r hr => ?_)
  have hm := x_row1 o hr
  have hw : (I 11 8).toNatClampNeg < 60 := by rw [o.2.2.2.2.1, nI_clamp (by have := o.2.2.2.2.2.1; omega)]; exact o.2.2.2.2.2.1
  have e0 : ¬ (I 39 (I 20 r).toNatClampNeg).toInt64 = 0 := fun q => absurd (hx _ hm.2.1) (by rw [x_e0.mp q]; decide)
  rw [g_c, xh_row_0 hR hm.2.2, xh_row_2 hR hm.2.2, f_idx, if_neg hv, x_at64 (xh_now hR), x_at64 (xh_row_1 hR hm.2.2), xh_idx hR hw, xh_idx hR hm.2.1, if_neg e0]
  simp only [x_eq64]
theorem xs_cnt (hR : x_R I L (L 191)) (o : x_led I L np n w) (hx : ∀ m, m < 60 → 1 ≤ I 39 m) {p : Nat} (hp : p < 12) {v : Int32} : f_cnt I L n (nI p) v = g_cnt L n p v := by
  rw [f_cnt, g_cnt]
  by_cases h0 : v = 0
  · rw [if_pos h0, if_neg (by rw [h0]; decide), h0, xs_c0 hR o]
  · rw [if_neg h0]
    by_cases h1 : v = 1
    · rw [if_pos h1, if_pos h1, nI_clamp (by omega), xh_per_2 hR hp]
    · rw [if_neg h1, if_neg h1, xs_c2 hR o hx h0]
theorem xs_shown (hR : x_R I L (L 191)) (hp : np ≤ 12) : am_sum (L 18) np = am_sum (g_shown L) np := am_sum_congr np (fun k hk => (xh_per_2 hR (by omega)).symm)
theorem xs_told (hR : x_R I L (L 191)) {t : Nat} (ht : t < 40) : am_sum (f_told I (I 31 t)) (t + 1) = am_sum (g_told L t) (t + 1) := by
  refine am_sum_congr _ (fun r hr => ?_)
  rw [f_told, g_told, xh_trd_0 hR (by omega), xh_trd_0 hR ht, xh_trd_2 hR (by omega)]
  simp only [x_eq64]
theorem xs_wrong (hR : x_R I L (L 191)) {t d : Nat} (ht : t < 40) (hd : d < 30) (hdd : I 31 t = nI d) : f_wrong I t = g_wrong L t := by
  have hg : g_pap L t = d := by rw [g_pap, xh_trd_0 hR ht, am_l2i_id, hdd, nI_clamp (by omega)]
  rw [f_wrong, g_wrong, hg, xh_pap_0 hR hd, xh_pap_1 hR hd, xh_pap_2 hR hd, xh_pap_3 hR hd, xh_trd_1 hR ht, f_out4, xs_told hR ht, hdd, nI_clamp (by omega)]
  by_cases h0 : I 28 d = 0
  · simp [h0]
  · simp only [am_le64]
    have e1 : ¬ ((if I 28 d = 0 then (0 : Int64) else 1) = 0) := by rw [if_neg h0]; decide
    rw [if_neg h0, if_neg e1]
    have main : ∀ (x y : Int32), (x = 0 ∧ y = 0 ∨ x = 2 ∧ y = 2) → (if am_sum (g_told L t) (t + 1) ≤ (I 30 d).toInt64 then x else x ||| 4) = y + (if am_sum (g_told L t) (t + 1) ≤ (I 30 d).toInt64 then 0 else 4) := by
      intro x y hxy
      by_cases hs : am_sum (g_told L t) (t + 1) ≤ (I 30 d).toInt64
      · rw [if_pos hs, if_pos hs]
        rcases hxy with ⟨q1, q2⟩ | ⟨q1, q2⟩ <;> rw [q1, q2] <;> decide
      · rw [if_neg hs, if_neg hs]
        rcases hxy with ⟨q1, q2⟩ | ⟨q1, q2⟩ <;> rw [q1, q2] <;> decide
    refine main _ _ ?_
    by_cases h1 : I 32 t < I 28 d
    · have hc : ¬ (I 28 d ≤ I 32 t ∧ I 32 t ≤ I 29 d) := fun q => Int32.not_le.mpr h1 q.1
      rw [if_pos h1, if_neg hc]
      exact Or.inr ⟨rfl, rfl⟩
    · have h2 : I 28 d ≤ I 32 t := Int32.not_lt.mp h1
      rw [if_neg h1]
      by_cases h3 : I 32 t ≤ I 29 d
      · have hc : I 28 d ≤ I 32 t ∧ I 32 t ≤ I 29 d := ⟨h2, h3⟩
        rw [if_pos h3, if_pos hc]
        exact Or.inl ⟨rfl, rfl⟩
      · have hc : ¬ (I 28 d ≤ I 32 t ∧ I 32 t ≤ I 29 d) := fun q => h3 q.2
        rw [if_neg h3, if_neg hc]
        exact Or.inr ⟨rfl, rfl⟩
end XS
theorem am_find_congr {c d : Nat → Prop} [DecidablePred c] [DecidablePred d] : ∀ m k, (∀ j, k ≤ j → j < k + m → (c j ↔ d j)) → am_find c m k = am_find d m k := by
  intro m
  induction m with
  | zero => intro k _; rfl
  | succ m ih =>
    intro k h
    rw [am_find, am_find, ih (k + 1) (fun j h1 h2 => h j (by omega) (by omega))]
    by_cases hc : c k
    · rw [if_pos hc, if_pos ((h k (Nat.le_refl _) (by omega)).mp hc)]
    · rw [if_neg hc, if_neg (fun q => hc ((h k (Nat.le_refl _) (by omega)).mpr q))]
theorem am_it_congr {α : Type} {f g : Nat → α → α} {a : α} : ∀ n, (∀ k, k < n → ∀ x, f k x = g k x) → am_it f a n = am_it g a n := by
  intro n
  induction n with
  | zero => intro _; rfl
  | succ n ih => intro h; rw [am_it, am_it, ih (fun k hk x => h k (by omega) x), h n (by omega)]
