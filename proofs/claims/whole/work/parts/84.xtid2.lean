/-! the tide: both sides' numbers -/
theorem x_mm {a b : Int64} {A B : Int} (h1 : 0 ≤ a.toInt) (h2 : a.toInt ≤ A) (h3 : 0 ≤ b.toInt) (h4 : b.toInt ≤ B) (hAB : A * B < 2 ^ 62) : (a * b).toInt = a.toInt * b.toInt ∧ 0 ≤ a.toInt * b.toInt ∧ a.toInt * b.toInt ≤ A * B := by
  have g1 := Int.mul_nonneg h1 h3
  have g2 : a.toInt * b.toInt ≤ A * B := Int.mul_le_mul h2 h4 h3 (by omega)
  exact ⟨x_m64 (by omega) (by omega), g1, g2⟩
theorem x_add {a b : Int64} (h1 : -(2 ^ 62) ≤ a.toInt + b.toInt) (h2 : a.toInt + b.toInt < 2 ^ 62) : (a + b).toInt = a.toInt + b.toInt := by
  rw [Int64.toInt_add]
  simp only [Int.bmod_def]
  omega
theorem x_sumbd {f : Nat → Int64} {c : Nat} : ∀ n, c * n ≤ 1000000000000 → (∀ k, k < n → 0 ≤ (f k).toInt ∧ (f k).toInt ≤ c) → (am_sum f n).toInt = t_sum (fun k => (f k).toInt) n ∧ 0 ≤ (am_sum f n).toInt ∧ (am_sum f n).toInt ≤ (c * n : Nat) := by
  intro n
  induction n with
  | zero => intro _ _; exact ⟨rfl, Int.le_refl _, by rw [Nat.mul_zero]; exact Int.le_refl _⟩
  | succ n ih =>
    intro hc h
    rw [Nat.mul_succ] at hc ⊢
    obtain ⟨i1, i2, i3⟩ := ih (by omega) (fun k hk => h k (by omega))
    obtain ⟨h1, h2⟩ := h n (by omega)
    rw [am_sum, t_sum, ← i1, x_add (by omega) (by omega)]
    exact ⟨rfl, by omega, by omega⟩
theorem x_mxI (z : Int64) : (am_mx z).toInt = if z.toInt < 0 then 0 else z.toInt := by
  rw [am_mx]
  have e : z < 0 ↔ z.toInt < 0 := Int64.lt_iff_toInt_lt
  by_cases h : z < 0
  · rw [if_pos h, if_pos (e.mp h)]; rfl
  · rw [if_neg h, if_neg (fun q => h (e.mpr q))]
section TIDE
variable {M : am_L} {X Y : Nat → Int} {np : Nat}
def x_bd (X Y : Nat → Int) (np : Nat) : Prop := ∀ p, p < np → (0 ≤ X p ∧ X p ≤ 100000000) ∧ (0 ≤ Y p ∧ Y p ≤ 100000000)
theorem x_ris (hn : np ≤ 12) (hb : x_bd X Y np) (hM : ∀ p, p < np → (M 161 p).toInt = X p ∧ (M 162 p).toInt = Y p) {a b : Int64} (ha : 0 ≤ a.toInt ∧ a.toInt ≤ 2147483648) (hb2 : 0 ≤ b.toInt ∧ b.toInt ≤ 2147483648) : ((am_sum (f_ri M a b) np).toInt = t_sum (t_ri X Y a.toInt b.toInt) np ∧ 0 ≤ (am_sum (f_ri M a b) np).toInt ∧ (am_sum (f_ri M a b) np).toInt ≤ 1200000000) ∧ ((am_sum (f_ro M a b) np).toInt = t_sum (t_ro X Y a.toInt b.toInt) np ∧ 0 ≤ (am_sum (f_ro M a b) np).toInt ∧ (am_sum (f_ro M a b) np).toInt ≤ 1200000000) := by
  have one : ∀ p, p < np → (f_ri M a b p).toInt = t_ri X Y a.toInt b.toInt p ∧ (f_ro M a b p).toInt = t_ro X Y a.toInt b.toInt p ∧ (0 ≤ (f_ri M a b p).toInt ∧ (f_ri M a b p).toInt ≤ 100000000) ∧ (0 ≤ (f_ro M a b p).toInt ∧ (f_ro M a b p).toInt ≤ 100000000) := by
    intro p hp
    obtain ⟨e1, e2⟩ := hM p hp
    obtain ⟨⟨x0, x1⟩, y0, y1⟩ := hb p hp
    obtain ⟨m1, _, _⟩ := x_mm (a := M 162 p) (b := b) (A := 100000000) (B := 2147483648) (by omega) (by omega) hb2.1 hb2.2 (by decide)
    obtain ⟨m2, _, _⟩ := x_mm (a := a) (b := M 161 p) (A := 2147483648) (B := 100000000) ha.1 ha.2 (by omega) (by omega) (by decide)
    have hc : (M 162 p * b < a * M 161 p) ↔ (Y p * b.toInt < a.toInt * X p) := by rw [Int64.lt_iff_toInt_lt, m1, m2, e1, e2]
    rw [f_ri, f_ro, t_ri, t_ro]
    by_cases c : M 162 p * b < a * M 161 p
    · rw [if_pos c, if_pos c, if_pos (hc.mp c), if_pos (hc.mp c), e1, e2]
      exact ⟨rfl, rfl, ⟨x0, x1⟩, y0, y1⟩
    · rw [if_neg c, if_neg c, if_neg (fun q => c (hc.mpr q)), if_neg (fun q => c (hc.mpr q))]
      exact ⟨rfl, rfl, by decide, by decide⟩
  have hcn : 100000000 * np ≤ 1200000000 := by omega
  obtain ⟨i1, i2, i3⟩ := x_sumbd (f := f_ri M a b) (c := 100000000) np (by omega) (fun p hp => (one p hp).2.2.1)
  obtain ⟨j1, j2, j3⟩ := x_sumbd (f := f_ro M a b) (c := 100000000) np (by omega) (fun p hp => (one p hp).2.2.2)
  refine ⟨⟨?_, i2, by omega⟩, ?_, j2, by omega⟩
  · rw [i1]; exact t_sum_congr np (fun p hp => (one p hp).1)
  · rw [j1]; exact t_sum_congr np (fun p hp => (one p hp).2.1)
theorem x_rise (hn : np ≤ 12) (hb : x_bd X Y np) (hM : ∀ p, p < np → (M 161 p).toInt = X p ∧ (M 162 p).toInt = Y p) {s : Int64} (hs : 0 ≤ s.toInt ∧ s.toInt ≤ 10000000) : ∀ m (a b : Int64), (0 ≤ a.toInt ∧ a.toInt ≤ 2147483648) → (0 ≤ b.toInt ∧ b.toInt ≤ 2147483648) → ((f_rise M np s m a b).1.toInt = (t_rise X Y np s.toInt m a.toInt b.toInt).1 ∧ (f_rise M np s m a b).2.toInt = (t_rise X Y np s.toInt m a.toInt b.toInt).2) ∧ (f_rise M np s m a b).1.toInt ≤ 2147483648 ∧ (f_rise M np s m a b).2.toInt ≤ 2147483648 := by
  intro m
  induction m with
  | zero => intro a b ha hb2; exact ⟨⟨rfl, rfl⟩, ha.2, hb2.2⟩
  | succ m ih =>
    intro a b ha hb2
    obtain ⟨⟨i1, i2, i3⟩, j1, j2, j3⟩ := x_ris hn hb hM ha hb2
    rw [f_rise, t_rise, ← i1, ← j1]
    generalize am_sum (f_ri M a b) np = Xs at *
    generalize am_sum (f_ro M a b) np = Ys at *
    have z : Xs = 0 ↔ Xs.toInt = 0 := by rw [← Int64.toInt_inj]; rfl
    by_cases c1 : Xs = 0
    · rw [if_pos c1, if_pos (z.mp c1)]; exact ⟨⟨rfl, rfl⟩, ha.2, hb2.2⟩
    · rw [if_neg c1, if_neg (fun q => c1 (z.mpr q))]
      obtain ⟨m1, k1, l1⟩ := x_mm (a := s) (b := b) (A := 10000000) (B := 2147483648) hs.1 hs.2 hb2.1 hb2.2 (by decide)
      obtain ⟨m2, k2, l2⟩ := x_mm (a := a) (b := Xs) (A := 2147483648) (B := 1200000000) ha.1 ha.2 i2 i3 (by decide)
      obtain ⟨m3, k3, l3⟩ := x_mm (a := b) (b := Ys) (A := 2147483648) (B := 1200000000) hb2.1 hb2.2 j2 j3 (by decide)
      have e1 : (a * Xs - b * Ys).toInt = a.toInt * Xs.toInt - b.toInt * Ys.toInt := by
        rw [x_s64 (by rw [m2, m3]; omega) (by rw [m2, m3]; omega), m2, m3]
      have hc : (s * b < a * Xs - b * Ys) ↔ (s.toInt * b.toInt < a.toInt * Xs.toInt - b.toInt * Ys.toInt) := by rw [Int64.lt_iff_toInt_lt, m1, e1]
      by_cases c2 : s * b < a * Xs - b * Ys
      · rw [if_pos c2, if_pos (hc.mp c2)]
        have e2 : (s + Ys).toInt = s.toInt + Ys.toInt := x_add (by omega) (by omega)
        have := ih (s + Ys) Xs (by omega) (by omega)
        rw [e2] at this
        exact this
      · rw [if_neg c2, if_neg (fun q => c2 (hc.mpr q))]; exact ⟨⟨rfl, rfl⟩, ha.2, hb2.2⟩
end TIDE
/-! the reference's bits -/
def x_T (t : Int32) : Nat → Bool := fun k => t.toBitVec.getLsbD k
theorem x_or01 (z : Int32) : ¬ z &&& 1 = 0 ↔ z &&& 1 = 1 := by
  rw [← Int32.toBitVec_inj, ← Int32.toBitVec_inj, Int32.toBitVec_and]
  show ¬ _ &&& 1#32 = 0#32 ↔ _ &&& 1#32 = 1#32
  rw [BitVec.and_one_eq_setWidth_ofBool_getLsbD]
  cases z.toBitVec.getLsbD 0 <;> decide
theorem x_T_ad {t : Int32} {p : Nat} (hp : p < 12) : x_T (t ||| (1 <<< (nI p &&& 31))) = t_ad (x_T t) p := by
  have h : ∀ p, p < 12 → ((1 : Int32) <<< (nI p &&& 31)).toBitVec = BitVec.twoPow 32 p := by decide +kernel
  funext k
  show (t ||| (1 <<< (nI p &&& 31))).toBitVec.getLsbD k = (t.toBitVec.getLsbD k || k == p)
  rw [Int32.toBitVec_or, BitVec.getLsbD_or, h p hp, BitVec.getLsbD_twoPow]
  congr 1
  by_cases e : k = p
  · subst e; simp; omega
  · have e2 : ¬ p = k := fun q => e q.symm
    simp [e, e2]
theorem x_T_bit {t : Int32} {k : Nat} (hk : k < 32) : ¬ ((t >>> (nI k &&& 31)) &&& 1) = 0 ↔ x_T t k = true := by
  rw [x_or01, x_bit32 hk]; rfl
theorem x_nI1 (k : Nat) (hk : k < 2 ^ 20) : ¬ nI k = -1 := by
  intro z
  have z2 : (0 : Int32) ≤ nI k := Int32.not_lt.mp (nI_pos (by omega))
  rw [z] at z2
  exact absurd z2 (by decide)
section TIDE
variable {L : am_L} {X Y : Nat → Int} {n np : Nat}
theorem x_lowest (hn : np ≤ 12) (hb : x_bd X Y np) (hG : ∀ p, p < np → (g_in L (nI p) n).toInt = X p ∧ (g_out L (nI p) n).toInt = Y p) (t : Int32) : (g_low L n np t = -1 ∧ ∀ k, k < np → x_T t k = true ∨ X k ≤ 0) ∨ ∃ p, g_low L n np t = nI p ∧ t_low X Y np (x_T t) p := by
  have key : ∀ k, k ≤ np → (am_it (g_lst L n t) (-1) k = -1 ∧ ∀ j, j < k → x_T t j = true ∨ X j ≤ 0) ∨ ∃ p, am_it (g_lst L n t) (-1) k = nI p ∧ t_low X Y k (x_T t) p := by
    intro k
    induction k with
    | zero => intro _; exact Or.inl ⟨rfl, fun j hj => absurd hj (by omega)⟩
    | succ k ih =>
      intro hk
      obtain ⟨ex, ey⟩ := hG k (by omega)
      obtain ⟨⟨x0, x1⟩, y0, y1⟩ := hb k (by omega)
      have hx0 : g_in L (nI k) n ≤ 0 ↔ X k ≤ 0 := by rw [Int64.le_iff_toInt_le, ex]; rfl
      rw [am_it_s, g_lst]
      by_cases c1 : ¬ ((t >>> (nI k &&& 31)) &&& 1) = 0
      · have hT := (x_T_bit (by omega)).mp c1
        rw [if_pos c1]
        rcases ih (by omega) with ⟨i1, i2⟩ | ⟨p, i1, i2, i3, i4, i5⟩
        · refine Or.inl ⟨i1, fun j hj => ?_⟩
          by_cases e : j = k
          · subst e; exact Or.inl hT
          · exact i2 j (by omega)
        · refine Or.inr ⟨p, i1, by omega, i3, i4, fun j hj h1 h2 => ?_⟩
          by_cases e : j = k
          · subst e; rw [hT] at h1; exact absurd h1 (by decide)
          · exact i5 j (by omega) h1 h2
      · have hT : x_T t k = false := by
          cases q : x_T t k with
          | false => rfl
          | true => exact absurd ((x_T_bit (by omega)).mpr q) c1
        rw [if_neg c1]
        by_cases c2 : g_in L (nI k) n ≤ 0
        · have hx := hx0.mp c2
          rw [if_pos c2]
          rcases ih (by omega) with ⟨i1, i2⟩ | ⟨p, i1, i2, i3, i4, i5⟩
          · refine Or.inl ⟨i1, fun j hj => ?_⟩
            by_cases e : j = k
            · subst e; exact Or.inr hx
            · exact i2 j (by omega)
          · refine Or.inr ⟨p, i1, by omega, i3, i4, fun j hj h1 h2 => ?_⟩
            by_cases e : j = k
            · subst e; omega
            · exact i5 j (by omega) h1 h2
        · have hx : 0 < X k := Int.not_le.mp (fun q => c2 (hx0.mpr q))
          rw [if_neg c2]
          refine Or.inr ?_
          rcases ih (by omega) with ⟨i1, i2⟩ | ⟨p, i1, i2, i3, i4, i5⟩
          · rw [i1, if_pos rfl]
            refine ⟨k, rfl, by omega, hT, hx, fun j hj h1 h2 => ?_⟩
            by_cases e : j = k
            · subst e; exact Int.le_refl _
            · rcases i2 j (by omega) with q | q
              · rw [h1] at q; exact absurd q (by decide)
              · omega
          · rw [i1, if_neg (x_nI1 p (by omega))]
            obtain ⟨px, py⟩ := hG p (by omega)
            obtain ⟨⟨u0, u1⟩, v0, v1⟩ := hb p (by omega)
            obtain ⟨m1, _, _⟩ := x_mm (a := g_out L (nI p) n) (b := g_in L (nI k) n) (A := 100000000) (B := 100000000) (by omega) (by omega) (by omega) (by omega) (by decide)
            obtain ⟨m2, _, _⟩ := x_mm (a := g_out L (nI k) n) (b := g_in L (nI p) n) (A := 100000000) (B := 100000000) (by omega) (by omega) (by omega) (by omega) (by decide)
            have hc : g_out L (nI p) n * g_in L (nI k) n ≤ g_out L (nI k) n * g_in L (nI p) n ↔ Y p * X k ≤ Y k * X p := by rw [Int64.le_iff_toInt_le, m1, m2, ex, ey, px, py]
            by_cases c3 : g_out L (nI p) n * g_in L (nI k) n ≤ g_out L (nI k) n * g_in L (nI p) n
            · rw [if_pos c3]
              refine ⟨p, rfl, by omega, i3, i4, fun j hj h1 h2 => ?_⟩
              by_cases e : j = k
              · subst e; exact hc.mp c3
              · exact i5 j (by omega) h1 h2
            · rw [if_neg c3]
              refine ⟨k, rfl, by omega, hT, hx, fun j hj h1 h2 => ?_⟩
              by_cases e : j = k
              · subst e; exact Int.le_refl _
              · have g1 := i5 j (by omega) h1 h2
                have g2 : Y k * X p ≤ Y p * X k := Int.le_of_lt (Int.not_le.mp (fun q => c3 (hc.mpr q)))
                refine t_div i4 ?_
                have r1 : (Y k * X p) * X j ≤ (Y p * X k) * X j := Int.mul_le_mul_of_nonneg_right g2 (Int.le_of_lt h2)
                have r2 : (Y p * X j) * X k ≤ (Y j * X p) * X k := Int.mul_le_mul_of_nonneg_right g1 x0
                have r3 : Y k * X j * X p = (Y k * X p) * X j := by grind
                have r4 : (Y p * X k) * X j = (Y p * X j) * X k := by grind
                have r5 : Y j * X k * X p = (Y j * X p) * X k := by grind
                omega
  exact key np (Nat.le_refl _)
end TIDE
def t_un (T : Nat → Bool) : Nat → Nat
  | 0 => 0
  | n + 1 => t_un T n + if T n = false then 1 else 0
theorem t_un_ad {T : Nat → Bool} {p : Nat} (hT : T p = false) : ∀ n, t_un (t_ad T p) n + (if p < n then 1 else 0) = t_un T n := by
  intro n
  induction n with
  | zero => rfl
  | succ n ih =>
    rw [t_un, t_un, ← ih]
    by_cases e : n = p
    · subst e
      rw [if_neg (Nat.lt_irrefl _), if_pos (Nat.lt_succ_self _), if_pos hT, if_neg (by simp [t_ad])]
    · have e1 : t_ad T p n = T n := by simp [t_ad, e]
      rw [e1]
      by_cases h : p < n
      · rw [if_pos h, if_pos (show p < n + 1 by omega)]; omega
      · rw [if_neg h, if_neg (show ¬ p < n + 1 by omega)]; omega
theorem t_un_le {T : Nat → Bool} : ∀ n, t_un T n ≤ n := by
  intro n
  induction n with
  | zero => exact Nat.le_refl _
  | succ n ih => rw [t_un]; split <;> omega
theorem t_in_bd {T : Nat → Bool} {f : Nat → Int} : ∀ n, (∀ p, p < n → 0 ≤ f p ∧ f p ≤ 100000000) → 0 ≤ t_sum (t_in T f) n ∧ t_sum (t_in T f) n ≤ 100000000 * n := by
  intro n
  induction n with
  | zero => intro _; exact ⟨Int.le_refl _, Int.le_refl _⟩
  | succ n ih =>
    intro h
    have := ih (fun p hp => h p (by omega))
    have := h n (by omega)
    rw [t_sum, t_in]
    split <;> omega
section TIDE
variable {L : am_L} {X Y : Nat → Int} {n np : Nat}
theorem x_tdl (hn : np ≤ 12) (hb : x_bd X Y np) (hG : ∀ p, p < np → (g_in L (nI p) n).toInt = X p ∧ (g_out L (nI p) n).toInt = Y p) {s : Int64} (hs : 0 ≤ s.toInt ∧ s.toInt ≤ 10000000) : ∀ f t (ups outs : Int64) p, t_ord X Y np (x_T t) → ups.toInt = t_sum (t_in (x_T t) X) np → outs.toInt = t_sum (t_in (x_T t) Y) np → g_low L n np t = nI p → t_low X Y np (x_T t) p → ups.toInt * Y p ≤ (s.toInt + outs.toInt) * X p → t_un (x_T t) np ≤ f → ∃ r, g_tdl L n np s f ups outs t = some r ∧ t_P X Y np s.toInt r.1.toInt r.2.toInt ∧ r.1.toInt ≤ 2147483648 ∧ r.2.toInt ≤ 2147483648 := by
  have hx : ∀ p, p < np → 0 ≤ X p := fun p hp => (hb p hp).1.1
  have hy : ∀ p, p < np → 0 ≤ Y p := fun p hp => (hb p hp).2.1
  intro f
  induction f with
  | zero =>
    intro t ups outs p _ _ _ _ hp _ hf
    have := t_un_ad hp.2.1 np
    rw [if_pos hp.1] at this
    omega
  | succ f ih =>
    intro t ups outs p ho hu hou hg hp hl hf
    have hp12 : p < 12 := by have := hp.1; omega
    obtain ⟨ex, ey⟩ := hG p hp.1
    obtain ⟨⟨x0, x1⟩, y0, y1⟩ := hb p hp.1
    have bx := t_in_bd (T := x_T t) (f := X) np (fun p hp => (hb p hp).1)
    have by_ := t_in_bd (T := x_T t) (f := Y) np (fun p hp => (hb p hp).2)
    have eu : (ups + g_in L (nI p) n).toInt = ups.toInt + X p := by rw [x_add (by omega) (by omega), ex]
    have eo : (outs + g_out L (nI p) n).toInt = outs.toInt + Y p := by rw [x_add (by omega) (by omega), ey]
    have es : (s + (outs + g_out L (nI p) n)).toInt = s.toInt + (outs.toInt + Y p) := by rw [x_add (by omega) (by omega), eo]
    have hfin := t_fin hx hy hs.1 ho hp (by rw [← hu, ← hou]; exact hl)
    rw [← hu, ← hou, ← x_T_ad hp12] at hfin
    rw [g_tdl, hg]
    rcases x_lowest hn hb hG (t ||| (1 <<< (nI p &&& 31))) with ⟨q1, q2⟩ | ⟨q, q1, q2⟩
    · rw [q1, if_pos rfl]
      refine ⟨_, rfl, ?_, ?_, ?_⟩
      · rw [es, eu]; exact hfin (Or.inl q2)
      · show (s + (outs + g_out L (nI p) n)).toInt ≤ _
        omega
      · show (ups + g_in L (nI p) n).toInt ≤ _
        omega
    · rw [q1, if_neg (x_nI1 q (by have := q2.1; omega))]
      obtain ⟨qx, qy⟩ := hG q q2.1
      obtain ⟨⟨u0, u1⟩, v0, v1⟩ := hb q q2.1
      obtain ⟨m1, k1, l1⟩ := x_mm (a := ups + g_in L (nI p) n) (b := g_out L (nI q) n) (A := 2147483648) (B := 100000000) (by omega) (by omega) (by omega) (by omega) (by decide)
      obtain ⟨m2, k2, l2⟩ := x_mm (a := s + (outs + g_out L (nI p) n)) (b := g_in L (nI q) n) (A := 2147483648) (B := 100000000) (by omega) (by omega) (by omega) (by omega) (by decide)
      have hc : (ups + g_in L (nI p) n) * g_out L (nI q) n < (s + (outs + g_out L (nI p) n)) * g_in L (nI q) n ↔ (ups.toInt + X p) * Y q < (s.toInt + (outs.toInt + Y p)) * X q := by rw [Int64.lt_iff_toInt_lt, m1, m2, eu, es, qx, qy]
      by_cases c : (ups + g_in L (nI p) n) * g_out L (nI q) n < (s + (outs + g_out L (nI p) n)) * g_in L (nI q) n
      · rw [if_pos c]
        have e1 := t_in_ad (f := X) (p := p) hp.2.1 np
        have e2 := t_in_ad (f := Y) (p := p) hp.2.1 np
        have e3 := t_un_ad hp.2.1 np
        rw [if_pos hp.1, ← x_T_ad hp12] at e1 e2 e3
        have c2 := hc.mp c
        refine ih _ _ _ q (by rw [x_T_ad hp12]; exact t_ord_ad ho hp) (by rw [eu, e1, hu]) (by rw [eo, e2, hou]) q1 q2 ?_ (by omega)
        rw [eu, eo]
        exact Int.le_of_lt c2
      · rw [if_neg c]
        refine ⟨_, rfl, ?_, ?_, ?_⟩
        · rw [es, eu]; exact hfin (Or.inr ⟨q, q2, fun z => c (hc.mpr z)⟩)
        · show (s + (outs + g_out L (nI p) n)).toInt ≤ _
          omega
        · show (ups + g_in L (nI p) n).toInt ≤ _
          omega
end TIDE
