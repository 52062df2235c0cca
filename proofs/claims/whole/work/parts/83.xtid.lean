/-! the tide: the level is one -/
def t_sum (f : Nat → Int) : Nat → Int
  | 0 => 0
  | n + 1 => t_sum f n + f n
theorem t_sum_congr {f g : Nat → Int} : ∀ n, (∀ k, k < n → f k = g k) → t_sum f n = t_sum g n := by
  intro n
  induction n with
  | zero => intro _; rfl
  | succ n ih => intro h; rw [t_sum, t_sum, ih (fun k hk => h k (by omega)), h n (by omega)]
theorem t_sum_le {f g : Nat → Int} : ∀ n, (∀ k, k < n → f k ≤ g k) → t_sum f n ≤ t_sum g n := by
  intro n
  induction n with
  | zero => intro _; exact Int.le_refl _
  | succ n ih => intro h; rw [t_sum, t_sum]; have := ih (fun k hk => h k (by omega)); have := h n (by omega); omega
theorem t_sum_lt {f g : Nat → Int} : ∀ n, (∀ k, k < n → f k ≤ g k) → (∃ q, q < n ∧ f q < g q) → t_sum f n < t_sum g n := by
  intro n
  induction n with
  | zero => rintro _ ⟨q, h, _⟩; omega
  | succ n ih =>
    rintro h ⟨q, hq, hl⟩
    rw [t_sum, t_sum]
    have h1 := t_sum_le n (fun k hk => h k (by omega))
    have h2 := h n (by omega)
    by_cases e : q = n
    · subst e; omega
    · have := ih (fun k hk => h k (by omega)) ⟨q, by omega, hl⟩; omega
theorem t_sum_mul {f : Nat → Int} (c : Int) : ∀ n, t_sum (fun k => c * f k) n = c * t_sum f n := by
  intro n
  induction n with
  | zero => show (0 : Int) = c * 0; rw [Int.mul_zero]
  | succ n ih => rw [t_sum, t_sum, ih, Int.mul_add]
theorem t_sum_sub {f g : Nat → Int} : ∀ n, t_sum (fun k => f k - g k) n = t_sum f n - t_sum g n := by
  intro n
  induction n with
  | zero => rfl
  | succ n ih => rw [t_sum, t_sum, t_sum, ih]; omega
theorem t_sum_zero : ∀ n, t_sum (fun _ => 0) n = 0 := by
  intro n
  induction n with
  | zero => rfl
  | succ n ih => rw [t_sum, ih]; rfl
def t_ri (x y : Nat → Int) (a b : Int) (p : Nat) : Int := if y p * b < a * x p then x p else 0
def t_ro (x y : Nat → Int) (a b : Int) (p : Nat) : Int := if y p * b < a * x p then y p else 0
def t_g (x y : Nat → Int) (a b : Int) (p : Nat) : Int := if y p * b < a * x p then a * x p - b * y p else 0
def t_P (x y : Nat → Int) (n : Nat) (s a b : Int) : Prop := 0 < b ∧ 0 ≤ a ∧ t_sum (t_g x y a b) n = s * b ∧ ∃ q, q < n ∧ 0 < x q ∧ y q * b ≤ a * x q
theorem t_lin {x y : Nat → Int} {a b : Int} (n : Nat) : t_sum (t_g x y a b) n = a * t_sum (t_ri x y a b) n - b * t_sum (t_ro x y a b) n := by
  rw [← t_sum_mul, ← t_sum_mul, ← t_sum_sub]
  refine t_sum_congr n (fun k _ => ?_)
  rw [t_g, t_ri, t_ro]
  split
  · rfl
  · rw [Int.mul_zero, Int.mul_zero]; rfl
theorem t_pos {b z : Int} (hb : 0 < b) (h : 0 < b * z) : 0 < z := Int.lt_of_mul_lt_mul_left (by rw [Int.mul_zero]; exact h) (Int.le_of_lt hb)
theorem t_mono {x y : Nat → Int} {n : Nat} {a b a' b' : Int} (hx : ∀ p, p < n → 0 ≤ x p) (hb : 0 < b) (hb' : 0 < b') (hl : a * b' < a' * b) (hq : ∃ q, q < n ∧ 0 < x q ∧ y q * b ≤ a * x q) : b' * t_sum (t_g x y a b) n < b * t_sum (t_g x y a' b') n := by
  rw [← t_sum_mul, ← t_sum_mul]
  have le : ∀ p, p < n → y p * b < a * x p → y p * b' < a' * x p ∧ b' * (a * x p - b * y p) ≤ b * (a' * x p - b' * y p) := by
    intro p hp h
    have h0 := hx p hp
    have h1 : a * b' * x p ≤ a' * b * x p := Int.mul_le_mul_of_nonneg_right (Int.le_of_lt hl) h0
    have h2 : b' * (a * x p - b * y p) ≤ b * (a' * x p - b' * y p) := by
      have e1 : b' * (a * x p - b * y p) = a * b' * x p - b * b' * y p := by grind
      have e2 : b * (a' * x p - b' * y p) = a' * b * x p - b * b' * y p := by grind
      omega
    refine ⟨?_, h2⟩
    have h3 : 0 < b' * (a * x p - b * y p) := Int.mul_pos hb' (by have e := Int.mul_comm (y p) b; omega)
    have h4 : 0 < b * (a' * x p - b' * y p) := by omega
    have h5 : 0 < a' * x p - b' * y p := t_pos hb h4
    have e := Int.mul_comm (y p) b'
    omega
  refine t_sum_lt n (fun p hp => ?_) ?_
  · rw [t_g, t_g]
    by_cases h : y p * b < a * x p
    · obtain ⟨h1, h2⟩ := le p hp h
      rw [if_pos h, if_pos h1]; exact h2
    · rw [if_neg h, Int.mul_zero]
      split
      · rename_i h1
        exact Int.mul_nonneg (Int.le_of_lt hb) (by have e := Int.mul_comm (y p) b'; omega)
      · exact Int.le_of_eq (Int.mul_zero _).symm
  · obtain ⟨q, hq, hxq, hy⟩ := hq
    refine ⟨q, hq, ?_⟩
    have h1 : a * b' * x q < a' * b * x q := Int.mul_lt_mul_of_pos_right hl hxq
    have h2 : b' * (a * x q - b * y q) < b * (a' * x q - b' * y q) := by
      have e1 : b' * (a * x q - b * y q) = a * b' * x q - b * b' * y q := by grind
      have e2 : b * (a' * x q - b' * y q) = a' * b * x q - b * b' * y q := by grind
      omega
    have h3 : 0 ≤ b' * (a * x q - b * y q) := Int.mul_nonneg (Int.le_of_lt hb') (by have e := Int.mul_comm (y q) b; omega)
    have h4 : 0 < b * (a' * x q - b' * y q) := by omega
    have h5 : 0 < a' * x q - b' * y q := t_pos hb h4
    have h6 : y q * b' < a' * x q := by have e := Int.mul_comm (y q) b'; omega
    rw [t_g, t_g, if_pos h6]
    split
    · exact h2
    · rw [Int.mul_zero]; exact h4
theorem t_uniq {x y : Nat → Int} {n : Nat} {s a b a' b' : Int} (hx : ∀ p, p < n → 0 ≤ x p) (h : t_P x y n s a b) (h' : t_P x y n s a' b') : a * b' = a' * b := by
  obtain ⟨p1, p2, p3, p4⟩ := h
  obtain ⟨q1, q2, q3, q4⟩ := h'
  rcases Int.lt_trichotomy (a * b') (a' * b) with c | c | c
  · have := t_mono hx p1 q1 c p4
    rw [p3, q3] at this
    have e : b' * (s * b) = b * (s * b') := by grind
    omega
  · exact c
  · have := t_mono hx q1 p1 c q4
    rw [p3, q3] at this
    have e : b' * (s * b) = b * (s * b') := by grind
    omega
def t_cnt (x y : Nat → Int) (a b : Int) : Nat → Nat
  | 0 => 0
  | n + 1 => t_cnt x y a b n + if y n * b < a * x n then 1 else 0
theorem t_cnt_le {x y : Nat → Int} {a b : Int} : ∀ n, t_cnt x y a b n ≤ n := by
  intro n
  induction n with
  | zero => exact Nat.le_refl _
  | succ n ih => rw [t_cnt]; split <;> omega
/-- a smaller set, or the same one -/
theorem t_cnt_sub {x y : Nat → Int} {a b a' b' : Int} : ∀ n, (∀ p, p < n → y p * b' < a' * x p → y p * b < a * x p) → t_cnt x y a' b' n ≤ t_cnt x y a b n ∧ (t_cnt x y a' b' n = t_cnt x y a b n → ∀ p, p < n → (y p * b' < a' * x p ↔ y p * b < a * x p)) := by
  intro n
  induction n with
  | zero => intro _; exact ⟨Nat.le_refl _, fun _ p hp => absurd hp (by omega)⟩
  | succ n ih =>
    intro h
    obtain ⟨i1, i2⟩ := ih (fun p hp => h p (by omega))
    have hn := h n (by omega)
    rw [t_cnt, t_cnt]
    by_cases c1 : y n * b' < a' * x n
    · rw [if_pos c1, if_pos (hn c1)]
      refine ⟨by omega, fun e p hp => ?_⟩
      by_cases e2 : p = n
      · subst e2; exact ⟨fun _ => hn c1, fun _ => c1⟩
      · exact i2 (by omega) p (by omega)
    · rw [if_neg c1]
      by_cases c2 : y n * b < a * x n
      · rw [if_pos c2]; exact ⟨by omega, fun e => by omega⟩
      · rw [if_neg c2]
        refine ⟨by omega, fun e p hp => ?_⟩
        by_cases e2 : p = n
        · subst e2; exact ⟨fun q => absurd q c1, fun q => absurd q c2⟩
        · exact i2 (by omega) p (by omega)
theorem t_sum_np {f : Nat → Int} : ∀ n, (∀ p, p < n → f p ≤ 0) → t_sum f n ≤ 0 ∧ (t_sum f n = 0 → ∀ p, p < n → f p = 0) := by
  intro n
  induction n with
  | zero => intro _; exact ⟨Int.le_refl _, fun _ p hp => absurd hp (by omega)⟩
  | succ n ih =>
    intro h
    obtain ⟨i1, i2⟩ := ih (fun p hp => h p (by omega))
    have hn := h n (by omega)
    rw [t_sum]
    refine ⟨by omega, fun e p hp => ?_⟩
    by_cases e2 : p = n
    · subst e2; omega
    · exact i2 (by omega) p (by omega)
def t_rise (x y : Nat → Int) (np : Nat) (s : Int) : Nat → Int → Int → Int × Int
  | 0, a, b => (a, b)
  | m + 1, a, b => if t_sum (t_ri x y a b) np = 0 then (a, b) else if s * b < a * t_sum (t_ri x y a b) np - b * t_sum (t_ro x y a b) np then t_rise x y np s m (s + t_sum (t_ro x y a b) np) (t_sum (t_ri x y a b) np) else (a, b)
theorem t_sum_nn {f : Nat → Int} {n : Nat} (h : ∀ p, p < n → 0 ≤ f p) : 0 ≤ t_sum f n := by
  have := t_sum_le (f := fun _ => 0) (g := f) n h
  rw [t_sum_zero] at this; exact this
theorem t_ri_nn {x y : Nat → Int} {a b : Int} {n : Nat} (hx : ∀ p, p < n → 0 ≤ x p) : ∀ p, p < n → 0 ≤ t_ri x y a b p := fun p hp => by
  rw [t_ri]; split
  · exact hx p hp
  · exact Int.le_refl _
theorem t_ro_nn {x y : Nat → Int} {a b : Int} {n : Nat} (hy : ∀ p, p < n → 0 ≤ y p) : ∀ p, p < n → 0 ≤ t_ro x y a b p := fun p hp => by
  rw [t_ro]; split
  · exact hy p hp
  · exact Int.le_refl _
/-- what holds of a level that is a mark of some set: too high, or right -/
def t_pre (x y : Nat → Int) (n : Nat) (s a b : Int) : Prop := 0 < b ∧ 0 ≤ a ∧ s * b ≤ t_sum (t_g x y a b) n ∧ ∃ q, q < n ∧ 0 < x q ∧ y q * b ≤ a * x q
theorem t_step {x y : Nat → Int} {n : Nat} {s a b : Int} (hx : ∀ p, p < n → 0 ≤ x p) (hy : ∀ p, p < n → 0 ≤ y p) (hs : 0 ≤ s) (ha : 0 < b) (hX : ¬ t_sum (t_ri x y a b) n = 0) (hc : s * b < a * t_sum (t_ri x y a b) n - b * t_sum (t_ro x y a b) n) : t_pre x y n s (s + t_sum (t_ro x y a b) n) (t_sum (t_ri x y a b) n) ∧ (t_sum (t_g x y (s + t_sum (t_ro x y a b) n) (t_sum (t_ri x y a b) n)) n ≤ s * t_sum (t_ri x y a b) n ∨ t_cnt x y (s + t_sum (t_ro x y a b) n) (t_sum (t_ri x y a b) n) n < t_cnt x y a b n) := by
  have hX0 := t_sum_nn (t_ri_nn (y := y) (a := a) (b := b) hx)
  have hY0 := t_sum_nn (t_ro_nn (x := x) (a := a) (b := b) hy)
  have hsum : t_sum (fun p => if y p * b < a * x p then (s + t_sum (t_ro x y a b) n) * x p - t_sum (t_ri x y a b) n * y p else 0) n = s * t_sum (t_ri x y a b) n := by
    have e : t_sum (fun p => if y p * b < a * x p then (s + t_sum (t_ro x y a b) n) * x p - t_sum (t_ri x y a b) n * y p else 0) n = (s + t_sum (t_ro x y a b) n) * t_sum (t_ri x y a b) n - t_sum (t_ri x y a b) n * t_sum (t_ro x y a b) n := by
      rw [← t_sum_mul (f := t_ri x y a b), ← t_sum_mul (f := t_ro x y a b), ← t_sum_sub]
      refine t_sum_congr n (fun k _ => ?_)
      rw [t_ri, t_ro]
      split
      · rfl
      · rw [Int.mul_zero, Int.mul_zero]; rfl
    rw [e]; grind
  generalize hXe : t_sum (t_ri x y a b) n = X at *
  generalize hYe : t_sum (t_ro x y a b) n = Y at *
  have hXp : 0 < X := by omega
  have hlev : (s + Y) * b < a * X := by
    have : (s + Y) * b = s * b + b * Y := by grind
    omega
  have hsub : ∀ p, p < n → y p * X < (s + Y) * x p → y p * b < a * x p := by
    intro p hp h
    have h1 : (y p * X) * b < ((s + Y) * x p) * b := Int.mul_lt_mul_of_pos_right h ha
    have h2 : ((s + Y) * b) * x p ≤ (a * X) * x p := Int.mul_le_mul_of_nonneg_right (Int.le_of_lt hlev) (hx p hp)
    have h3 : X * (y p * b) < X * (a * x p) := by
      have e1 : (y p * X) * b = X * (y p * b) := by grind
      have e2 : ((s + Y) * x p) * b = ((s + Y) * b) * x p := by grind
      have e3 : (a * X) * x p = X * (a * x p) := by grind
      omega
    exact Int.lt_of_mul_lt_mul_left h3 (Int.le_of_lt hXp)
  refine ⟨⟨hXp, by omega, ?_, ?_⟩, ?_⟩
  · rw [← hsum]
    refine t_sum_le n (fun p hp => ?_)
    rw [t_g]
    have e := Int.mul_comm (y p) X
    split <;> split <;> omega
  · refine Classical.byContradiction fun hno => ?_
    have hall : ∀ p, p < n → (if y p * b < a * x p then (s + Y) * x p - X * y p else 0) ≤ 0 := by
      intro p hp
      split
      · rename_i h
        refine Classical.byContradiction fun hg => hno ⟨p, hp, ?_, ?_⟩
        · have h0 := hx p hp
          by_cases z : x p = 0
          · rw [z, Int.mul_zero] at hg
            have := Int.mul_nonneg (Int.le_of_lt hXp) (hy p hp)
            omega
          · omega
        · have e := Int.mul_comm (y p) X
          omega
      · exact Int.le_refl _
    obtain ⟨j1, j2⟩ := t_sum_np n hall
    rw [hsum] at j1 j2
    have hsX : 0 ≤ s * X := Int.mul_nonneg hs (Int.le_of_lt hXp)
    have j3 := j2 (by omega)
    have hz : ∀ p, p < n → t_ri x y a b p = 0 := by
      intro p hp
      rw [t_ri]
      split
      · rename_i h
        have j4 := j3 p hp
        rw [if_pos h] at j4
        refine Classical.byContradiction fun z => hno ⟨p, hp, by have := hx p hp; omega, ?_⟩
        have e := Int.mul_comm (y p) X
        omega
      · rfl
    have : t_sum (t_ri x y a b) n = 0 := by rw [t_sum_congr (g := fun _ => 0) n hz]; exact t_sum_zero n
    omega
  · obtain ⟨c1, c2⟩ := t_cnt_sub (x := x) (y := y) (a := a) (b := b) (a' := s + Y) (b' := X) n hsub
    by_cases e : t_cnt x y (s + Y) X n = t_cnt x y a b n
    · left
      have c3 := c2 e
      refine Int.le_of_eq ?_
      rw [← hsum]
      refine t_sum_congr n (fun p hp => ?_)
      rw [t_g]
      by_cases h : y p * b < a * x p
      · rw [if_pos h, if_pos ((c3 p hp).mpr h)]
      · rw [if_neg h, if_neg (fun z => h ((c3 p hp).mp z))]
    · right; omega
theorem t_rise_P {x y : Nat → Int} {n : Nat} {s : Int} (hx : ∀ p, p < n → 0 ≤ x p) (hy : ∀ p, p < n → 0 ≤ y p) (hs : 0 ≤ s) : ∀ m a b, t_pre x y n s a b → (t_sum (t_g x y a b) n ≤ s * b ∨ t_cnt x y a b n < m) → t_P x y n s (t_rise x y n s m a b).1 (t_rise x y n s m a b).2 := by
  intro m
  have fin : ∀ a b, t_pre x y n s a b → t_sum (t_g x y a b) n ≤ s * b → t_P x y n s a b := fun a b h1 h2 => ⟨h1.1, h1.2.1, Int.le_antisymm h2 h1.2.2.1, h1.2.2.2⟩
  induction m with
  | zero => intro a b h1 h2; exact fin a b h1 (h2.elim id (fun q => absurd q (by omega)))
  | succ m ih =>
    intro a b h1 h2
    have hl := t_lin (x := x) (y := y) (a := a) (b := b) n
    rw [t_rise]
    by_cases c1 : t_sum (t_ri x y a b) n = 0
    · rw [if_pos c1]
      refine fin a b h1 ?_
      have hY0 := t_sum_nn (t_ro_nn (x := x) (a := a) (b := b) hy)
      rw [hl, c1, Int.mul_zero]
      have := Int.mul_nonneg (Int.le_of_lt h1.1) hY0
      have := Int.mul_nonneg hs (Int.le_of_lt h1.1)
      omega
    · rw [if_neg c1]
      by_cases c2 : s * b < a * t_sum (t_ri x y a b) n - b * t_sum (t_ro x y a b) n
      · rw [if_pos c2]
        obtain ⟨g1, g2⟩ := t_step hx hy hs h1.1 c1 c2
        refine ih _ _ g1 ?_
        rcases g2 with g2 | g2
        · exact Or.inl g2
        · rcases h2 with h2 | h2
          · omega
          · exact Or.inr (by omega)
      · rw [if_neg c2]
        exact fin a b h1 (by omega)
theorem t_rise_top {x y : Nat → Int} {n : Nat} {s : Int} (hn : n ≤ 12) (hx : ∀ p, p < n → 0 ≤ x p) (hy : ∀ p, p < n → 0 ≤ y p) (hs : 0 ≤ s) : (t_sum (t_g x y 1 1) n ≤ s ∧ t_rise x y n s 13 1 1 = (1, 1)) ∨ (s < t_sum (t_g x y 1 1) n ∧ t_P x y n s (t_rise x y n s 13 1 1).1 (t_rise x y n s 13 1 1).2) := by
  have hl := t_lin (x := x) (y := y) (a := 1) (b := 1) n
  have hY0 := t_sum_nn (t_ro_nn (x := x) (a := 1) (b := 1) hy)
  rw [t_rise]
  by_cases c1 : t_sum (t_ri x y 1 1) n = 0
  · rw [if_pos c1]; left; exact ⟨by omega, rfl⟩
  · rw [if_neg c1]
    by_cases c2 : s * 1 < 1 * t_sum (t_ri x y 1 1) n - 1 * t_sum (t_ro x y 1 1) n
    · rw [if_pos c2]; right
      obtain ⟨g1, g2⟩ := t_step hx hy hs (by decide) c1 c2
      refine ⟨by omega, t_rise_P hx hy hs 12 _ _ g1 ?_⟩
      have := t_cnt_le (x := x) (y := y) (a := 1) (b := 1) n
      exact g2.imp id (fun q => by omega)
    · rw [if_neg c2]; left; exact ⟨by omega, rfl⟩
/-! the reference's way: the lowest first -/
def t_in (T : Nat → Bool) (f : Nat → Int) (k : Nat) : Int := if T k = true then f k else 0
def t_ad (T : Nat → Bool) (p : Nat) : Nat → Bool := fun k => T k || k == p
theorem t_in_ad {T : Nat → Bool} {f : Nat → Int} {p : Nat} (hT : T p = false) : ∀ n, t_sum (t_in (t_ad T p) f) n = t_sum (t_in T f) n + if p < n then f p else 0 := by
  intro n
  induction n with
  | zero => rfl
  | succ n ih =>
    rw [t_sum, t_sum, ih]
    by_cases e : n = p
    · subst e
      rw [if_neg (Nat.lt_irrefl _), if_pos (Nat.lt_succ_self _)]
      simp [t_in, t_ad, hT]
    · have e1 : t_in (t_ad T p) f n = t_in T f n := by simp [t_in, t_ad, e]
      rw [e1]
      by_cases h : p < n
      · rw [if_pos h, if_pos (by omega)]; omega
      · rw [if_neg h, if_neg (by omega)]; omega
def t_low (x y : Nat → Int) (n : Nat) (T : Nat → Bool) (p : Nat) : Prop := p < n ∧ T p = false ∧ 0 < x p ∧ ∀ k, k < n → T k = false → 0 < x k → y p * x k ≤ y k * x p
def t_ord (x y : Nat → Int) (n : Nat) (T : Nat → Bool) : Prop := ∀ r, r < n → T r = true → 0 < x r ∧ ∀ q, q < n → T q = false → 0 < x q → y r * x q ≤ y q * x r
theorem t_ord_ad {x y : Nat → Int} {n : Nat} {T : Nat → Bool} {p : Nat} (h : t_ord x y n T) (hp : t_low x y n T p) : t_ord x y n (t_ad T p) := by
  intro r hr ht
  have hq : ∀ q, t_ad T p q = false → T q = false := fun q h => by
    simp only [t_ad, Bool.or_eq_false_iff] at h; exact h.1
  by_cases e : r = p
  · subst e; exact ⟨hp.2.2.1, fun q h1 h2 h3 => hp.2.2.2 q h1 (hq q h2) h3⟩
  · have hr2 : T r = true := by simpa [t_ad, e] using ht
    obtain ⟨g1, g2⟩ := h r hr hr2
    exact ⟨g1, fun q h1 h2 h3 => g2 q h1 (hq q h2) h3⟩
theorem t_div {a b c : Int} (hc : 0 < c) (h : a * c ≤ b * c) : a ≤ b := Int.le_of_mul_le_mul_right h hc
theorem t_fin {x y : Nat → Int} {n : Nat} {s : Int} {T : Nat → Bool} {p : Nat} (hx : ∀ p, p < n → 0 ≤ x p) (hy : ∀ p, p < n → 0 ≤ y p) (hs : 0 ≤ s) (ho : t_ord x y n T) (hp : t_low x y n T p) (hl : t_sum (t_in T x) n * y p ≤ (s + t_sum (t_in T y) n) * x p)
    (hend : (∀ k, k < n → t_ad T p k = true ∨ x k ≤ 0) ∨ ∃ q, t_low x y n (t_ad T p) q ∧ ¬ (t_sum (t_in T x) n + x p) * y q < (s + (t_sum (t_in T y) n + y p)) * x q) : t_P x y n s (s + (t_sum (t_in T y) n + y p)) (t_sum (t_in T x) n + x p) := by
  have nn : ∀ f : Nat → Int, (∀ p, p < n → 0 ≤ f p) → 0 ≤ t_sum (t_in T f) n := fun f hf => t_sum_nn fun k hk => by
    rw [t_in]; split
    · exact hf k hk
    · exact Int.le_refl _
  have hX0 := nn x hx
  have hY0 := nn y hy
  have e1 := t_in_ad (f := x) (p := p) hp.2.1 n
  have e2 := t_in_ad (f := y) (p := p) hp.2.1 n
  rw [if_pos hp.1] at e1 e2
  have hxp := hp.2.2.1
  have hyp := hy p hp.1
  have hp2 : y p * (t_sum (t_in T x) n + x p) ≤ (s + (t_sum (t_in T y) n + y p)) * x p := by
    have g1 : y p * (t_sum (t_in T x) n + x p) = t_sum (t_in T x) n * y p + y p * x p := by grind
    have g2 : (s + (t_sum (t_in T y) n + y p)) * x p = (s + t_sum (t_in T y) n) * x p + y p * x p := by grind
    omega
  have ho2 := t_ord_ad ho hp
  generalize t_sum (t_in T x) n = X0 at *
  generalize t_sum (t_in T y) n = Y0 at *
  rw [← e1] at hp2 hend ⊢
  rw [← e2] at hp2 hend ⊢
  have hXp : 0 < t_sum (t_in (t_ad T p) x) n := by omega
  have hYp : 0 ≤ t_sum (t_in (t_ad T p) y) n := by omega
  have hsum : t_sum (fun k => if t_ad T p k = true then (s + t_sum (t_in (t_ad T p) y) n) * x k - t_sum (t_in (t_ad T p) x) n * y k else 0) n = s * t_sum (t_in (t_ad T p) x) n := by
    have e : t_sum (fun k => if t_ad T p k = true then (s + t_sum (t_in (t_ad T p) y) n) * x k - t_sum (t_in (t_ad T p) x) n * y k else 0) n = (s + t_sum (t_in (t_ad T p) y) n) * t_sum (t_in (t_ad T p) x) n - t_sum (t_in (t_ad T p) x) n * t_sum (t_in (t_ad T p) y) n := by
      rw [← t_sum_mul (f := t_in (t_ad T p) x), ← t_sum_mul (f := t_in (t_ad T p) y), ← t_sum_sub]
      refine t_sum_congr n (fun k _ => ?_)
      rw [t_in, t_in]
      split
      · rfl
      · rw [Int.mul_zero, Int.mul_zero]; rfl
    rw [e]; grind
  generalize t_sum (t_in (t_ad T p) x) n = X at *
  generalize t_sum (t_in (t_ad T p) y) n = Y at *
  have hA : 0 ≤ s + Y := by omega
  have mem : ∀ k, k < n → t_ad T p k = true → y k * X ≤ (s + Y) * x k := by
    intro k hk ht
    by_cases e : k = p
    · subst e; exact hp2
    · have hk2 : T k = true := by simpa [t_ad, e] using ht
      obtain ⟨g1, g2⟩ := ho k hk hk2
      have g3 := g2 p hp.1 hp.2.1 hxp
      have g4 : (y k * x p) * X ≤ (y p * x k) * X := Int.mul_le_mul_of_nonneg_right g3 (Int.le_of_lt hXp)
      have g5 : (y p * X) * x k ≤ ((s + Y) * x p) * x k := Int.mul_le_mul_of_nonneg_right hp2 (Int.le_of_lt g1)
      refine t_div hxp ?_
      have r1 : y k * X * x p = (y k * x p) * X := by grind
      have r2 : (y p * x k) * X = (y p * X) * x k := by grind
      have r3 : (s + Y) * x k * x p = ((s + Y) * x p) * x k := by grind
      omega
  have out : ∀ k, k < n → t_ad T p k = false → (s + Y) * x k ≤ y k * X := by
    intro k hk ht
    have hxk := hx k hk
    have zero : x k = 0 → (s + Y) * x k ≤ y k * X := fun z => by
      rw [z, Int.mul_zero]; exact Int.mul_nonneg (hy k hk) (Int.le_of_lt hXp)
    rcases hend with hend | ⟨q, hq, hq2⟩
    · rcases hend k hk with c | c
      · rw [ht] at c; exact absurd c (by decide)
      · exact zero (by omega)
    · by_cases z : x k = 0
      · exact zero z
      · obtain ⟨q1, q2, q3, q4⟩ := hq
        have g3 := q4 k hk ht (by omega)
        have g4 : (y q * x k) * X ≤ (y k * x q) * X := Int.mul_le_mul_of_nonneg_right g3 (Int.le_of_lt hXp)
        have g5 : ((s + Y) * x q) * x k ≤ (X * y q) * x k := Int.mul_le_mul_of_nonneg_right (Int.not_lt.mp hq2) hxk
        refine t_div q3 ?_
        have r1 : (s + Y) * x k * x q = ((s + Y) * x q) * x k := by grind
        have r2 : (X * y q) * x k = (y q * x k) * X := by grind
        have r3 : y k * X * x q = (y k * x q) * X := by grind
        omega
  refine ⟨hXp, hA, ?_, p, hp.1, hxp, hp2⟩
  rw [← hsum]
  refine t_sum_congr n (fun k hk => ?_)
  rw [t_g]
  have e := Int.mul_comm (y k) X
  cases ht : t_ad T p k with
  | false =>
    have := out k hk ht
    rw [if_neg (by omega), if_neg (by decide)]
  | true =>
    have := mem k hk ht
    rw [if_pos rfl]
    split <;> omega
