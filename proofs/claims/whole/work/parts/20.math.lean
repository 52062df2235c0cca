/-! counts, sums, ranges -/
def am_sum (f : Nat → Int64) : Nat → Int64
  | 0 => 0
  | n + 1 => am_sum f n + f n
def am_it {α : Type} (step : Nat → α → α) (a : α) : Nat → α
  | 0 => a
  | n + 1 => step n (am_it step a n)
def am_mx (x : Int64) : Int64 := if x < 0 then 0 else x
/-- the first place from k on, m of them looked at -/
def am_find (c : Nat → Prop) [DecidablePred c] : Nat → Nat → Int32
  | 0, _ => -1
  | m + 1, k => if c k then nI k else am_find c m (k + 1)
theorem am_sum_congr {f g : Nat → Int64} : ∀ n, (∀ k, k < n → f k = g k) → am_sum f n = am_sum g n := by
  intro n
  induction n with
  | zero => intro _; rfl
  | succ n ih => intro h; rw [am_sum, am_sum, ih (fun k hk => h k (Nat.lt_succ_of_lt hk)), h n (Nat.lt_succ_self n)]
theorem am_down {n : Nat} {P : Nat → Prop} (h0 : P n) (hs : ∀ k, k < n → P (k + 1) → P k) : ∀ k, k ≤ n → P k := by
  intro k hk
  induction hd : n - k generalizing k with
  | zero =>
    have : k = n := by omega
    subst this; exact h0
  | succ j ih => exact hs k (by omega) (ih (k + 1) (by omega) (by omega))
theorem am_vI {k n : Nat} (h : k < n) (hn : n < 2 ^ 31) : vp_in (nI k) n := by
  intro h1
  rcases h1 with h1 | h1
  · exact nI_pos (by omega) h1
  · rw [nI_clamp (by omega)] at h1; omega
theorem am_nI {x : Int32} (h0 : 0 ≤ x) : nI x.toNatClampNeg = x := by
  have h1 : 0 ≤ x.toInt := by rw [Int32.le_iff_toInt_le] at h0; simpa using h0
  have h2 : (x.toNatClampNeg : Int) = x.toInt := Int.toNat_of_nonneg h1
  have h3 := Int32.toInt_lt x
  apply Int32.toInt_inj.mp
  rw [nI_toInt (by omega)]
  exact h2
theorem am_l2i_id (x : Int32) : x.toInt64.toInt32 = x := by simp
theorem nI_12 : (12 : Int32) = nI 12 := by decide
/-! what the fund's own sums are -/
def f_in (I : am_I) (p : Int32) (r : Nat) : Int64 := if I 19 r = p then (if I 21 r ≤ 0 then 0 else (I 21 r).toInt64) else 0
def f_out (I : am_I) (p m : Int32) (r : Nat) : Int64 := if I 19 r = p then (if 0 ≤ I 21 r then 0 else if I 20 r < m then 0 else -(I 21 r).toInt64) else 0
def f_net (I : am_I) (p m : Int32) (r : Nat) : Int64 := if I 19 r = p then (if m < I 20 r then 0 else (I 21 r).toInt64) else 0
def f_ina (I : am_I) (a b : Int32) (r : Nat) : Int64 := if I 21 r ≤ 0 then 0 else if I 20 r < a then 0 else if b < I 20 r then 0 else (I 21 r).toInt64
def f_outa (I : am_I) (a b : Int32) (r : Nat) : Int64 := if 0 ≤ I 21 r then 0 else if I 20 r < a then 0 else if b < I 20 r then 0 else -(I 21 r).toInt64
def f_lost (I : am_I) (m : Int32) (n p : Nat) : Int64 := am_mx (am_sum (f_net I (nI p) m) n)
def f_dp (I : am_I) (L : am_L) (k : Nat) (h : Int64) : Int64 := 31 * (31 * (31 * h + (I 16 k).toInt64) + (I 17 k).toInt64) + L 18 k
def f_dr (I : am_I) (k : Nat) (h : Int64) : Int64 := 31 * (31 * (31 * h + (I 19 k).toInt64) + (I 20 k).toInt64) + (I 21 k).toInt64
def f_grow (L : am_L) (rate : Int64) (k : Nat) : am_L := fun a b => if a = 18 then (if b < k then L 18 b + L 18 b * rate / 1000 else L 18 b) else L a b
theorem f_grow_0 (L : am_L) (rate : Int64) : f_grow L rate 0 = L := by
  funext a b
  unfold f_grow
  split
  · next h => simp [h]
  · rfl
theorem f_grow_s (L : am_L) (rate : Int64) (k : Nat) : am_u (f_grow L rate k) 18 k (f_grow L rate k 18 k + f_grow L rate k 18 k * rate / 1000) = f_grow L rate (k + 1) := by
  funext a b
  by_cases ha : a = 18
  · subst ha
    by_cases hb : b = k
    · subst hb; simp [am_u, f_grow]
    · by_cases h1 : b < k
      · simp [am_u, f_grow, hb, h1, Nat.lt_succ_of_lt h1]
      · have h4 : ¬ b < k + 1 := by omega
        simp [am_u, f_grow, hb, h1, h4]
  · simp [am_u, f_grow, ha]
theorem nI_qa (a b : Nat) : nI a + nI b = nI (a + b) := by simp [nI, Int32.ofNat_add]
theorem nI_qm (a b : Nat) : nI a * nI b = nI (a * b) := by simp [nI, Int32.ofNat_mul]
theorem am_cx {i : Int32} {m : Nat} (h : i = nI m) (hm : m < 2 ^ 31) : i.toNatClampNeg = m := by rw [h]; exact nI_clamp hm
theorem am_vx {i : Int32} {m n : Nat} (h : i = nI m) (hm : m < n) (hn : n < 2 ^ 31) : vp_in i n := by rw [h]; exact fun q => (am_vI hm (by omega)) (by rcases q with q | q; exact Or.inl q; exact Or.inr (by rw [nI_clamp (by omega)] at q ⊢; omega))
theorem nq_0 : (0 : Int32) = nI 0 := by decide
theorem nq_1 : (1 : Int32) = nI 1 := by decide
theorem nq_2 : (2 : Int32) = nI 2 := by decide
theorem nq_3 : (3 : Int32) = nI 3 := by decide
theorem nq_4 : (4 : Int32) = nI 4 := by decide
theorem nq_8 : (8 : Int32) = nI 8 := by decide
theorem nq_36 : (36 : Int32) = nI 36 := by decide
theorem nq_336 : (336 : Int32) = nI 336 := by decide
theorem nq_384 : (384 : Int32) = nI 384 := by decide
theorem nq_504 : (504 : Int32) = nI 504 := by decide
theorem nq_664 : (664 : Int32) = nI 664 := by decide
theorem nq_724 : (724 : Int32) = nI 724 := by decide
theorem nq_844 : (844 : Int32) = nI 844 := by decide
theorem nq_852 : (852 : Int32) = nI 852 := by decide
theorem nq_916 : (916 : Int32) = nI 916 := by decide
theorem nq_976 : (976 : Int32) = nI 976 := by decide
theorem nq_1016 : (1016 : Int32) = nI 1016 := by decide
theorem nq_1032 : (1032 : Int32) = nI 1032 := by decide
theorem nq_1056 : (1056 : Int32) = nI 1056 := by decide
theorem nq_1116 : (1116 : Int32) = nI 1116 := by decide
theorem nq_1176 : (1176 : Int32) = nI 1176 := by decide
theorem nq_1200 : (1200 : Int32) = nI 1200 := by decide
