/-! the months -/
theorem x_m64 {a b : Int64} (h1 : -(2 ^ 62) ≤ a.toInt * b.toInt) (h2 : a.toInt * b.toInt < 2 ^ 62) : (a * b).toInt = a.toInt * b.toInt := by
  rw [Int64.toInt_mul]
  simp only [Int.bmod_def]
  omega
theorem x_s64 {a b : Int64} (h1 : -(2 ^ 62) ≤ a.toInt - b.toInt) (h2 : a.toInt - b.toInt < 2 ^ 62) : (a - b).toInt = a.toInt - b.toInt := by
  rw [Int64.toInt_sub]
  simp only [Int.bmod_def]
  omega
theorem x_d64 {a b : Int64} (ha : 0 ≤ a.toInt) (hb : 0 < b.toInt) : (a / b).toInt = a.toInt / b.toInt := by
  rw [Int64.toInt_div_of_ne_right _ _ (fun e => by rw [e] at hb; exact absurd hb (by decide)), Int.tdiv_eq_ediv_of_nonneg ha]
theorem x_wL {I : am_I} {L : am_L} {N : Nat → Int64} (h : x_R I L N) {p s e : Nat} {v : Int64} (he : x_enc p s = e) (hr : ∀ L', x_rd I L' e = L' p s) (hf : ∀ d, d < 30 → ¬ 385 + 4 * d = e) : x_R I (am_u L p s v) (am_f N e v) := by
  refine x_upd h [e] (fun x hx => ?_) (fun _ _ _ _ _ _ _ _ => rfl) (fun a b _ _ _ _ _ hq => ?_) (fun d hd hm => ?_) (fun x hx _ => ?_)
  · rw [am_f_ne _ _ (by simpa using hx)]
  · rw [am_u_ne _ (x_ne (by simpa using hq) he)]
  · exact absurd (by simpa using hm) (hf d hd)
  · simp only [List.mem_cons, List.not_mem_nil, or_false] at hx
    subst hx; rw [hr, am_u_eq, am_f_eq]
theorem x_wI {I : am_I} {L : am_L} {N : Nat → Int64} (h : x_R I L N) {p s e : Nat} {v : Int32} (he : x_enc p s = e) (hr : ∀ I', x_rd I' L e = (I' p s).toInt64) (hf : ∀ d, d < 30 → ¬ 385 + 4 * d = e) : x_R (am_u I p s v) L (am_f N e v.toInt64) := by
  refine x_upd h [e] (fun x hx => ?_) (fun a b _ _ _ _ _ hq => ?_) (fun _ _ _ _ _ _ _ _ => rfl) (fun d hd hm => ?_) (fun x hx _ => ?_)
  · rw [am_f_ne _ _ (by simpa using hx)]
  · rw [am_u_ne _ (x_ne (by simpa using hq) he)]
  · exact absurd (by simpa using hm) (hf d hd)
  · simp only [List.mem_cons, List.not_mem_nil, or_false] at hx
    subst hx; rw [hr, am_u_eq, am_f_eq]
/-- a month's end in the reference's row -/
def h_fee (N : Nat → Int64) : Int64 := N 1185 * N 1186 / 1000
def h_1 (N : Nat → Int64) : Nat → Int64 := am_f (am_f N 1185 (N 1185 - h_fee N)) 1189 (N 1189 + h_fee N)
def h_2s (p : Nat) (M : Nat → Int64) : Nat → Int64 := am_f M (2 + 3 * p) (M (2 + 3 * p) + M (2 + 3 * p) * M 1187 / 1000)
def h_2 (k : Nat) (N : Nat → Int64) : Nat → Int64 := am_it h_2s N k
def h_3 (w : Nat) (N : Nat → Int64) : Nat → Int64 := am_f N (1056 + w) (N 1185)
def h_4 (np w : Nat) (N : Nat → Int64) : Nat → Int64 := am_f N (1116 + w) (am_sum (fun k => N (2 + 3 * k)) np)
def h_5 (N : Nat → Int64) : Nat → Int64 := am_f N 1178 (N 1178 + 1)
def h_mon (np w : Nat) (N : Nat → Int64) : Nat → Int64 := h_5 (h_4 np w (h_3 w (h_2 np (h_1 N))))
theorem h_2_ne {N : Nat → Int64} {e : Nat} (he : 36 ≤ e) : ∀ k, k ≤ 12 → h_2 k N e = N e := by
  intro k
  induction k with
  | zero => intro _; rfl
  | succ k ih =>
    intro hk
    have e1 : h_2 (k + 1) N = h_2s k (h_2 k N) := rfl
    rw [e1, h_2s, am_f_ne _ _ (by omega), ih (by omega)]
theorem h_mon_ne {np w : Nat} {N : Nat → Int64} {e : Nat} (hnp : np ≤ 12) (he : 1190 ≤ e) (hw : w < 60) : h_mon np w N e = N e := by
  rw [h_mon, h_5, am_f_ne _ _ (by omega), h_4, am_f_ne _ _ (by omega), h_3, am_f_ne _ _ (by omega), h_2_ne (by omega) _ hnp, h_1, am_f_ne _ _ (by omega), am_f_ne _ _ (by omega)]
theorem x_month {I : am_I} {L : am_L} {N : Nat → Int64} {np n w : Nat} (hR : x_R I L N) (o : x_led I L np n w) (hw : w + 1 < 60) : x_R (f_endI I) (f_endL I L np) (h_mon np w N) ∧ x_led (f_endI I) (f_endL I L np) np n (w + 1) := by
  obtain ⟨p1, p2, p3, p4, p5, p6, p7, p8, p9, p10⟩ := o
  have hcw : (I 11 8).toNatClampNeg = w := by rw [p5]; exact nI_clamp (by omega)
  refine ⟨?_, ?_⟩
  · have r1 : x_R I (am_u (am_u L 11 11 (L 11 11 - L 11 11 * (I 11 9).toInt64 / 1000)) 11 12 (L 11 12 + L 11 11 * (I 11 9).toInt64 / 1000)) (h_1 N) := by
      have q1 : N 1185 = L 11 11 := xh_acc hR
      have q2 : N 1186 = (I 11 9).toInt64 := xh_fee hR
      have q3 : N 1189 = L 11 12 := xh_fees hR
      rw [h_1, h_fee, q1, q2, q3]
      exact x_wL (x_wL hR (by decide) (fun L' => xr_acc) (fun d _ => by omega)) (by decide) (fun L' => xr_fees) (fun d _ => by omega)
    generalize hL1 : am_u (am_u L 11 11 (L 11 11 - L 11 11 * (I 11 9).toInt64 / 1000)) 11 12 (L 11 12 + L 11 11 * (I 11 9).toInt64 / 1000) = L1 at r1
    have r2 : ∀ k, k ≤ 12 → x_R I (f_grow L1 (I 11 10).toInt64 k) (h_2 k (h_1 N)) := by
      intro k
      induction k with
      | zero => intro _; rw [f_grow_0]; exact r1
      | succ k ih =>
        intro hk
        have ih := ih (by omega)
        have e1 : h_2 (k + 1) (h_1 N) = h_2s k (h_2 k (h_1 N)) := rfl
        rw [e1, h_2s, ← f_grow_s, xh_per_2 ih (by omega), xh_rate ih]
        exact x_wL ih (xe_per_2 _ (by omega)) (fun L' => xr_per_2 (by omega)) (fun d _ => by omega)
    have r2 := r2 np p2
    have r3 : x_R I (am_u (f_grow L1 (I 11 10).toInt64 np) 22 w (f_grow L1 (I 11 10).toInt64 np 11 11)) (h_3 w (h_2 np (h_1 N))) := by
      rw [h_3, xh_acc r2]
      exact x_wL r2 (xe_cns _ p6) (fun L' => xr_cns p6) (fun d _ => by omega)
    have r4 : x_R I (am_u (am_u (f_grow L1 (I 11 10).toInt64 np) 22 w (f_grow L1 (I 11 10).toInt64 np 11 11)) 23 w (am_sum ((am_u (f_grow L1 (I 11 10).toInt64 np) 22 w (f_grow L1 (I 11 10).toInt64 np 11 11)) 18) np)) (h_4 np w (h_3 w (h_2 np (h_1 N)))) := by
      rw [h_4, am_sum_congr np (fun k hk => xh_per_2 r3 (show k < 12 by omega))]
      exact x_wL r3 (xe_shs _ p6) (fun L' => xr_shs p6) (fun d _ => by omega)
    show x_R (am_u I 11 8 (I 11 8 + 1)) (am_u (am_u (f_grow (am_u (am_u L 11 11 (L 11 11 - L 11 11 * (I 11 9).toInt64 / 1000)) 11 12 (L 11 12 + L 11 11 * (I 11 9).toInt64 / 1000)) (I 11 10).toInt64 np) 22 (I 11 8).toNatClampNeg _) 23 (I 11 8).toNatClampNeg _) (h_5 _)
    rw [hL1, hcw, h_5, xh_now r4, p5, x_inc (by omega), ← p5]
    exact x_wI r4 (by decide) (fun I' => xr_now) (fun d _ => by omega)
  · have hcap := x_capb w (by omega)
    have hrate : 0 ≤ (I 11 10).toInt64.toInt ∧ (I 11 10).toInt64.toInt ≤ 50 := by
      have q1 := p7.1
      have q2 := p7.2
      rw [Int32.le_iff_toInt_le] at q1 q2
      have a1 : (0 : Int32).toInt = 0 := by decide
      have a2 : (50 : Int32).toInt = 50 := by decide
      rw [Int32.toInt_toInt64]
      omega
    refine ⟨p1, p2, p3, p4, ?_, hw, p7, p8, fun p hp => ?_, p10⟩
    · show am_u I 11 8 (I 11 8 + 1) 11 8 = _
      rw [am_u_eq, p5, nI_succ]
    · have z := p9 p hp
      have e18 : f_endL I L np 18 p = if p < np then L 18 p + L 18 p * (I 11 10).toInt64 / 1000 else L 18 p := rfl
      rw [e18]
      have hY : n * x_cap w ≤ 100 * 100000000 := Nat.mul_le_mul p4 hcap.2
      have hZ : n * x_cap w ≤ 20 * (n * (x_cap w / 20 + 1)) := by
        rw [show 20 * (n * (x_cap w / 20 + 1)) = n * (20 * (x_cap w / 20 + 1)) by rw [Nat.mul_left_comm]]
        exact Nat.mul_le_mul_left n (by omega)
      have hS : n * x_cap (w + 1) = n * x_cap w + n * (x_cap w / 20 + 1) := by rw [x_cap, Nat.mul_add]
      rw [hS]
      generalize n * x_cap w = Y at *
      generalize n * (x_cap w / 20 + 1) = Z at *
      generalize (I 11 10).toInt64 = r at *
      generalize L 18 p = s at *
      have k1 : 0 ≤ s.toInt * r.toInt := Int.mul_nonneg z.1 hrate.1
      have k2 : s.toInt * r.toInt ≤ s.toInt * 50 := Int.mul_le_mul_of_nonneg_left hrate.2 z.1
      have a1000 : (1000 : Int64).toInt = 1000 := by decide
      have m1 : (s * r).toInt = s.toInt * r.toInt := x_m64 (by omega) (by omega)
      have m2 : (s * r / 1000).toInt = s.toInt * r.toInt / 1000 := by rw [x_d64 (by rw [m1]; exact k1) (by rw [a1000]; decide), m1, a1000]
      generalize s.toInt * r.toInt = X at *
      split
      · rw [x_t64 (by rw [m2]; omega) (by rw [m2]; omega), m2]
        omega
      · omega
