/-! the clearing: both sides run through the same rounds -/
theorem x_sumb2 {f : Nat → Int64} {c : Nat} : ∀ n, c * n ≤ 1000000000000 → (∀ k, k < n → -(c : Int) ≤ (f k).toInt ∧ (f k).toInt ≤ c) → -((c * n : Nat) : Int) ≤ (am_sum f n).toInt ∧ (am_sum f n).toInt ≤ (c * n : Nat) := by
  intro n
  induction n with
  | zero => intro _ _; rw [Nat.mul_zero]; exact ⟨Int.le_refl _, Int.le_refl _⟩
  | succ n ih =>
    intro hc h
    rw [Nat.mul_succ] at hc ⊢
    obtain ⟨i2, i3⟩ := ih (by omega) (fun k hk => h k (by omega))
    obtain ⟨h1, h2⟩ := h n (by omega)
    rw [am_sum, x_add (by omega) (by omega)]
    omega
theorem x_netb {I : am_I} {L : am_L} {np n w : Nat} (o : x_led I L np n w) (p m : Int32) : -100000000 ≤ (am_sum (f_net I p m) n).toInt ∧ (am_sum (f_net I p m) n).toInt ≤ 100000000 := by
  have hn := o.2.2.2.1
  have one : ∀ r, r < n → -((1000000 : Nat) : Int) ≤ (f_net I p m r).toInt ∧ (f_net I p m r).toInt ≤ (1000000 : Nat) := by
    intro r hr
    obtain ⟨p', m', h1, h2, h3, h4, h5, h6⟩ := o.2.2.2.2.2.2.2.1 r hr
    rw [Int32.le_iff_toInt_le] at h5 h6
    have z5 : (-1000000 : Int32).toInt = -1000000 := by decide
    have z6 : (1000000 : Int32).toInt = 1000000 := by decide
    rw [z5] at h5
    rw [z6] at h6
    have e : (I 21 r).toInt64.toInt = (I 21 r).toInt := Int32.toInt_toInt64 _
    have z : (0 : Int64).toInt = 0 := by decide
    rw [f_net]
    split
    · split <;> omega
    · omega
  have := x_sumb2 (f := f_net I p m) (c := 1000000) n (by omega) one
  omega
theorem x_coinb {I : am_I} {L : am_L} {np n w h : Nat} (o : x_led I L np n w) (o4 : x_hou I) (hh : h < 8) : 0 ≤ (f_coins I n np h).toInt ∧ (f_coins I n np h).toInt ≤ 1000000 := by
  have hp := o.2.1
  obtain ⟨c1, c2⟩ := o4.1 h hh
  rw [Int32.le_iff_toInt_le] at c1 c2
  have z6 : (1000000 : Int32).toInt = 1000000 := by decide
  have z0 : (0 : Int32).toInt = 0 := by decide
  have e : (I 48 h).toInt64.toInt = (I 48 h).toInt := Int32.toInt_toInt64 _
  rw [f_coins]
  split
  · omega
  · have key : ∀ k, k ≤ np → 0 ≤ (am_it (f_gone I n (nI h)) 0 k).toInt ∧ (am_it (f_gone I n (nI h)) 0 k).toInt ≤ 100000000 * k := by
      intro k
      induction k with
      | zero => intro _; exact ⟨Int.le_refl _, Int.le_refl _⟩
      | succ k ih =>
        intro hk
        obtain ⟨i1, i2⟩ := ih (by omega)
        have hb := x_netb o (nI k) 60
        rw [am_it_s, f_gone]
        split
        · have hm := x_mxI (am_sum (f_net I (nI k) 60) n)
          split at hm
          · rw [x_add (by omega) (by omega)]; omega
          · rw [x_add (by omega) (by omega)]; omega
        · omega
    obtain ⟨k1, k2⟩ := key np (Nat.le_refl _)
    rw [x_mxI, x_s64 (by omega) (by omega)]
    split <;> omega
theorem x_own_eq {I : am_I} {L : am_L} {np n w h : Nat} (hR : x_R I L (L 191)) (o : x_led I L np n w) (o4 : x_hou I) (hx : ∀ m, m < 60 → 1 ≤ I 39 m) (hh : h < 8) : g_own L n np h = f_coins I n np h := by
  have hp := o.2.1
  rw [g_own, f_coins, xh_str hR, xh_coi hR hh]
  have one : (1 : Int64) = (1 : Int32).toInt64 := by decide
  rw [one]
  by_cases c : I 14 2 = 0
  · rw [if_pos c, if_neg (fun q => by rw [x_eq64, c] at q; exact absurd q (by decide))]
    refine am_mx_le ?_
    have := (o4.1 h hh).1
    rw [show (0 : Int64) = (0 : Int32).toInt64 by decide, am_le64]; exact this
  · have c1 : I 14 2 = 1 := (o4.2.2.1).elim (fun q => absurd q c) id
    rw [if_neg c, if_pos (by rw [c1])]
    congr 1
    have key : ∀ k, k ≤ np → am_it (g_ow L n h) (I 48 h).toInt64 k = (I 48 h).toInt64 - am_it (f_gone I n (nI h)) 0 k := by
      intro k
      induction k with
      | zero => intro _; show (I 48 h).toInt64 = (I 48 h).toInt64 - 0; rw [Int64.sub_zero]
      | succ k ih =>
        intro hk
        have e0 : g_cnt L n k 0 = am_mx (am_sum (f_net I (nI k) 60) n) := by
          rw [← xs_cnt hR o hx (show k < 12 by omega), f_cnt, if_pos rfl]
        rw [am_it_s, am_it_s, ih (by omega), g_ow, f_gone, xh_per_0 hR (show k < 12 by omega), e0]
        simp only [x_eq64]
        split
        · grind
        · rw [Int64.sub_zero]
    exact key np (Nat.le_refl _)
/-! numbers of one round -/
def z_sh (O D P : Nat → Int) (k t : Nat) : Int := if D k = 0 then 0 else P k * O (k * 8 + t) / D k
def z_stp2 (O C D P : Nat → Int) (h : Nat) : Int := if C h + t_sum (fun k => z_sh O D P k h) 8 < D h then C h + t_sum (fun k => z_sh O D P k h) 8 else D h
theorem z_sh_le {O D P P' : Nat → Int} {k t : Nat} (hO : 0 ≤ O (k * 8 + t)) (hD : 0 ≤ D k) (h : P k ≤ P' k) : z_sh O D P k t ≤ z_sh O D P' k t := by
  rw [z_sh, z_sh]
  split
  · exact Int.le_refl _
  · exact Int.ediv_le_ediv (by omega) (Int.mul_le_mul_of_nonneg_right h hO)
theorem z_stp2_le {O C D P P' : Nat → Int} {h : Nat} (hO : ∀ i, i < 64 → 0 ≤ O i) (hD : ∀ k, k < 8 → 0 ≤ D k) (hh : h < 8) (hP : ∀ k, k < 8 → P k ≤ P' k) : z_stp2 O C D P h ≤ z_stp2 O C D P' h := by
  have := t_sum_le (f := fun k => z_sh O D P k h) (g := fun k => z_sh O D P' k h) 8 (fun k hk => z_sh_le (hO _ (by omega)) (hD k hk) (hP k hk))
  rw [z_stp2, z_stp2]
  split <;> split <;> omega
section CLEAR
variable {o c : Nat → Int64}
def x_oc (o c : Nat → Int64) : Prop := (∀ i, i < 64 → 0 ≤ (o i).toInt ∧ (o i).toInt ≤ 10000) ∧ ∀ h, h < 8 → 0 ≤ (c h).toInt ∧ (c h).toInt ≤ 1000000
theorem x_Db (hb : x_oc o c) {h : Nat} (hh : h < 8) : 0 ≤ (c_D o h).toInt ∧ (c_D o h).toInt ≤ 80000 := by
  have := x_sumbd (f := fun t => o (h * 8 + t)) (c := 10000) 8 (by decide) (fun t ht => hb.1 _ (by omega))
  rw [c_D]
  omega
theorem x_stp (hb : x_oc o c) {p : Nat → Int64} (hp : ∀ k, k < 8 → 0 ≤ (p k).toInt ∧ (p k).toInt ≤ 80000) {h : Nat} (hh : h < 8) : (c_step o c p h).toInt = z_stp2 (fun i => (o i).toInt) (fun i => (c i).toInt) (fun k => (c_D o k).toInt) (fun k => (p k).toInt) h ∧ 0 ≤ (c_step o c p h).toInt ∧ (c_step o c p h).toInt ≤ 80000 := by
  have one : ∀ k, k < 8 → (c_sh o p k h).toInt = z_sh (fun i => (o i).toInt) (fun k => (c_D o k).toInt) (fun k => (p k).toInt) k h ∧ 0 ≤ (c_sh o p k h).toInt ∧ (c_sh o p k h).toInt ≤ (800000000 : Nat) := by
    intro k hk
    obtain ⟨d0, d1⟩ := x_Db hb hk
    obtain ⟨p0, p1⟩ := hp k hk
    obtain ⟨o0, o1⟩ := hb.1 (k * 8 + h) (by omega)
    obtain ⟨m1, m2, m3⟩ := x_mm (a := p k) (b := o (k * 8 + h)) (A := 80000) (B := 10000) p0 p1 o0 o1 (by decide)
    have z : c_D o k = 0 ↔ (c_D o k).toInt = 0 := by rw [← Int64.toInt_inj]; rfl
    rw [c_sh, am_cut, z_sh]
    by_cases e : c_D o k = 0
    · rw [if_pos e, if_pos (z.mp e)]; decide
    · have e2 : ¬ (c_D o k).toInt = 0 := fun q => e (z.mpr q)
      have dv := x_d64 (a := p k * o (k * 8 + h)) (b := c_D o k) (by omega) (by omega)
      rw [if_neg e, if_neg e2, dv, m1]
      have g1 := Int.ediv_nonneg m2 d0
      have g2 := Int.ediv_le_self (c_D o k).toInt m2
      exact ⟨rfl, g1, by omega⟩
  obtain ⟨s1, s2, s3⟩ := x_sumbd (f := fun k => c_sh o p k h) (c := 800000000) 8 (by decide) (fun k hk => (one k hk).2)
  obtain ⟨c0, c1⟩ := hb.2 h hh
  obtain ⟨d0, d1⟩ := x_Db hb hh
  have e1 : (c h + am_sum (fun k => c_sh o p k h) 8).toInt = (c h).toInt + (am_sum (fun k => c_sh o p k h) 8).toInt := x_add (by omega) (by omega)
  have e2 : (am_sum (fun k => c_sh o p k h) 8).toInt = t_sum (fun k => z_sh (fun i => (o i).toInt) (fun k => (c_D o k).toInt) (fun k => (p k).toInt) k h) 8 := by
    rw [s1]; exact t_sum_congr 8 (fun k hk => (one k hk).1)
  rw [c_step, z_stp2, ← e2, ← e1]
  have hc : c h + am_sum (fun k => c_sh o p k h) 8 < c_D o h ↔ (c h + am_sum (fun k => c_sh o p k h) 8).toInt < (c_D o h).toInt := Int64.lt_iff_toInt_lt
  by_cases q : c h + am_sum (fun k => c_sh o p k h) 8 < c_D o h
  · have := hc.mp q
    rw [if_pos q, if_pos (hc.mp q)]; exact ⟨rfl, by omega, by omega⟩
  · rw [if_neg q, if_neg (fun z => q (hc.mpr z))]; exact ⟨rfl, d0, d1⟩
def c_sqn (o c p : Nat → Int64) : Nat → Nat → Int64
  | 0 => p
  | i + 1 => c_nx o c (c_sqn o c p i) 8
theorem c_sqn_s (p : Nat → Int64) : ∀ m, c_sqn o c p (m + 1) = c_sqn o c (c_nx o c p 8) m := by
  intro m
  induction m with
  | zero => rfl
  | succ m ih => rw [c_sqn, ih, c_sqn]
theorem c_nx8 {p : Nat → Int64} {h : Nat} (hh : h < 8) : c_nx o c p 8 h = c_step o c p h := by rw [c_nx, if_pos hh]
theorem c_run_m : ∀ m (p : Nat → Int64) f k, m ≤ f → (∀ i, i < m → ¬ ∀ h, h < 8 → c_step o c (c_sqn o c p i) h = c_sqn o c p i h) → (∀ h, h < 8 → c_step o c (c_sqn o c p m) h = c_sqn o c p m h) → c_run o c f p (nI k) = (c_sqn o c p m, nI (k + m)) := by
  intro m
  induction m with
  | zero =>
    intro p f k _ _ h2
    cases f with
    | zero => rfl
    | succ f => rw [c_run, if_pos (show ∀ h, h < 8 → c_step o c p h = p h from h2)]; rfl
  | succ m ih =>
    intro p f k hf h1 h2
    obtain ⟨f, rfl⟩ : ∃ g, f = g + 1 := ⟨f - 1, by omega⟩
    rw [c_run, if_neg (show ¬ ∀ h, h < 8 → c_step o c p h = p h from h1 0 (by omega)), c_sqn_s, ← nI_succ, ih _ f (k + 1) (by omega) (fun i hi => by rw [← c_sqn_s]; exact h1 (i + 1) (by omega)) (by rw [← c_sqn_s]; exact h2)]
    congr 2
    omega
/-- the rounds come to rest -/
theorem x_rest (hb : x_oc o c) {p : Nat → Int64} (hp : ∀ k, k < 8 → 0 ≤ (p k).toInt ∧ (p k).toInt ≤ 80000) (hm : (∀ h, h < 8 → (p h).toInt ≤ (c_step o c p h).toInt) ∨ ∀ h, h < 8 → (c_step o c p h).toInt ≤ (p h).toInt) : ∃ m, m ≤ 640000 ∧ (∀ i, i < m → ¬ ∀ h, h < 8 → c_step o c (c_sqn o c p i) h = c_sqn o c p i h) ∧ ∀ h, h < 8 → c_step o c (c_sqn o c p m) h = c_sqn o c p m h := by
  have hO : ∀ i, i < 64 → 0 ≤ (fun i => (o i).toInt) i := fun i hi => (hb.1 i hi).1
  have hD : ∀ k, k < 8 → 0 ≤ (fun k => (c_D o k).toInt) k := fun k hk => (x_Db hb hk).1
  have rg : ∀ i k, k < 8 → 0 ≤ (c_sqn o c p i k).toInt ∧ (c_sqn o c p i k).toInt ≤ 80000 := by
    intro i
    induction i with
    | zero => exact hp
    | succ i ih => intro k hk; rw [c_sqn, c_nx8 hk]; exact (x_stp hb ih hk).2
  have first : ∀ N, (∃ m, m ≤ N ∧ (∀ i, i < m → ¬ ∀ h, h < 8 → c_step o c (c_sqn o c p i) h = c_sqn o c p i h) ∧ ∀ h, h < 8 → c_step o c (c_sqn o c p m) h = c_sqn o c p m h) ∨ ∀ i, i ≤ N → ¬ ∀ h, h < 8 → c_step o c (c_sqn o c p i) h = c_sqn o c p i h := by
    intro N
    induction N with
    | zero =>
      by_cases q : ∀ h, h < 8 → c_step o c (c_sqn o c p 0) h = c_sqn o c p 0 h
      · exact Or.inl ⟨0, Nat.le_refl _, fun i hi => absurd hi (Nat.not_lt_zero _), q⟩
      · exact Or.inr (fun i hi => by rw [show i = 0 from (by omega)]; exact q)
    | succ N ih =>
      rcases ih with ⟨m, m1, m2, m3⟩ | ih
      · exact Or.inl ⟨m, by omega, m2, m3⟩
      · by_cases q : ∀ h, h < 8 → c_step o c (c_sqn o c p (N + 1)) h = c_sqn o c p (N + 1) h
        · exact Or.inl ⟨N + 1, Nat.le_refl _, fun i hi => ih i (by omega), q⟩
        · exact Or.inr (fun i hi => by
            by_cases e : i = N + 1
            · rw [e]; exact q
            · exact ih i (by omega))
  rcases first 640000 with q | q
  · exact q
  · exfalso
    have nx : ∀ i h, h < 8 → (c_sqn o c p (i + 1) h).toInt = z_stp2 (fun i => (o i).toInt) (fun i => (c i).toInt) (fun k => (c_D o k).toInt) (fun k => (c_sqn o c p i k).toInt) h := fun i h hh => by rw [c_sqn, c_nx8 hh]; exact (x_stp hb (rg i) hh).1
    have ne : ∀ i, i ≤ 640000 → ∃ h, h < 8 ∧ ¬ (c_sqn o c p (i + 1) h).toInt = (c_sqn o c p i h).toInt := by
      intro i hi
      refine Classical.byContradiction fun z => q i hi (fun h hh => ?_)
      refine Classical.byContradiction fun z2 => z ⟨h, hh, fun e => z2 ?_⟩
      rw [← c_nx8 (c := c) hh]
      exact Int64.toInt_inj.mp e
    have bd : ∀ i, 0 ≤ t_sum (fun k => (c_sqn o c p i k).toInt) 8 ∧ t_sum (fun k => (c_sqn o c p i k).toInt) 8 ≤ 640000 := by
      intro i
      have g1 := t_sum_nn (f := fun k => (c_sqn o c p i k).toInt) (n := 8) (fun k hk => (rg i k hk).1)
      have g2 := t_sum_le (f := fun k => (c_sqn o c p i k).toInt) (g := fun _ => 80000) 8 (fun k hk => (rg i k hk).2)
      have g3 : t_sum (fun _ => (80000 : Int)) 8 = 640000 := by decide
      omega
    rcases hm with hm | hm
    · have up : ∀ i h, h < 8 → (c_sqn o c p i h).toInt ≤ (c_sqn o c p (i + 1) h).toInt := by
        intro i
        induction i with
        | zero => intro h hh; rw [c_sqn, c_sqn, c_nx8 hh]; exact hm h hh
        | succ i ih => intro h hh; rw [nx i h hh, nx (i + 1) h hh]; exact z_stp2_le hO hD hh ih
      have grow : ∀ i : Nat, i ≤ 640001 → (i : Int) ≤ t_sum (fun k => (c_sqn o c p i k).toInt) 8 := by
        intro i
        induction i with
        | zero => intro _; exact (bd 0).1
        | succ i ih =>
          intro hi
          obtain ⟨h, hh, hne⟩ := ne i (by omega)
          have := t_sum_lt (f := fun k => (c_sqn o c p i k).toInt) (g := fun k => (c_sqn o c p (i + 1) k).toInt) 8 (fun k hk => up i k hk) ⟨h, hh, by have := up i h hh; omega⟩
          have := ih (by omega)
          omega
      have g1 := grow 640001 (Nat.le_refl _)
      have g2 := (bd 640001).2
      omega
    · have down : ∀ i h, h < 8 → (c_sqn o c p (i + 1) h).toInt ≤ (c_sqn o c p i h).toInt := by
        intro i
        induction i with
        | zero => intro h hh; rw [c_sqn, c_sqn, c_nx8 hh]; exact hm h hh
        | succ i ih => intro h hh; rw [nx i h hh, nx (i + 1) h hh]; exact z_stp2_le hO hD hh ih
      have fall : ∀ i : Nat, i ≤ 640001 → t_sum (fun k => (c_sqn o c p i k).toInt) 8 ≤ 640000 - (i : Int) := by
        intro i
        induction i with
        | zero => intro _; have := (bd 0).2; omega
        | succ i ih =>
          intro hi
          obtain ⟨h, hh, hne⟩ := ne i (by omega)
          have := t_sum_lt (f := fun k => (c_sqn o c p (i + 1) k).toInt) (g := fun k => (c_sqn o c p i k).toInt) 8 (fun k hk => down i k hk) ⟨h, hh, by have := down i h hh; omega⟩
          have := ih (by omega)
          omega
      have g1 := fall 640001 (Nat.le_refl _)
      have g2 := (bd 640001).1
      omega
end CLEAR
