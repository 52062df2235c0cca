/-! even and funds -/
variable {xc : Nat → Int32}
theorem x_rem {a b : Int64} (hb : ¬ b = 0) : (a - a / b * b).toInt = a.toInt.tmod b.toInt := by
  have e : (a - a / b * b).toInt = (a.toInt - a.toInt.tdiv b.toInt * b.toInt).bmod (2 ^ 64) := by
    simp only [Int64.toInt_sub, Int64.toInt_mul, Int64.toInt_div, Int.bmod_mul_bmod, Int.sub_bmod_bmod]
  have hb0 : b.toInt ≠ 0 := fun z => hb (Int64.toInt_inj.mp z)
  have e2 : a.toInt - a.toInt.tdiv b.toInt * b.toInt = a.toInt.tmod b.toInt := by
    have := Int.mul_tdiv_add_tmod a.toInt b.toInt
    rw [Int.mul_comm] at this
    omega
  have h1 := Int.natAbs_tmod a.toInt b.toInt
  have h2 : a.toInt.natAbs % b.toInt.natAbs < b.toInt.natAbs := Nat.mod_lt _ (by omega)
  have h3 := Int64.toInt_lt b
  have h4 := Int64.le_toInt b
  rw [e, e2]
  simp only [Int.bmod_def]
  omega
theorem x_gz : ∀ k (a b : Int64), b.toInt.natAbs < 2 ^ k → ∀ f, 2 * k + 1 ≤ f → g_gz (am_gcd f a b) f a b ∧ (am_gcd f a b).toInt.natAbs = Nat.gcd a.toInt.natAbs b.toInt.natAbs := by
  have z0 : ∀ (a b : Int64) f, 1 ≤ f → b = 0 → g_gz (am_gcd f a b) f a b ∧ (am_gcd f a b).toInt.natAbs = Nat.gcd a.toInt.natAbs b.toInt.natAbs := by
    intro a b f hf hb
    obtain ⟨f, rfl⟩ : ∃ g, f = g + 1 := ⟨f - 1, by omega⟩
    rw [am_gcd, g_gz, if_pos hb, if_pos hb, hb]
    exact ⟨rfl, (Nat.gcd_zero_right _).symm⟩
  have st : ∀ (a b : Int64) f, ¬ b = 0 → (g_gz (am_gcd f b (a - a / b * b)) f b (a - a / b * b) ∧ (am_gcd f b (a - a / b * b)).toInt.natAbs = Nat.gcd b.toInt.natAbs (a - a / b * b).toInt.natAbs) → g_gz (am_gcd (f + 1) a b) (f + 1) a b ∧ (am_gcd (f + 1) a b).toInt.natAbs = Nat.gcd a.toInt.natAbs b.toInt.natAbs := by
    intro a b f hb h
    rw [am_gcd, g_gz, if_neg hb, if_neg hb]
    refine ⟨h.1, ?_⟩
    rw [h.2, x_rem hb, Int.natAbs_tmod, Nat.gcd_comm, ← Nat.gcd_rec, Nat.gcd_comm]
  intro k
  induction k with
  | zero =>
    intro a b hb f hf
    exact z0 a b f hf (Int64.toInt_inj.mp (by show b.toInt = 0; omega))
  | succ k ih =>
    intro a b hb f hf
    by_cases h0 : b = 0
    · exact z0 a b f (by omega) h0
    · obtain ⟨f, rfl⟩ : ∃ g, f = g + 2 := ⟨f - 2, by omega⟩
      refine st a b (f + 1) h0 ?_
      have hr := x_rem (a := a) h0
      generalize a - a / b * b = r at hr
      by_cases h1 : r = 0
      · exact z0 b r (f + 1) (by omega) h1
      · refine st b r f h1 (ih r _ ?_ f (by omega))
        rw [x_rem h1, Int.natAbs_tmod]
        have hb0 : b.toInt ≠ 0 := fun z => h0 (Int64.toInt_inj.mp z)
        have hr0 : r.toInt ≠ 0 := fun z => h1 (Int64.toInt_inj.mp z)
        have e := congrArg Int.natAbs hr
        rw [Int.natAbs_tmod] at e
        have l1 : a.toInt.natAbs % b.toInt.natAbs < b.toInt.natAbs := Nat.mod_lt _ (by omega)
        have l2 : b.toInt.natAbs % r.toInt.natAbs < r.toInt.natAbs := Nat.mod_lt _ (by omega)
        have l3 : b.toInt.natAbs % r.toInt.natAbs = b.toInt.natAbs - r.toInt.natAbs * (b.toInt.natAbs / r.toInt.natAbs) := by
          have := Nat.mod_add_div b.toInt.natAbs r.toInt.natAbs
          omega
        have l4 : 1 ≤ b.toInt.natAbs / r.toInt.natAbs := Nat.div_pos (by omega) (by omega)
        have l5 : r.toInt.natAbs * 1 ≤ r.toInt.natAbs * (b.toInt.natAbs / r.toInt.natAbs) := Nat.mul_le_mul_left _ l4
        rw [Nat.pow_succ] at hb
        omega
theorem x_gz200 (a : Int64) {b : Int64} (hb : ¬ b = 0) : g_gz (am_gcd 200 a b) 200 a b ∧ ¬ am_gcd 200 a b = 0 ∧ (am_gcd 200 a b).toInt.natAbs = Nat.gcd a.toInt.natAbs b.toInt.natAbs := by
  have h3 := Int64.toInt_lt b
  have h4 := Int64.le_toInt b
  have hb0 : b.toInt ≠ 0 := fun z => hb (Int64.toInt_inj.mp z)
  obtain ⟨h1, h2⟩ := x_gz 64 a b (by omega) 200 (by omega)
  refine ⟨h1, fun z => ?_, h2⟩
  rw [z] at h2
  have := Nat.gcd_pos_of_pos_right a.toInt.natAbs (show 0 < b.toInt.natAbs by omega)
  have h5 : (0 : Int64).toInt.natAbs = 0 := by decide
  omega
/-- the fraction told: both sides write the same lowest terms -/
theorem x_keepf {I : am_I} {L L' : am_L} (h : x_Inv xc I L) (hL : ∀ a x, a ≠ 7 → (a ≠ 191 ∨ (x ≠ 1193 ∧ x ≠ 1194)) → L' a x = L a x) (hf : x_fra L') : x_Inv xc I L' := by
  obtain ⟨hR, hF, hO, ⟨hi0, hi1⟩, hr, hc, hn⟩ := h
  have hw : x_wq I L I L' := fun a x h1 h2 h3 h4 h5 => ⟨rfl, hL a x (by omega) (Or.inl (by omega))⟩
  refine ⟨x_R_c hR hw (fun e he => hL 191 e (by decide) (Or.inr (by omega))), hf, x_ok_c hO hw, ⟨?_, ?_⟩, hr, ?_, fun x hx => ?_⟩
  · exact x_img_c (by decide) hi0 (fun _ _ _ _ => rfl) (fun a x h1 h2 => hL a x (by omega) (Or.inl (by omega))) rfl (fun x => hL 192 x (by decide) (Or.inl (by decide)))
  · exact x_img_c (by decide) hi1 (fun _ _ _ _ => rfl) (fun a x h1 h2 => hL a x (by omega) (Or.inl (by omega))) rfl (fun x => hL 192 x (by decide) (Or.inl (by decide)))
  · exact x_cac_c hc (fun _ _ _ _ => rfl) (fun a x h1 h2 => hL a x (by omega) (Or.inl (by omega)))
  · rw [hL 185 x (by decide) (Or.inl (by decide)), hL 201 x (by decide) (Or.inl (by decide))]; exact hn x hx
def x_L7 (L : am_L) (a b : Int64) : am_L := am_u (am_u L 7 0 a) 7 1 b
def x_L91 (L : am_L) (a b : Int64) : am_L := am_u (am_u L 191 1193 a) 191 1194 b
theorem x_told {I : am_I} {L : am_L} {a b : Int64} (h : x_Inv xc I L) : x_Inv xc I (x_L91 (x_L7 L a b) a b) := by
  refine x_keepf h (fun p x h1 h2 => ?_) ⟨?_, ?_⟩
  · rw [x_L91, x_L7, am_u_ne _ (by omega), am_u_ne _ (by omega), am_u_ne _ (Or.inl h1), am_u_ne _ (Or.inl h1)]
  · rw [x_L91, x_L7, am_u_ne _ (Or.inr (by decide)), am_u_eq, am_u_ne _ (Or.inl (by decide)), am_u_ne _ (Or.inl (by decide)), am_u_ne _ (Or.inr (by decide)), am_u_eq]
  · rw [x_L91, x_L7, am_u_eq, am_u_ne _ (Or.inl (by decide)), am_u_ne _ (Or.inl (by decide)), am_u_eq]
theorem x_become {a b : Int64} {I : am_I} {L : am_L} (hb : ¬ b = 0) : am_K M_X2_become 1 [.ref 7, .long a, .long b] I L (am_qf none I (x_L7 L (a / am_gcd 200 a b) (b / am_gcd 200 a b))) := by
  have k := k_X2_become (a := a) (b := b) (I := I) (L := L)
  obtain ⟨_, h2, _⟩ := x_gz200 a hb
  rw [am_cut, am_cut, if_neg h2, if_neg h2] at k
  exact k
theorem x_tell {a b : Int64} {I : am_I} {L : am_L} (hb : ¬ b = 0) : am_K M_X12_tell 0 [.ref 190, .long a, .long b] I L (am_qf none I (x_L91 L (a / am_gcd 200 a b) (b / am_gcd 200 a b))) := by
  obtain ⟨h1, h2, _⟩ := x_gz200 a hb
  exact k_X12_tell h2 h1
/-! the ways -/
theorem k_X11_power {b : Int64} {n : Nat} {I : am_I} {L : am_L} (hn1 : n ≤ 100) : am_K M_X11_power 0 [.long b, .int (nI n)] I L (am_qf (some (.long (am_pow b n))) I L) := by
  have key : ∀ k, k ≤ n → B_X11_power_5 (am_qf (some (.long (am_pow b n))) I L) I L b (nI n) (am_pow b k) (nI k) := by
    refine am_down ?_ (fun k hk ih => ?_)
    · exact s_X11_power_5 ⟨fun _ => ⟨rfl, rfl, rfl⟩, fun c1 => absurd (Int32.le_refl _) c1⟩
    · refine s_X11_power_5 ⟨fun c1 => absurd c1 (nI_ge hk (by omega)), fun _ => ?_⟩
      rw [← nI_succ]; exact ih
  exact bm_intro (by decide +kernel) (Nat.le_of_ble_eq_true rfl) (show B_X11_power_0 _ _ _ _ _ from s_X11_power_0 (key 0 (Nat.zero_le _)))
def f_chs (n i : Int32) (j : Nat) (c : Int64) : Int64 := if (nI (j + 1)).toInt64 = 0 then 0 else (c * ((n - i) + nI (j + 1)).toInt64) / (nI (j + 1)).toInt64
theorem k_X11_choose {n i : Nat} {I : am_I} {L : am_L} (hn1 : n ≤ 100) (hi : i ≤ n) : am_K M_X11_choose 1 [.int (nI n), .int (nI i)] I L (am_qf (some (.long (am_it (f_chs (nI n) (nI i)) 1 i))) I L) := by
  generalize hQ : am_qf (some (.long (am_it (f_chs (nI n) (nI i)) 1 i))) I L = Q
  have key : ∀ k, k ≤ i → B_X11_choose_5 Q I L (nI n) (nI i) (am_it (f_chs (nI n) (nI i)) 1 k) (nI (k + 1)) := by
    refine am_down ?_ (fun k hk ih => ?_)
    · exact s_X11_choose_5 ⟨fun _ => by rw [← hQ]; exact ⟨rfl, rfl, rfl⟩, fun c1 => absurd (nI_lt (by omega) (by omega)) c1⟩
    · rw [am_it_s, f_chs, nI_succ (k + 1)] at ih
      exact s_X11_choose_5 ⟨fun c1 => absurd c1 (nI_nlt (by omega) (by omega)), fun _ => ih⟩
  exact bm_intro (by decide +kernel) (Nat.le_of_ble_eq_true rfl) (show B_X11_choose_0 _ _ _ _ _ from s_X11_choose_0 (key 0 (Nat.zero_le _)))
def g_c2 (n : Int32) (i : Nat) (c : Int64) : Int64 := c * (n - nI i).toInt64 / (nI i + 1).toInt64
theorem g_ev_2 {n k : Int32} {a b : Int64} {N : Nat} : ∀ i, (am_it (g_ev n k a b N) (0, 1) i).2 = am_it (g_c2 n) 1 i := by
  intro i
  induction i with
  | zero => rfl
  | succ i ih => rw [am_it_s, am_it_s, g_ev, g_c2, ih]
theorem x_chs : ∀ n, n < 19 → ∀ i, i < n + 1 → am_it (f_chs (nI n) (nI i)) 1 i = am_it (g_c2 (nI n)) 1 i := by decide +kernel
def x_ways (n : Nat) (k a b : Int32) : Int64 := (am_it (g_ev (nI n) k a.toInt64 (b - a).toInt64 n) (0, 1) (n + 1)).1
theorem k_X11_waysUp {n k : Nat} {a b : Int32} {I : am_I} {L : am_L} (hn : n ≤ 18) (hk : k ≤ n) : am_K M_X11_waysUp 2 [.int (nI n), .int (nI k), .int a, .int b] I L (am_qf (some (.long (x_ways n (nI k) a b))) I L) := by
  generalize hQ : am_qf (some (.long (x_ways n (nI k) a b))) I L = Q
  have hs : ∀ i, i ≤ n → nI n - nI i = nI (n - i) := fun i hi => by
    rw [show n = (n - i) + i by omega, ← nI_qa, Int32.add_sub_cancel, show n - i + i - i = n - i by omega]
  have key : ∀ i, i ≤ n + 1 → k ≤ i → B_X11_waysUp_6 Q I L (nI n) a b (am_it (g_ev (nI n) (nI k) a.toInt64 (b - a).toInt64 n) (0, 1) i).1 (nI i) := by
    refine am_down (fun _ => ?_) (fun i hi ih hki => ?_)
    · exact s_X11_waysUp_6 ⟨fun _ => by rw [← hQ]; exact ⟨rfl, rfl, rfl⟩, fun c1 => absurd (nI_lt (by omega) (by omega)) c1⟩
    · have ih2 := ih (by omega)
      rw [am_it_s, g_ev, if_neg (nI_nlt (by omega) (by omega)), g_ev_2, ← x_chs n (by omega) i (by omega), nI_succ] at ih2
      refine s_X11_waysUp_6 ⟨fun c1 => absurd c1 (nI_nlt (by omega) (by omega)), fun _ => ⟨_, am_qf_l (k_X11_choose (by omega) (by omega)), fun v I7 L8 e => ?_⟩⟩
      obtain ⟨q1, q2, q3⟩ := e
      subst q1; subst q2; subst q3
      refine ⟨_, am_qf_l (k_X11_power (by omega)), fun v I7 L8 e => ?_⟩
      obtain ⟨q1, q2, q3⟩ := e
      subst q1; subst q2; subst q3
      rw [hs i (by omega)]
      refine ⟨_, am_qf_l (k_X11_power (by omega)), fun v I7 L8 e => ?_⟩
      obtain ⟨q1, q2, q3⟩ := e
      subst q1; subst q2; subst q3
      exact ih2
  have z : ∀ i, i ≤ k → (am_it (g_ev (nI n) (nI k) a.toInt64 (b - a).toInt64 n) (0, 1) i).1 = 0 := by
    intro i
    induction i with
    | zero => intro _; rfl
    | succ i ih => intro hi; rw [am_it_s, g_ev, if_pos (nI_lt (by omega) (by omega)), ih (by omega)]; rfl
  have k0 := key k (by omega) (Nat.le_refl _)
  rw [z k (Nat.le_refl _)] at k0
  exact bm_intro (by decide +kernel) (Nat.le_of_ble_eq_true rfl) (show B_X11_waysUp_0 _ _ _ _ _ _ _ from s_X11_waysUp_0 k0)
theorem x_pow_ne : ∀ n, n < 19 → ∀ q, q < 11 → ¬ q < 2 → ¬ am_pow (nI q).toInt64 n = 0 := by decide +kernel
theorem x_ix4 {a b c d : Int32} (h : (1 ≤ a ∧ a ≤ 18) ∧ (0 ≤ b ∧ b ≤ a) ∧ (2 ≤ d ∧ d ≤ 10) ∧ 1 ≤ c ∧ c ≤ d - 1) : ∃ n k : Nat, n ≤ 18 ∧ k ≤ n ∧ a = nI n ∧ b = nI k ∧ ¬ am_pow d.toInt64 n = 0 := by
  obtain ⟨⟨h1, h2⟩, ⟨h3, h4⟩, ⟨h5, h6⟩, _⟩ := h
  obtain ⟨n, hn, rfl⟩ := x_ix (Int32.le_trans (by decide) h1) (show a ≤ nI 18 from h2) (by decide)
  obtain ⟨k, hk, rfl⟩ := x_ix h3 h4 (by omega)
  obtain ⟨q, hq, rfl⟩ := x_ix (Int32.le_trans (by decide) h5) (show d ≤ nI 10 from h6) (by decide)
  have hq2 : ¬ q < 2 := fun z => by
    have := nI_lt (a := q) (b := 2) z (by decide)
    exact absurd this (Int32.not_lt.mpr h5)
  exact ⟨n, k, hn, hk, rfl, rfl, x_pow_ne n (by omega) q (by omega) hq2⟩
theorem x_even {a b c d : Int32} {I : am_I} {L : am_L} (h : x_Inv xc I L) : am_K M_X11_even 3 [.ref 0, .int a, .int b, .int c, .int d] I L (x_Q xc M_X12_even 2 [.ref 190, .int a, .int b, .int c, .int d]) := by
  refine bm_intro (by decide +kernel) (Nat.le_of_ble_eq_true rfl) (show B_X11_even_0 _ _ _ _ _ _ _ from s_X11_even_0 ⟨fun c1 => ?_, fun c1 => ?_⟩)
  · obtain ⟨n, k, hn, hk, rfl, rfl, hp⟩ := x_ix4 c1
    refine ⟨_, am_qf_l (k_X11_waysUp hn hk), fun v I3 L4 e => ?_⟩
    obtain ⟨q1, q2, q3⟩ := e
    subst q1; subst q2; subst q3
    refine ⟨_, am_qf_l (k_X11_power (by omega)), fun v I3 L4 e => ?_⟩
    obtain ⟨q1, q2, q3⟩ := e
    subst q1; subst q2; subst q3
    refine ⟨_, am_qf_v (x_become hp), fun I5 L6 e => ?_⟩
    obtain ⟨q1, q2⟩ := e
    rw [q1, q2]
    refine bm_intro (by decide +kernel) (Nat.le_of_ble_eq_true rfl) (show B_X12_even_0 _ _ _ _ _ _ _ from s_X12_even_0 ⟨fun _ => ?_, fun q => absurd c1 q⟩)
    refine ⟨_, am_qf_l (k_X12_evens hn), fun v I5 L6 e => ?_⟩
    obtain ⟨q1, q2, q3⟩ := e
    rw [q1, q2, q3]
    refine ⟨_, am_qf_l (k_X12_power (by omega)), fun v I5 L6 e => ?_⟩
    obtain ⟨q1, q2, q3⟩ := e
    rw [q1, q2, q3]
    refine ⟨_, am_qf_v (x_tell hp), fun I5 L6 e => ?_⟩
    obtain ⟨q1, q2⟩ := e
    rw [q1, q2]
    exact ⟨rfl, x_told h⟩
  · exact x_lf h (bm_intro (by decide +kernel) (Nat.le_of_ble_eq_true rfl) (show B_X12_even_0 _ _ _ _ _ _ _ from s_X12_even_0 ⟨fun q => absurd q c1, fun _ => ⟨rfl, rfl, rfl⟩⟩))
/-! a part by its bits -/
def f_pt (t : Int32) (v p : Int64) (j : Nat) (w : Int64 × Int64) : Int64 × Int64 := if (t >>> (nI j &&& 31)) &&& 1 = 1 then (2 * w.1 + (2 * w.2 + v) / p, (2 * w.2 + v) - (2 * w.2 + v) / p * p) else (2 * w.1 + (2 * w.2 + 0) / p, (2 * w.2 + 0) - (2 * w.2 + 0) / p * p)
def f_ptd (t : Int32) (v p : Int64) : Nat → Int64 × Int64 → Int64 × Int64
  | 0, w => w
  | j + 1, w => f_ptd t v p j (f_pt t v p j w)
theorem k_X11_partOf {t : Int32} {v p : Int64} {I : am_I} {L : am_L} (hp : ¬ p = 0) : am_K M_X11_partOf 1 [.int t, .long v, .long p] I L (am_qf (some (.long (f_ptd t v p 31 (0, 0)).1)) I L) := by
  generalize hQ : am_qf (some (.long (f_ptd t v p 31 (0, 0)).1)) I L = Q
  have key : ∀ j q r, j ≤ 31 → f_ptd t v p j (q, r) = f_ptd t v p 31 (0, 0) → B_X11_partOf_10 Q I L t v p q r (nI j - 1) := by
    intro j
    induction j with
    | zero =>
      intro q r _ h
      refine s_X11_partOf_10 ⟨fun _ => ?_, fun c => absurd (by decide) c⟩
      rw [← hQ, ← h]
      exact ⟨rfl, rfl, rfl⟩
    | succ j ih =>
      intro q r hj h
      have e1 : nI (j + 1) - 1 = nI j := nI_pred j
      have e2 : nI j + -1 = nI j - 1 := (Int32.sub_eq_add_neg _ _).symm
      rw [e1]
      rw [f_ptd, f_pt] at h
      refine s_X11_partOf_10 ⟨fun c => absurd c (nI_pos (by omega)), fun _ => ⟨fun c2 => ?_, fun c2 => ?_⟩⟩
      · rw [if_neg c2] at h
        rw [e2, if_neg hp]
        exact ih _ _ (by omega) h
      · rw [if_pos c2] at h
        rw [e2, if_neg hp]
        exact ih _ _ (by omega) h
  exact bm_intro (by decide +kernel) (Nat.le_of_ble_eq_true rfl) (show B_X11_partOf_0 _ _ _ _ _ _ from s_X11_partOf_0 (key 31 0 0 (Nat.le_refl _) rfl))
theorem k_funds51 {t : Int32} {v p : Int64} {I : am_I} {L : am_L} (hp : ¬ p = 0) : B_X12_funds_51 (am_qf (some (.int (Int64.toInt32 (f_ptd t v p 21 (0, 0)).1))) I L) I L t v p 0 0 20 := by
  generalize hQ : am_qf (some (.int (Int64.toInt32 (f_ptd t v p 21 (0, 0)).1))) I L = Q
  have key : ∀ j q r, j ≤ 21 → f_ptd t v p j (q, r) = f_ptd t v p 21 (0, 0) → B_X12_funds_51 Q I L t v p q r (nI j - 1) := by
    intro j
    induction j with
    | zero =>
      intro q r _ h
      refine s_X12_funds_51 ⟨fun _ => ?_, fun c => absurd (by decide) c⟩
      rw [← hQ, ← h]
      exact ⟨rfl, rfl, rfl⟩
    | succ j ih =>
      intro q r hj h
      have e1 : nI (j + 1) - 1 = nI j := nI_pred j
      have e2 : nI j + -1 = nI j - 1 := (Int32.sub_eq_add_neg _ _).symm
      rw [e1]
      rw [f_ptd, f_pt] at h
      refine s_X12_funds_51 ⟨fun c => absurd c (nI_pos (by omega)), fun _ => ⟨fun c2 => ⟨hp, hp, ?_⟩, fun c2 => ⟨hp, hp, ?_⟩⟩⟩
      · rw [if_neg c2] at h
        rw [e2, Int64.mul_comm q, Int64.mul_comm r]
        exact ih _ _ (by omega) h
      · rw [if_pos c2] at h
        rw [e2, Int64.mul_comm q, Int64.mul_comm r]
        exact ih _ _ (by omega) h
  exact key 21 0 0 (Nat.le_refl _) rfl
theorem x_hi {k j : Nat} (hk : k ≤ 1000000) (h1 : 20 ≤ j) (h2 : j < 32) : ¬ (nI k >>> (nI j &&& 31)) &&& 1 = 1 := by
  rw [x_bit32 h2]
  have e : (nI k).toBitVec = BitVec.ofNat 32 k := rfl
  rw [e, BitVec.getLsbD_ofNat, Nat.testBit_lt_two_pow (Nat.lt_of_le_of_lt hk (Nat.lt_of_lt_of_le (by decide : 1000000 < 2 ^ 20) (Nat.pow_le_pow_right (by decide) h1)))]
  simp
theorem x_ptd {k : Nat} {v p : Int64} (hk : k ≤ 1000000) (hp : ¬ p = 0) : f_ptd (nI k) v p 31 (0, 0) = f_ptd (nI k) v p 21 (0, 0) := by
  have one : ∀ j, 20 ≤ j → j < 32 → f_pt (nI k) v p j (0, 0) = (0, 0) := fun j h1 h2 => by
    rw [f_pt, if_neg (x_hi hk h1 h2)]
    have z : (2 * (0 : Int64) + 0) / p = 0 := by
      show (0 : Int64) / p = 0
      rw [← Int64.toInt_inj, Int64.toInt_div]
      show (Int.tdiv 0 p.toInt).bmod _ = 0
      rw [Int.zero_tdiv]; rfl
    rw [z, Int64.zero_mul]
    rfl
  show f_ptd (nI k) v p 21 (f_pt (nI k) v p 21 (f_pt (nI k) v p 22 (f_pt (nI k) v p 23 (f_pt (nI k) v p 24 (f_pt (nI k) v p 25 (f_pt (nI k) v p 26 (f_pt (nI k) v p 27 (f_pt (nI k) v p 28 (f_pt (nI k) v p 29 (f_pt (nI k) v p 30 (0, 0))))))))))) = _
  rw [one 30 (by decide) (by decide), one 29 (by decide) (by decide), one 28 (by decide) (by decide), one 27 (by decide) (by decide), one 26 (by decide) (by decide), one 25 (by decide) (by decide), one 24 (by decide) (by decide), one 23 (by decide) (by decide), one 22 (by decide) (by decide), one 21 (by decide) (by decide)]
theorem x_funds {a b c d t : Int32} {I : am_I} {L : am_L} (h : x_Inv xc I L) : am_K M_X11_funds 3 [.ref 0, .int a, .int b, .int c, .int d, .int t] I L (x_Q xc M_X12_funds 2 [.ref 190, .int a, .int b, .int c, .int d, .int t]) := by
  refine bm_intro (by decide +kernel) (Nat.le_of_ble_eq_true rfl) (show B_X11_funds_0 _ _ _ _ _ _ _ _ from s_X11_funds_0 ⟨fun c1 => ?_, fun c1 => ⟨fun c2 => ?_, fun c2 => ?_⟩⟩)
  · exact x_lf h (bm_intro (by decide +kernel) (Nat.le_of_ble_eq_true rfl) (show B_X12_funds_0 _ _ _ _ _ _ _ _ from s_X12_funds_0 ⟨fun _ => ⟨rfl, rfl, rfl⟩, fun q => absurd q c1⟩))
  · obtain ⟨n, k, hn, hk, rfl, rfl, hp⟩ := x_ix4 c1
    obtain ⟨m, hm, rfl⟩ := x_ix (Int32.le_trans (by decide) c2.1) (show t ≤ nI 1000000 from c2.2) (by decide)
    refine ⟨_, am_qf_l (k_X11_waysUp hn hk), fun v I3 L4 e => ?_⟩
    obtain ⟨q1, q2, q3⟩ := e
    subst q1; subst q2; subst q3
    refine ⟨_, am_qf_l (k_X11_power (by omega)), fun v I3 L4 e => ?_⟩
    obtain ⟨q1, q2, q3⟩ := e
    subst q1; subst q2; subst q3
    refine ⟨_, am_qf_l (k_X11_partOf hp), fun v I3 L4 e => ?_⟩
    obtain ⟨q1, q2, q3⟩ := e
    subst q1; subst q2; subst q3
    rw [x_ptd hm hp]
    refine x_lf h ?_
    refine bm_intro (by decide +kernel) (Nat.le_of_ble_eq_true rfl) (show B_X12_funds_0 _ _ _ _ _ _ _ _ from s_X12_funds_0 ⟨fun q => absurd c1 q, fun _ => ⟨fun _ => ?_, fun q => absurd c2 q⟩⟩)
    refine ⟨_, am_qf_l (k_X12_evens hn), fun v I5 L6 e => ?_⟩
    obtain ⟨q1, q2, q3⟩ := e
    subst q1; subst q2; subst q3
    refine ⟨_, am_qf_l (k_X12_power (by omega)), fun v I5 L6 e => ?_⟩
    obtain ⟨q1, q2, q3⟩ := e
    subst q1; subst q2; subst q3
    exact k_funds51 hp
  · exact x_lf h (bm_intro (by decide +kernel) (Nat.le_of_ble_eq_true rfl) (show B_X12_funds_0 _ _ _ _ _ _ _ _ from s_X12_funds_0 ⟨fun q => absurd c1 q, fun _ => ⟨fun q => absurd q c2, fun _ => ⟨rfl, rfl, rfl⟩⟩⟩))
