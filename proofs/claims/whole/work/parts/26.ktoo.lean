/-! fraction, houses, letters, tide -/
def am_gcd : Nat → Int64 → Int64 → Int64
  | 0, a, _ => a
  | n + 1, a, b => if b = 0 then a else am_gcd n b (a - a / b * b)
theorem k_X2_commonDivisor {a b : Int64} {I : am_I} {L : am_L} : am_K M_X2_commonDivisor 0 [.long a, .long b] I L (am_qf (some (.long (am_gcd 200 a b))) I L) := by
  have key : ∀ k, k ≤ 200 → ∀ x y, B_X2_commonDivisor_9 (am_qf (some (.long (am_gcd (200 - k) x y))) I L) I L x y (nI k) := by
    refine am_down (fun x y => ?_) (fun k hk ih x y => ?_)
    · exact s_X2_commonDivisor_9 ⟨fun _ => ⟨rfl, rfl, rfl⟩, fun c1 => absurd (by decide) c1⟩
    · have h12 : 200 - k = (200 - (k + 1)) + 1 := by omega
      rw [h12, am_gcd]
      refine s_X2_commonDivisor_9 ⟨fun c1 => absurd c1 (by rw [show (200 : Int32) = nI 200 by decide]; exact nI_ge hk (by omega)), fun _ => ⟨fun c2 => ?_, fun c2 => ⟨c2, ?_⟩⟩⟩
      · rw [if_pos c2]; exact ⟨rfl, rfl, rfl⟩
      · rw [if_neg c2, ← nI_succ]; exact ih _ _
  exact bm_intro (by decide +kernel) (Nat.le_of_ble_eq_true rfl) (show B_X2_commonDivisor_0 _ _ _ _ _ from s_X2_commonDivisor_0 (key 0 (Nat.zero_le _) a b))
def am_cut (a b : Int64) : Int64 := if b = 0 then 0 else a / b
theorem k_X2_become {a b : Int64} {I : am_I} {L : am_L} : am_K M_X2_become 1 [.ref 7, .long a, .long b] I L (am_qf none I (am_u (am_u L 7 0 (am_cut a (am_gcd 200 a b))) 7 1 (am_cut b (am_gcd 200 a b)))) := by
  refine bm_intro (by decide +kernel) (Nat.le_of_ble_eq_true rfl) (show B_X2_become_0 _ _ _ _ _ from s_X2_become_0 ⟨_, am_qf_l k_X2_commonDivisor, fun v I3 L4 e => ?_⟩)
  obtain ⟨rfl, rfl, rfl⟩ := e
  exact ⟨rfl, rfl, rfl⟩
def f_gone (I : am_I) (n : Nat) (h : Int32) (p : Nat) (x : Int64) : Int64 := if I 16 p = h then x + am_mx (am_sum (f_net I (nI p) 60) n) else x
def f_coins (I : am_I) (n np : Nat) (h : Nat) : Int64 := if I 14 2 = 0 then (I 48 h).toInt64 else am_mx ((I 48 h).toInt64 - am_it (f_gone I n (nI h)) 0 np)
theorem k_X3_coinsOf {h n np : Nat} {I : am_I} {L : am_L} (hn : I 11 7 = nI n) (hn1 : n ≤ 100) (hp : I 11 3 = nI np) (hp1 : np ≤ 12) (hh : h < 8) : am_K M_X3_coinsOf 3 [.ref 14, .int (nI h), .ref 11] I L (am_qf (some (.long (f_coins I n np h))) I L) := by
  have hc : (nI h).toNatClampNeg = h := nI_clamp (by omega)
  have hv := am_vI (k := h) (n := 8) hh (by decide)
  refine bm_intro (by decide +kernel) (Nat.le_of_ble_eq_true rfl) (show B_X3_coinsOf_0 _ _ _ _ from s_X3_coinsOf_0 ⟨fun c0 => ?_, fun c0 => ⟨hv, ?_⟩⟩)
  · have key : ∀ k, k ≤ np → B_X3_coinsOf_20 (am_qf (some (.long (am_mx ((I 48 h).toInt64 - am_it (f_gone I n (nI h)) 0 np)))) I L) I L (nI h) (am_it (f_gone I n (nI h)) 0 k) (nI k) := by
      refine am_down ?_ (fun k hk ih => ?_)
      · refine s_X3_coinsOf_20 ⟨fun _ => ⟨hv, ?_⟩, fun c1 => absurd (by rw [hp]; exact Int32.le_refl _) c1⟩
        rw [hc]; exact ⟨rfl, rfl, rfl⟩
      · have hck : (nI k).toNatClampNeg = k := nI_clamp (by omega)
        have hvk := am_vI (k := k) (n := 12) (by omega) (by decide)
        rw [am_it, f_gone, nI_succ] at ih
        refine s_X3_coinsOf_20 ⟨fun c1 => absurd c1 (by rw [hp]; exact nI_ge hk (by omega)), fun _ => ⟨hvk, fun c2 => ?_, fun c2 => ⟨_, am_qf_l (k_X4_netOf hn hn1), fun v I8 L9 e => ?_⟩⟩⟩
        · rw [hck] at c2
          rw [if_neg c2] at ih; exact ih
        · obtain ⟨rfl, rfl, rfl⟩ := e
          rw [hck] at c2
          rw [if_pos c2] at ih; exact ih
    rw [f_coins, if_neg c0]
    exact key 0 (Nat.zero_le _)
  · rw [f_coins, if_pos c0, hc]; exact ⟨rfl, rfl, rfl⟩
def f_ho (I : am_I) (f t : Nat) (h : Int64) : Int64 := 31 * h + (I 49 (f * 8 + t)).toInt64
def f_hos (I : am_I) (f : Nat) (h : Int64) : Int64 := am_it (f_ho I f) (31 * h + (I 48 f).toInt64) 8
theorem k_X3_digested {h : Int64} {I : am_I} {L : am_L} : am_K M_X3_digested 0 [.ref 14, .long h] I L (am_qf (some (.long (am_it (f_hos I) h 8))) I L) := by
  have key : ∀ k, k ≤ 8 → B_X3_digested_5 (am_qf (some (.long (am_it (f_hos I) h 8))) I L) I L (am_it (f_hos I) h k) (nI k) := by
    refine am_down ?_ (fun k hk ih => ?_)
    · exact s_X3_digested_5 ⟨fun _ => ⟨rfl, rfl, rfl⟩, fun c1 => absurd (by decide) c1⟩
    · have hc : (nI k).toNatClampNeg = k := nI_clamp (by omega)
      have hv := am_vI (k := k) (n := 8) (by omega) (by decide)
      have key2 : ∀ t, t ≤ 8 → B_X3_digested_30 (am_qf (some (.long (am_it (f_hos I) h 8))) I L) I L (am_it (f_ho I k) (31 * am_it (f_hos I) h k + (I 48 k).toInt64) t) (nI k) (nI t) := by
        refine am_down ?_ (fun t ht ih2 => ?_)
        · exact s_X3_digested_30 ⟨fun _ => by rw [← nI_succ]; exact ih, fun c1 => absurd (by decide) c1⟩
        · have hx : ((nI k * (8 : Int32)) + nI t).toNatClampNeg = k * 8 + t := am_cx (by simp only [nq_8, nI_qm, nI_qa]) (by omega)
          refine s_X3_digested_30 ⟨fun c1 => absurd c1 (by rw [nq_8]; exact nI_ge ht (by omega)), fun _ => ⟨am_vx (m := k * 8 + t) (by simp only [nq_8, nI_qm, nI_qa]) (by omega) (by decide), ?_⟩⟩
          rw [hx, ← nI_succ]; exact ih2
      refine s_X3_digested_5 ⟨fun c1 => absurd c1 (by rw [nq_8]; exact nI_ge hk (by omega)), fun _ => ⟨hv, ?_⟩⟩
      rw [hc]; exact key2 0 (Nat.zero_le _)
  exact bm_intro (by decide +kernel) (Nat.le_of_ble_eq_true rfl) (show B_X3_digested_0 _ _ _ _ from s_X3_digested_0 (key 0 (Nat.zero_le _)))
def f_ask (I : am_I) (m : Int32) (k : Nat) (c : Int32) : Int32 := if m < I 51 k then c else c + 1
def f_rea (I : am_I) (m : Int32) (k : Nat) (c : Int32) : Int32 := if I 52 k = -1 then c else if m < I 52 k then c else c + 1
theorem k_X5_askedBy {m : Int32} {n : Nat} {I : am_I} {L : am_L} (hn : I 15 3 = nI n) (hn1 : n ≤ 20) : am_K M_X5_askedBy 0 [.ref 15, .int m] I L (am_qf (some (.int (am_it (f_ask I m) 0 n))) I L) := by
  have key : ∀ k, k ≤ n → B_X5_askedBy_4 (am_qf (some (.int (am_it (f_ask I m) 0 n))) I L) I L m (am_it (f_ask I m) 0 k) (nI k) := by
    refine am_down ?_ (fun k hk ih => ?_)
    · exact s_X5_askedBy_4 ⟨fun _ => ⟨rfl, rfl, rfl⟩, fun c1 => absurd (by rw [hn]; exact Int32.le_refl _) c1⟩
    · have hc : (nI k).toNatClampNeg = k := nI_clamp (by omega)
      have hv := am_vI (k := k) (n := 20) (by omega) (by decide)
      rw [am_it, f_ask, nI_succ] at ih
      refine s_X5_askedBy_4 ⟨fun c1 => absurd c1 (by rw [hn]; exact nI_ge hk (by omega)), fun _ => ⟨hv, fun c2 => ?_, fun c2 => ?_⟩⟩
      · rw [hc] at c2; rw [if_pos c2] at ih; exact ih
      · rw [hc] at c2; rw [if_neg c2] at ih; exact ih
  exact bm_intro (by decide +kernel) (Nat.le_of_ble_eq_true rfl) (show B_X5_askedBy_0 _ _ _ _ from s_X5_askedBy_0 (key 0 (Nat.zero_le _)))
theorem k_X5_readBy {m : Int32} {n : Nat} {I : am_I} {L : am_L} (hn : I 15 3 = nI n) (hn1 : n ≤ 20) : am_K M_X5_readBy 0 [.ref 15, .int m] I L (am_qf (some (.int (am_it (f_rea I m) 0 n))) I L) := by
  have key : ∀ k, k ≤ n → B_X5_readBy_4 (am_qf (some (.int (am_it (f_rea I m) 0 n))) I L) I L m (am_it (f_rea I m) 0 k) (nI k) := by
    refine am_down ?_ (fun k hk ih => ?_)
    · exact s_X5_readBy_4 ⟨fun _ => ⟨rfl, rfl, rfl⟩, fun c1 => absurd (by rw [hn]; exact Int32.le_refl _) c1⟩
    · have hc : (nI k).toNatClampNeg = k := nI_clamp (by omega)
      have hv := am_vI (k := k) (n := 20) (by omega) (by decide)
      rw [am_it, f_rea, nI_succ] at ih
      refine s_X5_readBy_4 ⟨fun c1 => absurd c1 (by rw [hn]; exact nI_ge hk (by omega)), fun _ => ⟨hv, fun c2 => ?_, fun c2 => ⟨hv, fun c3 => ?_, fun c3 => ?_⟩⟩⟩
      · rw [hc] at c2; rw [if_pos c2] at ih; exact ih
      · rw [hc] at c2 c3; rw [if_neg c2, if_pos c3] at ih; exact ih
      · rw [hc] at c2 c3; rw [if_neg c2, if_neg c3] at ih; exact ih
  exact bm_intro (by decide +kernel) (Nat.le_of_ble_eq_true rfl) (show B_X5_readBy_0 _ _ _ _ from s_X5_readBy_0 (key 0 (Nat.zero_le _)))
def f_le (I : am_I) (k : Nat) (h : Int64) : Int64 := 31 * (31 * (31 * h + (I 50 k).toInt64) + (I 51 k).toInt64) + (I 52 k).toInt64
def f_ru (I : am_I) (k : Nat) (h : Int64) : Int64 := 31 * h + (I 53 k).toInt64
theorem k_X5_digestedLetters {n : Nat} {h : Int64} {I : am_I} {L : am_L} (hn : I 15 3 = nI n) (hn1 : n ≤ 20) : am_K M_X5_digestedLetters 0 [.ref 15, .long h] I L (am_qf (some (.long (am_it (f_le I) h n))) I L) := by
  have key : ∀ k, k ≤ n → B_X5_digestedLetters_5 (am_qf (some (.long (am_it (f_le I) h n))) I L) I L (am_it (f_le I) h k) (nI k) := by
    refine am_down ?_ (fun k hk ih => ?_)
    · exact s_X5_digestedLetters_5 ⟨fun _ => ⟨rfl, rfl, rfl⟩, fun c1 => absurd (by rw [hn]; exact Int32.le_refl _) c1⟩
    · have hc : (nI k).toNatClampNeg = k := nI_clamp (by omega)
      have hv := am_vI (k := k) (n := 20) (by omega) (by decide)
      exact s_X5_digestedLetters_5 ⟨fun c1 => absurd c1 (by rw [hn]; exact nI_ge hk (by omega)), fun _ => ⟨hv, hv, hv, by rw [hc, ← nI_succ]; exact ih⟩⟩
  exact bm_intro (by decide +kernel) (Nat.le_of_ble_eq_true rfl) (show B_X5_digestedLetters_0 _ _ _ _ from s_X5_digestedLetters_0 (key 0 (Nat.zero_le _)))
theorem k_X5_digestedRules {n : Nat} {h : Int64} {I : am_I} {L : am_L} (hn : I 15 5 = nI n) (hn1 : n ≤ 40) : am_K M_X5_digestedRules 0 [.ref 15, .long h] I L (am_qf (some (.long (am_it (f_ru I) h n))) I L) := by
  have key : ∀ k, k ≤ n → B_X5_digestedRules_5 (am_qf (some (.long (am_it (f_ru I) h n))) I L) I L (am_it (f_ru I) h k) (nI k) := by
    refine am_down ?_ (fun k hk ih => ?_)
    · exact s_X5_digestedRules_5 ⟨fun _ => ⟨rfl, rfl, rfl⟩, fun c1 => absurd (by rw [hn]; exact Int32.le_refl _) c1⟩
    · have hc : (nI k).toNatClampNeg = k := nI_clamp (by omega)
      have hv := am_vI (k := k) (n := 40) (by omega) (by decide)
      exact s_X5_digestedRules_5 ⟨fun c1 => absurd c1 (by rw [hn]; exact nI_ge hk (by omega)), fun _ => ⟨hv, by rw [hc, ← nI_succ]; exact ih⟩⟩
  exact bm_intro (by decide +kernel) (Nat.le_of_ble_eq_true rfl) (show B_X5_digestedRules_0 _ _ _ _ from s_X5_digestedRules_0 (key 0 (Nat.zero_le _)))
/-! the tide -/
def f_look (I : am_I) (L : am_L) (n k : Nat) : am_L := fun a b => if a = 161 then (if b < k then am_sum (f_in I (nI b)) n else L 161 b) else if a = 162 then (if b < k then am_sum (f_out I (nI b) 0) n else L 162 b) else L a b
theorem f_look_0 (I : am_I) (L : am_L) (n : Nat) : f_look I L n 0 = L := by
  funext a b
  unfold f_look
  by_cases h1 : a = 161
  · simp [h1]
  · by_cases h2 : a = 162
    · simp [h2]
    · simp [h1, h2]
theorem f_look_s (I : am_I) (L : am_L) (n k : Nat) : am_u (am_u (f_look I L n k) 161 k (am_sum (f_in I (nI k)) n)) 162 k (am_sum (f_out I (nI k) 0) n) = f_look I L n (k + 1) := by
  funext a b
  by_cases h1 : a = 161
  · subst h1
    by_cases hb : b = k
    · subst hb; simp [am_u, f_look]
    · by_cases h3 : b < k
      · simp [am_u, f_look, hb, h3, Nat.lt_succ_of_lt h3]
      · have h4 : ¬ b < k + 1 := by omega
        simp [am_u, f_look, hb, h3, h4]
  · by_cases h2 : a = 162
    · subst h2
      by_cases hb : b = k
      · subst hb; simp [am_u, f_look]
      · by_cases h3 : b < k
        · simp [am_u, f_look, hb, h3, Nat.lt_succ_of_lt h3]
        · have h4 : ¬ b < k + 1 := by omega
          simp [am_u, f_look, hb, h3, h4]
    · simp [am_u, f_look, h1, h2]
theorem k_X9_lookAt {n np : Nat} {I : am_I} {L : am_L} (hn : I 11 7 = nI n) (hn1 : n ≤ 100) (hp : I 11 3 = nI np) (hp1 : np ≤ 12) : am_K M_X9_lookAt 1 [.ref 160, .ref 11] I L (am_qf none I (f_look I L n np)) := by
  have key : ∀ k, k ≤ np → B_X9_lookAt_2 (am_qf none I (f_look I L n np)) I (f_look I L n k) (nI k) := by
    refine am_down ?_ (fun k hk ih => ?_)
    · exact s_X9_lookAt_2 ⟨fun _ => ⟨rfl, rfl, rfl⟩, fun c1 => absurd (by rw [hp]; exact Int32.le_refl _) c1⟩
    · have hc : (nI k).toNatClampNeg = k := nI_clamp (by omega)
      have hv := am_vI (k := k) (n := 12) (by omega) (by decide)
      refine s_X9_lookAt_2 ⟨fun c1 => absurd c1 (by rw [hp]; exact nI_ge hk (by omega)), fun _ => ⟨_, am_qf_l (k_X4_inOf hn hn1), fun v I8 L9 e => ?_⟩⟩
      obtain ⟨rfl, rfl, rfl⟩ := e
      refine ⟨hv, _, am_qf_l (k_X4_outOf hn hn1), fun v I8 L9 e => ?_⟩
      obtain ⟨rfl, rfl, rfl⟩ := e
      refine ⟨hv, ?_⟩
      rw [hc, f_look_s, ← nI_succ]; exact ih
  have k0 := key 0 (Nat.zero_le _)
  rw [f_look_0] at k0
  exact bm_intro (by decide +kernel) (Nat.le_of_ble_eq_true rfl) (show B_X9_lookAt_0 _ _ _ from s_X9_lookAt_0 k0)
def f_tl (L : am_L) (a b : Int64) : am_L := am_u (am_u L 160 2 a) 160 3 b
theorem f_tl_tl (L : am_L) (a b a' b' : Int64) : am_u (am_u (f_tl L a b) 160 2 a') 160 3 b' = f_tl L a' b' := by
  funext x y
  by_cases h1 : x = 160
  · by_cases h2 : y = 3
    · simp [f_tl, am_u, h1, h2]
    · by_cases h3 : y = 2
      · simp [f_tl, am_u, h1, h2, h3]
      · simp [f_tl, am_u, h1, h2, h3]
  · simp [f_tl, am_u, h1]
theorem f_tl_a (L : am_L) (a b : Int64) : f_tl L a b 160 2 = a := by simp [f_tl, am_u]
theorem f_tl_b (L : am_L) (a b : Int64) : f_tl L a b 160 3 = b := by simp [f_tl, am_u]
theorem f_tl_n (L : am_L) (a b : Int64) {x y : Nat} (h : x ≠ 160) : f_tl L a b x y = L x y := by simp [f_tl, am_u, h]
def f_ri (L : am_L) (a b : Int64) (p : Nat) : Int64 := if L 162 p * b < a * L 161 p then L 161 p else 0
def f_ro (L : am_L) (a b : Int64) (p : Nat) : Int64 := if L 162 p * b < a * L 161 p then L 162 p else 0
def f_rise (L : am_L) (np : Nat) (s : Int64) : Nat → Int64 → Int64 → Int64 × Int64
  | 0, a, b => (a, b)
  | m + 1, a, b => if am_sum (f_ri L a b) np = 0 then (a, b) else if s * b < a * am_sum (f_ri L a b) np - b * am_sum (f_ro L a b) np then f_rise L np s m (s + am_sum (f_ro L a b) np) (am_sum (f_ri L a b) np) else (a, b)
theorem k_X9_rise {s : Int32} {n np : Nat} {I : am_I} {L : am_L} (hn : I 11 7 = nI n) (hn1 : n ≤ 100) (hp : I 11 3 = nI np) (hp1 : np ≤ 12) : am_K M_X9_rise 2 [.ref 160, .ref 11, .int s] I L (am_qf none I (f_tl (f_look I L n np) (f_rise (f_look I L n np) np s.toInt64 13 1 1).1 (f_rise (f_look I L n np) np s.toInt64 13 1 1).2)) := by
  generalize hQ : am_qf none I (f_tl (f_look I L n np) (f_rise (f_look I L n np) np s.toInt64 13 1 1).1 (f_rise (f_look I L n np) np s.toInt64 13 1 1).2) = Q
  have hQ' : ∀ a b, f_rise (f_look I L n np) np s.toInt64 13 1 1 = (a, b) → Q none I (f_tl (f_look I L n np) a b) := by
    intro a b h
    rw [← hQ, h]; exact ⟨rfl, rfl, rfl⟩
  generalize hM : f_look I L n np = M at hQ'
  generalize hR : f_rise M np s.toInt64 13 1 1 = R at hQ'
  have key : ∀ k, k ≤ 13 → ∀ a b, R = f_rise M np s.toInt64 (13 - k) a b → B_X9_rise_17 Q I (f_tl M a b) s (nI k) := by
    refine am_down (fun a b he => ?_) (fun k hk ih a b he => ?_)
    · exact s_X9_rise_17 ⟨fun _ => hQ' a b he, fun c1 => absurd (by decide) c1⟩
    · have h12 : 13 - k = (13 - (k + 1)) + 1 := by omega
      rw [h12, f_rise] at he
      have key2 : ∀ p, p ≤ np → B_X9_rise_32 Q I (f_tl M a b) s (nI k) (am_sum (f_ri M a b) p) (am_sum (f_ro M a b) p) (nI p) := by
        refine am_down ?_ (fun p hp2 ih2 => ?_)
        · refine s_X9_rise_32 ⟨fun _ => ⟨fun c2 => ?_, fun c2 => ⟨fun c3 => ?_, fun c3 => ?_⟩⟩, fun c1 => absurd (by rw [hp]; exact Int32.le_refl _) c1⟩
          · rw [if_pos c2] at he; exact hQ' a b he
          · rw [f_tl_a, f_tl_b] at c3
            rw [if_neg c2, if_pos c3] at he
            rw [f_tl_tl, ← nI_succ]
            exact ih _ _ he
          · rw [f_tl_a, f_tl_b] at c3
            rw [if_neg c2, if_neg c3] at he
            exact hQ' a b he
        · have hc : (nI p).toNatClampNeg = p := nI_clamp (by omega)
          have hv := am_vI (k := p) (n := 12) (by omega) (by decide)
          rw [am_sum, am_sum, f_ri, f_ro, nI_succ] at ih2
          refine s_X9_rise_32 ⟨fun c1 => absurd c1 (by rw [hp]; exact nI_ge hp2 (by omega)), fun _ => ⟨hv, hv, fun c2 => ⟨hv, hv, ?_⟩, fun c2 => ?_⟩⟩
          · rw [hc, f_tl_a, f_tl_b, f_tl_n _ _ _ (by decide), f_tl_n _ _ _ (by decide)] at c2
            rw [if_pos c2, if_pos c2] at ih2
            rw [hc, f_tl_n _ _ _ (by decide), f_tl_n _ _ _ (by decide)]; exact ih2
          · rw [hc, f_tl_a, f_tl_b, f_tl_n _ _ _ (by decide), f_tl_n _ _ _ (by decide)] at c2
            rw [if_neg c2, if_neg c2, Int64.add_zero, Int64.add_zero] at ih2
            exact ih2
      refine s_X9_rise_17 ⟨fun c1 => absurd c1 (by rw [nI_12]; exact nI_nlt (by omega) (by omega)), fun _ => key2 0 (Nat.zero_le _)⟩
  refine bm_intro (by decide +kernel) (Nat.le_of_ble_eq_true rfl) (show B_X9_rise_0 _ _ _ _ from s_X9_rise_0 ⟨_, am_qf_v (k_X9_lookAt hn hn1 hp hp1), fun I3 L4 e => ?_⟩)
  obtain ⟨rfl, rfl⟩ := e
  rw [hM]
  exact key 0 (Nat.zero_le _) 1 1 hR.symm
def f_paid (L : am_L) (p : Nat) : Int64 := am_mx (am_cut (L 160 2 * L 161 p - L 160 3 * L 162 p) (L 160 3))
theorem k_X9_paidTo {p : Nat} {I : am_I} {L : am_L} (hp : p < 12) : am_K M_X9_paidTo 2 [.ref 160, .int (nI p)] I L (am_qf (some (.long (f_paid L p))) I L) := by
  have hc : (nI p).toNatClampNeg = p := nI_clamp (by omega)
  have hv := am_vI (k := p) (n := 12) hp (by decide)
  refine bm_intro (by decide +kernel) (Nat.le_of_ble_eq_true rfl) (show B_X9_paidTo_0 _ _ _ _ from s_X9_paidTo_0 ⟨hv, hv, ?_⟩)
  rw [hc]; exact ⟨rfl, rfl, rfl⟩
