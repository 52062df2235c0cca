/-! the reference: digest's parts, lost, evens, the fraction -/
def g_su (L : am_L) (e k : Nat) (h : Int64) : Int64 := 31 * h + L 191 (e + k)
theorem k_X12_sums {h : Int64} {e n : Nat} {I : am_I} {L : am_L} (hn : e + n ≤ 1200) : am_K M_X12_sums 0 [.ref 190, .long h, .int (nI e), .int (nI n)] I L (am_qf (some (.long (am_it (g_su L e) h n))) I L) := by
  have key : ∀ k, k ≤ n → B_X12_sums_6 (am_qf (some (.long (am_it (g_su L e) h n))) I L) I L (nI e) (nI n) (am_it (g_su L e) h k) (nI k) := by
    refine am_down ?_ (fun k hk ih => ?_)
    · exact s_X12_sums_6 ⟨fun _ => ⟨rfl, rfl, rfl⟩, fun c1 => absurd (Int32.le_refl _) c1⟩
    · have hx : (nI e + nI k).toNatClampNeg = e + k := am_cx (nI_qa e k) (by omega)
      have e1 : am_it (g_su L e) h (k + 1) = g_su L e k (am_it (g_su L e) h k) := rfl
      rw [e1, nI_succ] at ih
      refine s_X12_sums_6 ⟨fun c1 => absurd c1 (nI_ge hk (by omega)), fun _ => ⟨am_vx (nI_qa e k) (by omega) (by decide), ?_⟩⟩
      rw [hx]; exact ih
  exact bm_intro (by decide +kernel) (Nat.le_of_ble_eq_true rfl) (show B_X12_sums_0 _ _ _ _ _ _ from s_X12_sums_0 (key 0 (Nat.zero_le _)))
def g_ones (L : am_L) (k : Nat) (c : Int32) : Int32 := if g_wrong L k = 0 then c + 0 else c + 1
theorem k_many70 {n : Nat} {I : am_I} {L : am_L} (hn : Int64.toInt32 (L 191 1179) = nI n) (hn1 : n ≤ 40) (hd : ∀ t, t < n → ∃ d, d < 30 ∧ Int64.toInt32 (L 191 (504 + 4 * t)) = nI d) : B_X12_many_70 (am_qf (some (.int (am_it (g_ones L) 0 n))) I L) I L 0 0 := by
  have key : ∀ k, k ≤ n → B_X12_many_70 (am_qf (some (.int (am_it (g_ones L) 0 n))) I L) I L (am_it (g_ones L) 0 k) (nI k) := by
    refine am_down ?_ (fun k hk ih => ?_)
    · exact s_X12_many_70 ⟨fun _ => ⟨rfl, rfl, rfl⟩, fun c1 => absurd (by rw [hn]; exact Int32.le_refl _) c1⟩
    · obtain ⟨d, hd1, hd2⟩ := hd k hk
      have e1 : am_it (g_ones L) 0 (k + 1) = g_ones L k (am_it (g_ones L) 0 k) := rfl
      rw [e1, g_ones, nI_succ] at ih
      refine s_X12_many_70 ⟨fun c1 => absurd c1 (by rw [hn]; exact nI_ge hk (by omega)), fun _ => ⟨_, am_qf_i (k_X12_wrongOf (by omega) hd2 hd1), fun v I7 L8 e => ?_⟩⟩
      obtain ⟨q1, q2, q3⟩ := e
      subst q1; subst q2; subst q3
      refine ⟨fun c2 => ?_, fun c2 => ?_⟩
      · rw [if_neg c2] at ih; exact ih
      · rw [if_pos c2] at ih; exact ih
  exact key 0 (Nat.zero_le _)
def g_many (I : am_I) (L : am_L) (n : Nat) (w : Int32) : Int32 :=
  if w = 0 then Int64.toInt32 (L 191 1176) else if w = 1 then Int64.toInt32 (L 191 1177) else if w = 2 then Int64.toInt32 (L 191 1178) else if w = 3 then Int64.toInt32 (L 191 1179) else if w = 4 then am_it (g_ones L) 0 n else if w = 5 then Int64.toInt32 (L 191 1180) else if w = 6 then Int64.toInt32 (L 191 1181) else if w = 7 then Int64.toInt32 (L 191 1182) else if w = 8 then Int64.toInt32 (L 191 1183) else if w = 9 then Int64.toInt32 (L 191 1184) else if w = 10 then I 190 20 else -2
theorem k_X12_many {w : Int32} {n : Nat} {I : am_I} {L : am_L} (hn : Int64.toInt32 (L 191 1179) = nI n) (hn1 : n ≤ 40) (hd : ∀ t, t < n → ∃ d, d < 30 ∧ Int64.toInt32 (L 191 (504 + 4 * t)) = nI d) : am_K M_X12_many 2 [.ref 190, .int w] I L (am_qf (some (.int (g_many I L n w))) I L) := by
  generalize hQ : am_qf (some (.int (g_many I L n w))) I L = Q
  have fin : ∀ v, g_many I L n w = v → Q (some (.int v)) I L := fun v h => by rw [← hQ, h]; exact ⟨rfl, rfl, rfl⟩
  have got : ∀ (x : Int32) (e : Nat), (1176 + x).toNatClampNeg = e → vp_in (1176 + x) 1200 → g_many I L n w = Int64.toInt32 (L 191 e) → ∃ P5 : Int32 → am_I → am_L → Prop, am_K M_X12_got 0 [.ref 190, .int x] I L (am_qi P5) ∧ ∀ (v9 : Int32) I7 L8, P5 v9 I7 L8 → Q (some (.int v9)) I7 L8 := by
    intro x e h1 h2 h3
    refine ⟨_, am_qf_i (k_X12_got h1 h2), fun v I7 L8 q => ?_⟩
    obtain ⟨q1, q2, q3⟩ := q
    subst q1; subst q2; subst q3
    exact fin _ h3
  refine bm_intro (by decide +kernel) (Nat.le_of_ble_eq_true rfl) (show B_X12_many_0 _ _ _ _ from s_X12_many_0 ⟨fun c0 => ?_, fun c0 => ⟨fun c1 => ?_, fun c1 => ⟨fun c2 => ?_, fun c2 => ⟨fun c3 => ?_, fun c3 => ⟨fun c4 => ?_, fun c4 => ⟨fun c5 => ?_, fun c5 => ⟨fun c6 => ?_, fun c6 => ⟨fun c7 => ?_, fun c7 => ⟨fun c8 => ?_, fun c8 => ⟨fun c9 => ?_, fun c9 => ⟨fun c10 => ?_, fun c10 => ?_⟩⟩⟩⟩⟩⟩⟩⟩⟩⟩⟩)
  · exact got w 1176 (by rw [c0]; decide) (by rw [c0]; exact am_vin (by decide)) (by rw [g_many, if_pos c0])
  · exact got w 1177 (by rw [c1]; decide) (by rw [c1]; exact am_vin (by decide)) (by rw [g_many, if_neg c0, if_pos c1])
  · exact got w 1178 (by rw [c2]; decide) (by rw [c2]; exact am_vin (by decide)) (by rw [g_many, if_neg c0, if_neg c1, if_pos c2])
  · exact got w 1179 (by rw [c3]; decide) (by rw [c3]; exact am_vin (by decide)) (by rw [g_many, if_neg c0, if_neg c1, if_neg c2, if_pos c3])
  · have h := k_many70 (I := I) hn hn1 hd
    rw [← hQ, g_many, if_neg c0, if_neg c1, if_neg c2, if_neg c3, if_pos c4]; exact h
  · exact got (w - 1) 1180 (by rw [c5]; decide) (by rw [c5]; exact am_vin (by decide)) (by rw [g_many, if_neg c0, if_neg c1, if_neg c2, if_neg c3, if_neg c4, if_pos c5])
  · exact got (w - 1) 1181 (by rw [c6]; decide) (by rw [c6]; exact am_vin (by decide)) (by rw [g_many, if_neg c0, if_neg c1, if_neg c2, if_neg c3, if_neg c4, if_neg c5, if_pos c6])
  · exact got (w - 1) 1182 (by rw [c7]; decide) (by rw [c7]; exact am_vin (by decide)) (by rw [g_many, if_neg c0, if_neg c1, if_neg c2, if_neg c3, if_neg c4, if_neg c5, if_neg c6, if_pos c7])
  · exact got (w - 1) 1183 (by rw [c8]; decide) (by rw [c8]; exact am_vin (by decide)) (by rw [g_many, if_neg c0, if_neg c1, if_neg c2, if_neg c3, if_neg c4, if_neg c5, if_neg c6, if_neg c7, if_pos c8])
  · exact got (w - 1) 1184 (by rw [c9]; decide) (by rw [c9]; exact am_vin (by decide)) (by rw [g_many, if_neg c0, if_neg c1, if_neg c2, if_neg c3, if_neg c4, if_neg c5, if_neg c6, if_neg c7, if_neg c8, if_pos c9])
  · exact fin _ (by rw [g_many, if_neg c0, if_neg c1, if_neg c2, if_neg c3, if_neg c4, if_neg c5, if_neg c6, if_neg c7, if_neg c8, if_neg c9, if_pos c10])
  · exact fin _ (by rw [g_many, if_neg c0, if_neg c1, if_neg c2, if_neg c3, if_neg c4, if_neg c5, if_neg c6, if_neg c7, if_neg c8, if_neg c9, if_neg c10])
def g_lo (L : am_L) (n : Nat) (m : Int32) (p : Nat) : Int64 := am_mx (am_sum (g_went L (nI p) 0 m 0) n - am_sum (g_went L (nI p) 0 m 1) n)
theorem k_lost26 {m n np : Nat} {I : am_I} {L : am_L} (hn : Int64.toInt32 (L 191 1177) = nI n) (hn1 : n ≤ 100) (hp : Int64.toInt32 (L 191 1176) = nI np) (hp1 : np ≤ 12) (hm : m < 60) : B_X12_lost_26 (am_qf (some (.long (am_mx (am_sum (g_lo L n (nI m)) np - L 191 (1056 + m))))) I L) I L (nI m) 0 0 := by
  have key : ∀ k, k ≤ np → B_X12_lost_26 (am_qf (some (.long (am_mx (am_sum (g_lo L n (nI m)) np - L 191 (1056 + m))))) I L) I L (nI m) (am_sum (g_lo L n (nI m)) k) (nI k) := by
    refine am_down ?_ (fun k hk ih => ?_)
    · refine s_X12_lost_26 ⟨fun _ => ⟨v_cns hm, ?_⟩, fun c1 => absurd (by rw [hp]; exact Int32.le_refl _) c1⟩
      rw [i_cns hm]
      refine ⟨fun c2 => ?_, fun c2 => ?_⟩
      · rw [am_mx_le c2]; exact ⟨rfl, rfl, rfl⟩
      · rw [am_mx_nle c2]; exact ⟨rfl, rfl, rfl⟩
    · have e1 : am_sum (g_lo L n (nI m)) (k + 1) = am_sum (g_lo L n (nI m)) k + am_mx (am_sum (g_went L (nI k) 0 (nI m) 0) n - am_sum (g_went L (nI k) 0 (nI m) 1) n) := rfl
      rw [e1, nI_succ] at ih
      refine s_X12_lost_26 ⟨fun c1 => absurd c1 (by rw [hp]; exact nI_ge hk (by omega)), fun _ => ⟨_, am_qf_l (k_X12_went hn hn1), fun v I7 L8 e => ?_⟩⟩
      obtain ⟨q1, q2, q3⟩ := e
      subst q1; subst q2; subst q3
      refine ⟨_, am_qf_l (k_X12_went hn hn1), fun v I7 L8 e => ?_⟩
      obtain ⟨q1, q2, q3⟩ := e
      subst q1; subst q2; subst q3
      refine ⟨fun c2 => ?_, fun c2 => ?_⟩
      · rw [am_mx_le c2] at ih; exact ih
      · rw [am_mx_nle c2] at ih; exact ih
  exact key 0 (Nat.zero_le _)
/-- (sum, ways) behind the i-th -/
def g_ev (n k : Int32) (a b : Int64) (N : Nat) (i : Nat) (w : Int64 × Int64) : Int64 × Int64 := (w.1 + (if nI i < k then 0 else w.2 * am_pow a i * am_pow b (N - i)), w.2 * (n - nI i).toInt64 / (nI i + 1).toInt64)
theorem k_X12_evens {n : Nat} {k a b : Int32} {I : am_I} {L : am_L} (hn : n ≤ 18) : am_K M_X12_evens 1 [.int (nI n), .int k, .int a, .int b] I L (am_qf (some (.long (am_it (g_ev (nI n) k a.toInt64 (b - a).toInt64 n) (0, 1) (n + 1)).1)) I L) := by
  generalize hQ : am_qf (some (.long (am_it (g_ev (nI n) k a.toInt64 (b - a).toInt64 n) (0, 1) (n + 1)).1)) I L = Q
  have key : ∀ i, i ≤ n + 1 → ∀ x y, am_it (g_ev (nI n) k a.toInt64 (b - a).toInt64 n) (0, 1) i = (x, y) → B_X12_evens_9 Q I L (nI n) k a b x y (nI i) := by
    refine am_down (fun x y he => ?_) (fun i hi ih x y he => ?_)
    · exact s_X12_evens_9 ⟨fun _ => by rw [← hQ, he]; exact ⟨rfl, rfl, rfl⟩, fun c1 => absurd (nI_lt (by omega) (by omega)) c1⟩
    · have e1 : am_it (g_ev (nI n) k a.toInt64 (b - a).toInt64 n) (0, 1) (i + 1) = g_ev (nI n) k a.toInt64 (b - a).toInt64 n i (x, y) := by rw [← he]; rfl
      rw [e1, nI_succ] at ih
      have hz : ¬ (nI i + 1).toInt64 = 0 := by
        intro h
        have h2 : (nI i + 1).toInt64.toInt = 0 := by rw [h]; rfl
        rw [Int32.toInt_toInt64, ← nI_succ, nI_toInt (by omega)] at h2
        omega
      have hs : nI n - nI i = nI (n - i) := by
        rw [show n = (n - i) + i by omega, ← nI_qa, Int32.add_sub_cancel, show n - i + i - i = n - i by omega]
      refine s_X12_evens_9 ⟨fun c1 => absurd c1 (nI_nlt (by omega) (by omega)), fun _ => ⟨fun c2 => ⟨hz, ?_⟩, fun c2 => ⟨_, am_qf_l (k_X12_power (by omega)), fun v I7 L8 e => ?_⟩⟩⟩
      · exact ih _ _ (by rw [g_ev, if_pos c2])
      · obtain ⟨q1, q2, q3⟩ := e
        subst q1; subst q2; subst q3
        rw [hs]
        refine ⟨_, am_qf_l (k_X12_power (by omega)), fun v I7 L8 e => ?_⟩
        obtain ⟨q1, q2, q3⟩ := e
        subst q1; subst q2; subst q3
        refine ⟨hz, ?_⟩
        rw [← hs]
        exact ih _ _ (by rw [g_ev, if_neg c2])
  exact bm_intro (by decide +kernel) (Nat.le_of_ble_eq_true rfl) (show B_X12_evens_0 _ _ _ _ _ _ _ from s_X12_evens_0 (key 0 (Nat.zero_le _) _ _ rfl))
/-- the rests come to 0 within m steps, at the divisor g, which is not 0 -/
def g_gz (g : Int64) : Nat → Int64 → Int64 → Prop
  | 0, a, b => b = 0 ∧ a = g
  | m + 1, a, b => if b = 0 then a = g else g_gz g m b (a - a / b * b)
theorem k_X12_tell {a b g : Int64} {m : Nat} {I : am_I} {L : am_L} (hg : ¬ g = 0) (hz : g_gz g m a b) : am_K M_X12_tell 0 [.ref 190, .long a, .long b] I L (am_qf none I (am_u (am_u L 191 1193 (a / g)) 191 1194 (b / g))) := by
  have key : ∀ m x y, g_gz g m x y → B_X12_tell_6 (am_qf none I (am_u (am_u L 191 1193 (a / g)) 191 1194 (b / g))) I L a b x y := by
    intro m
    induction m with
    | zero =>
      rintro x y ⟨rfl, rfl⟩
      exact s_X12_tell_6 ⟨fun _ => ⟨hg, hg, rfl, rfl, rfl⟩, fun c => absurd rfl c⟩
    | succ m ih =>
      intro x y h
      rw [g_gz] at h
      refine s_X12_tell_6 ⟨fun c => ?_, fun c => ⟨c, ?_⟩⟩
      · rw [if_pos c] at h
        subst h
        exact ⟨hg, hg, rfl, rfl, rfl⟩
      · rw [if_neg c] at h
        exact ih _ _ h
  exact bm_intro (by decide +kernel) (Nat.le_of_ble_eq_true rfl) (show B_X12_tell_0 _ _ _ _ _ from s_X12_tell_0 (key m a b hz))
