/-! the claims' contracts -/
def f_idx (I : am_I) (p : Int32) (r : Nat) : Int64 := if I 19 r = p then (if (I 39 (I 20 r).toNatClampNeg).toInt64 = 0 then 0 else (I 21 r).toInt64 * (I 39 (I 11 8).toNatClampNeg).toInt64 / (I 39 (I 20 r).toNatClampNeg).toInt64) else 0
theorem k_X0_indexedOf {p : Int32} {n : Nat} {I : am_I} {L : am_L} (hn : I 11 7 = nI n) (hn1 : n ≤ 100) (hw : vp_in (I 11 8) 60) (hm : ∀ r, r < n → vp_in (I 20 r) 60) : am_K M_X0_indexedOf 2 [.ref 13, .ref 11, .int p] I L (am_qf (some (.long (am_mx (am_sum (f_idx I p) n)))) I L) := by
  have key : ∀ k, k ≤ n → B_X0_indexedOf_5 (am_qf (some (.long (am_mx (am_sum (f_idx I p) n)))) I L) I L p (am_sum (f_idx I p) k) (nI k) := by
    refine am_down ?_ (fun k hk ih => ?_)
    · exact s_X0_indexedOf_5 ⟨fun _ => ⟨rfl, rfl, rfl⟩, fun c1 => absurd (by rw [hn]; exact Int32.le_refl _) c1⟩
    · have hc : (nI k).toNatClampNeg = k := nI_clamp (by omega)
      have hv := am_vI (k := k) (n := 100) (by omega) (by decide)
      refine s_X0_indexedOf_5 ⟨fun c1 => absurd c1 (by rw [hn]; exact nI_ge hk (by omega)), fun _ => ⟨hv, fun c2 => ⟨hv, hw, hv, by rw [hc]; exact hm k hk, ?_⟩, fun c2 => ?_⟩⟩
      · rw [hc] at c2 ⊢
        rw [← nI_succ]
        rw [am_sum, f_idx, if_pos c2] at ih
        exact ih
      · rw [hc] at c2
        rw [← nI_succ]
        rw [am_sum, f_idx, if_neg c2, Int64.add_zero] at ih
        exact ih
  exact bm_intro (by decide +kernel) (Nat.le_of_ble_eq_true rfl) (show B_X0_indexedOf_0 _ _ _ _ from s_X0_indexedOf_0 (key 0 (Nat.zero_le _)))
def f_cnt (I : am_I) (L : am_L) (n : Nat) (p w : Int32) : Int64 := if w = 0 then am_mx (am_sum (f_net I p 60) n) else if w = 1 then L 18 p.toNatClampNeg else am_mx (am_sum (f_idx I p) n)
theorem k_X0_countOf {p w : Int32} {n : Nat} {I : am_I} {L : am_L} (hn : I 11 7 = nI n) (hn1 : n ≤ 100) (hw : vp_in (I 11 8) 60) (hm : ∀ r, r < n → vp_in (I 20 r) 60) (hp : vp_in p 12) : am_K M_X0_countOf 3 [.ref 13, .ref 11, .int p, .int w] I L (am_qf (some (.long (f_cnt I L n p w))) I L) := by
  refine bm_intro (by decide +kernel) (Nat.le_of_ble_eq_true rfl) (show B_X0_countOf_0 _ _ _ _ _ from s_X0_countOf_0 ⟨fun c1 => ⟨_, am_qf_l (k_X4_netOf hn hn1), fun v I7 L8 e => ?_⟩, fun c1 => ⟨fun c2 => ⟨hp, ?_⟩, fun c2 => ⟨_, am_qf_l (k_X0_indexedOf hn hn1 hw hm), fun v I7 L8 e => ?_⟩⟩⟩)
  · obtain ⟨rfl, rfl, rfl⟩ := e
    exact ⟨by rw [f_cnt, if_pos c1], rfl, rfl⟩
  · exact ⟨by rw [f_cnt, if_neg c1, if_pos c2], rfl, rfl⟩
  · obtain ⟨rfl, rfl, rfl⟩ := e
    exact ⟨by rw [f_cnt, if_neg c1, if_neg c2], rfl, rfl⟩
theorem k_X0_countOfAll {w : Int32} {n np : Nat} {I : am_I} {L : am_L} (hn : I 11 7 = nI n) (hn1 : n ≤ 100) (hp : I 11 3 = nI np) (hp1 : np ≤ 12) (hw : vp_in (I 11 8) 60) (hm : ∀ r, r < n → vp_in (I 20 r) 60) : am_K M_X0_countOfAll 4 [.ref 13, .ref 11, .int w] I L (am_qf (some (.long (am_sum (fun p => f_cnt I L n (nI p) w) np))) I L) := by
  have key : ∀ k, k ≤ np → B_X0_countOfAll_5 (am_qf (some (.long (am_sum (fun p => f_cnt I L n (nI p) w) np))) I L) I L w (am_sum (fun p => f_cnt I L n (nI p) w) k) (nI k) := by
    refine am_down ?_ (fun k hk ih => ?_)
    · exact s_X0_countOfAll_5 ⟨fun _ => ⟨rfl, rfl, rfl⟩, fun c1 => absurd (by rw [hp]; exact Int32.le_refl _) c1⟩
    · refine s_X0_countOfAll_5 ⟨fun c1 => absurd c1 (by rw [hp]; exact nI_ge hk (by omega)), fun _ => ⟨_, am_qf_l (k_X0_countOf hn hn1 hw hm (am_vI (n := 12) (by omega) (by decide))), fun v I7 L8 e => ?_⟩⟩
      obtain ⟨rfl, rfl, rfl⟩ := e
      rw [← nI_succ]
      exact ih
  exact bm_intro (by decide +kernel) (Nat.le_of_ble_eq_true rfl) (show B_X0_countOfAll_0 _ _ _ _ from s_X0_countOfAll_0 (key 0 (Nat.zero_le _)))
def am_mn (x y : Int64) : Int64 := if y < x then y else x
def f_deal (I : am_I) (L : am_L) (n np : Nat) (p w sum : Int32) : Int64 := am_mn (f_cnt I L n p w) (if am_sum (fun q => f_cnt I L n (nI q) w) np = 0 then 0 else sum.toInt64 * f_cnt I L n p w / am_sum (fun q => f_cnt I L n (nI q) w) np)
theorem k_X0_dealtTo {p w sum : Int32} {n np : Nat} {I : am_I} {L : am_L} (hn : I 11 7 = nI n) (hn1 : n ≤ 100) (hp : I 11 3 = nI np) (hp1 : np ≤ 12) (hw : vp_in (I 11 8) 60) (hm : ∀ r, r < n → vp_in (I 20 r) 60) (hpp : vp_in p 12) : am_K M_X0_dealtTo 5 [.ref 13, .ref 11, .int p, .int w, .int sum] I L (am_qf (some (.long (f_deal I L n np p w sum))) I L) := by
  refine bm_intro (by decide +kernel) (Nat.le_of_ble_eq_true rfl) (show B_X0_dealtTo_0 _ _ _ _ _ _ from s_X0_dealtTo_0 ⟨_, am_qf_l (k_X0_countOf hn hn1 hw hm hpp), fun v I7 L8 e => ?_⟩)
  obtain ⟨rfl, rfl, rfl⟩ := e
  refine ⟨_, am_qf_l (k_X0_countOfAll hn hn1 hp hp1 hw hm), fun v I7 L8 e => ?_⟩
  obtain ⟨rfl, rfl, rfl⟩ := e
  exact ⟨rfl, rfl, rfl⟩
def f_take (I : am_I) (n : Nat) (p : Int32) : Int64 := if I 17 p.toNatClampNeg = 1 then am_mn (am_sum (f_out I p (I 11 8 - I 13 6)) n) (am_mx (am_sum (f_out I p 0) n - am_sum (f_in I p) n)) else am_sum (f_out I p (I 11 8 - I 13 7)) n
theorem k_X0_toTakeFrom {p : Int32} {n : Nat} {I : am_I} {L : am_L} (hn : I 11 7 = nI n) (hn1 : n ≤ 100) (hp : vp_in p 12) : am_K M_X0_toTakeFrom 2 [.ref 13, .ref 11, .int p] I L (am_qf (some (.long (f_take I n p))) I L) := by
  refine bm_intro (by decide +kernel) (Nat.le_of_ble_eq_true rfl) (show B_X0_toTakeFrom_0 _ _ _ _ from s_X0_toTakeFrom_0 ⟨hp, fun c1 => ⟨fun _ => ⟨_, am_qf_l (k_X4_outOf hn hn1), fun v I7 L8 e => ?_⟩, fun c2 => absurd rfl c2⟩, fun c1 => ⟨fun c2 => absurd c2 (by decide), fun _ => ⟨_, am_qf_l (k_X4_outOf hn hn1), fun v I7 L8 e => ?_⟩⟩⟩)
  · obtain ⟨rfl, rfl, rfl⟩ := e
    exact ⟨fun c2 => absurd rfl c2, fun _ => ⟨by rw [f_take, if_neg c1], rfl, rfl⟩⟩
  · obtain ⟨rfl, rfl, rfl⟩ := e
    refine ⟨fun _ => ⟨_, am_qf_l (k_X4_outOf hn hn1), fun v I7 L8 e => ?_⟩, fun c2 => absurd c2 (by decide)⟩
    obtain ⟨rfl, rfl, rfl⟩ := e
    refine ⟨_, am_qf_l (k_X4_inOf hn hn1), fun v I7 L8 e => ?_⟩
    obtain ⟨rfl, rfl, rfl⟩ := e
    exact ⟨by rw [f_take, if_pos c1]; rfl, rfl, rfl⟩
