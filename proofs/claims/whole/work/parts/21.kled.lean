theorem k_X4_inOfAll {a b : Int32} {n : Nat} {I : am_I} {L : am_L} (hn : I 11 7 = nI n) (hn1 : n ≤ 100) : am_K M_X4_inOfAll 0 [.ref 11, .int a, .int b] I L (am_qf (some (.long (am_sum (f_ina I a b) n))) I L) := by
  have key : ∀ k, k ≤ n → B_X4_inOfAll_5 (am_qf (some (.long (am_sum (f_ina I a b) n))) I L) I L a b (am_sum (f_ina I a b) k) (nI k) := by
    refine am_down ?_ (fun k hk ih => ?_)
    · exact s_X4_inOfAll_5 ⟨fun c1 => (by exact ⟨rfl, rfl, rfl⟩), fun c1 => (absurd (by simp only [hn]; exact Int32.le_refl _) c1)⟩
    · skip
      have hx0 : ((nI k)).toNatClampNeg = k := nI_clamp (by omega)
      exact s_X4_inOfAll_5 ⟨fun c1 => (absurd c1 (by simp only [hn]; exact nI_ge hk (by omega))), fun c1 => ⟨(am_vI (n := 100) (by omega) (by decide)), ⟨fun c2 => (by simp only [hx0] at c2 ⊢; simpa [am_sum, nI_succ, hx0, f_ina, c2] using ih), fun c2 => ⟨(am_vI (n := 100) (by omega) (by decide)), ⟨fun c3 => (by simp only [hx0] at c2 c3 ⊢; simpa [am_sum, nI_succ, hx0, f_ina, c2, c3] using ih), fun c3 => ⟨(am_vI (n := 100) (by omega) (by decide)), ⟨fun c4 => (by simp only [hx0] at c2 c3 c4 ⊢; simpa [am_sum, nI_succ, hx0, f_ina, c2, c3, c4] using ih), fun c4 => ⟨(am_vI (n := 100) (by omega) (by decide)), (by simp only [hx0] at c2 c3 c4 ⊢; simpa [am_sum, nI_succ, hx0, f_ina, c2, c3, c4] using ih)⟩⟩⟩⟩⟩⟩⟩⟩
  exact bm_intro (by decide +kernel) (Nat.le_of_ble_eq_true rfl) (show B_X4_inOfAll_0 _ _ _ _ _ from s_X4_inOfAll_0 (key 0 (Nat.zero_le _)))
theorem k_X4_outOfAll {a b : Int32} {n : Nat} {I : am_I} {L : am_L} (hn : I 11 7 = nI n) (hn1 : n ≤ 100) : am_K M_X4_outOfAll 0 [.ref 11, .int a, .int b] I L (am_qf (some (.long (am_sum (f_outa I a b) n))) I L) := by
  have key : ∀ k, k ≤ n → B_X4_outOfAll_5 (am_qf (some (.long (am_sum (f_outa I a b) n))) I L) I L a b (am_sum (f_outa I a b) k) (nI k) := by
    refine am_down ?_ (fun k hk ih => ?_)
    · exact s_X4_outOfAll_5 ⟨fun c1 => (by exact ⟨rfl, rfl, rfl⟩), fun c1 => (absurd (by simp only [hn]; exact Int32.le_refl _) c1)⟩
    · skip
      have hx0 : ((nI k)).toNatClampNeg = k := nI_clamp (by omega)
      exact s_X4_outOfAll_5 ⟨fun c1 => (absurd c1 (by simp only [hn]; exact nI_ge hk (by omega))), fun c1 => ⟨(am_vI (n := 100) (by omega) (by decide)), ⟨fun c2 => (by simp only [hx0] at c2 ⊢; simpa [am_sum, nI_succ, hx0, f_outa, Int64.sub_eq_add_neg, c2] using ih), fun c2 => ⟨(am_vI (n := 100) (by omega) (by decide)), ⟨fun c3 => (by simp only [hx0] at c2 c3 ⊢; simpa [am_sum, nI_succ, hx0, f_outa, Int64.sub_eq_add_neg, c2, c3] using ih), fun c3 => ⟨(am_vI (n := 100) (by omega) (by decide)), ⟨fun c4 => (by simp only [hx0] at c2 c3 c4 ⊢; simpa [am_sum, nI_succ, hx0, f_outa, Int64.sub_eq_add_neg, c2, c3, c4] using ih), fun c4 => ⟨(am_vI (n := 100) (by omega) (by decide)), (by simp only [hx0] at c2 c3 c4 ⊢; simpa [am_sum, nI_succ, hx0, f_outa, Int64.sub_eq_add_neg, c2, c3, c4] using ih)⟩⟩⟩⟩⟩⟩⟩⟩
  exact bm_intro (by decide +kernel) (Nat.le_of_ble_eq_true rfl) (show B_X4_outOfAll_0 _ _ _ _ _ from s_X4_outOfAll_0 (key 0 (Nat.zero_le _)))
theorem k_X4_inOf {p : Int32} {n : Nat} {I : am_I} {L : am_L} (hn : I 11 7 = nI n) (hn1 : n ≤ 100) : am_K M_X4_inOf 0 [.ref 11, .int p] I L (am_qf (some (.long (am_sum (f_in I p) n))) I L) := by
  have key : ∀ k, k ≤ n → B_X4_inOf_5 (am_qf (some (.long (am_sum (f_in I p) n))) I L) I L p (am_sum (f_in I p) k) (nI k) := by
    refine am_down ?_ (fun k hk ih => ?_)
    · exact s_X4_inOf_5 ⟨fun c1 => (by exact ⟨rfl, rfl, rfl⟩), fun c1 => (absurd (by simp only [hn]; exact Int32.le_refl _) c1)⟩
    · skip
      have hx0 : ((nI k)).toNatClampNeg = k := nI_clamp (by omega)
      exact s_X4_inOf_5 ⟨fun c1 => (absurd c1 (by simp only [hn]; exact nI_ge hk (by omega))), fun c1 => ⟨(am_vI (n := 100) (by omega) (by decide)), ⟨fun c2 => (by simp only [hx0] at c2 ⊢; simpa [am_sum, nI_succ, hx0, f_in, c2] using ih), fun c2 => ⟨(am_vI (n := 100) (by omega) (by decide)), ⟨fun c3 => (by simp only [hx0] at c2 c3 ⊢; simpa [am_sum, nI_succ, hx0, f_in, c2, c3] using ih), fun c3 => ⟨(am_vI (n := 100) (by omega) (by decide)), (by simp only [hx0] at c2 c3 ⊢; simpa [am_sum, nI_succ, hx0, f_in, c2, c3] using ih)⟩⟩⟩⟩⟩⟩
  exact bm_intro (by decide +kernel) (Nat.le_of_ble_eq_true rfl) (show B_X4_inOf_0 _ _ _ _ from s_X4_inOf_0 (key 0 (Nat.zero_le _)))
theorem k_X4_outOf {p m : Int32} {n : Nat} {I : am_I} {L : am_L} (hn : I 11 7 = nI n) (hn1 : n ≤ 100) : am_K M_X4_outOf 0 [.ref 11, .int p, .int m] I L (am_qf (some (.long (am_sum (f_out I p m) n))) I L) := by
  have key : ∀ k, k ≤ n → B_X4_outOf_5 (am_qf (some (.long (am_sum (f_out I p m) n))) I L) I L p m (am_sum (f_out I p m) k) (nI k) := by
    refine am_down ?_ (fun k hk ih => ?_)
    · exact s_X4_outOf_5 ⟨fun c1 => (by exact ⟨rfl, rfl, rfl⟩), fun c1 => (absurd (by simp only [hn]; exact Int32.le_refl _) c1)⟩
    · skip
      have hx0 : ((nI k)).toNatClampNeg = k := nI_clamp (by omega)
      exact s_X4_outOf_5 ⟨fun c1 => (absurd c1 (by simp only [hn]; exact nI_ge hk (by omega))), fun c1 => ⟨(am_vI (n := 100) (by omega) (by decide)), ⟨fun c2 => (by simp only [hx0] at c2 ⊢; simpa [am_sum, nI_succ, hx0, f_out, Int64.sub_eq_add_neg, c2] using ih), fun c2 => ⟨(am_vI (n := 100) (by omega) (by decide)), ⟨fun c3 => (by simp only [hx0] at c2 c3 ⊢; simpa [am_sum, nI_succ, hx0, f_out, Int64.sub_eq_add_neg, c2, c3] using ih), fun c3 => ⟨(am_vI (n := 100) (by omega) (by decide)), ⟨fun c4 => (by simp only [hx0] at c2 c3 c4 ⊢; simpa [am_sum, nI_succ, hx0, f_out, Int64.sub_eq_add_neg, c2, c3, c4] using ih), fun c4 => ⟨(am_vI (n := 100) (by omega) (by decide)), (by simp only [hx0] at c2 c3 c4 ⊢; simpa [am_sum, nI_succ, hx0, f_out, Int64.sub_eq_add_neg, c2, c3, c4] using ih)⟩⟩⟩⟩⟩⟩⟩⟩
  exact bm_intro (by decide +kernel) (Nat.le_of_ble_eq_true rfl) (show B_X4_outOf_0 _ _ _ _ _ from s_X4_outOf_0 (key 0 (Nat.zero_le _)))
theorem k_X4_shownToAll {n : Nat} {I : am_I} {L : am_L} (hn : I 11 3 = nI n) (hn1 : n ≤ 12) : am_K M_X4_shownToAll 0 [.ref 11] I L (am_qf (some (.long (am_sum (L 18) n))) I L) := by
  have key : ∀ k, k ≤ n → B_X4_shownToAll_4 (am_qf (some (.long (am_sum (L 18) n))) I L) I L (am_sum (L 18) k) (nI k) := by
    refine am_down ?_ (fun k hk ih => ?_)
    · exact s_X4_shownToAll_4 ⟨fun c1 => (by exact ⟨rfl, rfl, rfl⟩), fun c1 => (absurd (by simp only [hn]; exact Int32.le_refl _) c1)⟩
    · skip
      have hx0 : ((nI k)).toNatClampNeg = k := nI_clamp (by omega)
      exact s_X4_shownToAll_4 ⟨fun c1 => (absurd c1 (by simp only [hn]; exact nI_ge hk (by omega))), fun c1 => ⟨(am_vI (n := 12) (by omega) (by decide)), (by simp only [hx0] at  ⊢; simpa [am_sum, nI_succ, hx0] using ih)⟩⟩
  exact bm_intro (by decide +kernel) (Nat.le_of_ble_eq_true rfl) (show B_X4_shownToAll_0 _ _ _ from s_X4_shownToAll_0 (key 0 (Nat.zero_le _)))
theorem k_X4_netOf {p m : Int32} {n : Nat} {I : am_I} {L : am_L} (hn : I 11 7 = nI n) (hn1 : n ≤ 100) : am_K M_X4_netOf 2 [.ref 11, .int p, .int m] I L (am_qf (some (.long (am_mx (am_sum (f_net I p m) n)))) I L) := by
  have key : ∀ k, k ≤ n → B_X4_netOf_5 (am_qf (some (.long (am_mx (am_sum (f_net I p m) n)))) I L) I L p m (am_sum (f_net I p m) k) (nI k) := by
    refine am_down ?_ (fun k hk ih => ?_)
    · exact s_X4_netOf_5 ⟨fun c1 => (by exact ⟨rfl, rfl, rfl⟩), fun c1 => (absurd (by simp only [hn]; exact Int32.le_refl _) c1)⟩
    · skip
      have hx0 : ((nI k)).toNatClampNeg = k := nI_clamp (by omega)
      exact s_X4_netOf_5 ⟨fun c1 => (absurd c1 (by simp only [hn]; exact nI_ge hk (by omega))), fun c1 => ⟨(am_vI (n := 100) (by omega) (by decide)), ⟨fun c2 => (by simp only [hx0] at c2 ⊢; simpa [am_sum, nI_succ, hx0, f_net, c2] using ih), fun c2 => ⟨(am_vI (n := 100) (by omega) (by decide)), ⟨fun c3 => (by simp only [hx0] at c2 c3 ⊢; simpa [am_sum, nI_succ, hx0, f_net, c2, c3] using ih), fun c3 => ⟨(am_vI (n := 100) (by omega) (by decide)), (by simp only [hx0] at c2 c3 ⊢; simpa [am_sum, nI_succ, hx0, f_net, c2, c3] using ih)⟩⟩⟩⟩⟩⟩
  exact bm_intro (by decide +kernel) (Nat.le_of_ble_eq_true rfl) (show B_X4_netOf_0 _ _ _ _ _ from s_X4_netOf_0 (key 0 (Nat.zero_le _)))
theorem k_X4_lostBy {m : Int32} {n np : Nat} {I : am_I} {L : am_L} (hn : I 11 7 = nI n) (hn1 : n ≤ 100) (hp : I 11 3 = nI np) (hp1 : np ≤ 12) (hm : vp_in m 60) : am_K M_X4_lostBy 3 [.ref 11, .int m] I L (am_qf (some (.long (am_mx (am_sum (f_lost I m n) np - L 22 m.toNatClampNeg)))) I L) := by
  have key : ∀ k, k ≤ np → B_X4_lostBy_5 (am_qf (some (.long (am_mx (am_sum (f_lost I m n) np - L 22 m.toNatClampNeg)))) I L) I L m (am_sum (f_lost I m n) k) (nI k) := by
    refine am_down ?_ (fun k hk ih => ?_)
    · exact s_X4_lostBy_5 ⟨fun c1 => (by exact ⟨hm, rfl, rfl, rfl⟩), fun c1 => (absurd (by simp only [hp]; exact Int32.le_refl _) c1)⟩
    · skip
      exact s_X4_lostBy_5 ⟨fun c1 => (absurd c1 (by simp only [hp]; exact nI_ge hk (by omega))), fun c1 => ⟨_, am_qf_l (k_X4_netOf hn hn1), fun v10 I8 L9 e2 => by obtain ⟨rfl, rfl, rfl⟩ := e2; exact (by simpa [am_sum, nI_succ, f_lost] using ih)⟩⟩
  exact bm_intro (by decide +kernel) (Nat.le_of_ble_eq_true rfl) (show B_X4_lostBy_0 _ _ _ _ from s_X4_lostBy_0 (key 0 (Nat.zero_le _)))
def f_fa (I : am_I) (j : Nat) (x : Int64) : Int64 := x + (I 24 j - I 27 j).toInt64
theorem k_X4_firstBelowa {I : am_I} {L : am_L} : am_K M_X4_firstBelow 0 [.ref 11, .ref 24, .ref 27] I L (am_qf (some (.int (am_find (fun k => am_it (f_fa I) (L 11 11) (k + 1) < 0) 12 0))) I L) := by
  have key : ∀ k, k ≤ 12 → B_X4_firstBelowa_8 (am_qf (some (.int (am_find (fun k => am_it (f_fa I) (L 11 11) (k + 1) < 0) (12 - k) k))) I L) I L (am_it (f_fa I) (L 11 11) k) (nI k) := by
    refine am_down ?_ (fun k hk ih => ?_)
    · exact s_X4_firstBelowa_8 ⟨fun _ => ⟨rfl, rfl, rfl⟩, fun c1 => absurd (by decide) c1⟩
    · have hc : (nI k).toNatClampNeg = k := nI_clamp (by omega)
      have h12 : 12 - k = (12 - (k + 1)) + 1 := by omega
      rw [h12, am_find]
      refine s_X4_firstBelowa_8 ⟨fun c1 => absurd c1 (by rw [nI_12]; exact nI_ge hk (by omega)), fun _ => ⟨am_vI (n := 12) (by omega) (by decide), am_vI (n := 12) (by omega) (by decide), fun c2 => ?_, fun c2 => ?_⟩⟩
      · rw [hc] at c2 ⊢
        rw [if_neg (show ¬ am_it (f_fa I) (L 11 11) (k + 1) < 0 from Int64.not_lt.mpr c2), ← nI_succ]
        exact ih
      · rw [hc] at c2
        rw [if_pos (show am_it (f_fa I) (L 11 11) (k + 1) < 0 from Int64.not_le.mp c2)]
        exact ⟨rfl, rfl, rfl⟩
  exact bm_intro (by decide +kernel) (Nat.le_of_ble_eq_true rfl) (show B_X4_firstBelowa_0 _ _ _ from s_X4_firstBelowa_0 (key 0 (Nat.zero_le _)))
def f_fb (I : am_I) (j : Nat) (x : Int64) : Int64 := x + (I 25 j - I 26 j).toInt64
theorem k_X4_firstBelowb {I : am_I} {L : am_L} : am_K M_X4_firstBelow 0 [.ref 11, .ref 25, .ref 26] I L (am_qf (some (.int (am_find (fun k => am_it (f_fb I) (L 11 11) (k + 1) < 0) 12 0))) I L) := by
  have key : ∀ k, k ≤ 12 → B_X4_firstBelowb_8 (am_qf (some (.int (am_find (fun k => am_it (f_fb I) (L 11 11) (k + 1) < 0) (12 - k) k))) I L) I L (am_it (f_fb I) (L 11 11) k) (nI k) := by
    refine am_down ?_ (fun k hk ih => ?_)
    · exact s_X4_firstBelowb_8 ⟨fun _ => ⟨rfl, rfl, rfl⟩, fun c1 => absurd (by decide) c1⟩
    · have hc : (nI k).toNatClampNeg = k := nI_clamp (by omega)
      have h12 : 12 - k = (12 - (k + 1)) + 1 := by omega
      rw [h12, am_find]
      refine s_X4_firstBelowb_8 ⟨fun c1 => absurd c1 (by rw [nI_12]; exact nI_ge hk (by omega)), fun _ => ⟨am_vI (n := 12) (by omega) (by decide), am_vI (n := 12) (by omega) (by decide), fun c2 => ?_, fun c2 => ?_⟩⟩
      · rw [hc] at c2 ⊢
        rw [if_neg (show ¬ am_it (f_fb I) (L 11 11) (k + 1) < 0 from Int64.not_lt.mpr c2), ← nI_succ]
        exact ih
      · rw [hc] at c2
        rw [if_pos (show am_it (f_fb I) (L 11 11) (k + 1) < 0 from Int64.not_le.mp c2)]
        exact ⟨rfl, rfl, rfl⟩
  exact bm_intro (by decide +kernel) (Nat.le_of_ble_eq_true rfl) (show B_X4_firstBelowb_0 _ _ _ from s_X4_firstBelowb_0 (key 0 (Nat.zero_le _)))
theorem k_X4_digested {h : Int64} {n np : Nat} {I : am_I} {L : am_L} (hn : I 11 7 = nI n) (hn1 : n ≤ 100) (hp : I 11 3 = nI np) (hp1 : np ≤ 12) : am_K M_X4_digested 0 [.ref 11, .long h] I L (am_qf (some (.long (am_it (f_dr I) (am_it (f_dp I L) h np) n))) I L) := by
  have key2 : ∀ k, k ≤ n → B_X4_digested_67 (am_qf (some (.long (am_it (f_dr I) (am_it (f_dp I L) h np) n))) I L) I L (am_it (f_dr I) (am_it (f_dp I L) h np) k) (nI k) := by
    refine am_down ?_ (fun k hk ih => ?_)
    · exact s_X4_digested_67 ⟨fun _ => ⟨rfl, rfl, rfl⟩, fun c1 => absurd (by rw [hn]; exact Int32.le_refl _) c1⟩
    · have hc : (nI k).toNatClampNeg = k := nI_clamp (by omega)
      have hv := am_vI (k := k) (n := 100) (by omega) (by decide)
      exact s_X4_digested_67 ⟨fun c1 => absurd c1 (by rw [hn]; exact nI_ge hk (by omega)), fun _ => ⟨hv, hv, hv, by rw [hc, ← nI_succ]; exact ih⟩⟩
  have key : ∀ k, k ≤ np → B_X4_digested_5 (am_qf (some (.long (am_it (f_dr I) (am_it (f_dp I L) h np) n))) I L) I L (am_it (f_dp I L) h k) (nI k) := by
    refine am_down ?_ (fun k hk ih => ?_)
    · exact s_X4_digested_5 ⟨fun _ => key2 0 (Nat.zero_le _), fun c1 => absurd (by rw [hp]; exact Int32.le_refl _) c1⟩
    · have hc : (nI k).toNatClampNeg = k := nI_clamp (by omega)
      have hv := am_vI (k := k) (n := 12) (by omega) (by decide)
      exact s_X4_digested_5 ⟨fun c1 => absurd c1 (by rw [hp]; exact nI_ge hk (by omega)), fun _ => ⟨hv, hv, hv, by rw [hc, ← nI_succ]; exact ih⟩⟩
  exact bm_intro (by decide +kernel) (Nat.le_of_ble_eq_true rfl) (show B_X4_digested_0 _ _ _ _ from s_X4_digested_0 (key 0 (Nat.zero_le _)))
/-- the contents behind a month's end -/
def f_endL (I : am_I) (L : am_L) (np : Nat) : am_L :=
  let L1 := am_u (am_u L 11 11 (L 11 11 - L 11 11 * (I 11 9).toInt64 / 1000)) 11 12 (L 11 12 + L 11 11 * (I 11 9).toInt64 / 1000)
  let L2 := f_grow L1 (I 11 10).toInt64 np
  let L3 := am_u L2 22 (I 11 8).toNatClampNeg (L2 11 11)
  am_u L3 23 (I 11 8).toNatClampNeg (am_sum (L3 18) np)
def f_endI (I : am_I) : am_I := am_u I 11 8 (I 11 8 + 1)
theorem k_X4_endMonth {np : Nat} {I : am_I} {L : am_L} (hp : I 11 3 = nI np) (hp1 : np ≤ 12) (hm : vp_in (I 11 8) 60) : am_K M_X4_endMonth 1 [.ref 11] I L (am_qf none (f_endI I) (f_endL I L np)) := by
  have key : ∀ k, k ≤ np → B_X4_endMonth_37 (am_qf none (f_endI I) (f_endL I L np)) I (f_grow (am_u (am_u L 11 11 (L 11 11 - L 11 11 * (I 11 9).toInt64 / 1000)) 11 12 (L 11 12 + L 11 11 * (I 11 9).toInt64 / 1000)) (I 11 10).toInt64 k) (nI k) := by
    refine am_down ?_ (fun k hk ih => ?_)
    · refine s_X4_endMonth_37 ⟨fun _ => ⟨hm, _, am_qf_l (k_X4_shownToAll hp hp1), fun v I8 L9 e => ?_⟩, fun c1 => absurd (by rw [hp]; exact Int32.le_refl _) c1⟩
      obtain ⟨rfl, rfl, rfl⟩ := e
      exact ⟨hm, rfl, rfl, rfl⟩
    · have hc : (nI k).toNatClampNeg = k := nI_clamp (by omega)
      have hv := am_vI (k := k) (n := 12) (by omega) (by decide)
      refine s_X4_endMonth_37 ⟨fun c1 => absurd c1 (by rw [hp]; exact nI_ge hk (by omega)), fun _ => ⟨hv, hv, hv, ?_⟩⟩
      rw [hc, ← nI_succ, f_grow_s]
      exact ih
  have k0 := key 0 (Nat.zero_le _)
  rw [f_grow_0] at k0
  exact bm_intro (by decide +kernel) (Nat.le_of_ble_eq_true rfl) (show B_X4_endMonth_0 _ _ _ from s_X4_endMonth_0 k0)
theorem k_X4_addPerson {a : Int32} {b : Int32} {I : am_I} {L : am_L} (hp : vp_in (I 11 3) 12) : am_K M_X4_addPerson 0 [.ref 11, .int a, .int b] I L (am_qf (some (.int (I 11 3 + 1 - 1))) (am_u (am_u (am_u I 16 (I 11 3).toNatClampNeg a) 17 (I 11 3).toNatClampNeg (if b = 0 then 0 else 1)) 11 3 (I 11 3 + 1)) (am_u L 18 (I 11 3).toNatClampNeg 0)) := by
  refine bm_intro (by decide +kernel) (Nat.le_of_ble_eq_true rfl) (show B_X4_addPerson_0 _ _ _ _ _ from s_X4_addPerson_0 ⟨hp, fun c1 => ⟨hp, hp, ?_⟩, fun c1 => ⟨hp, hp, ?_⟩⟩)
  · rw [if_pos c1]; exact ⟨rfl, rfl, rfl⟩
  · rw [if_neg c1]; exact ⟨rfl, rfl, rfl⟩
theorem k_X4_addRow {p s : Int32} {I : am_I} {L : am_L} (hr : vp_in (I 11 7) 100) (hp : vp_in p 12) : am_K M_X4_addRow 0 [.ref 11, .int p, .int s] I L (am_qf (some (.int (I 11 7 + 1 - 1))) (am_u (am_u (am_u (am_u I 19 (I 11 7).toNatClampNeg p) 20 (I 11 7).toNatClampNeg (I 11 8)) 21 (I 11 7).toNatClampNeg s) 11 7 (I 11 7 + 1)) (am_u (am_u L 11 11 (L 11 11 + s.toInt64)) 18 p.toNatClampNeg (L 18 p.toNatClampNeg + s.toInt64))) :=
  bm_intro (by decide +kernel) (Nat.le_of_ble_eq_true rfl) (show B_X4_addRow_0 _ _ _ _ _ from s_X4_addRow_0 ⟨hr, hr, hr, hp, hp, rfl, rfl, rfl⟩)

