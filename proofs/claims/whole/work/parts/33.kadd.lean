/-! what is told; the least sets -/
theorem k_X6_addTrade {a b c d : Int32} {I : am_I} {L : am_L} (h : vp_in (I 12 7) 40) : am_K M_X6_addTrade 0 [.ref 12, .int a, .int b, .int c, .int d] I L (am_qf (some (.int (I 12 7 + 1 - 1))) (am_u (am_u (am_u (am_u (am_u I 31 (I 12 7).toNatClampNeg a) 32 (I 12 7).toNatClampNeg b) 33 (I 12 7).toNatClampNeg c) 34 (I 12 7).toNatClampNeg d) 12 7 (I 12 7 + 1)) L) :=
  bm_intro (by decide +kernel) (Nat.le_of_ble_eq_true rfl) (show B_X6_addTrade_0 _ _ _ _ _ _ _ from s_X6_addTrade_0 ⟨h, h, h, h, rfl, rfl, rfl⟩)
theorem k_X6_addHand {a b : Int32} {I : am_I} {L : am_L} (h : vp_in (I 12 10) 8) : am_K M_X6_addHand 0 [.ref 12, .int a, .int b] I L (am_qf (some (.int (I 12 10 + 1 - 1))) (am_u (am_u (am_u I 35 (I 12 10).toNatClampNeg a) 36 (I 12 10).toNatClampNeg b) 12 10 (I 12 10 + 1)) L) :=
  bm_intro (by decide +kernel) (Nat.le_of_ble_eq_true rfl) (show B_X6_addHand_0 _ _ _ _ _ from s_X6_addHand_0 ⟨h, h, rfl, rfl, rfl⟩)
theorem k_X0_addGift {a b c d : Int32} {I : am_I} {L : am_L} (h : vp_in (I 13 5) 30) : am_K M_X0_addGift 0 [.ref 13, .int a, .int b, .int c, .int d] I L (am_qf (some (.int (I 13 5 + 1))) (am_u (am_u (am_u (am_u (am_u I 40 (I 13 5).toNatClampNeg a) 41 (I 13 5).toNatClampNeg b) 42 (I 13 5).toNatClampNeg c) 43 (I 13 5).toNatClampNeg d) 13 5 (I 13 5 + 1)) L) :=
  bm_intro (by decide +kernel) (Nat.le_of_ble_eq_true rfl) (show B_X0_addGift_0 _ _ _ _ _ _ _ from s_X0_addGift_0 ⟨h, h, h, h, rfl, rfl, rfl⟩)
theorem k_X0_addSuit {a b c : Int32} {I : am_I} {L : am_L} (h : vp_in (I 13 11) 8) : am_K M_X0_addSuit 0 [.ref 13, .int a, .int b, .int c] I L (am_qf (some (.int (I 13 11 + 1 - 1))) (am_u (am_u (am_u (am_u I 44 (I 13 11).toNatClampNeg a) 45 (I 13 11).toNatClampNeg b) 46 (I 13 11).toNatClampNeg c) 13 11 (I 13 11 + 1)) L) :=
  bm_intro (by decide +kernel) (Nat.le_of_ble_eq_true rfl) (show B_X0_addSuit_0 _ _ _ _ _ _ from s_X0_addSuit_0 ⟨h, h, h, rfl, rfl, rfl⟩)
theorem k_X5_addLetter {a b c : Int32} {I : am_I} {L : am_L} (h : vp_in (I 15 3) 20) : am_K M_X5_addLetter 0 [.ref 15, .int a, .int b, .int c] I L (am_qf (some (.int (I 15 3 + 1 - 1))) (am_u (am_u (am_u (am_u I 50 (I 15 3).toNatClampNeg a) 51 (I 15 3).toNatClampNeg b) 52 (I 15 3).toNatClampNeg c) 15 3 (I 15 3 + 1)) L) :=
  bm_intro (by decide +kernel) (Nat.le_of_ble_eq_true rfl) (show B_X5_addLetter_0 _ _ _ _ _ _ from s_X5_addLetter_0 ⟨h, h, h, rfl, rfl, rfl⟩)
def f_sh (x n : Int32) : Int32 := (Int32.toUInt32 x >>> (Int32.toUInt32 n &&& Int32.toUInt32 31)).toInt32
def f_b1 (x : Int32) : Int32 := x - (f_sh x 1 &&& 1431655765)
def f_b2 (x : Int32) : Int32 := (x &&& 858993459) + (f_sh x 2 &&& 858993459)
def f_b3 (x : Int32) : Int32 := (x + f_sh x 4) &&& 252645135
def f_b4 (x : Int32) : Int32 := x + f_sh x 8
def f_b5 (x : Int32) : Int32 := (x + f_sh x 16) &&& 63
def f_bc (x : Int32) : Int32 := f_b5 (f_b4 (f_b3 (f_b2 (f_b1 x))))
theorem k_bitCount {x : Int32} {I : am_I} {L : am_L} : am_K M_J6_bitCount_0f7a4 0 [.int x] I L (am_qf (some (.int (f_bc x))) I L) :=
  bm_intro (by decide +kernel) (Nat.le_of_ble_eq_true rfl) (show B_J6_bitCount_0f7a4_0 _ _ _ _ from s_J6_bitCount_0f7a4_0 ⟨rfl, rfl, rfl⟩)
/-- (size, how many, in all, in some) behind one more set -/
abbrev f_W : Type := Int32 × Int32 × Int32 × Int32
noncomputable def f_ls (I : am_I) (n : Nat) (s : Nat) (w : f_W) : f_W :=
  haveI := Classical.propDecidable (f_all I (nI s) n)
  if f_all I (nI s) n then (if w.2.1 = 0 then (f_bc (nI s), 0 + 1, nI s &&& nI s, 0 ||| nI s) else if w.1 ≤ f_bc (nI s) then (if f_bc (nI s) = w.1 then (w.1, w.2.1 + 1, w.2.2.1 &&& nI s, w.2.2.2 ||| nI s) else w) else (f_bc (nI s), 0 + 1, nI s &&& nI s, 0 ||| nI s)) else w
theorem f_ls_n {I : am_I} {n s : Nat} {w : f_W} (h : ¬ f_all I (nI s) n) : f_ls I n s w = w := by rw [f_ls]; exact if_neg h
theorem f_ls_y {I : am_I} {n s : Nat} {w : f_W} (h : f_all I (nI s) n) : f_ls I n s w = if w.2.1 = 0 then (f_bc (nI s), 0 + 1, nI s &&& nI s, 0 ||| nI s) else if w.1 ≤ f_bc (nI s) then (if f_bc (nI s) = w.1 then (w.1, w.2.1 + 1, w.2.2.1 &&& nI s, w.2.2.2 ||| nI s) else w) else (f_bc (nI s), 0 + 1, nI s &&& nI s, 0 ||| nI s) := by rw [f_ls]; exact if_pos h
def f_pick (w : Int32) (r : f_W) : Int32 := if w = 0 then r.1 else if w = 1 then r.2.1 else if w = 2 then r.2.2.1 else r.2.2.2
theorem k_X6_leastSets {w : Int32} {n nh : Nat} {I : am_I} {L : am_L} (hn : I 12 7 = nI n) (hn1 : n ≤ 40) (hh : I 12 10 = nI nh) (hh1 : nh ≤ 8) (hd : ∀ t, t < n → vp_in (I 31 t) 30) : am_K M_X6_leastSets 2 [.ref 12, .int w] I L (am_qf (some (.int (f_pick w (am_it (f_ls (f_cp I nh n n) n) (-5, 0, 0, 0) (2 ^ nh))))) (f_cp I nh n n) L) := by
  have hp := am_pow2p nh
  have hl := am_pow2l hh1
  refine bm_intro (by decide +kernel) (Nat.le_of_ble_eq_true rfl) (show B_X6_leastSets_0 _ _ _ _ from s_X6_leastSets_0 ⟨_, am_qf_v (k_X6_lookWhoCould hn hn1 hh hh1 hd), fun I3 L4 e => ?_⟩)
  obtain ⟨e1, e2⟩ := e
  subst e1; subst e2
  have hn' : f_cp I nh n n 12 7 = nI n := by rw [f_cp_n _ _ _ _ (by decide) (by decide)]; exact hn
  have hh' : f_cp I nh n n 12 10 = nI nh := by rw [f_cp_n _ _ _ _ (by decide) (by decide)]; exact hh
  generalize f_cp I nh n n = J at hn' hh'
  have key : ∀ k, k ≤ 2 ^ nh → ∀ a b c d, am_it (f_ls J n) (-5, 0, 0, 0) k = (a, b, c, d) → B_X6_leastSets_18 (am_qf (some (.int (f_pick w (am_it (f_ls J n) (-5, 0, 0, 0) (2 ^ nh))))) J L4) J L4 w a b c d (nI k) := by
    refine am_down (fun a b c d he => ?_) (fun k hk ih a b c d he => ?_)
    · refine s_X6_leastSets_18 ⟨fun _ => ⟨fun c1 => ?_, fun c1 => ⟨fun c2 => ?_, fun c2 => ⟨fun c3 => ?_, fun c3 => ?_⟩⟩⟩, fun c1 => absurd (by rw [hh', am_pow2 nh hh1]; exact Int32.le_refl _) c1⟩
      · rw [he, f_pick, if_pos c1]; exact ⟨rfl, rfl, rfl⟩
      · rw [he, f_pick, if_neg c1, if_pos c2]; exact ⟨rfl, rfl, rfl⟩
      · rw [he, f_pick, if_neg c1, if_neg c2, if_pos c3]; exact ⟨rfl, rfl, rfl⟩
      · rw [he, f_pick, if_neg c1, if_neg c2, if_neg c3]; exact ⟨rfl, rfl, rfl⟩
    · have e1 : am_it (f_ls J n) (-5, 0, 0, 0) (k + 1) = f_ls J n k (a, b, c, d) := by rw [← he]; rfl
      rw [e1, nI_succ] at ih
      refine s_X6_leastSets_18 ⟨fun c1 => absurd c1 (by rw [hh', am_pow2 nh hh1]; exact nI_ge hk (by omega)), fun _ => ⟨_, k_X6_printsAll hn' hn1, fun v I7 L8 e => ?_⟩⟩
      obtain ⟨rfl, rfl, e⟩ := e
      refine ⟨fun c1 => ⟨_, am_qf_i k_bitCount, fun v I7 L8 e3 => ?_⟩, fun c1 => ?_⟩
      · obtain ⟨rfl, rfl, rfl⟩ := e3
        have hy : f_all _ (nI k) n := e.elim And.left (fun q => absurd q.2 c1)
        rw [f_ls_y hy] at ih
        refine ⟨fun c2 => ⟨fun c3 => absurd rfl c3, fun _ => ?_⟩, fun c2 => ⟨fun c3 => ⟨fun c4 => ?_, fun c4 => ?_⟩, fun c3 => ⟨fun c4 => absurd rfl c4, fun _ => ?_⟩⟩⟩
        · exact ih _ _ _ _ (if_pos c2)
        · exact ih _ _ _ _ ((if_neg c2).trans ((if_pos c3).trans (if_neg c4)))
        · exact ih _ _ _ _ ((if_neg c2).trans ((if_pos c3).trans (if_pos c4)))
        · exact ih _ _ _ _ ((if_neg c2).trans (if_neg c3))
      · have hno : ¬ f_all _ (nI k) n := e.elim (fun q => absurd (q.2.symm.trans c1) (by decide)) And.left
        rw [f_ls_n hno] at ih
        exact ih _ _ _ _ rfl
  exact key 0 (Nat.zero_le _) _ _ _ _ rfl
