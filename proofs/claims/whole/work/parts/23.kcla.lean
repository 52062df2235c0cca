/-! the claims' contracts -/
def f_idx (I : am_I) (p : Int32) (r : Nat) : Int64 := if I 19 r = p then (if (I 39 (I 20 r).toNatClampNeg).toInt64 = 0 then 0 else (I 21 r).toInt64 * (I 39 (I 11 8).toNatClampNeg).toInt64 / (I 39 (I 20 r).toNatClampNeg).toInt64) else 0
theorem k_X0_indexedOf {p : Int32} {n : Nat} {I : am_I} {L : am_L} (hn : I 11 7 = nI n) (hn1 : n ≤ 100) (hw : vp_in (I 11 8) 60) (hm : ∀ r, r < n → vp_in (I 20 r) 60) : am_K M_X0_indexedOf 2 [.ref 13, .ref 11, .int p] I L (am_qf (some (.long (am_mx (am_sum (f_idx I p) n)))) I L) := by
  have key : ∀ k, k ≤ n → B_X0_indexedOf_5 (am_qf (some (.long (am_mx (am_sum (f_idx I p) n)))) I L) I L p (am_sum (f_idx I p) k) (nI k) := by
    refine am_down ?_ (fun k hk ih => ?_)
    · exact s_X0_indexedOf_5 ⟨fun _ => ⟨rfl, rfl, rfl⟩, fun c1 => absurd (by rw [hn]; exact Int32.le_refl _) c1⟩
    · have hc : (nI k).toNatClampNeg = k := nI_clamp (by omega)
      have hv := am_vI (k := k) (n := 100) (by omega) (by decide)
      refine s_X0_indexedOf_5 ⟨fun c1 => absurd c1 (by rw [hn]; exact nI_ge hk (by omega)), fun _ => ⟨hv, fun c2 => ⟨hv, hw, hv, by rw [hc]; exact hm k hk, ?_⟩, fun c2 => ?_⟩⟩
      · rw [hc] at c2 ⊢
        rw [← nI_succ]
        rw [am_sum, f_idx, if_pos c2] at ih
        exact ih
      · rw [hc] at c2
        rw [← nI_succ]
        rw [am_sum, f_idx, if_neg c2, Int64.add_zero] at ih
        exact ih
  exact bm_intro (by decide +kernel) (Nat.le_of_ble_eq_true rfl) (show B_X0_indexedOf_0 _ _ _ _ from s_X0_indexedOf_0 (key 0 (Nat.zero_le _)))
def f_cnt (I : am_I) (L : am_L) (n : Nat) (p w : Int32) : Int64 := if w = 0 then am_mx (am_sum (f_net I p 60) n) else if w = 1 then L 18 p.toNatClampNeg else am_mx (am_sum (f_idx I p) n)
theorem k_X0_countOf {p w : Int32} {n : Nat} {I : am_I} {L : am_L} (hn : I 11 7 = nI n) (hn1 : n ≤ 100) (hw : vp_in (I 11 8) 60) (hm : ∀ r, r < n → vp_in (I 20 r) 60) (hp : vp_in p 12) : am_K M_X0_countOf 3 [.ref 13, .ref 11, .int p, .int w] I L (am_qf (some (.long (f_cnt I L n p w))) I L) := by
  refine bm_intro (by decide +kernel) (Nat.le_of_ble_eq_true rfl) (show B_X0_countOf_0 _ _ _ _ _ from s_X0_countOf_0 ⟨fun c1 => ⟨_, am_qf_l (k_X4_netOf hn hn1), fun v I7 L8 e => ?_⟩, fun c1 => ⟨fun c2 => ⟨hp, ?_⟩, fun c2 => ⟨_, am_qf_l (k_X0_indexedOf hn hn1 hw hm), fun v I7 L8 e => ?_⟩⟩⟩)
  · obtain ⟨rfl, rfl, rfl⟩ := e
    exact ⟨by rw [f_cnt, if_pos c1], rfl, rfl⟩
  · exact ⟨by rw [f_cnt, if_neg c1, if_pos c2], rfl, rfl⟩
  · obtain ⟨rfl, rfl, rfl⟩ := e
    exact ⟨by rw [f_cnt, if_neg c1, if_neg c2], rfl, rfl⟩
theorem k_X0_countOfAll {w : Int32} {n np : Nat} {I : am_I} {L : am_L} (hn : I 11 7 = nI n) (hn1 : n ≤ 100) (hp : I 11 3 = nI np) (hp1 : np ≤ 12) (hw : vp_in (I 11 8) 60) (hm : ∀ r, r < n → vp_in (I 20 r) 60) : am_K M_X0_countOfAll 4 [.ref 13, .ref 11, .int w] I L (am_qf (some (.long (am_sum (fun p => f_cnt I L n (nI p) w) np))) I L) := by
  have key : ∀ k, k ≤ np → B_X0_countOfAll_5 (am_qf (some (.long (am_sum (fun p => f_cnt I L n (nI p) w) np))) I L) I L w (am_sum (fun p => f_cnt I L n (nI p) w) k) (nI k) := by
    refine am_down ?_ (fun k hk ih => ?_)
    · exact s_X0_countOfAll_5 ⟨fun _ => ⟨rfl, rfl, rfl⟩, fun c1 => absurd (by rw [hp]; exact Int32.le_refl _) c1⟩
    · refine s_X0_countOfAll_5 ⟨fun c1 => absurd c1 (by rw [hp]; exact nI_ge hk (by omega)), fun _ => ⟨_, am_qf_l (k_X0_countOf hn hn1 hw hm (am_vI (n := 12) (by omega) (by decide))), fun v I7 L8 e => ?_⟩⟩
      obtain ⟨rfl, rfl, rfl⟩ := e
      rw [← nI_succ]
      exact ih
  exact bm_intro (by decide +kernel) (Nat.le_of_ble_eq_true rfl) (show B_X0_countOfAll_0 _ _ _ _ from s_X0_countOfAll_0 (key 0 (Nat.zero_le _)))
def am_mn (x y : Int64) : Int64 := if y < x then y else x
def f_deal (I : am_I) (L : am_L) (n np : Nat) (p w sum : Int32) : Int64 := am_mn (f_cnt I L n p w) (if am_sum (fun q => f_cnt I L n (nI q) w) np = 0 then 0 else sum.toInt64 * f_cnt I L n p w / am_sum (fun q => f_cnt I L n (nI q) w) np)
theorem k_X0_dealtTo {p w sum : Int32} {n np : Nat} {I : am_I} {L : am_L} (hn : I 11 7 = nI n) (hn1 : n ≤ 100) (hp : I 11 3 = nI np) (hp1 : np ≤ 12) (hw : vp_in (I 11 8) 60) (hm : ∀ r, r < n → vp_in (I 20 r) 60) (hpp : vp_in p 12) : am_K M_X0_dealtTo 5 [.ref 13, .ref 11, .int p, .int w, .int sum] I L (am_qf (some (.long (f_deal I L n np p w sum))) I L) := by
  refine bm_intro (by decide +kernel) (Nat.le_of_ble_eq_true rfl) (show B_X0_dealtTo_0 _ _ _ _ _ _ from s_X0_dealtTo_0 ⟨_, am_qf_l (k_X0_countOf hn hn1 hw hm hpp), fun v I7 L8 e => ?_⟩)
  obtain ⟨rfl, rfl, rfl⟩ := e
  refine ⟨_, am_qf_l (k_X0_countOfAll hn hn1 hp hp1 hw hm), fun v I7 L8 e => ?_⟩
  obtain ⟨rfl, rfl, rfl⟩ := e
  exact ⟨rfl, rfl, rfl⟩
def f_take (I : am_I) (n : Nat) (p : Int32) : Int64 := if I 17 p.toNatClampNeg = 1 then am_mn (am_sum (f_out I p (I 11 8 - I 13 6)) n) (am_mx (am_sum (f_out I p 0) n - am_sum (f_in I p) n)) else am_sum (f_out I p (I 11 8 - I 13 7)) n
theorem k_X0_toTakeFrom {p : Int32} {n : Nat} {I : am_I} {L : am_L} (hn : I 11 7 = nI n) (hn1 : n ≤ 100) (hp : vp_in p 12) : am_K M_X0_toTakeFrom 2 [.ref 13, .ref 11, .int p] I L (am_qf (some (.long (f_take I n p))) I L) := by
  refine bm_intro (by decide +kernel) (Nat.le_of_ble_eq_true rfl) (show B_X0_toTakeFrom_0 _ _ _ _ from s_X0_toTakeFrom_0 ⟨hp, fun c1 => ⟨fun _ => ⟨_, am_qf_l (k_X4_outOf hn hn1), fun v I7 L8 e => ?_⟩, fun c2 => absurd rfl c2⟩, fun c1 => ⟨fun c2 => absurd c2 (by decide), fun _ => ⟨_, am_qf_l (k_X4_outOf hn hn1), fun v I7 L8 e => ?_⟩⟩⟩)
  · obtain ⟨rfl, rfl, rfl⟩ := e
    exact ⟨fun c2 => absurd rfl c2, fun _ => ⟨by rw [f_take, if_neg c1], rfl, rfl⟩⟩
  · obtain ⟨rfl, rfl, rfl⟩ := e
    refine ⟨fun _ => ⟨_, am_qf_l (k_X4_outOf hn hn1), fun v I7 L8 e => ?_⟩, fun c2 => absurd c2 (by decide)⟩
    obtain ⟨rfl, rfl, rfl⟩ := e
    refine ⟨_, am_qf_l (k_X4_inOf hn hn1), fun v I7 L8 e => ?_⟩
    obtain ⟨rfl, rfl, rfl⟩ := e
    exact ⟨by rw [f_take, if_pos c1]; rfl, rfl, rfl⟩
/-- a gift leads on -/
def f_lead (I : am_I) (g : Nat) (L : am_L) : am_L :=
  let goes := if (I 43 g).toInt64 < L 47 (I 40 g).toNatClampNeg then (I 43 g).toInt64 else L 47 (I 40 g).toNatClampNeg
  let L1 := am_u L 47 (I 40 g).toNatClampNeg (L 47 (I 40 g).toNatClampNeg - goes)
  am_u L1 47 (I 41 g).toNatClampNeg (L1 47 (I 41 g).toNatClampNeg + goes)
theorem k_X0_leadOn {g : Nat} {I : am_I} {L : am_L} (hg : g < 30) (h1 : vp_in (I 40 g) 12) (h2 : vp_in (I 41 g) 12) : am_K M_X0_leadOn 2 [.ref 13, .int (nI g)] I L (am_qf none I (f_lead I g L)) := by
  have hc : (nI g).toNatClampNeg = g := nI_clamp (by omega)
  have hv := am_vI (k := g) (n := 30) (by omega) (by decide)
  refine bm_intro (by decide +kernel) (Nat.le_of_ble_eq_true rfl) (show B_X0_leadOn_0 _ _ _ _ from s_X0_leadOn_0 ?_)
  rw [hc]
  exact ⟨hv, h1, hv, hv, h1, h1, hv, h2, h2, rfl, rfl, rfl⟩
def f_with (I : am_I) (L : am_L) (n k : Nat) : am_L := fun a b => if a = 47 then (if b < k then f_take I n (nI b) else L 47 b) else L a b
theorem f_with_0 (I : am_I) (L : am_L) (n : Nat) : f_with I L n 0 = L := by
  funext a b
  unfold f_with
  split
  · next h => simp [h]
  · rfl
theorem f_with_s (I : am_I) (L : am_L) (n k : Nat) : am_u (f_with I L n k) 47 k (f_take I n (nI k)) = f_with I L n (k + 1) := by
  funext a b
  by_cases ha : a = 47
  · subst ha
    by_cases hb : b = k
    · subst hb; simp [am_u, f_with]
    · by_cases h1 : b < k
      · simp [am_u, f_with, hb, h1, Nat.lt_succ_of_lt h1]
      · have h4 : ¬ b < k + 1 := by omega
        simp [am_u, f_with, hb, h1, h4]
  · simp [am_u, f_with, ha]
def f_leadm (I : am_I) (m g : Nat) (L : am_L) : am_L := if I 42 g = nI m then f_lead I g L else L
def f_leads (I : am_I) (ng m : Nat) (L : am_L) : am_L := am_it (f_leadm I m) L ng
theorem k_X0_takenFrom {p : Int32} {n np ng : Nat} {I : am_I} {L : am_L} (hn : I 11 7 = nI n) (hn1 : n ≤ 100) (hp : I 11 3 = nI np) (hp1 : np ≤ 12) (hg : I 13 5 = nI ng) (hg1 : ng ≤ 30) (h1 : ∀ g, g < ng → vp_in (I 40 g) 12 ∧ vp_in (I 41 g) 12) (hpp : vp_in p 12) : am_K M_X0_takenFrom 3 [.ref 13, .ref 11, .int p] I L (am_qf (some (.long (am_it (f_leads I ng) (f_with I L n np) 60 47 p.toNatClampNeg))) I (am_it (f_leads I ng) (f_with I L n np) 60)) := by
  have key3 : ∀ m, m ≤ 60 → B_X0_takenFrom_30 (am_qf (some (.long (am_it (f_leads I ng) (f_with I L n np) 60 47 p.toNatClampNeg))) I (am_it (f_leads I ng) (f_with I L n np) 60)) I (am_it (f_leads I ng) (f_with I L n np) m) p (nI m) := by
    refine am_down ?_ (fun m hm ih => ?_)
    · exact s_X0_takenFrom_30 ⟨fun _ => ⟨hpp, rfl, rfl, rfl⟩, fun c1 => absurd (by decide) c1⟩
    · have key2 : ∀ k, k ≤ ng → B_X0_takenFrom_39 (am_qf (some (.long (am_it (f_leads I ng) (f_with I L n np) 60 47 p.toNatClampNeg))) I (am_it (f_leads I ng) (f_with I L n np) 60)) I (am_it (f_leadm I m) (am_it (f_leads I ng) (f_with I L n np) m) k) p (nI m) (nI k) := by
        refine am_down ?_ (fun k hk ih2 => ?_)
        · exact s_X0_takenFrom_39 ⟨fun _ => by rw [← nI_succ]; exact ih, fun c1 => absurd (by rw [hg]; exact Int32.le_refl _) c1⟩
        · have hc : (nI k).toNatClampNeg = k := nI_clamp (by omega)
          have hv := am_vI (k := k) (n := 30) (by omega) (by decide)
          refine s_X0_takenFrom_39 ⟨fun c1 => absurd c1 (by rw [hg]; exact nI_ge hk (by omega)), fun _ => ⟨hv, fun c2 => ?_, fun c2 => ⟨_, am_qf_v (k_X0_leadOn (by omega) (h1 k hk).1 (h1 k hk).2), fun I7 L8 e => ?_⟩⟩⟩
          · rw [hc] at c2
            have e1 : ∀ X, am_it (f_leadm I m) X (k + 1) = am_it (f_leadm I m) X k := fun X => if_neg c2
            rw [e1] at ih2
            rw [← nI_succ]; exact ih2
          · obtain ⟨rfl, rfl⟩ := e
            rw [hc] at c2
            have e1 : ∀ X, am_it (f_leadm I7 m) X (k + 1) = f_lead I7 k (am_it (f_leadm I7 m) X k) := fun X => if_pos c2
            rw [e1] at ih2
            rw [← nI_succ]; exact ih2
      refine s_X0_takenFrom_30 ⟨fun c1 => absurd c1 (by rw [show (60 : Int32) = nI 60 by decide]; exact nI_ge hm (by omega)), fun _ => key2 0 (Nat.zero_le _)⟩
  have key : ∀ k, k ≤ np → B_X0_takenFrom_2 (am_qf (some (.long (am_it (f_leads I ng) (f_with I L n np) 60 47 p.toNatClampNeg))) I (am_it (f_leads I ng) (f_with I L n np) 60)) I (f_with I L n k) p (nI k) := by
    refine am_down ?_ (fun k hk ih => ?_)
    · exact s_X0_takenFrom_2 ⟨fun _ => key3 0 (by omega), fun c1 => absurd (by rw [hp]; exact Int32.le_refl _) c1⟩
    · have hc : (nI k).toNatClampNeg = k := nI_clamp (by omega)
      have hv := am_vI (k := k) (n := 12) (by omega) (by decide)
      refine s_X0_takenFrom_2 ⟨fun c1 => absurd c1 (by rw [hp]; exact nI_ge hk (by omega)), fun _ => ⟨_, am_qf_l (k_X0_toTakeFrom hn hn1 hv), fun v I7 L8 e => ?_⟩⟩
      obtain ⟨rfl, rfl, rfl⟩ := e
      refine ⟨hv, ?_⟩
      rw [hc, f_with_s, ← nI_succ]
      exact ih
  have k0 := key 0 (Nat.zero_le _)
  rw [f_with_0] at k0
  exact bm_intro (by decide +kernel) (Nat.le_of_ble_eq_true rfl) (show B_X0_takenFrom_0 _ _ _ _ from s_X0_takenFrom_0 k0)
def f_mo (I : am_I) (s : Int32) (k : Nat) (c : Int32) : Int32 := if (s >>> (nI k &&& 31)) &&& 1 = 1 then c + I 46 k else c
def f_ga (I : am_I) (s : Int32) (k : Nat) (c : Int32) : Int32 := if (s >>> (nI k &&& 31)) &&& 1 = 1 then c + (I 44 k - I 45 k) else c
theorem k_X0_monthsOf {s : Int32} {n : Nat} {I : am_I} {L : am_L} (hn : I 13 11 = nI n) (hn1 : n ≤ 8) : am_K M_X0_monthsOf 0 [.ref 13, .int s] I L (am_qf (some (.int (am_it (f_mo I s) 0 n))) I L) := by
  have key : ∀ k, k ≤ n → B_X0_monthsOf_4 (am_qf (some (.int (am_it (f_mo I s) 0 n))) I L) I L s (am_it (f_mo I s) 0 k) (nI k) := by
    refine am_down ?_ (fun k hk ih => ?_)
    · exact s_X0_monthsOf_4 ⟨fun _ => ⟨rfl, rfl, rfl⟩, fun c1 => absurd (by rw [hn]; exact Int32.le_refl _) c1⟩
    · have hc : (nI k).toNatClampNeg = k := nI_clamp (by omega)
      have hv := am_vI (k := k) (n := 8) (by omega) (by decide)
      rw [am_it, f_mo] at ih
      refine s_X0_monthsOf_4 ⟨fun c1 => absurd c1 (by rw [hn]; exact nI_ge hk (by omega)), fun _ => ⟨fun c2 => ?_, fun c2 => ⟨hv, ?_⟩⟩⟩
      · rw [if_neg c2] at ih; rw [← nI_succ]; exact ih
      · rw [if_pos c2] at ih; rw [hc, ← nI_succ]; exact ih
  exact bm_intro (by decide +kernel) (Nat.le_of_ble_eq_true rfl) (show B_X0_monthsOf_0 _ _ _ _ from s_X0_monthsOf_0 (key 0 (Nat.zero_le _)))
theorem k_X0_gainOf {s : Int32} {n : Nat} {I : am_I} {L : am_L} (hn : I 13 11 = nI n) (hn1 : n ≤ 8) : am_K M_X0_gainOf 0 [.ref 13, .int s] I L (am_qf (some (.int (am_it (f_ga I s) 0 n))) I L) := by
  have key : ∀ k, k ≤ n → B_X0_gainOf_4 (am_qf (some (.int (am_it (f_ga I s) 0 n))) I L) I L s (am_it (f_ga I s) 0 k) (nI k) := by
    refine am_down ?_ (fun k hk ih => ?_)
    · exact s_X0_gainOf_4 ⟨fun _ => ⟨rfl, rfl, rfl⟩, fun c1 => absurd (by rw [hn]; exact Int32.le_refl _) c1⟩
    · have hc : (nI k).toNatClampNeg = k := nI_clamp (by omega)
      have hv := am_vI (k := k) (n := 8) (by omega) (by decide)
      rw [am_it, f_ga] at ih
      refine s_X0_gainOf_4 ⟨fun c1 => absurd c1 (by rw [hn]; exact nI_ge hk (by omega)), fun _ => ⟨fun c2 => ?_, fun c2 => ⟨hv, hv, ?_⟩⟩⟩
      · rw [if_neg c2] at ih; rw [← nI_succ]; exact ih
      · rw [if_pos c2] at ih; rw [hc, ← nI_succ]; exact ih
  exact bm_intro (by decide +kernel) (Nat.le_of_ble_eq_true rfl) (show B_X0_gainOf_0 _ _ _ _ from s_X0_gainOf_0 (key 0 (Nat.zero_le _)))
def f_gi (I : am_I) (k : Nat) (h : Int64) : Int64 := 31 * (31 * (31 * (31 * h + (I 40 k).toInt64) + (I 41 k).toInt64) + (I 42 k).toInt64) + (I 43 k).toInt64
def f_su (I : am_I) (k : Nat) (h : Int64) : Int64 := 31 * (31 * (31 * h + (I 44 k).toInt64) + (I 45 k).toInt64) + (I 46 k).toInt64
theorem k_X0_digestedGifts {n : Nat} {h : Int64} {I : am_I} {L : am_L} (hn : I 13 5 = nI n) (hn1 : n ≤ 30) : am_K M_X0_digestedGifts 0 [.ref 13, .long h] I L (am_qf (some (.long (am_it (f_gi I) h n))) I L) := by
  have key : ∀ k, k ≤ n → B_X0_digestedGifts_5 (am_qf (some (.long (am_it (f_gi I) h n))) I L) I L (am_it (f_gi I) h k) (nI k) := by
    refine am_down ?_ (fun k hk ih => ?_)
    · exact s_X0_digestedGifts_5 ⟨fun _ => ⟨rfl, rfl, rfl⟩, fun c1 => absurd (by rw [hn]; exact Int32.le_refl _) c1⟩
    · have hc : (nI k).toNatClampNeg = k := nI_clamp (by omega)
      have hv := am_vI (k := k) (n := 30) (by omega) (by decide)
      exact s_X0_digestedGifts_5 ⟨fun c1 => absurd c1 (by rw [hn]; exact nI_ge hk (by omega)), fun _ => ⟨hv, hv, hv, hv, by rw [hc, ← nI_succ]; exact ih⟩⟩
  exact bm_intro (by decide +kernel) (Nat.le_of_ble_eq_true rfl) (show B_X0_digestedGifts_0 _ _ _ _ from s_X0_digestedGifts_0 (key 0 (Nat.zero_le _)))
theorem k_X0_digestedSuits {n : Nat} {h : Int64} {I : am_I} {L : am_L} (hn : I 13 11 = nI n) (hn1 : n ≤ 8) : am_K M_X0_digestedSuits 0 [.ref 13, .long h] I L (am_qf (some (.long (am_it (f_su I) h n))) I L) := by
  have key : ∀ k, k ≤ n → B_X0_digestedSuits_5 (am_qf (some (.long (am_it (f_su I) h n))) I L) I L (am_it (f_su I) h k) (nI k) := by
    refine am_down ?_ (fun k hk ih => ?_)
    · exact s_X0_digestedSuits_5 ⟨fun _ => ⟨rfl, rfl, rfl⟩, fun c1 => absurd (by rw [hn]; exact Int32.le_refl _) c1⟩
    · have hc : (nI k).toNatClampNeg = k := nI_clamp (by omega)
      have hv := am_vI (k := k) (n := 8) (by omega) (by decide)
      exact s_X0_digestedSuits_5 ⟨fun c1 => absurd c1 (by rw [hn]; exact nI_ge hk (by omega)), fun _ => ⟨hv, hv, hv, by rw [hc, ← nI_succ]; exact ih⟩⟩
  exact bm_intro (by decide +kernel) (Nat.le_of_ble_eq_true rfl) (show B_X0_digestedSuits_0 _ _ _ _ from s_X0_digestedSuits_0 (key 0 (Nat.zero_le _)))
def f_mos (I : am_I) (ns : Nat) (s : Int32) : Int32 := am_it (f_mo I s) 0 ns
def f_gas (I : am_I) (ns : Nat) (s : Int32) : Int32 := am_it (f_ga I s) 0 ns
def f_bs (I : am_I) (ns : Nat) (m : Int32) (j : Nat) (b : Int32) : Int32 := if m < f_mos I ns (nI (j + 1)) then b else if f_gas I ns b ≤ f_gas I ns (nI (j + 1)) then (if f_gas I ns b < f_gas I ns (nI (j + 1)) then nI (j + 1) else if f_mos I ns b ≤ f_mos I ns (nI (j + 1)) then b else nI (j + 1)) else b
theorem am_pow2 : ∀ n, n ≤ 8 → (1 : Int32) <<< (nI n &&& 31) = nI (2 ^ n) := by decide +kernel
theorem am_pow2p (n : Nat) : 1 ≤ 2 ^ n := Nat.one_le_two_pow
theorem am_pow2l {n : Nat} (h : n ≤ 8) : 2 ^ n ≤ 256 := Nat.pow_le_pow_right (n := 2) (by decide) h
theorem k_X0_bestSet {m : Int32} {n : Nat} {I : am_I} {L : am_L} (hn : I 13 11 = nI n) (hn1 : n ≤ 8) : am_K M_X0_bestSet 1 [.ref 13, .int m] I L (am_qf (some (.int (am_it (f_bs I n m) 0 (2 ^ n - 1)))) I L) := by
  have hp := am_pow2p n
  have hl := am_pow2l hn1
  have key : ∀ k, k ≤ 2 ^ n - 1 → B_X0_bestSet_4 (am_qf (some (.int (am_it (f_bs I n m) 0 (2 ^ n - 1)))) I L) I L m (am_it (f_bs I n m) 0 k) (nI (k + 1)) := by
    refine am_down ?_ (fun k hk ih => ?_)
    · exact s_X0_bestSet_4 ⟨fun _ => ⟨rfl, rfl, rfl⟩, fun c1 => absurd (by rw [hn, am_pow2 n hn1]; exact nI_le (by omega) (by omega)) c1⟩
    · rw [am_it, f_bs] at ih
      rw [nI_succ (k + 1)] at ih
      refine s_X0_bestSet_4 ⟨fun c1 => absurd c1 (by rw [hn, am_pow2 n hn1]; exact nI_ge (by omega) (by omega)), fun _ => ⟨_, am_qf_i (k_X0_monthsOf hn hn1), fun v I7 L8 e => ?_⟩⟩
      obtain ⟨rfl, rfl, rfl⟩ := e
      refine ⟨fun c2 => ?_, fun c2 => ⟨_, am_qf_i (k_X0_gainOf hn hn1), fun v I7 L8 e => ?_⟩⟩
      · rw [if_pos (show m < f_mos _ n (nI (k + 1)) from c2)] at ih; exact ih
      · obtain ⟨rfl, rfl, rfl⟩ := e
        rw [if_neg (show ¬ m < f_mos _ n (nI (k + 1)) from c2)] at ih
        refine ⟨_, am_qf_i (k_X0_gainOf hn hn1), fun v I7 L8 e => ?_⟩
        obtain ⟨rfl, rfl, rfl⟩ := e
        refine ⟨fun c3 => ⟨_, am_qf_i (k_X0_gainOf hn hn1), fun v I7 L8 e => ?_⟩, fun c3 => ?_⟩
        · obtain ⟨rfl, rfl, rfl⟩ := e
          rw [if_pos (show f_gas _ n (am_it (f_bs _ n m) 0 k) ≤ f_gas _ n (nI (k + 1)) from c3)] at ih
          refine ⟨_, am_qf_i (k_X0_gainOf hn hn1), fun v I7 L8 e => ?_⟩
          obtain ⟨rfl, rfl, rfl⟩ := e
          refine ⟨fun c4 => ?_, fun c4 => ⟨_, am_qf_i (k_X0_monthsOf hn hn1), fun v I7 L8 e => ?_⟩⟩
          · rw [if_pos (show f_gas _ n (am_it (f_bs _ n m) 0 k) < f_gas _ n (nI (k + 1)) from c4)] at ih; exact ih
          · obtain ⟨rfl, rfl, rfl⟩ := e
            rw [if_neg (show ¬ f_gas _ n (am_it (f_bs _ n m) 0 k) < f_gas _ n (nI (k + 1)) from c4)] at ih
            refine ⟨_, am_qf_i (k_X0_monthsOf hn hn1), fun v I7 L8 e => ?_⟩
            obtain ⟨rfl, rfl, rfl⟩ := e
            refine ⟨fun c5 => ?_, fun c5 => ?_⟩
            · rw [if_pos (show f_mos _ n (am_it (f_bs _ n m) 0 k) ≤ f_mos _ n (nI (k + 1)) from c5)] at ih; exact ih
            · rw [if_neg (show ¬ f_mos _ n (am_it (f_bs _ n m) 0 k) ≤ f_mos _ n (nI (k + 1)) from c5)] at ih; exact ih
        · rw [if_neg (show ¬ f_gas _ n (am_it (f_bs _ n m) 0 k) ≤ f_gas _ n (nI (k + 1)) from c3)] at ih; exact ih
  exact bm_intro (by decide +kernel) (Nat.le_of_ble_eq_true rfl) (show B_X0_bestSet_0 _ _ _ _ from s_X0_bestSet_0 (key 0 (Nat.zero_le _)))
