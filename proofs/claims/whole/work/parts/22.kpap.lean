/-! the paper's contracts -/
def f_told (I : am_I) (d : Int32) (r : Nat) : Int64 := if I 31 r = d then (I 33 r).toInt64 else 0
def f_out4 (I : am_I) (t : Nat) (b : Int32) : Int32 := if am_sum (f_told I (I 31 t)) (t + 1) ≤ (I 30 (I 31 t).toNatClampNeg).toInt64 then b else b ||| 4
def f_wrong (I : am_I) (t : Nat) : Int32 := if I 28 (I 31 t).toNatClampNeg = 0 then 1 else f_out4 I t (if I 32 t < I 28 (I 31 t).toNatClampNeg then 2 else if I 32 t ≤ I 29 (I 31 t).toNatClampNeg then 0 else 2)
theorem k_wrongOf60 {t : Nat} {b : Int32} {I : am_I} {L : am_L} {Q : am_S} (ht : t < 40) (hd : vp_in (I 31 t) 30) (hq : Q (some (.int (f_out4 I t b))) I L) : ∀ k, k ≤ t + 1 → B_X6_wrongOf_60 Q I L (nI t) (I 31 t) b (am_sum (f_told I (I 31 t)) k) (nI k) := by
  refine am_down ?_ (fun k hk ih => ?_)
  · refine s_X6_wrongOf_60 ⟨fun _ => ⟨hd, fun c2 => ?_, fun c2 => ?_⟩, fun c1 => absurd (nI_lt (by omega) (by omega)) c1⟩
    · rw [f_out4, if_pos c2] at hq; exact hq
    · rw [f_out4, if_neg c2] at hq; exact hq
  · have hc : (nI k).toNatClampNeg = k := nI_clamp (by omega)
    have hv := am_vI (k := k) (n := 40) (by omega) (by decide)
    refine s_X6_wrongOf_60 ⟨fun c1 => absurd c1 (nI_nlt (by omega) (by omega)), fun _ => ⟨hv, fun c2 => ?_, fun c2 => ⟨hv, ?_⟩⟩⟩
    · rw [hc] at c2
      simpa [am_sum, nI_succ, f_told, c2] using ih
    · rw [hc] at c2 ⊢
      simpa [am_sum, nI_succ, f_told, c2] using ih
theorem k_X6_wrongOf {t : Nat} {I : am_I} {L : am_L} (ht : t < 40) (hd : vp_in (I 31 t) 30) : am_K M_X6_wrongOf 0 [.ref 12, .int (nI t)] I L (am_qf (some (.int (f_wrong I t))) I L) := by
  have hc : (nI t).toNatClampNeg = t := nI_clamp (by omega)
  have hv := am_vI (k := t) (n := 40) (by omega) (by decide)
  refine bm_intro (by decide +kernel) (Nat.le_of_ble_eq_true rfl) (show B_X6_wrongOf_0 _ _ _ _ from s_X6_wrongOf_0 ?_)
  rw [hc]
  refine ⟨hv, hd, fun c1 => ⟨hv, hd, fun c2 => ?_, fun c2 => ⟨hv, hd, fun c3 => ?_, fun c3 => ?_⟩⟩, fun c1 => ?_⟩
  · exact k_wrongOf60 ht hd ⟨by rw [f_wrong, if_neg c1, if_pos c2], rfl, rfl⟩ 0 (by omega)
  · exact k_wrongOf60 ht hd ⟨by rw [f_wrong, if_neg c1, if_neg c2, if_pos c3], rfl, rfl⟩ 0 (by omega)
  · exact k_wrongOf60 ht hd ⟨by rw [f_wrong, if_neg c1, if_neg c2, if_neg c3], rfl, rfl⟩ 0 (by omega)
  · exact ⟨by rw [f_wrong, if_pos c1], rfl, rfl⟩
theorem k_X6_firstWrong {n : Nat} {I : am_I} {L : am_L} (hn : I 12 7 = nI n) (hn1 : n ≤ 40) (hd : ∀ t, t < n → vp_in (I 31 t) 30) : am_K M_X6_firstWrong 1 [.ref 12] I L (am_qf (some (.int (am_find (fun t => ¬ f_wrong I t = 0) n 0))) I L) := by
  have key : ∀ k, k ≤ n → B_X6_firstWrong_2 (am_qf (some (.int (am_find (fun t => ¬ f_wrong I t = 0) (n - k) k))) I L) I L (nI k) := by
    refine am_down ?_ (fun k hk ih => ?_)
    · rw [Nat.sub_self]
      exact s_X6_firstWrong_2 ⟨fun _ => ⟨rfl, rfl, rfl⟩, fun c1 => absurd (by rw [hn]; exact Int32.le_refl _) c1⟩
    · have h12 : n - k = (n - (k + 1)) + 1 := by omega
      rw [h12, am_find]
      refine s_X6_firstWrong_2 ⟨fun c1 => absurd c1 (by rw [hn]; exact nI_ge hk (by omega)), fun _ => ⟨_, am_qf_i (k_X6_wrongOf (by omega) (hd k hk)), fun v I7 L8 e => ?_⟩⟩
      obtain ⟨rfl, rfl, rfl⟩ := e
      refine ⟨fun c2 => ?_, fun c2 => ?_⟩
      · rw [if_neg (fun h => h c2), ← nI_succ]; exact ih
      · rw [if_pos c2]; exact ⟨rfl, rfl, rfl⟩
  have k0 := key 0 (Nat.zero_le _)
  rw [Nat.sub_zero] at k0
  exact bm_intro (by decide +kernel) (Nat.le_of_ble_eq_true rfl) (show B_X6_firstWrong_0 _ _ _ from s_X6_firstWrong_0 k0)
def f_ones (I : am_I) (k : Nat) (c : Int32) : Int32 := if f_wrong I k = 0 then c else c + 1
theorem k_X6_wrongOnes {n : Nat} {I : am_I} {L : am_L} (hn : I 12 7 = nI n) (hn1 : n ≤ 40) (hd : ∀ t, t < n → vp_in (I 31 t) 30) : am_K M_X6_wrongOnes 1 [.ref 12] I L (am_qf (some (.int (am_it (f_ones I) 0 n))) I L) := by
  have key : ∀ k, k ≤ n → B_X6_wrongOnes_4 (am_qf (some (.int (am_it (f_ones I) 0 n))) I L) I L (am_it (f_ones I) 0 k) (nI k) := by
    refine am_down ?_ (fun k hk ih => ?_)
    · exact s_X6_wrongOnes_4 ⟨fun _ => ⟨rfl, rfl, rfl⟩, fun c1 => absurd (by rw [hn]; exact Int32.le_refl _) c1⟩
    · refine s_X6_wrongOnes_4 ⟨fun c1 => absurd c1 (by rw [hn]; exact nI_ge hk (by omega)), fun _ => ⟨_, am_qf_i (k_X6_wrongOf (by omega) (hd k hk)), fun v I7 L8 e => ?_⟩⟩
      obtain ⟨rfl, rfl, rfl⟩ := e
      rw [am_it, f_ones] at ih
      refine ⟨fun c2 => ?_, fun c2 => ?_⟩
      · rw [if_pos c2] at ih; rw [← nI_succ]; exact ih
      · rw [if_neg c2] at ih; rw [← nI_succ]; exact ih
  exact bm_intro (by decide +kernel) (Nat.le_of_ble_eq_true rfl) (show B_X6_wrongOnes_0 _ _ _ from s_X6_wrongOnes_0 (key 0 (Nat.zero_le _)))
def f_dt (I : am_I) (k : Nat) (h : Int64) : Int64 := 31 * (31 * (31 * (31 * h + (I 31 k).toInt64) + (I 32 k).toInt64) + (I 33 k).toInt64) + (I 34 k).toInt64
def f_dh (I : am_I) (k : Nat) (h : Int64) : Int64 := 31 * (31 * h + (I 35 k).toInt64) + (I 36 k).toInt64
theorem k_X6_digestedTrades {n : Nat} {h : Int64} {I : am_I} {L : am_L} (hn : I 12 7 = nI n) (hn1 : n ≤ 40) : am_K M_X6_digestedTrades 0 [.ref 12, .long h] I L (am_qf (some (.long (am_it (f_dt I) h n))) I L) := by
  have key : ∀ k, k ≤ n → B_X6_digestedTrades_5 (am_qf (some (.long (am_it (f_dt I) h n))) I L) I L (am_it (f_dt I) h k) (nI k) := by
    refine am_down ?_ (fun k hk ih => ?_)
    · exact s_X6_digestedTrades_5 ⟨fun _ => ⟨rfl, rfl, rfl⟩, fun c1 => absurd (by rw [hn]; exact Int32.le_refl _) c1⟩
    · have hc : (nI k).toNatClampNeg = k := nI_clamp (by omega)
      have hv := am_vI (k := k) (n := 40) (by omega) (by decide)
      exact s_X6_digestedTrades_5 ⟨fun c1 => absurd c1 (by rw [hn]; exact nI_ge hk (by omega)), fun _ => ⟨hv, hv, hv, hv, by rw [hc, ← nI_succ]; exact ih⟩⟩
  exact bm_intro (by decide +kernel) (Nat.le_of_ble_eq_true rfl) (show B_X6_digestedTrades_0 _ _ _ _ from s_X6_digestedTrades_0 (key 0 (Nat.zero_le _)))
theorem k_X6_digestedHands {n : Nat} {h : Int64} {I : am_I} {L : am_L} (hn : I 12 10 = nI n) (hn1 : n ≤ 8) : am_K M_X6_digestedHands 0 [.ref 12, .long h] I L (am_qf (some (.long (am_it (f_dh I) h n))) I L) := by
  have key : ∀ k, k ≤ n → B_X6_digestedHands_5 (am_qf (some (.long (am_it (f_dh I) h n))) I L) I L (am_it (f_dh I) h k) (nI k) := by
    refine am_down ?_ (fun k hk ih => ?_)
    · exact s_X6_digestedHands_5 ⟨fun _ => ⟨rfl, rfl, rfl⟩, fun c1 => absurd (by rw [hn]; exact Int32.le_refl _) c1⟩
    · have hc : (nI k).toNatClampNeg = k := nI_clamp (by omega)
      have hv := am_vI (k := k) (n := 8) (by omega) (by decide)
      exact s_X6_digestedHands_5 ⟨fun c1 => absurd c1 (by rw [hn]; exact nI_ge hk (by omega)), fun _ => ⟨hv, hv, by rw [hc, ← nI_succ]; exact ih⟩⟩
  exact bm_intro (by decide +kernel) (Nat.le_of_ble_eq_true rfl) (show B_X6_digestedHands_0 _ _ _ _ from s_X6_digestedHands_0 (key 0 (Nat.zero_le _)))
