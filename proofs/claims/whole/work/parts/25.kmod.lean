/-! the reference's contracts -/
def g_went (L : am_L) (p a b o : Int32) (r : Nat) : Int64 := if (p = -1 ∨ L 191 (36 + 3 * r) = p.toInt64) ∧ a.toInt64 ≤ L 191 (37 + 3 * r) ∧ L 191 (37 + 3 * r) ≤ b.toInt64 then (if L 191 (38 + 3 * r) < 0 then (if o = 1 then -(L 191 (38 + 3 * r)) else 0) else (if o = 0 then L 191 (38 + 3 * r) else 0)) else 0
theorem k_went84 {Q : am_S} {I : am_I} {L : am_L} {p a b o x z : Int32} {v acc : Int64} (ih : B_X12_went_6 Q I L p a b o (acc + (if z = 0 then 0 else if v < 0 then (if o = 1 then -v else 0) else (if o = 0 then v else 0))) (x + 1)) : B_X12_went_84 Q I L p a b o acc x v z := by
  refine s_X12_went_84 ⟨fun c1 => ?_, fun c1 => ⟨fun c2 => ⟨fun c3 => ?_, fun c3 => ⟨fun c4 => ?_, fun c4 => ?_⟩⟩, fun c2 => ⟨fun c3 => ?_, fun c3 => ⟨fun c4 => ?_, fun c4 => ?_⟩⟩⟩⟩
  · rw [if_pos c1] at ih; exact ih
  · rw [if_neg c1, if_neg (Int64.not_lt.mpr c2), if_neg (fun h => c3 h.symm)] at ih; exact ih
  · rw [if_neg c1, if_neg (Int64.not_lt.mpr c2), if_pos c4] at ih; exact ih
  · exact absurd c3.symm c4
  · rw [if_neg c1, if_pos (Int64.not_le.mp c2), if_neg (fun h => c3 h.symm)] at ih; exact ih
  · exact absurd (c3.trans c4) (by decide)
  · rw [if_neg c1, if_pos (Int64.not_le.mp c2), if_pos c3.symm] at ih; exact ih
theorem k_X12_went {p a b o : Int32} {n : Nat} {I : am_I} {L : am_L} (hn : Int64.toInt32 (L 191 1177) = nI n) (hn1 : n ≤ 100) : am_K M_X12_went 1 [.ref 190, .int p, .int a, .int b, .int o] I L (am_qf (some (.long (am_sum (g_went L p a b o) n))) I L) := by
  have key : ∀ k, k ≤ n → B_X12_went_6 (am_qf (some (.long (am_sum (g_went L p a b o) n))) I L) I L p a b o (am_sum (g_went L p a b o) k) (nI k) := by
    refine am_down ?_ (fun k hk ih => ?_)
    · exact s_X12_went_6 ⟨fun _ => ⟨rfl, rfl, rfl⟩, fun c1 => absurd (by rw [hn]; exact Int32.le_refl _) c1⟩
    · have hk1 : k < 100 := by omega
      rw [am_sum, g_went, nI_succ] at ih
      refine s_X12_went_6 ⟨fun c1 => absurd c1 (by rw [hn]; exact nI_ge hk (by omega)), fun _ => ⟨v_row_2 hk1, fun c2 => ⟨v_row_1 hk1, fun c3 => k_went84 ?_, fun c3 => k_went84 ?_⟩, fun c2 => ⟨v_row_0 hk1, fun c3 => k_went84 ?_, fun c3 => ⟨v_row_1 hk1, fun c4 => k_went84 ?_, fun c4 => k_went84 ?_⟩⟩⟩⟩
      · rw [i_row_1 hk1] at c3
        rw [if_neg (fun h => c3 h.2)] at ih
        rw [if_pos rfl]; exact ih
      · rw [i_row_1 hk1] at c3
        rw [if_pos ⟨Or.inl c2, c3⟩] at ih
        rw [if_neg (by decide), i_row_2 hk1]; exact ih
      · rw [i_row_0 hk1] at c3
        rw [if_neg (fun h => h.1.elim c2 c3)] at ih
        rw [if_pos rfl]; exact ih
      · rw [i_row_1 hk1] at c4
        rw [if_neg (fun h => c4 h.2)] at ih
        rw [if_pos rfl]; exact ih
      · rw [i_row_0 hk1] at c3
        rw [i_row_1 hk1] at c4
        rw [if_pos ⟨Or.inr c3, c4⟩] at ih
        rw [if_neg (by decide), i_row_2 hk1]; exact ih
  exact bm_intro (by decide +kernel) (Nat.le_of_ble_eq_true rfl) (show B_X12_went_0 _ _ _ _ _ _ _ from s_X12_went_0 (key 0 (Nat.zero_le _)))
def g_in (L : am_L) (p : Int32) (n : Nat) : Int64 := am_sum (g_went L p 0 59 0) n
def g_out (L : am_L) (p : Int32) (n : Nat) : Int64 := am_sum (g_went L p 0 59 1) n
theorem k_X12_putIn {p : Int32} {n : Nat} {I : am_I} {L : am_L} (hn : Int64.toInt32 (L 191 1177) = nI n) (hn1 : n ≤ 100) : am_K M_X12_putIn 2 [.ref 190, .int p] I L (am_qf (some (.long (g_in L p n))) I L) :=
  bm_intro (by decide +kernel) (Nat.le_of_ble_eq_true rfl) (show B_X12_putIn_0 _ _ _ _ from s_X12_putIn_0 ⟨_, am_qf_l (k_X12_went hn hn1), fun v I1 L1 e => by obtain ⟨rfl, rfl, rfl⟩ := e; exact ⟨rfl, rfl, rfl⟩⟩)
theorem k_X12_drawn {p : Int32} {n : Nat} {I : am_I} {L : am_L} (hn : Int64.toInt32 (L 191 1177) = nI n) (hn1 : n ≤ 100) : am_K M_X12_drawn 2 [.ref 190, .int p] I L (am_qf (some (.long (g_out L p n))) I L) :=
  bm_intro (by decide +kernel) (Nat.le_of_ble_eq_true rfl) (show B_X12_drawn_0 _ _ _ _ from s_X12_drawn_0 ⟨_, am_qf_l (k_X12_went hn hn1), fun v I1 L1 e => by obtain ⟨rfl, rfl, rfl⟩ := e; exact ⟨rfl, rfl, rfl⟩⟩)
def g_shown (L : am_L) (k : Nat) : Int64 := L 191 (2 + 3 * k)
theorem k_X12_allShown {n : Nat} {I : am_I} {L : am_L} (hn : Int64.toInt32 (L 191 1176) = nI n) (hn1 : n ≤ 12) : am_K M_X12_allShown 1 [.ref 190] I L (am_qf (some (.long (am_sum (g_shown L) n))) I L) := by
  have key : ∀ k, k ≤ n → B_X12_allShown_4 (am_qf (some (.long (am_sum (g_shown L) n))) I L) I L (am_sum (g_shown L) k) (nI k) := by
    refine am_down ?_ (fun k hk ih => ?_)
    · exact s_X12_allShown_4 ⟨fun _ => ⟨rfl, rfl, rfl⟩, fun c1 => absurd (by rw [hn]; exact Int32.le_refl _) c1⟩
    · have hk1 : k < 12 := by omega
      refine s_X12_allShown_4 ⟨fun c1 => absurd c1 (by rw [hn]; exact nI_ge hk (by omega)), fun _ => ⟨v_per_2 hk1, ?_⟩⟩
      rw [i_per_2 hk1, ← nI_succ]
      exact ih
  exact bm_intro (by decide +kernel) (Nat.le_of_ble_eq_true rfl) (show B_X12_allShown_0 _ _ _ from s_X12_allShown_0 (key 0 (Nat.zero_le _)))
/-! trades -/
def g_told (L : am_L) (t r : Nat) : Int64 := if L 191 (504 + 4 * r) = L 191 (504 + 4 * t) then L 191 (506 + 4 * r) else 0
def g_pap (L : am_L) (t : Nat) : Nat := (Int64.toInt32 (L 191 (504 + 4 * t))).toNatClampNeg
def g_wrong (L : am_L) (t : Nat) : Int32 := if L 191 (384 + 4 * g_pap L t) = 0 then 1 else (if L 191 (385 + 4 * g_pap L t) ≤ L 191 (505 + 4 * t) ∧ L 191 (505 + 4 * t) ≤ L 191 (386 + 4 * g_pap L t) then 0 else 2) + (if am_sum (g_told L t) (t + 1) ≤ L 191 (387 + 4 * g_pap L t) then 0 else 4)
theorem k_X12_wrongOf {t d : Nat} {I : am_I} {L : am_L} (ht : t < 40) (hd : Int64.toInt32 (L 191 (504 + 4 * t)) = nI d) (hd1 : d < 30) : am_K M_X12_wrongOf 1 [.ref 190, .int (nI t)] I L (am_qf (some (.int (g_wrong L t))) I L) := by
  have hgp : g_pap L t = d := by rw [g_pap, hd]; exact nI_clamp (by omega)
  have key : ∀ k, k ≤ t + 1 → B_X12_wrongOf_38 (am_qf (some (.int ((if L 191 (385 + 4 * d) ≤ L 191 (505 + 4 * t) ∧ L 191 (505 + 4 * t) ≤ L 191 (386 + 4 * d) then 0 else 2) + (if am_sum (g_told L t) (t + 1) ≤ L 191 (387 + 4 * d) then 0 else 4)))) I L) I L (nI t) ((384 : Int32) + (4 : Int32) * nI d) (am_sum (g_told L t) k) (nI k) := by
    refine am_down ?_ (fun k hk ih => ?_)
    · refine s_X12_wrongOf_38 ⟨fun _ => ⟨v_trd_1 ht, v_pap_1 hd1, v_pap_2 hd1, fun c2 => ⟨v_pap_3 hd1, fun c3 => ?_, fun c3 => ?_⟩, fun c2 => ⟨v_pap_3 hd1, fun c3 => ?_, fun c3 => ?_⟩⟩, fun c1 => absurd (nI_lt (by omega) (by omega)) c1⟩ <;>
      · rw [i_pap_1 hd1, i_pap_2 hd1, i_trd_1 ht] at c2
        rw [i_pap_3 hd1] at c3
        simp only [c2, c3, if_true, if_false]
        exact ⟨rfl, rfl, rfl⟩
    · have hk1 : k < 40 := by omega
      rw [nI_succ] at ih
      refine s_X12_wrongOf_38 ⟨fun c1 => absurd c1 (nI_nlt (by omega) (by omega)), fun _ => ⟨v_trd_0 hk1, v_trd_0 ht, fun c2 => ?_, fun c2 => ⟨v_trd_2 hk1, ?_⟩⟩⟩
      · rw [i_trd_0 hk1, i_trd_0 ht] at c2
        rw [show am_sum (g_told L t) (k + 1) = am_sum (g_told L t) k + 0 from congrArg (am_sum (g_told L t) k + ·) (if_neg c2)] at ih; exact ih
      · rw [i_trd_0 hk1, i_trd_0 ht] at c2
        rw [show am_sum (g_told L t) (k + 1) = am_sum (g_told L t) k + L 191 (506 + 4 * k) from congrArg (am_sum (g_told L t) k + ·) (if_pos c2)] at ih
        rw [i_trd_2 hk1]; exact ih
  refine bm_intro (by decide +kernel) (Nat.le_of_ble_eq_true rfl) (show B_X12_wrongOf_0 _ _ _ _ from s_X12_wrongOf_0 ⟨v_trd_0 ht, ?_⟩)
  rw [i_trd_0 ht, hd, i_pap_0 hd1]
  refine ⟨v_pap_0 hd1, fun c1 => ?_, fun c1 => ?_⟩
  · have k0 := key 0 (by omega)
    rw [g_wrong, hgp, if_neg c1]
    exact k0
  · rw [g_wrong, hgp, if_pos c1]
    exact ⟨rfl, rfl, rfl⟩
theorem k_X12_first {n : Nat} {I : am_I} {L : am_L} (hn : Int64.toInt32 (L 191 1179) = nI n) (hn1 : n ≤ 40) (hd : ∀ t, t < n → ∃ d, d < 30 ∧ Int64.toInt32 (L 191 (504 + 4 * t)) = nI d) : am_K M_X12_first 2 [.ref 190] I L (am_qf (some (.int (am_find (fun t => ¬ g_wrong L t = 0) n 0))) I L) := by
  have key : ∀ k, k ≤ n → B_X12_first_2 (am_qf (some (.int (am_find (fun t => ¬ g_wrong L t = 0) (n - k) k))) I L) I L (nI k) := by
    refine am_down ?_ (fun k hk ih => ?_)
    · rw [Nat.sub_self]
      exact s_X12_first_2 ⟨fun _ => ⟨rfl, rfl, rfl⟩, fun c1 => absurd (by rw [hn]; exact Int32.le_refl _) c1⟩
    · have h12 : n - k = (n - (k + 1)) + 1 := by omega
      obtain ⟨d, hd1, hd2⟩ := hd k hk
      rw [h12, am_find]
      refine s_X12_first_2 ⟨fun c1 => absurd c1 (by rw [hn]; exact nI_ge hk (by omega)), fun _ => ⟨_, am_qf_i (k_X12_wrongOf (by omega) hd2 hd1), fun v I7 L8 e => ?_⟩⟩
      obtain ⟨rfl, rfl, rfl⟩ := e
      refine ⟨fun c2 => ?_, fun c2 => ?_⟩
      · rw [if_neg (fun h => h c2), ← nI_succ]; exact ih
      · rw [if_pos c2]; exact ⟨rfl, rfl, rfl⟩
  have k0 := key 0 (Nat.zero_le _)
  rw [Nat.sub_zero] at k0
  exact bm_intro (by decide +kernel) (Nat.le_of_ble_eq_true rfl) (show B_X12_first_0 _ _ _ from s_X12_first_0 k0)
/-! counts -/
def g_at (L : am_L) (e : Nat) : Nat := (Int64.toInt32 (L 191 e)).toNatClampNeg
def g_c (L : am_L) (p w : Int32) (r : Nat) : Int64 := if L 191 (36 + 3 * r) = p.toInt64 then (if w = 0 then L 191 (38 + 3 * r) else L 191 (38 + 3 * r) * L 191 (664 + g_at L 1178) / L 191 (664 + g_at L (37 + 3 * r))) else 0
def g_cnt (L : am_L) (n p : Nat) (w : Int32) : Int64 := if w = 1 then L 191 (2 + 3 * p) else am_mx (am_sum (g_c L (nI p) w) n)
theorem am_mx_le {x : Int64} (h : 0 ≤ x) : am_mx x = x := if_neg (Int64.not_lt.mpr h)
theorem am_mx_nle {x : Int64} (h : ¬ 0 ≤ x) : am_mx x = 0 := if_pos (Int64.not_le.mp h)
theorem k_X12_countOf {p n w0 : Nat} {w : Int32} {I : am_I} {L : am_L} (hn : Int64.toInt32 (L 191 1177) = nI n) (hn1 : n ≤ 100) (hp : p < 12) (hw : Int64.toInt32 (L 191 1178) = nI w0) (hw1 : w0 < 60) (hm : ∀ r, r < n → ∃ m, m < 60 ∧ Int64.toInt32 (L 191 (37 + 3 * r)) = nI m ∧ ¬ L 191 (664 + m) = 0) : am_K M_X12_countOf 1 [.ref 190, .int (nI p), .int w] I L (am_qf (some (.long (g_cnt L n p w))) I L) := by
  refine bm_intro (by decide +kernel) (Nat.le_of_ble_eq_true rfl) (show B_X12_countOf_0 _ _ _ _ _ from s_X12_countOf_0 ⟨fun c1 => ?_, fun c1 => ⟨v_per_2 hp, ?_⟩⟩)
  · have hgw : g_at L 1178 = w0 := by rw [g_at, hw]; exact nI_clamp (by omega)
    have key : ∀ k, k ≤ n → B_X12_countOf_23 (am_qf (some (.long (am_mx (am_sum (g_c L (nI p) w) n)))) I L) I L (nI p) w (am_sum (g_c L (nI p) w) k) (nI k) := by
      refine am_down ?_ (fun k hk ih => ?_)
      · refine s_X12_countOf_23 ⟨fun _ => ⟨fun c2 => ?_, fun c2 => ?_⟩, fun c1 => absurd (by rw [hn]; exact Int32.le_refl _) c1⟩
        · rw [am_mx_le c2]; exact ⟨rfl, rfl, rfl⟩
        · rw [am_mx_nle c2]; exact ⟨rfl, rfl, rfl⟩
      · have hk1 : k < 100 := by omega
        obtain ⟨m, hm1, hm2, hm3⟩ := hm k hk
        have hgm : g_at L (37 + 3 * k) = m := by rw [g_at, hm2]; exact nI_clamp (by omega)
        rw [am_sum, g_c, nI_succ, hgw, hgm] at ih
        refine s_X12_countOf_23 ⟨fun c2 => absurd c2 (by rw [hn]; exact nI_ge hk (by omega)), fun _ => ⟨v_row_0 hk1, fun c2 => ?_, fun c2 => ⟨v_row_2 hk1, fun c3 => ⟨by rw [hw]; exact v_idx hw1, v_row_1 hk1, by rw [i_row_1 hk1, hm2]; exact v_idx hm1, by rw [i_row_1 hk1, hm2, i_idx hm1]; exact hm3, ?_⟩, fun c3 => ?_⟩⟩⟩
        · rw [i_row_0 hk1] at c2
          rw [if_neg c2, Int64.add_zero] at ih; exact ih
        · rw [i_row_0 hk1] at c2
          rw [if_pos c2, if_neg c3] at ih
          rw [i_row_1 hk1, i_row_2 hk1, hm2, hw, i_idx hm1, i_idx hw1]; exact ih
        · rw [i_row_0 hk1] at c2
          rw [if_pos c2, if_pos c3] at ih
          rw [i_row_2 hk1]; exact ih
    rw [g_cnt, if_neg c1]
    exact key 0 (Nat.zero_le _)
  · rw [i_per_2 hp, g_cnt, if_pos c1]
    exact ⟨rfl, rfl, rfl⟩
theorem k_X12_allCounts {n np w0 : Nat} {w : Int32} {I : am_I} {L : am_L} (hn : Int64.toInt32 (L 191 1177) = nI n) (hn1 : n ≤ 100) (hp : Int64.toInt32 (L 191 1176) = nI np) (hp1 : np ≤ 12) (hw : Int64.toInt32 (L 191 1178) = nI w0) (hw1 : w0 < 60) (hm : ∀ r, r < n → ∃ m, m < 60 ∧ Int64.toInt32 (L 191 (37 + 3 * r)) = nI m ∧ ¬ L 191 (664 + m) = 0) : am_K M_X12_allCounts 2 [.ref 190, .int w] I L (am_qf (some (.long (am_sum (fun p => g_cnt L n p w) np))) I L) := by
  have key : ∀ k, k ≤ np → B_X12_allCounts_5 (am_qf (some (.long (am_sum (fun p => g_cnt L n p w) np))) I L) I L w (am_sum (fun p => g_cnt L n p w) k) (nI k) := by
    refine am_down ?_ (fun k hk ih => ?_)
    · exact s_X12_allCounts_5 ⟨fun _ => ⟨rfl, rfl, rfl⟩, fun c1 => absurd (by rw [hp]; exact Int32.le_refl _) c1⟩
    · refine s_X12_allCounts_5 ⟨fun c1 => absurd c1 (by rw [hp]; exact nI_ge hk (by omega)), fun _ => ⟨_, am_qf_l (k_X12_countOf hn hn1 (by omega) hw hw1 hm), fun v I7 L8 e => ?_⟩⟩
      obtain ⟨rfl, rfl, rfl⟩ := e
      rw [← nI_succ]
      exact ih
  exact bm_intro (by decide +kernel) (Nat.le_of_ble_eq_true rfl) (show B_X12_allCounts_0 _ _ _ _ from s_X12_allCounts_0 (key 0 (Nat.zero_le _)))
def g_wet (L : am_L) (n : Nat) (p : Int32) : Int64 := am_mx (L 190 3 * g_in L p n - L 190 4 * g_out L p n)
theorem k_X12_wetBy {p : Int32} {n : Nat} {I : am_I} {L : am_L} (hn : Int64.toInt32 (L 191 1177) = nI n) (hn1 : n ≤ 100) : am_K M_X12_wetBy 3 [.ref 190, .int p] I L (am_qf (some (.long (g_wet L n p))) I L) := by
  refine bm_intro (by decide +kernel) (Nat.le_of_ble_eq_true rfl) (show B_X12_wetBy_0 _ _ _ _ from s_X12_wetBy_0 ⟨_, am_qf_l (k_X12_putIn hn hn1), fun v I3 L4 e => ?_⟩)
  obtain ⟨rfl, rfl, rfl⟩ := e
  refine ⟨_, am_qf_l (k_X12_drawn hn hn1), fun v I3 L4 e => ?_⟩
  obtain ⟨rfl, rfl, rfl⟩ := e
  refine ⟨fun c => ?_, fun c => ?_⟩
  · rw [g_wet, am_mx_le c]; exact ⟨rfl, rfl, rfl⟩
  · rw [g_wet, am_mx_nle c]; exact ⟨rfl, rfl, rfl⟩
def g_take (L : am_L) (n p : Nat) : Int64 :=
  let good := L 191 (1 + 3 * p) = 1
  let counted := am_sum (g_went L (nI p) (Int64.toInt32 (L 191 1178) - (if good then Int64.toInt32 (L 191 1190) else Int64.toInt32 (L 191 1191))) 59 1) n
  let more := am_mx (g_out L (nI p) n - g_in L (nI p) n)
  if good then (if counted ≤ more then counted else more) else counted
theorem k_X12_toTake {p n : Nat} {I : am_I} {L : am_L} (hn : Int64.toInt32 (L 191 1177) = nI n) (hn1 : n ≤ 100) (hp : p < 12) : am_K M_X12_toTake 3 [.ref 190, .int (nI p)] I L (am_qf (some (.long (g_take L n p))) I L) := by
  refine bm_intro (by decide +kernel) (Nat.le_of_ble_eq_true rfl) (show B_X12_toTake_0 _ _ _ _ from s_X12_toTake_0 ⟨v_per_1 hp, fun c1 => s_X12_toTake_22 ⟨fun _ => ⟨_, am_qf_l (k_X12_went hn hn1), fun v I3 L4 e => ?_⟩, fun c => absurd rfl c⟩, fun c1 => s_X12_toTake_22 ⟨fun c => absurd c (by decide), fun _ => ⟨_, am_qf_l (k_X12_went hn hn1), fun v I3 L4 e => ?_⟩⟩⟩)
  · obtain ⟨rfl, rfl, rfl⟩ := e
    refine ⟨_, am_qf_l (k_X12_drawn hn hn1), fun v I3 L4 e => ?_⟩
    obtain ⟨rfl, rfl, rfl⟩ := e
    refine ⟨_, am_qf_l (k_X12_putIn hn hn1), fun v I3 L4 e => ?_⟩
    obtain ⟨rfl, rfl, rfl⟩ := e
    rw [i_per_1 hp] at c1
    refine ⟨fun _ => ⟨fun _ => ?_, fun c => absurd rfl c⟩, fun _ => ⟨fun _ => ?_, fun c => absurd rfl c⟩⟩ <;> exact ⟨by simp only [g_take, if_neg c1], rfl, rfl⟩
  · obtain ⟨rfl, rfl, rfl⟩ := e
    refine ⟨_, am_qf_l (k_X12_drawn hn hn1), fun v I3 L4 e => ?_⟩
    obtain ⟨rfl, rfl, rfl⟩ := e
    refine ⟨_, am_qf_l (k_X12_putIn hn hn1), fun v I3 L4 e => ?_⟩
    obtain ⟨rfl, rfl, rfl⟩ := e
    rw [i_per_1 hp] at c1
    refine ⟨fun c2 => ⟨fun c => absurd c (by decide), fun _ => ⟨fun c3 => ?_, fun c3 => ?_⟩⟩, fun c2 => ⟨fun c => absurd c (by decide), fun _ => ⟨fun c3 => ?_, fun c3 => ?_⟩⟩⟩
    · exact ⟨by simp only [g_take, if_pos c1, am_mx_le c2, if_pos c3], rfl, rfl⟩
    · exact ⟨by simp only [g_take, if_pos c1, am_mx_le c2, if_neg c3], rfl, rfl⟩
    · exact ⟨by simp only [g_take, if_pos c1, am_mx_nle c2, if_pos c3], rfl, rfl⟩
    · exact ⟨by simp only [g_take, if_pos c1, am_mx_nle c2, if_neg c3], rfl, rfl⟩
def am_pow (b : Int64) : Nat → Int64
  | 0 => 1
  | n + 1 => am_pow b n * b
theorem k_X12_power {b : Int64} {n : Nat} {I : am_I} {L : am_L} (hn1 : n ≤ 100) : am_K M_X12_power 0 [.long b, .int (nI n)] I L (am_qf (some (.long (am_pow b n))) I L) := by
  have key : ∀ k, k ≤ n → B_X12_power_5 (am_qf (some (.long (am_pow b n))) I L) I L b (nI n) (am_pow b k) (nI k) := by
    refine am_down ?_ (fun k hk ih => ?_)
    · exact s_X12_power_5 ⟨fun _ => ⟨rfl, rfl, rfl⟩, fun c1 => absurd (Int32.le_refl _) c1⟩
    · refine s_X12_power_5 ⟨fun c1 => absurd c1 (nI_ge hk (by omega)), fun _ => ?_⟩
      rw [← nI_succ]; exact ih
  exact bm_intro (by decide +kernel) (Nat.le_of_ble_eq_true rfl) (show B_X12_power_0 _ _ _ _ _ from s_X12_power_0 (key 0 (Nat.zero_le _)))
