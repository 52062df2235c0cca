/-! the reference: dealt, digest, take -/
def g_dl (L : am_L) (n p : Nat) (w : Int32) (s all : Int64) : Int64 :=
  if ¬ all = 0 then (if s * g_cnt L n p w / all ≤ g_cnt L n p w then s * g_cnt L n p w / all else g_cnt L n p w) else 0
theorem k_X12_dealtTo {p n np w0 : Nat} {w : Int32} {s : Int64} {I : am_I} {L : am_L} (hn : Int64.toInt32 (L 191 1177) = nI n) (hn1 : n ≤ 100) (hpp : Int64.toInt32 (L 191 1176) = nI np) (hpp1 : np ≤ 12) (hp : p < 12) (hw : Int64.toInt32 (L 191 1178) = nI w0) (hw1 : w0 < 60) (hm : ∀ r, r < n → ∃ m, m < 60 ∧ Int64.toInt32 (L 191 (37 + 3 * r)) = nI m ∧ ¬ L 191 (664 + m) = 0) (h3 : ¬ w = 3) : am_K M_X12_dealtTo 5 [.ref 190, .int (nI p), .int w, .long s] I L (am_qf (some (.long (g_dl L n p w s (am_sum (fun k => g_cnt L n k w) np)))) I L) := by
  generalize hQ : am_qf (some (.long (g_dl L n p w s (am_sum (fun k => g_cnt L n k w) np)))) I L = Q
  have fin : ∀ v, g_dl L n p w s (am_sum (fun k => g_cnt L n k w) np) = v → Q (some (.long v)) I L := fun v h => by rw [← hQ, h]; exact ⟨rfl, rfl, rfl⟩
  refine bm_intro (by decide +kernel) (Nat.le_of_ble_eq_true rfl) (show B_X12_dealtTo_0 _ _ _ _ _ _ from s_X12_dealtTo_0 ⟨fun _ => ⟨_, am_qf_l (k_X12_allCounts hn hn1 hpp hpp1 hw hw1 hm), fun v I7 L8 e => ?_⟩, fun c => absurd c h3⟩)
  obtain ⟨q1, q2, q3⟩ := e
  subst q1; subst q2; subst q3
  refine ⟨_, am_qf_l (k_X12_countOf hn hn1 hp hw hw1 hm), fun v I7 L8 e => ?_⟩
  obtain ⟨q1, q2, q3⟩ := e
  subst q1; subst q2; subst q3
  generalize am_sum (fun k => g_cnt L8 n k w) np = all at fin ⊢
  refine ⟨fun c1 => ⟨c1, fun c2 => ?_, fun c2 => ?_⟩, fun c1 => ?_⟩
  · exact fin _ (by rw [g_dl, if_pos c1, if_pos c2])
  · exact fin _ (by rw [g_dl, if_pos c1, if_neg c2])
  · exact fin _ (by rw [g_dl, if_neg (fun h => h c1)])
theorem k_X12_dealtTo3 {p n np : Nat} {s : Int64} {I : am_I} {L : am_L} (hn : Int64.toInt32 (L 191 1177) = nI n) (hn1 : n ≤ 100) (hpp : Int64.toInt32 (L 191 1176) = nI np) (hpp1 : np ≤ 12) {r : Int64 × Int64} (h : g_tide L n np s = some r) (hr : ¬ r.2 = 0) : am_K M_X12_dealtTo 5 [.ref 190, .int (nI p), .int 3, .long s] I L (am_qf (some (.long (am_mx (r.1 * g_in L (nI p) n - r.2 * g_out L (nI p) n) / r.2))) I (am_t2 L r.1 r.2)) := by
  refine bm_intro (by decide +kernel) (Nat.le_of_ble_eq_true rfl) (show B_X12_dealtTo_0 _ _ _ _ _ _ from s_X12_dealtTo_0 ⟨fun c => absurd rfl c, fun _ => ⟨_, am_qf_v (k_X12_findTide hn hn1 hpp hpp1 h), fun I7 L8 e => ?_⟩⟩)
  obtain ⟨q2, q3⟩ := e
  subst q2; subst q3
  refine ⟨_, am_qf_l (k_X12_wetBy (by rw [am_t2_r]; exact hn) hn1), fun v I7 L8 e => ?_⟩
  obtain ⟨q1, q2, q3⟩ := e
  subst q1; subst q2; subst q3
  rw [g_wet, am_t2_3, am_t2_4, g_in_c (am_t2_r L _ _), g_out_c (am_t2_r L _ _)]
  exact ⟨hr, rfl, rfl, rfl⟩
/-! digest -/
def g_dg1 (I : am_I) (L : am_L) (nt k : Nat) (h : Int64) : Int64 := 31 * h + (g_many I L nt (nI k)).toInt64
def g_dg2 (L : am_L) (np n k : Nat) (h : Int64) : Int64 := 31 * h + g_acc L np n (nI k)
def g_dg3 (L : am_L) (k : Nat) (h : Int64) : Int64 := am_it (g_su L (852 + 8 * k)) (31 * h + L 191 (844 + k)) 8
def g_dg4 (I : am_I) (k : Nat) (h : Int64) : Int64 := 31 * h + (I 202 (3 * k + 2)).toInt64
def g_dgA (I : am_I) (L : am_L) (np n nt ng : Nat) : Int64 :=
  am_it (g_su L 724) (am_it (g_su L 504) (am_it (g_su L 36) (am_it (g_su L 0) (am_it (g_dg2 L np n) (am_it (g_dg1 I L nt) 383 11) 6) (3 * np)) (3 * n)) (4 * nt)) (4 * ng)
def g_dgB (L : am_L) (h : Int64) (nl nh ns nr : Nat) : Int64 :=
  am_it (g_su L 976) (am_it (g_su L 1032) (am_it (g_su L 1016) (am_it (g_su L 916) (am_it (g_dg3 L) h 8) (3 * nl)) (2 * nh)) (3 * ns)) nr
def g_dig (I : am_I) (L : am_L) (np n nt ng nl nh ns nr nc : Nat) : Int64 :=
  am_it (g_su L 1193) (am_it (g_dg4 I) (g_dgB L (g_dgA I L np n nt ng) nl nh ns nr) nc) 2
theorem k_X12_digest {np n nt ng nl nh ns nr nc : Nat} {I : am_I} {L : am_L} (hp : Int64.toInt32 (L 191 1176) = nI np) (hp1 : np ≤ 12) (hn : Int64.toInt32 (L 191 1177) = nI n) (hn1 : n ≤ 100) (ht : Int64.toInt32 (L 191 1179) = nI nt) (ht1 : nt ≤ 40) (hd : ∀ t, t < nt → ∃ d, d < 30 ∧ Int64.toInt32 (L 191 (504 + 4 * t)) = nI d) (hg : Int64.toInt32 (L 191 1180) = nI ng) (hg1 : ng ≤ 30) (hl : Int64.toInt32 (L 191 1181) = nI nl) (hl1 : nl ≤ 20) (hh : Int64.toInt32 (L 191 1182) = nI nh) (hh1 : nh ≤ 8) (hs : Int64.toInt32 (L 191 1183) = nI ns) (hs1 : ns ≤ 8) (hr : Int64.toInt32 (L 191 1184) = nI nr) (hr1 : nr ≤ 40) (hc : I 190 20 = nI nc) (hc1 : nc ≤ 100) : am_K M_X12_digest 3 [.ref 190] I L (am_qf (some (.long (g_dig I L np n nt ng nl nh ns nr nc))) I L) := by
  generalize hQ : am_qf (some (.long (g_dig I L np n nt ng nl nh ns nr nc))) I L = Q
  have m3 : ∀ k, (3 : Int32) * nI k = nI (3 * k) := fun k => by simp only [nq_3, nI_qm]
  have m4 : ∀ k, (4 : Int32) * nI k = nI (4 * k) := fun k => by simp only [nq_4, nI_qm]
  have m2 : ∀ k, (2 : Int32) * nI k = nI (2 * k) := fun k => by simp only [nq_2, nI_qm]
  have k4 : ∀ k, k ≤ nc → B_X12_digest_232 Q I L (am_it (g_dg4 I) (g_dgB L (g_dgA I L np n nt ng) nl nh ns nr) k) (nI k) := by
    refine am_down ?_ (fun k hk ih => ?_)
    · refine s_X12_digest_232 ⟨fun _ => ⟨_, am_qf_l (k_X12_sums (e := 1193) (n := 2) (by decide)), fun v I7 L8 e => ?_⟩, fun c1 => absurd (by rw [hc]; exact Int32.le_refl _) c1⟩
      obtain ⟨q1, q2, q3⟩ := e
      subst q1; subst q2; subst q3
      rw [← hQ]
      exact ⟨rfl, rfl, rfl⟩
    · have e1 : am_it (g_dg4 I) (g_dgB L (g_dgA I L np n nt ng) nl nh ns nr) (k + 1) = g_dg4 I k (am_it (g_dg4 I) (g_dgB L (g_dgA I L np n nt ng) nl nh ns nr) k) := rfl
      rw [e1, g_dg4, nI_succ] at ih
      have hx : (3 : Int32) * nI k + 2 = nI (3 * k + 2) := by simp only [nq_3, nq_2, nI_qm, nI_qa]
      refine s_X12_digest_232 ⟨fun c1 => absurd c1 (by rw [hc]; exact nI_ge hk (by omega)), fun _ => ⟨am_vx hx (by omega) (by decide), ?_⟩⟩
      rw [am_cx hx (by omega)]
      exact ih
  have k3 : ∀ k, k ≤ 8 → B_X12_digest_120 Q I L (am_it (g_dg3 L) (g_dgA I L np n nt ng) k) (nI k) := by
    refine am_down ?_ (fun k hk ih => ?_)
    · refine s_X12_digest_120 ⟨fun _ => ?_, fun c1 => absurd (by decide) c1⟩
      rw [hl, m3]
      refine ⟨_, am_qf_l (k_X12_sums (e := 916) (n := 3 * nl) (by omega)), fun v I7 L8 e => ?_⟩
      obtain ⟨q1, q2, q3⟩ := e
      subst q1; subst q2; subst q3
      rw [hh, m2]
      refine ⟨_, am_qf_l (k_X12_sums (e := 1016) (n := 2 * nh) (by omega)), fun v I7 L8 e => ?_⟩
      obtain ⟨q1, q2, q3⟩ := e
      subst q1; subst q2; subst q3
      rw [hs, m3]
      refine ⟨_, am_qf_l (k_X12_sums (e := 1032) (n := 3 * ns) (by omega)), fun v I7 L8 e => ?_⟩
      obtain ⟨q1, q2, q3⟩ := e
      subst q1; subst q2; subst q3
      rw [hr]
      refine ⟨_, am_qf_l (k_X12_sums (e := 976) (n := nr) (by omega)), fun v I7 L8 e => ?_⟩
      obtain ⟨q1, q2, q3⟩ := e
      subst q1; subst q2; subst q3
      exact k4 0 (Nat.zero_le _)
    · have e1 : am_it (g_dg3 L) (g_dgA I L np n nt ng) (k + 1) = g_dg3 L k (am_it (g_dg3 L) (g_dgA I L np n nt ng) k) := rfl
      rw [e1, g_dg3, nI_succ] at ih
      have hx : (852 : Int32) + 8 * nI k = nI (852 + 8 * k) := by simp only [nq_852, nq_8, nI_qm, nI_qa]
      refine s_X12_digest_120 ⟨fun c1 => absurd c1 (nI_ge (b := 8) hk (by omega)), fun _ => ⟨v_coi (by omega), ?_⟩⟩
      rw [i_coi (by omega), hx]
      refine ⟨_, am_qf_l (k_X12_sums (e := 852 + 8 * k) (n := 8) (by omega)), fun v I7 L8 e => ?_⟩
      obtain ⟨q1, q2, q3⟩ := e
      subst q1; subst q2; subst q3
      exact ih
  have k2 : ∀ k, k ≤ 6 → B_X12_digest_33 Q I L (am_it (g_dg2 L np n) (am_it (g_dg1 I L nt) 383 11) k) (nI k) := by
    refine am_down ?_ (fun k hk ih => ?_)
    · refine s_X12_digest_33 ⟨fun _ => ?_, fun c1 => absurd (by decide) c1⟩
      rw [hp, m3]
      refine ⟨_, am_qf_l (k_X12_sums (e := 0) (n := 3 * np) (by omega)), fun v I7 L8 e => ?_⟩
      obtain ⟨q1, q2, q3⟩ := e
      subst q1; subst q2; subst q3
      rw [hn, m3]
      refine ⟨_, am_qf_l (k_X12_sums (e := 36) (n := 3 * n) (by omega)), fun v I7 L8 e => ?_⟩
      obtain ⟨q1, q2, q3⟩ := e
      subst q1; subst q2; subst q3
      rw [ht, m4]
      refine ⟨_, am_qf_l (k_X12_sums (e := 504) (n := 4 * nt) (by omega)), fun v I7 L8 e => ?_⟩
      obtain ⟨q1, q2, q3⟩ := e
      subst q1; subst q2; subst q3
      rw [hg, m4]
      refine ⟨_, am_qf_l (k_X12_sums (e := 724) (n := 4 * ng) (by omega)), fun v I7 L8 e => ?_⟩
      obtain ⟨q1, q2, q3⟩ := e
      subst q1; subst q2; subst q3
      exact k3 0 (Nat.zero_le _)
    · have e1 : am_it (g_dg2 L np n) (am_it (g_dg1 I L nt) 383 11) (k + 1) = g_dg2 L np n k (am_it (g_dg2 L np n) (am_it (g_dg1 I L nt) 383 11) k) := rfl
      rw [e1, g_dg2, nI_succ] at ih
      refine s_X12_digest_33 ⟨fun c1 => absurd c1 (nI_ge (b := 6) hk (by omega)), fun _ => ⟨_, am_qf_l (k_X12_account hn hn1 hp hp1), fun v I7 L8 e => ?_⟩⟩
      obtain ⟨q1, q2, q3⟩ := e
      subst q1; subst q2; subst q3
      exact ih
  have k1 : ∀ k, k ≤ 11 → B_X12_digest_6 Q I L (am_it (g_dg1 I L nt) 383 k) (nI k) := by
    refine am_down ?_ (fun k hk ih => ?_)
    · exact s_X12_digest_6 ⟨fun _ => k2 0 (Nat.zero_le _), fun c1 => absurd (by decide) c1⟩
    · have e1 : am_it (g_dg1 I L nt) 383 (k + 1) = g_dg1 I L nt k (am_it (g_dg1 I L nt) 383 k) := rfl
      rw [e1, g_dg1, nI_succ] at ih
      refine s_X12_digest_6 ⟨fun c1 => absurd c1 (nI_ge (b := 11) hk (by omega)), fun _ => ⟨_, am_qf_i (k_X12_many ht ht1 hd), fun v I7 L8 e => ?_⟩⟩
      obtain ⟨q1, q2, q3⟩ := e
      subst q1; subst q2; subst q3
      exact ih
  exact bm_intro (by decide +kernel) (Nat.le_of_ble_eq_true rfl) (show B_X12_digest_0 _ _ _ from s_X12_digest_0 (k1 0 (Nat.zero_le _)))
