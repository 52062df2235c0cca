/-! calls that only read, by program (gen/k77.py) -/
variable {xc : Nat → Int32}
section XC
variable {I : am_I} {L : am_L} {np n w nt nh ng ns nl nc : Nat}
theorem xt_hm (hR : x_R I L (L 191)) (o : x_led I L np n w) (o3 : x_cla I np ng ns) : ∀ r, r < n → ∃ m, m < 60 ∧ Int64.toInt32 (L 191 (37 + 3 * r)) = nI m ∧ ¬ L 191 (664 + m) = 0 := by
  intro r hr
  have hm := x_row1 o hr
  obtain ⟨p, m, h1, h2, h3, h4, h5⟩ := o.2.2.2.2.2.2.2.1 r hr
  refine ⟨m, h2, by rw [xh_row_1 hR hm.2.2, am_l2i_id, h4], ?_⟩
  rw [xh_idx hR h2]
  exact fun q => absurd (o3.2.2.2.2.1 m h2).1 (by rw [x_e0.mp q]; decide)
theorem xt_hmf (o : x_led I L np n w) : ∀ r, r < n → vp_in (I 20 r) 60 := by
  intro r hr
  obtain ⟨p, m, h1, h2, h3, h4, h5⟩ := o.2.2.2.2.2.2.2.1 r hr
  rw [h4]; exact am_vI h2 (by decide)
theorem xt_hd (hR : x_R I L (L 191)) (o : x_pap I nt nh) : ∀ t, t < nt → ∃ d, d < 30 ∧ Int64.toInt32 (L 191 (504 + 4 * t)) = nI d := by
  intro t ht
  obtain ⟨d, f, h1, h2, h3, h4⟩ := o.2.2.2.2 t ht
  exact ⟨d, h1, by rw [xh_trd_0 hR (by have := o.2.1; omega), am_l2i_id, h3]⟩
theorem xt_hdf (o : x_pap I nt nh) : ∀ t, t < nt → vp_in (I 31 t) 30 := by
  intro t ht
  obtain ⟨d, f, h1, h2, h3, h4⟩ := o.2.2.2.2 t ht
  rw [h3]; exact am_vI h1 (by decide)
theorem xt_np (hR : x_R I L (L 191)) (o : x_led I L np n w) : Int64.toInt32 (L 191 1176) = nI np := by rw [xh_np hR, am_l2i_id, o.1]
theorem xt_n (hR : x_R I L (L 191)) (o : x_led I L np n w) : Int64.toInt32 (L 191 1177) = nI n := by rw [xh_rows hR, am_l2i_id, o.2.2.1]
theorem xt_w (hR : x_R I L (L 191)) (o : x_led I L np n w) : Int64.toInt32 (L 191 1178) = nI w := by rw [xh_now hR, am_l2i_id, o.2.2.2.2.1]
theorem xt_nt (hR : x_R I L (L 191)) (o : x_pap I nt nh) : Int64.toInt32 (L 191 1179) = nI nt := by rw [xh_nt hR, am_l2i_id, o.1]
theorem xt_nh (hR : x_R I L (L 191)) (o : x_pap I nt nh) : Int64.toInt32 (L 191 1182) = nI nh := by rw [xh_nh hR, am_l2i_id, o.2.2.1]
theorem xt_ng (hR : x_R I L (L 191)) (o : x_cla I np ng ns) : Int64.toInt32 (L 191 1180) = nI ng := by rw [xh_ng hR, am_l2i_id, o.1]
theorem xt_ns (hR : x_R I L (L 191)) (o : x_cla I np ng ns) : Int64.toInt32 (L 191 1183) = nI ns := by rw [xh_ns hR, am_l2i_id, o.2.2.1]
theorem xt_nl (hR : x_R I L (L 191)) (o : x_let I nl nc) : Int64.toInt32 (L 191 1181) = nI nl := by rw [xh_nl hR, am_l2i_id, o.1]
theorem xt_nc (hR : x_R I L (L 191)) (o : x_let I nl nc) : Int64.toInt32 (L 191 1184) = nI nc := by rw [xh_nc hR, am_l2i_id, o.2.2.1]
theorem xw_all (hR : x_R I L (L 191)) (o : x_pap I nt nh) {t : Nat} (ht : t < nt) : f_wrong I t = g_wrong L t := by
  obtain ⟨d, f, h1, h2, h3, h4⟩ := o.2.2.2.2 t ht
  exact xs_wrong hR (by have := o.2.1; omega) h1 h3
theorem xw_ones (hR : x_R I L (L 191)) (o : x_pap I nt nh) : am_it (f_ones I) 0 nt = am_it (g_ones L) 0 nt := am_it_congr nt (fun k hk x => by rw [f_ones, g_ones, xw_all hR o hk, Int32.add_zero])
end XC
def f_acc (I : am_I) (L : am_L) (np n : Nat) (a : Int32) : Int64 :=
  if a = 0 then L 11 11 else if a = 1 then am_sum (L 18) np else if a = 2 then L 11 12 else if a = 3 then (I 11 13).toInt64 else if a = 4 then am_sum (f_ina I 0 60) n else if a = 5 then am_sum (f_outa I 0 60) n else -2
theorem k_X11_account {a : Int32} {n np : Nat} {I : am_I} {L : am_L} (hn : I 11 7 = nI n) (hn1 : n ≤ 100) (hp : I 11 3 = nI np) (hp1 : np ≤ 12) : am_K M_X11_account 1 [.ref 0, .int a] I L (am_qf (some (.long (f_acc I L np n a))) I L) := by
  generalize hQ : am_qf (some (.long (f_acc I L np n a))) I L = Q
  have fin : ∀ v, f_acc I L np n a = v → Q (some (.long v)) I L := fun v h => by rw [← hQ, h]; exact ⟨rfl, rfl, rfl⟩
  refine bm_intro (by decide +kernel) (Nat.le_of_ble_eq_true rfl) (show B_X11_account_0 _ _ _ _ from s_X11_account_0 ⟨fun c0 => fin _ (by rw [f_acc, if_pos c0]), fun c0 => ⟨fun c1 => ⟨_, am_qf_l (k_X4_shownToAll hp hp1), fun v I1 L1 e => ?_⟩, fun c1 => ⟨fun c2 => fin _ (by rw [f_acc, if_neg c0, if_neg c1, if_pos c2]), fun c2 => ⟨fun c3 => fin _ (by rw [f_acc, if_neg c0, if_neg c1, if_neg c2, if_pos c3]), fun c3 => ⟨fun c4 => ⟨_, am_qf_l (k_X4_inOfAll hn hn1), fun v I1 L1 e => ?_⟩, fun c4 => ⟨fun c5 => ⟨_, am_qf_l (k_X4_outOfAll hn hn1), fun v I1 L1 e => ?_⟩, fun c5 => fin _ (by rw [f_acc, if_neg c0, if_neg c1, if_neg c2, if_neg c3, if_neg c4, if_neg c5])⟩⟩⟩⟩⟩⟩)
  · obtain ⟨q1, q2, q3⟩ := e
    rw [q1, q2, q3]; exact fin _ (by rw [f_acc, if_neg c0, if_pos c1])
  · obtain ⟨q1, q2, q3⟩ := e
    rw [q1, q2, q3]; exact fin _ (by rw [f_acc, if_neg c0, if_neg c1, if_neg c2, if_neg c3, if_pos c4])
  · obtain ⟨q1, q2, q3⟩ := e
    rw [q1, q2, q3]; exact fin _ (by rw [f_acc, if_neg c0, if_neg c1, if_neg c2, if_neg c3, if_neg c4, if_pos c5])
theorem x_acc_eq {I : am_I} {L : am_L} {np n w : Nat} (hR : x_R I L (L 191)) (o : x_led I L np n w) (a : Int32) : f_acc I L np n a = g_acc L np n a := by
  rw [f_acc, g_acc, xh_acc hR, xh_fees hR, xh_fell hR, xs_shown hR o.2.1, xs_ina hR o (x_b60 o), xs_outa hR o (x_b60 o)]
def f_many (I : am_I) (nt : Nat) (a : Int32) : Int32 :=
  if a = 0 then I 11 3 else if a = 1 then I 11 7 else if a = 2 then I 11 8 else if a = 3 then I 12 7 else if a = 4 then am_it (f_ones I) 0 nt else if a = 5 then I 13 5 else if a = 6 then I 15 3 else if a = 7 then I 12 10 else if a = 8 then I 13 11 else if a = 9 then I 15 5 else if a = 10 then I 2 4 else -2
theorem k_X11_many {a : Int32} {n : Nat} {I : am_I} {L : am_L} (hn : I 12 7 = nI n) (hn1 : n ≤ 40) (hd : ∀ t, t < n → vp_in (I 31 t) 30) : am_K M_X11_many 2 [.ref 0, .int a] I L (am_qf (some (.int (f_many I n a))) I L) := by
  generalize hQ : am_qf (some (.int (f_many I n a))) I L = Q
  have fin : ∀ v, f_many I n a = v → Q (some (.int v)) I L := fun v h => by rw [← hQ, h]; exact ⟨rfl, rfl, rfl⟩
  refine bm_intro (by decide +kernel) (Nat.le_of_ble_eq_true rfl) (show B_X11_many_0 _ _ _ _ from s_X11_many_0 ⟨fun c0 => fin _ (by rw [f_many, if_pos c0]), fun c0 => ⟨fun c1 => fin _ (by rw [f_many, if_neg c0, if_pos c1]), fun c1 => ⟨fun c2 => fin _ (by rw [f_many, if_neg c0, if_neg c1, if_pos c2]), fun c2 => ⟨fun c3 => fin _ (by rw [f_many, if_neg c0, if_neg c1, if_neg c2, if_pos c3]), fun c3 => ⟨fun c4 => ⟨_, am_qf_i (k_X6_wrongOnes hn hn1 hd), fun v I1 L1 e => ?_⟩, fun c4 => ⟨fun c5 => fin _ (by rw [f_many, if_neg c0, if_neg c1, if_neg c2, if_neg c3, if_neg c4, if_pos c5]), fun c5 => ⟨fun c6 => fin _ (by rw [f_many, if_neg c0, if_neg c1, if_neg c2, if_neg c3, if_neg c4, if_neg c5, if_pos c6]), fun c6 => ⟨fun c7 => fin _ (by rw [f_many, if_neg c0, if_neg c1, if_neg c2, if_neg c3, if_neg c4, if_neg c5, if_neg c6, if_pos c7]), fun c7 => ⟨fun c8 => fin _ (by rw [f_many, if_neg c0, if_neg c1, if_neg c2, if_neg c3, if_neg c4, if_neg c5, if_neg c6, if_neg c7, if_pos c8]), fun c8 => ⟨fun c9 => fin _ (by rw [f_many, if_neg c0, if_neg c1, if_neg c2, if_neg c3, if_neg c4, if_neg c5, if_neg c6, if_neg c7, if_neg c8, if_pos c9]), fun c9 => ⟨fun c10 => fin _ (by rw [f_many, if_neg c0, if_neg c1, if_neg c2, if_neg c3, if_neg c4, if_neg c5, if_neg c6, if_neg c7, if_neg c8, if_neg c9, if_pos c10]), fun c10 => fin _ (by rw [f_many, if_neg c0, if_neg c1, if_neg c2, if_neg c3, if_neg c4, if_neg c5, if_neg c6, if_neg c7, if_neg c8, if_neg c9, if_neg c10])⟩⟩⟩⟩⟩⟩⟩⟩⟩⟩⟩)
  obtain ⟨q1, q2, q3⟩ := e
  rw [q1, q2, q3]; exact fin _ (by rw [f_many, if_neg c0, if_neg c1, if_neg c2, if_neg c3, if_pos c4])
theorem x_many_eq {I : am_I} {L : am_L} {nt nh nr : Nat} (hR : x_R I L (L 191)) (o : x_pap I nt nh) (hr : I 2 4 = nI nr) (hr2 : I 190 20 = nI nr) (a : Int32) : f_many I nt a = g_many I L nt a := by
  rw [f_many, g_many, x_i32 (xh_np hR), x_i32 (xh_rows hR), x_i32 (xh_now hR), x_i32 (xh_nt hR), x_i32 (xh_ng hR), x_i32 (xh_nl hR), x_i32 (xh_nh hR), x_i32 (xh_ns hR), x_i32 (xh_nc hR), xw_ones hR o, hr, hr2]
theorem x_account {a : Int32} {I : am_I} {L : am_L} (h : x_Inv xc I L) : am_K M_X11_account 1 [.ref 0, .int a] I L (x_Q xc M_X12_account 2 [.ref 190, .int a]) := by
  obtain ⟨hR, hF, ⟨np, n, w, nt, nh, ng, ns, nl, nc, o1, o2, o3, o4, o5⟩, hI, hr, _⟩ := id h
  exact x_rq h (k_X11_account o1.2.2.1 o1.2.2.2.1 o1.1 o1.2.1) (k_X12_account (xt_n hR o1) o1.2.2.2.1 (xt_np hR o1) o1.2.1) (by rw [x_acc_eq hR o1])
theorem x_many {a : Int32} {I : am_I} {L : am_L} (h : x_Inv xc I L) : am_K M_X11_many 2 [.ref 0, .int a] I L (x_Q xc M_X12_many 2 [.ref 190, .int a]) := by
  obtain ⟨hR, hF, ⟨np, n, w, nt, nh, ng, ns, nl, nc, o1, o2, o3, o4, o5⟩, hI, hr, _⟩ := id h
  obtain ⟨nr, r1, r2, r3, r4⟩ := hr
  exact x_rq h (k_X11_many o2.1 o2.2.1 (xt_hdf o2)) (k_X12_many (xt_nt hR o2) o2.2.1 (xt_hd hR o2)) (by rw [x_many_eq hR o2 r2 r3])
theorem x_shown {a : Int32} {I : am_I} {L : am_L} (h : x_Inv xc I L) : am_K M_X11_shown 2 [.ref 0, .int a] I L (x_Q xc M_X12_shown 2 [.ref 190, .int a]) := by
  obtain ⟨hR, hF, ⟨np, n, w, nt, nh, ng, ns, nl, nc, o1, o2, o3, o4, o5⟩, hI, hr, _⟩ := id h
  have t1 : Int64.toInt32 (L 191 1176) = I 11 3 := x_i32 (xh_np hR)
  by_cases c1 : 0 ≤ a ∧ a ≤ I 11 3 - 1
  rotate_left
  · exact bm_intro (by decide +kernel) (Nat.le_of_ble_eq_true rfl) (show B_X11_shown_0 _ _ _ _ from s_X11_shown_0 ⟨fun _ => x_lf h (bm_intro (by decide +kernel) (Nat.le_of_ble_eq_true rfl) (show B_X12_shown_0 _ _ _ _ from s_X12_shown_0 (by rw [t1]; exact ⟨fun _ => ⟨rfl, rfl, rfl⟩, fun q => absurd q c1⟩))), fun q => absurd q c1⟩)
  obtain ⟨k, hkp, e0⟩ := x_per o1 c1
  subst e0
  have hk : k < 12 := Nat.lt_of_lt_of_le hkp o1.2.1
  refine bm_intro (by decide +kernel) (Nat.le_of_ble_eq_true rfl) (show B_X11_shown_0 _ _ _ _ from s_X11_shown_0 ⟨fun q => absurd c1 q, fun _ => ⟨(am_vI hk (by decide)), x_lf h ?_⟩⟩)
  refine bm_intro (by decide +kernel) (Nat.le_of_ble_eq_true rfl) (show B_X12_shown_0 _ _ _ _ from s_X12_shown_0 ?_)
  rw [t1, i_per_2 hk]
  exact ⟨fun q => absurd c1 q, fun _ => ⟨(v_per_2 hk), ⟨by rw [xh_per_2 hR hk, nI_clamp (by omega)], rfl, rfl⟩⟩⟩
theorem x_part {a : Int32} {I : am_I} {L : am_L} (h : x_Inv xc I L) : am_K M_X11_part 0 [.ref 0, .int a] I L (x_Q xc M_X12_part 1 [.ref 190, .int a]) := by
  obtain ⟨hR, hF, ⟨np, n, w, nt, nh, ng, ns, nl, nc, o1, o2, o3, o4, o5⟩, hI, hr, _⟩ := id h
  by_cases c0 : a = 0
  · refine bm_intro (by decide +kernel) (Nat.le_of_ble_eq_true rfl) (show B_X11_part_0 _ _ _ _ from s_X11_part_0 ⟨fun _ => x_lf h ?_, fun q => absurd c0 q⟩)
    subst c0
    exact bm_intro (by decide +kernel) (Nat.le_of_ble_eq_true rfl) (show B_X12_part_0 _ _ _ _ from s_X12_part_0 ⟨fun q => absurd (show (0 : Int32) ≤ 0 ∧ (0 : Int32) ≤ 1 by decide) q, fun _ => ⟨(am_vin (by decide)), ⟨congrArg (fun q => some (Value.long q)) hF.1, rfl, rfl⟩⟩⟩)
  by_cases c1 : a = 1
  · refine bm_intro (by decide +kernel) (Nat.le_of_ble_eq_true rfl) (show B_X11_part_0 _ _ _ _ from s_X11_part_0 ⟨fun q => absurd q c0, fun _ => ⟨fun _ => x_lf h ?_, fun q => absurd c1 q⟩⟩)
    subst c1
    exact bm_intro (by decide +kernel) (Nat.le_of_ble_eq_true rfl) (show B_X12_part_0 _ _ _ _ from s_X12_part_0 ⟨fun q => absurd (show (0 : Int32) ≤ 1 ∧ (1 : Int32) ≤ 1 by decide) q, fun _ => ⟨(am_vin (by decide)), ⟨congrArg (fun q => some (Value.long q)) hF.2, rfl, rfl⟩⟩⟩)
  have hb : ¬ (0 ≤ a ∧ a ≤ 1) := by
    intro q
    obtain ⟨k, k1, k2⟩ := x_ix q.1 (show a ≤ nI 1 from q.2) (by decide)
    have : k = 0 ∨ k = 1 := by omega
    rcases this with e | e <;> subst e
    · exact c0 k2
    · exact c1 k2
  refine bm_intro (by decide +kernel) (Nat.le_of_ble_eq_true rfl) (show B_X11_part_0 _ _ _ _ from s_X11_part_0 ⟨fun q => absurd q c0, fun _ => ⟨fun q => absurd q c1, fun _ => x_lf h ?_⟩⟩)
  exact bm_intro (by decide +kernel) (Nat.le_of_ble_eq_true rfl) (show B_X12_part_0 _ _ _ _ from s_X12_part_0 ⟨fun _ => ⟨rfl, rfl, rfl⟩, fun q => absurd q hb⟩)
theorem x_wrong {a : Int32} {I : am_I} {L : am_L} (h : x_Inv xc I L) : am_K M_X11_wrong 1 [.ref 0, .int a] I L (x_Q xc M_X12_wrong 2 [.ref 190, .int a]) := by
  obtain ⟨hR, hF, ⟨np, n, w, nt, nh, ng, ns, nl, nc, o1, o2, o3, o4, o5⟩, hI, hr, _⟩ := id h
  have t3 : Int64.toInt32 (L 191 1179) = I 12 7 := x_i32 (xh_nt hR)
  by_cases c1 : 0 ≤ a ∧ a ≤ I 12 7 - 1
  rotate_left
  · exact bm_intro (by decide +kernel) (Nat.le_of_ble_eq_true rfl) (show B_X11_wrong_0 _ _ _ _ from s_X11_wrong_0 ⟨fun q => absurd q c1, fun _ => x_lf h (bm_intro (by decide +kernel) (Nat.le_of_ble_eq_true rfl) (show B_X12_wrong_0 _ _ _ _ from s_X12_wrong_0 (by rw [t3]; exact ⟨fun _ => ⟨rfl, rfl, rfl⟩, fun q => absurd q c1⟩)))⟩)
  obtain ⟨k, hk, e0⟩ : ∃ k, k < nt ∧ a = nI k := by
    refine ⟨a.toNatClampNeg, ?_, (am_nI c1.1).symm⟩
    have h1 := c1.1
    have h2 := c1.2
    rw [o2.1] at h2
    have hp := o2.2.1
    rw [Int32.le_iff_toInt_le] at h1 h2
    have a0 : (0 : Int32).toInt = 0 := by decide
    have a1 : (1 : Int32).toInt = 1 := by decide
    have h3 : (a.toNatClampNeg : Int) = a.toInt := Int.toNat_of_nonneg (by omega)
    rw [Int32.toInt_sub, nI_toInt (by omega), a1] at h2
    simp only [Int.bmod_def] at h2
    omega
  subst e0
  have hk4 : k < 40 := by have := o2.2.1; omega
  obtain ⟨d, d1, d2⟩ := xt_hd hR o2 k hk
  refine bm_intro (by decide +kernel) (Nat.le_of_ble_eq_true rfl) (show B_X11_wrong_0 _ _ _ _ from s_X11_wrong_0 ⟨fun _ => ⟨_, am_qf_i (k_X6_wrongOf hk4 (xt_hdf o2 k hk)), fun v I1 L1 e => ?_⟩, fun q => absurd c1 q⟩)
  obtain ⟨q1, q2, q3⟩ := e
  rw [q1, q2, q3]
  refine x_lf h (bm_intro (by decide +kernel) (Nat.le_of_ble_eq_true rfl) (show B_X12_wrong_0 _ _ _ _ from s_X12_wrong_0 (by rw [t3]; exact ⟨fun q => absurd c1 q, fun _ => ⟨_, am_qf_i (k_X12_wrongOf hk4 d2 d1), fun v I1 L1 e => by obtain ⟨q1, q2, q3⟩ := e; rw [q1, q2, q3, xw_all hR o2 hk]; exact ⟨rfl, rfl, rfl⟩⟩⟩)))
theorem x_first  {I : am_I} {L : am_L} (h : x_Inv xc I L) : am_K M_X11_first 2 [.ref 0] I L (x_Q xc M_X12_first 2 [.ref 190]) := by
  obtain ⟨hR, hF, ⟨np, n, w, nt, nh, ng, ns, nl, nc, o1, o2, o3, o4, o5⟩, hI, hr, _⟩ := id h
  refine bm_intro (by decide +kernel) (Nat.le_of_ble_eq_true rfl) (show B_X11_first_0 _ _ _ from s_X11_first_0 ⟨_, am_qf_i (k_X6_firstWrong o2.1 o2.2.1 (xt_hdf o2)), fun v I1 L1 e => ?_⟩)
  obtain ⟨q1, q2, q3⟩ := e
  rw [q1, q2, q3]
  refine x_lf h ?_
  rw [am_find_congr nt 0 (fun j _ hj => by rw [xw_all hR o2 (by omega)])]
  exact k_X12_first (xt_nt hR o2) o2.2.1 (xt_hd hR o2)
theorem x_lost {a : Int32} {I : am_I} {L : am_L} (h : x_Inv xc I L) : am_K M_X11_lost 4 [.ref 0, .int a] I L (x_Q xc M_X12_lost 2 [.ref 190, .int a]) := by
  obtain ⟨hR, hF, ⟨np, n, w, nt, nh, ng, ns, nl, nc, o1, o2, o3, o4, o5⟩, hI, hr, _⟩ := id h
  have t4 : Int64.toInt32 (L 191 1178) = I 11 8 := x_i32 (xh_now hR)
  by_cases c1 : 0 ≤ a ∧ a ≤ I 11 8 - 1
  rotate_left
  · exact bm_intro (by decide +kernel) (Nat.le_of_ble_eq_true rfl) (show B_X11_lost_0 _ _ _ _ from s_X11_lost_0 ⟨fun q => absurd q c1, fun _ => x_lf h (bm_intro (by decide +kernel) (Nat.le_of_ble_eq_true rfl) (show B_X12_lost_0 _ _ _ _ from s_X12_lost_0 (by rw [t4]; exact ⟨fun q => absurd q c1, fun _ => ⟨rfl, rfl, rfl⟩⟩)))⟩)
  obtain ⟨k, hk, e0⟩ : ∃ k, k < w ∧ a = nI k := by
    refine ⟨a.toNatClampNeg, ?_, (am_nI c1.1).symm⟩
    have h1 := c1.1
    have h2 := c1.2
    rw [o1.2.2.2.2.1] at h2
    have hp := o1.2.2.2.2.2.1
    rw [Int32.le_iff_toInt_le] at h1 h2
    have a0 : (0 : Int32).toInt = 0 := by decide
    have a1 : (1 : Int32).toInt = 1 := by decide
    have h3 : (a.toNatClampNeg : Int) = a.toInt := Int.toNat_of_nonneg (by omega)
    rw [Int32.toInt_sub, nI_toInt (by omega), a1] at h2
    simp only [Int.bmod_def] at h2
    omega
  subst e0
  have hk6 : k < 60 := by have := o1.2.2.2.2.2.1; omega
  refine bm_intro (by decide +kernel) (Nat.le_of_ble_eq_true rfl) (show B_X11_lost_0 _ _ _ _ from s_X11_lost_0 ⟨fun _ => ⟨_, am_qf_l (k_X4_lostBy o1.2.2.1 o1.2.2.2.1 o1.1 o1.2.1 (am_vI hk6 (by decide))), fun v I1 L1 e => ?_⟩, fun q => absurd c1 q⟩)
  obtain ⟨q1, q2, q3⟩ := e
  rw [q1, q2, q3, nI_clamp (by omega)]
  have e1 : am_sum (f_lost I (nI k) n) np = am_sum (g_lo L n (nI k)) np := am_sum_congr np (fun p hp => by rw [f_lost, g_lo, xs_net hR o1 (fun q => absurd (show nI p < 0 by rw [q]; decide) (nI_pos (by have := o1.2.1; omega)))])
  rw [e1, ← xh_cns hR hk6]
  refine x_lf h (bm_intro (by decide +kernel) (Nat.le_of_ble_eq_true rfl) (show B_X12_lost_0 _ _ _ _ from s_X12_lost_0 (by rw [t4]; exact ⟨fun _ => (k_lost26 (xt_n hR o1) o1.2.2.2.1 (xt_np hR o1) o1.2.1 hk6), fun q => absurd c1 q⟩)))
