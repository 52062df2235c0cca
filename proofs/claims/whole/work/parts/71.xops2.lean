/-! calls that write, by program (gen/k71.py): what is added -/
variable {xc : Nat → Int32}
theorem x_ix {a : Int32} {b : Nat} (h1 : 0 ≤ a) (h2 : a ≤ nI b) (hb : b < 2 ^ 20) : ∃ k, k ≤ b ∧ a = nI k := by
  refine ⟨a.toNatClampNeg, ?_, (am_nI h1).symm⟩
  rw [Int32.le_iff_toInt_le] at h1 h2
  have a0 : (0 : Int32).toInt = 0 := by decide
  have h3 : (a.toNatClampNeg : Int) = a.toInt := Int.toNat_of_nonneg (by omega)
  rw [nI_toInt (by omega)] at h2
  omega
theorem x_trade {a : Int32} {b : Int32} {c : Int32} {d : Int32} {I : am_I} {L : am_L} (h : x_Inv xc I L) : am_K M_X11_trade 1 [.ref 0, .int a, .int b, .int c, .int d] I L (x_Q xc M_X12_trade 2 [.ref 190, .int a, .int b, .int c, .int d]) := by
  obtain ⟨hR, hF, ⟨np, n, w, nt, nh, ng, ns, nl, nc, o1, o2, o3, o4, o5⟩, _⟩ := id h
  have f2 : I 12 7 = nI nt := o2.1
  have t2 : Int64.toInt32 (L 191 1179) = nI nt := by rw [x_i32 (xh_nt hR)]; exact f2
  have hm := x_full (b := 40) f2 o2.2.1 (by decide)
  by_cases c1 : 0 ≤ a ∧ a ≤ 29
  rotate_left
  · exact bm_intro (by decide +kernel) (Nat.le_of_ble_eq_true rfl) (show B_X11_trade_0 _ _ _ _ _ _ _ from s_X11_trade_0 ⟨fun _ => x_lf h (bm_intro (by decide +kernel) (Nat.le_of_ble_eq_true rfl) (show B_X12_trade_0 _ _ _ _ _ _ _ from s_X12_trade_0 (by exact ⟨fun _ => ⟨rfl, rfl, rfl⟩, fun q => absurd q c1⟩))), fun q => absurd q c1⟩)
  by_cases c2 : 1 ≤ b ∧ b ≤ 10000
  rotate_left
  · exact bm_intro (by decide +kernel) (Nat.le_of_ble_eq_true rfl) (show B_X11_trade_0 _ _ _ _ _ _ _ from s_X11_trade_0 ⟨fun q => absurd c1 q, fun _ => ⟨fun q => absurd q c2, fun _ => x_lf h (bm_intro (by decide +kernel) (Nat.le_of_ble_eq_true rfl) (show B_X12_trade_0 _ _ _ _ _ _ _ from s_X12_trade_0 (by exact ⟨fun q => absurd c1 q, fun _ => ⟨fun _ => ⟨rfl, rfl, rfl⟩, fun q => absurd q c2⟩⟩)))⟩⟩)
  by_cases c3 : 1 ≤ c ∧ c ≤ 100000
  rotate_left
  · exact bm_intro (by decide +kernel) (Nat.le_of_ble_eq_true rfl) (show B_X11_trade_0 _ _ _ _ _ _ _ from s_X11_trade_0 ⟨fun q => absurd c1 q, fun _ => ⟨fun _ => ⟨fun _ => x_lf h (bm_intro (by decide +kernel) (Nat.le_of_ble_eq_true rfl) (show B_X12_trade_0 _ _ _ _ _ _ _ from s_X12_trade_0 (by exact ⟨fun q => absurd c1 q, fun _ => ⟨fun q => absurd c2 q, fun _ => ⟨fun _ => ⟨rfl, rfl, rfl⟩, fun q => absurd q c3⟩⟩⟩))), fun q => absurd q c3⟩, fun q => absurd c2 q⟩⟩)
  by_cases c4 : 0 ≤ d ∧ d ≤ 3
  rotate_left
  · exact bm_intro (by decide +kernel) (Nat.le_of_ble_eq_true rfl) (show B_X11_trade_0 _ _ _ _ _ _ _ from s_X11_trade_0 ⟨fun q => absurd c1 q, fun _ => ⟨fun _ => ⟨fun q => absurd c3 q, fun _ => ⟨fun q => absurd q c4, fun _ => x_lf h (bm_intro (by decide +kernel) (Nat.le_of_ble_eq_true rfl) (show B_X12_trade_0 _ _ _ _ _ _ _ from s_X12_trade_0 (by exact ⟨fun q => absurd c1 q, fun _ => ⟨fun q => absurd c2 q, fun _ => ⟨fun q => absurd c3 q, fun _ => ⟨fun q => absurd q c4, fun _ => ⟨rfl, rfl, rfl⟩⟩⟩⟩⟩)))⟩⟩, fun q => absurd c2 q⟩⟩)
  by_cases cz : I 12 7 < 40
  rotate_left
  · exact bm_intro (by decide +kernel) (Nat.le_of_ble_eq_true rfl) (show B_X11_trade_0 _ _ _ _ _ _ _ from s_X11_trade_0 ⟨fun q => absurd c1 q, fun _ => ⟨fun _ => ⟨fun q => absurd c3 q, fun _ => ⟨fun _ => ⟨fun q => absurd q cz, fun _ => x_lf h (bm_intro (by decide +kernel) (Nat.le_of_ble_eq_true rfl) (show B_X12_trade_0 _ _ _ _ _ _ _ from s_X12_trade_0 (by exact ⟨fun q => absurd c1 q, fun _ => ⟨fun q => absurd c2 q, fun _ => ⟨fun q => absurd c3 q, fun _ => ⟨fun _ => ⟨fun q => absurd (by rw [t2]; exact hm.2 cz) q, fun _ => ⟨rfl, rfl, rfl⟩⟩, fun q => absurd c4 q⟩⟩⟩⟩)))⟩, fun q => absurd c4 q⟩⟩, fun q => absurd c2 q⟩⟩)
  have hk : nt < 40 := (hm.1 cz).2
  refine bm_intro (by decide +kernel) (Nat.le_of_ble_eq_true rfl) (show B_X11_trade_0 _ _ _ _ _ _ _ from s_X11_trade_0 ⟨fun q => absurd c1 q, fun _ => ⟨fun _ => ⟨fun q => absurd c3 q, fun _ => ⟨fun _ => ⟨fun _ => ⟨_, am_qf_i (k_X6_addTrade (by rw [f2]; exact am_vI hk (by decide))), fun v I1 L1 e => ?_⟩, fun q => absurd cz q⟩, fun q => absurd c4 q⟩⟩, fun q => absurd c2 q⟩⟩)
  obtain ⟨q1, q2, q3⟩ := e
  rw [q1, q2, q3]
  refine bm_intro (by decide +kernel) (Nat.le_of_ble_eq_true rfl) (show B_X12_trade_0 _ _ _ _ _ _ _ from s_X12_trade_0 ?_)
  rw [t2, i_trd_0 hk, i_trd_1 hk, i_trd_2 hk, i_trd_3 hk]
  refine ⟨fun q => absurd c1 q, fun _ => ⟨fun q => absurd c2 q, fun _ => ⟨fun q => absurd c3 q, fun _ => ⟨fun _ => ⟨fun _ => ⟨(v_trd_0 hk), ⟨(v_trd_1 hk), ⟨(v_trd_2 hk), ⟨(v_trd_3 hk), ⟨by rw [f2, Int32.add_sub_cancel], ?_⟩⟩⟩⟩⟩, fun q => absurd q (hm.1 cz).1⟩, fun q => absurd c4 q⟩⟩⟩⟩
  rw [f2, nI_clamp (by omega)]
  refine x_main h (fun a x hx => ?_) (fun a x hx hx2 => ?_) ⟨?_, ?_⟩ ?_ ?_
  · rw [am_u_ne _ (Or.inl (by omega)), am_u_ne _ (Or.inl (by omega)), am_u_ne _ (Or.inl (by omega)), am_u_ne _ (Or.inl (by omega)), am_u_ne _ (Or.inl (by omega))]
  · rw [am_u_ne _ (Or.inl hx2), am_u_ne _ (Or.inl hx2), am_u_ne _ (Or.inl hx2), am_u_ne _ (Or.inl hx2), am_u_ne _ (Or.inl hx2)]
  · rw [am_u_ne _ (Or.inr (by omega)), am_u_ne _ (Or.inr (by omega)), am_u_ne _ (Or.inr (by omega)), am_u_ne _ (Or.inr (by omega)), am_u_ne _ (Or.inr (by omega))]
  · rw [am_u_ne _ (Or.inr (by omega)), am_u_ne _ (Or.inr (by omega)), am_u_ne _ (Or.inr (by omega)), am_u_ne _ (Or.inr (by omega)), am_u_ne _ (Or.inr (by omega))]
  · refine x_upd hR [504 + 4 * nt, 505 + 4 * nt, 506 + 4 * nt, 507 + 4 * nt, 1179] (fun e he => ?_) (fun p s _ _ _ _ _ hq => ?_) (fun p s _ _ _ _ _ hq => ?_) (fun d hd he => ?_) (fun e he _ => ?_)
    · simp only [List.mem_cons, List.not_mem_nil, or_false, not_or] at he
      rw [am_u_ne _ (Or.inr he.2.2.2.2), am_u_ne _ (Or.inr he.2.2.2.1), am_u_ne _ (Or.inr he.2.2.1), am_u_ne _ (Or.inr he.2.1), am_u_ne _ (Or.inr he.1)]
    · simp only [List.mem_cons, List.not_mem_nil, or_false, not_or] at hq
      rw [am_u_ne _ (x_ne hq.2.2.2.2 (by decide)), am_u_ne _ (x_ne hq.2.2.2.1 (xe_trd_3 _ hk)), am_u_ne _ (x_ne hq.2.2.1 (xe_trd_2 _ hk)), am_u_ne _ (x_ne hq.2.1 (xe_trd_1 _ hk)), am_u_ne _ (x_ne hq.1 (xe_trd_0 _ hk))]
    · skip
      rw [am_u_ne _ (Or.inl (by omega)), am_u_ne _ (Or.inl (by omega)), am_u_ne _ (Or.inl (by omega)), am_u_ne _ (Or.inl (by omega)), am_u_ne _ (Or.inl (by omega))]
    · simp only [List.mem_cons, List.not_mem_nil, or_false] at he ⊢
      omega
    · simp only [List.mem_cons, List.not_mem_nil, or_false] at he
      rcases he with rfl | rfl | rfl | rfl | rfl
      · rw [xr_trd_0 hk]
        repeat first | rw [am_u_eq] | rw [am_u_ne _ (Or.inl (by decide))] | rw [am_u_ne _ (Or.inr (by omega))]
      · rw [xr_trd_1 hk]
        repeat first | rw [am_u_eq] | rw [am_u_ne _ (Or.inl (by decide))] | rw [am_u_ne _ (Or.inr (by omega))]
      · rw [xr_trd_2 hk]
        repeat first | rw [am_u_eq] | rw [am_u_ne _ (Or.inl (by decide))] | rw [am_u_ne _ (Or.inr (by omega))]
      · rw [xr_trd_3 hk]
        repeat first | rw [am_u_eq] | rw [am_u_ne _ (Or.inl (by decide))] | rw [am_u_ne _ (Or.inr (by omega))]
      · rw [xr_nt]
        repeat first | rw [am_u_eq] | rw [am_u_ne _ (Or.inl (by decide))] | rw [am_u_ne _ (Or.inr (by omega))]
        rw [xh_nt hR, f2]; exact x_inc (by omega)
  · obtain ⟨p1, p2, p3, p4, p5⟩ := o2
    obtain ⟨x1, y1, e1⟩ := x_ix c1.1 (show a ≤ nI 29 from c1.2) (by decide)
    obtain ⟨x2, y2, e2⟩ := x_ix c4.1 (show d ≤ nI 3 from c4.2) (by decide)
    refine ⟨np, n, w, nt + 1, nh, ng, ns, nl, nc, o1, ⟨?_, hk, p3, p4, fun t ht => ?_⟩, o3, o4, o5⟩
    · rw [am_u_eq, nI_succ]
    · by_cases hx : t = nt
      · subst hx
        refine ⟨x1, x2, by omega, by omega, ?_, ?_⟩
        · rw [← e1]
          repeat first | rw [am_u_eq] | rw [am_u_ne _ (Or.inl (by decide))]
        · rw [← e2]
          repeat first | rw [am_u_eq] | rw [am_u_ne _ (Or.inl (by decide))]
      · obtain ⟨z1, z2, z3, z4, z5, z6⟩ := p5 t (by omega)
        refine ⟨z1, z2, z3, z4, ?_, ?_⟩
        · rw [← z5]
          repeat first | rw [am_u_ne _ (Or.inr hx)] | rw [am_u_ne _ (Or.inl (by decide))]
        · rw [← z6]
          repeat first | rw [am_u_ne _ (Or.inr hx)] | rw [am_u_ne _ (Or.inl (by decide))]
theorem x_hand {a : Int32} {b : Int32} {I : am_I} {L : am_L} (h : x_Inv xc I L) : am_K M_X11_hand 1 [.ref 0, .int a, .int b] I L (x_Q xc M_X12_hand 1 [.ref 190, .int a, .int b]) := by
  obtain ⟨hR, hF, ⟨np, n, w, nt, nh, ng, ns, nl, nc, o1, o2, o3, o4, o5⟩, _⟩ := id h
  have f2 : I 12 10 = nI nh := o2.2.2.1
  have t2 : Int64.toInt32 (L 191 1182) = nI nh := by rw [x_i32 (xh_nh hR)]; exact f2
  have hm := x_full (b := 8) f2 o2.2.2.2.1 (by decide)
  by_cases c1 : 0 ≤ a ∧ a ≤ 1073741823
  rotate_left
  · exact bm_intro (by decide +kernel) (Nat.le_of_ble_eq_true rfl) (show B_X11_hand_0 _ _ _ _ _ from s_X11_hand_0 ⟨fun q => absurd q c1, fun _ => x_lf h (bm_intro (by decide +kernel) (Nat.le_of_ble_eq_true rfl) (show B_X12_hand_0 _ _ _ _ _ from s_X12_hand_0 (by exact ⟨fun _ => ⟨rfl, rfl, rfl⟩, fun q => absurd q c1⟩)))⟩)
  by_cases c2 : 0 ≤ b ∧ b ≤ 15
  rotate_left
  · exact bm_intro (by decide +kernel) (Nat.le_of_ble_eq_true rfl) (show B_X11_hand_0 _ _ _ _ _ from s_X11_hand_0 ⟨fun _ => ⟨fun q => absurd q c2, fun _ => x_lf h (bm_intro (by decide +kernel) (Nat.le_of_ble_eq_true rfl) (show B_X12_hand_0 _ _ _ _ _ from s_X12_hand_0 (by exact ⟨fun q => absurd c1 q, fun _ => ⟨fun q => absurd q c2, fun _ => ⟨rfl, rfl, rfl⟩⟩⟩)))⟩, fun q => absurd c1 q⟩)
  by_cases cz : I 12 10 < 8
  rotate_left
  · exact bm_intro (by decide +kernel) (Nat.le_of_ble_eq_true rfl) (show B_X11_hand_0 _ _ _ _ _ from s_X11_hand_0 ⟨fun _ => ⟨fun _ => ⟨fun q => absurd q cz, fun _ => x_lf h (bm_intro (by decide +kernel) (Nat.le_of_ble_eq_true rfl) (show B_X12_hand_0 _ _ _ _ _ from s_X12_hand_0 (by exact ⟨fun q => absurd c1 q, fun _ => ⟨fun _ => ⟨fun q => absurd (by rw [t2]; exact hm.2 cz) q, fun _ => ⟨rfl, rfl, rfl⟩⟩, fun q => absurd c2 q⟩⟩)))⟩, fun q => absurd c2 q⟩, fun q => absurd c1 q⟩)
  have hk : nh < 8 := (hm.1 cz).2
  refine bm_intro (by decide +kernel) (Nat.le_of_ble_eq_true rfl) (show B_X11_hand_0 _ _ _ _ _ from s_X11_hand_0 ⟨fun _ => ⟨fun _ => ⟨fun _ => ⟨_, am_qf_i (k_X6_addHand (by rw [f2]; exact am_vI hk (by decide))), fun v I1 L1 e => ?_⟩, fun q => absurd cz q⟩, fun q => absurd c2 q⟩, fun q => absurd c1 q⟩)
  obtain ⟨q1, q2, q3⟩ := e
  rw [q1, q2, q3]
  refine bm_intro (by decide +kernel) (Nat.le_of_ble_eq_true rfl) (show B_X12_hand_0 _ _ _ _ _ from s_X12_hand_0 ?_)
  rw [t2, i_han_0 hk, i_han_1 hk]
  refine ⟨fun q => absurd c1 q, fun _ => ⟨fun _ => ⟨fun _ => ⟨(v_han_0 hk), ⟨(v_han_1 hk), ⟨by rw [f2, Int32.add_sub_cancel], ?_⟩⟩⟩, fun q => absurd q (hm.1 cz).1⟩, fun q => absurd c2 q⟩⟩
  rw [f2, nI_clamp (by omega)]
  refine x_main h (fun a x hx => ?_) (fun a x hx hx2 => ?_) ⟨?_, ?_⟩ ?_ ?_
  · rw [am_u_ne _ (Or.inl (by omega)), am_u_ne _ (Or.inl (by omega)), am_u_ne _ (Or.inl (by omega))]
  · rw [am_u_ne _ (Or.inl hx2), am_u_ne _ (Or.inl hx2), am_u_ne _ (Or.inl hx2)]
  · rw [am_u_ne _ (Or.inr (by omega)), am_u_ne _ (Or.inr (by omega)), am_u_ne _ (Or.inr (by omega))]
  · rw [am_u_ne _ (Or.inr (by omega)), am_u_ne _ (Or.inr (by omega)), am_u_ne _ (Or.inr (by omega))]
  · refine x_upd hR [1016 + 2 * nh, 1017 + 2 * nh, 1182] (fun e he => ?_) (fun p s _ _ _ _ _ hq => ?_) (fun p s _ _ _ _ _ hq => ?_) (fun d hd he => ?_) (fun e he _ => ?_)
    · simp only [List.mem_cons, List.not_mem_nil, or_false, not_or] at he
      rw [am_u_ne _ (Or.inr he.2.2), am_u_ne _ (Or.inr he.2.1), am_u_ne _ (Or.inr he.1)]
    · simp only [List.mem_cons, List.not_mem_nil, or_false, not_or] at hq
      rw [am_u_ne _ (x_ne hq.2.2 (by decide)), am_u_ne _ (x_ne hq.2.1 (xe_han_1 _ hk)), am_u_ne _ (x_ne hq.1 (xe_han_0 _ hk))]
    · skip
      rw [am_u_ne _ (Or.inl (by omega)), am_u_ne _ (Or.inl (by omega)), am_u_ne _ (Or.inl (by omega))]
    · simp only [List.mem_cons, List.not_mem_nil, or_false] at he ⊢
      omega
    · simp only [List.mem_cons, List.not_mem_nil, or_false] at he
      rcases he with rfl | rfl | rfl
      · rw [xr_han_0 hk]
        repeat first | rw [am_u_eq] | rw [am_u_ne _ (Or.inl (by decide))] | rw [am_u_ne _ (Or.inr (by omega))]
      · rw [xr_han_1 hk]
        repeat first | rw [am_u_eq] | rw [am_u_ne _ (Or.inl (by decide))] | rw [am_u_ne _ (Or.inr (by omega))]
      · rw [xr_nh]
        repeat first | rw [am_u_eq] | rw [am_u_ne _ (Or.inl (by decide))] | rw [am_u_ne _ (Or.inr (by omega))]
        rw [xh_nh hR, f2]; exact x_inc (by omega)
  · obtain ⟨p1, p2, p3, p4, p5⟩ := o2
    refine ⟨np, n, w, nt, nh + 1, ng, ns, nl, nc, o1, ⟨p1, p2, ?_, hk, p5⟩, o3, o4, o5⟩
    rw [am_u_eq, nI_succ]
theorem x_suit {a : Int32} {b : Int32} {c : Int32} {I : am_I} {L : am_L} (h : x_Inv xc I L) : am_K M_X11_suit 1 [.ref 0, .int a, .int b, .int c] I L (x_Q xc M_X12_suit 1 [.ref 190, .int a, .int b, .int c]) := by
  obtain ⟨hR, hF, ⟨np, n, w, nt, nh, ng, ns, nl, nc, o1, o2, o3, o4, o5⟩, _⟩ := id h
  have f2 : I 13 11 = nI ns := o3.2.2.1
  have t2 : Int64.toInt32 (L 191 1183) = nI ns := by rw [x_i32 (xh_ns hR)]; exact f2
  have hm := x_full (b := 8) f2 o3.2.2.2.1 (by decide)
  by_cases c1 : 1 ≤ a ∧ a ≤ 100000
  rotate_left
  · exact bm_intro (by decide +kernel) (Nat.le_of_ble_eq_true rfl) (show B_X11_suit_0 _ _ _ _ _ _ from s_X11_suit_0 ⟨fun _ => x_lf h (bm_intro (by decide +kernel) (Nat.le_of_ble_eq_true rfl) (show B_X12_suit_0 _ _ _ _ _ _ from s_X12_suit_0 (by exact ⟨fun _ => ⟨rfl, rfl, rfl⟩, fun q => absurd q c1⟩))), fun q => absurd q c1⟩)
  by_cases c2 : 0 ≤ b ∧ b ≤ 100000
  rotate_left
  · exact bm_intro (by decide +kernel) (Nat.le_of_ble_eq_true rfl) (show B_X11_suit_0 _ _ _ _ _ _ from s_X11_suit_0 ⟨fun q => absurd c1 q, fun _ => ⟨fun q => absurd q c2, fun _ => x_lf h (bm_intro (by decide +kernel) (Nat.le_of_ble_eq_true rfl) (show B_X12_suit_0 _ _ _ _ _ _ from s_X12_suit_0 (by exact ⟨fun q => absurd c1 q, fun _ => ⟨fun _ => ⟨rfl, rfl, rfl⟩, fun q => absurd q c2⟩⟩)))⟩⟩)
  by_cases c3 : 1 ≤ c ∧ c ≤ 24
  rotate_left
  · exact bm_intro (by decide +kernel) (Nat.le_of_ble_eq_true rfl) (show B_X11_suit_0 _ _ _ _ _ _ from s_X11_suit_0 ⟨fun q => absurd c1 q, fun _ => ⟨fun _ => ⟨fun q => absurd q c3, fun _ => x_lf h (bm_intro (by decide +kernel) (Nat.le_of_ble_eq_true rfl) (show B_X12_suit_0 _ _ _ _ _ _ from s_X12_suit_0 (by exact ⟨fun q => absurd c1 q, fun _ => ⟨fun q => absurd c2 q, fun _ => ⟨fun q => absurd q c3, fun _ => ⟨rfl, rfl, rfl⟩⟩⟩⟩)))⟩, fun q => absurd c2 q⟩⟩)
  by_cases cz : I 13 11 < 8
  rotate_left
  · exact bm_intro (by decide +kernel) (Nat.le_of_ble_eq_true rfl) (show B_X11_suit_0 _ _ _ _ _ _ from s_X11_suit_0 ⟨fun q => absurd c1 q, fun _ => ⟨fun _ => ⟨fun _ => ⟨fun q => absurd q cz, fun _ => x_lf h (bm_intro (by decide +kernel) (Nat.le_of_ble_eq_true rfl) (show B_X12_suit_0 _ _ _ _ _ _ from s_X12_suit_0 (by exact ⟨fun q => absurd c1 q, fun _ => ⟨fun q => absurd c2 q, fun _ => ⟨fun _ => ⟨fun q => absurd (by rw [t2]; exact hm.2 cz) q, fun _ => ⟨rfl, rfl, rfl⟩⟩, fun q => absurd c3 q⟩⟩⟩)))⟩, fun q => absurd c3 q⟩, fun q => absurd c2 q⟩⟩)
  have hk : ns < 8 := (hm.1 cz).2
  refine bm_intro (by decide +kernel) (Nat.le_of_ble_eq_true rfl) (show B_X11_suit_0 _ _ _ _ _ _ from s_X11_suit_0 ⟨fun q => absurd c1 q, fun _ => ⟨fun _ => ⟨fun _ => ⟨fun _ => ⟨_, am_qf_i (k_X0_addSuit (by rw [f2]; exact am_vI hk (by decide))), fun v I1 L1 e => ?_⟩, fun q => absurd cz q⟩, fun q => absurd c3 q⟩, fun q => absurd c2 q⟩⟩)
  obtain ⟨q1, q2, q3⟩ := e
  rw [q1, q2, q3]
  refine bm_intro (by decide +kernel) (Nat.le_of_ble_eq_true rfl) (show B_X12_suit_0 _ _ _ _ _ _ from s_X12_suit_0 ?_)
  rw [t2, i_sui_0 hk, i_sui_1 hk, i_sui_2 hk]
  refine ⟨fun q => absurd c1 q, fun _ => ⟨fun q => absurd c2 q, fun _ => ⟨fun _ => ⟨fun _ => ⟨(v_sui_0 hk), ⟨(v_sui_1 hk), ⟨(v_sui_2 hk), ⟨by rw [f2, Int32.add_sub_cancel], ?_⟩⟩⟩⟩, fun q => absurd q (hm.1 cz).1⟩, fun q => absurd c3 q⟩⟩⟩
  rw [f2, nI_clamp (by omega)]
  refine x_main h (fun a x hx => ?_) (fun a x hx hx2 => ?_) ⟨?_, ?_⟩ ?_ ?_
  · rw [am_u_ne _ (Or.inl (by omega)), am_u_ne _ (Or.inl (by omega)), am_u_ne _ (Or.inl (by omega)), am_u_ne _ (Or.inl (by omega))]
  · rw [am_u_ne _ (Or.inl hx2), am_u_ne _ (Or.inl hx2), am_u_ne _ (Or.inl hx2), am_u_ne _ (Or.inl hx2)]
  · rw [am_u_ne _ (Or.inr (by omega)), am_u_ne _ (Or.inr (by omega)), am_u_ne _ (Or.inr (by omega)), am_u_ne _ (Or.inr (by omega))]
  · rw [am_u_ne _ (Or.inr (by omega)), am_u_ne _ (Or.inr (by omega)), am_u_ne _ (Or.inr (by omega)), am_u_ne _ (Or.inr (by omega))]
  · refine x_upd hR [1032 + 3 * ns, 1033 + 3 * ns, 1034 + 3 * ns, 1183] (fun e he => ?_) (fun p s _ _ _ _ _ hq => ?_) (fun p s _ _ _ _ _ hq => ?_) (fun d hd he => ?_) (fun e he _ => ?_)
    · simp only [List.mem_cons, List.not_mem_nil, or_false, not_or] at he
      rw [am_u_ne _ (Or.inr he.2.2.2), am_u_ne _ (Or.inr he.2.2.1), am_u_ne _ (Or.inr he.2.1), am_u_ne _ (Or.inr he.1)]
    · simp only [List.mem_cons, List.not_mem_nil, or_false, not_or] at hq
      rw [am_u_ne _ (x_ne hq.2.2.2 (by decide)), am_u_ne _ (x_ne hq.2.2.1 (xe_sui_2 _ hk)), am_u_ne _ (x_ne hq.2.1 (xe_sui_1 _ hk)), am_u_ne _ (x_ne hq.1 (xe_sui_0 _ hk))]
    · skip
      rw [am_u_ne _ (Or.inl (by omega)), am_u_ne _ (Or.inl (by omega)), am_u_ne _ (Or.inl (by omega)), am_u_ne _ (Or.inl (by omega))]
    · simp only [List.mem_cons, List.not_mem_nil, or_false] at he ⊢
      omega
    · simp only [List.mem_cons, List.not_mem_nil, or_false] at he
      rcases he with rfl | rfl | rfl | rfl
      · rw [xr_sui_0 hk]
        repeat first | rw [am_u_eq] | rw [am_u_ne _ (Or.inl (by decide))] | rw [am_u_ne _ (Or.inr (by omega))]
      · rw [xr_sui_1 hk]
        repeat first | rw [am_u_eq] | rw [am_u_ne _ (Or.inl (by decide))] | rw [am_u_ne _ (Or.inr (by omega))]
      · rw [xr_sui_2 hk]
        repeat first | rw [am_u_eq] | rw [am_u_ne _ (Or.inl (by decide))] | rw [am_u_ne _ (Or.inr (by omega))]
      · rw [xr_ns]
        repeat first | rw [am_u_eq] | rw [am_u_ne _ (Or.inl (by decide))] | rw [am_u_ne _ (Or.inr (by omega))]
        rw [xh_ns hR, f2]; exact x_inc (by omega)
  · obtain ⟨p1, p2, p3, p4, p5, p6, p7⟩ := o3
    refine ⟨np, n, w, nt, nh, ng, ns + 1, nl, nc, o1, o2, ⟨p1, p2, ?_, hk, p5, p6, fun s hs => ?_⟩, o4, o5⟩
    · rw [am_u_eq, nI_succ]
    · by_cases hx : s = ns
      · subst hx
        refine ⟨?_, ?_, ?_⟩
        · rw [show am_u (am_u (am_u (am_u I 44 s a) 45 s b) 46 s c) 13 11 (nI s + 1) 44 s = a by repeat first | rw [am_u_eq] | rw [am_u_ne _ (Or.inl (by decide))]]; exact c1
        · rw [show am_u (am_u (am_u (am_u I 44 s a) 45 s b) 46 s c) 13 11 (nI s + 1) 45 s = b by repeat first | rw [am_u_eq] | rw [am_u_ne _ (Or.inl (by decide))]]; exact c2
        · rw [show am_u (am_u (am_u (am_u I 44 s a) 45 s b) 46 s c) 13 11 (nI s + 1) 46 s = c by repeat first | rw [am_u_eq] | rw [am_u_ne _ (Or.inl (by decide))]]; exact c3
      · have z := p7 s (by omega)
        rw [show am_u (am_u (am_u (am_u I 44 ns a) 45 ns b) 46 ns c) 13 11 (nI ns + 1) 44 s = I 44 s by repeat first | rw [am_u_ne _ (Or.inr hx)] | rw [am_u_ne _ (Or.inl (by decide))], show am_u (am_u (am_u (am_u I 44 ns a) 45 ns b) 46 ns c) 13 11 (nI ns + 1) 45 s = I 45 s by repeat first | rw [am_u_ne _ (Or.inr hx)] | rw [am_u_ne _ (Or.inl (by decide))], show am_u (am_u (am_u (am_u I 44 ns a) 45 ns b) 46 ns c) 13 11 (nI ns + 1) 46 s = I 46 s by repeat first | rw [am_u_ne _ (Or.inr hx)] | rw [am_u_ne _ (Or.inl (by decide))]]
        exact z
theorem x_letter {a : Int32} {b : Int32} {c : Int32} {I : am_I} {L : am_L} (h : x_Inv xc I L) : am_K M_X11_letter 1 [.ref 0, .int a, .int b, .int c] I L (x_Q xc M_X12_letter 2 [.ref 190, .int a, .int b, .int c]) := by
  obtain ⟨hR, hF, ⟨np, n, w, nt, nh, ng, ns, nl, nc, o1, o2, o3, o4, o5⟩, _⟩ := id h
  have f2 : I 15 3 = nI nl := o5.1
  have t2 : Int64.toInt32 (L 191 1181) = nI nl := by rw [x_i32 (xh_nl hR)]; exact f2
  have hm := x_full (b := 20) f2 o5.2.1 (by decide)
  by_cases c1 : 0 ≤ a ∧ a ≤ 3
  rotate_left
  · exact bm_intro (by decide +kernel) (Nat.le_of_ble_eq_true rfl) (show B_X11_letter_0 _ _ _ _ _ _ from s_X11_letter_0 ⟨fun _ => x_lf h (bm_intro (by decide +kernel) (Nat.le_of_ble_eq_true rfl) (show B_X12_letter_0 _ _ _ _ _ _ from s_X12_letter_0 (by exact ⟨fun _ => ⟨rfl, rfl, rfl⟩, fun q => absurd q c1⟩))), fun q => absurd q c1⟩)
  by_cases c2 : 0 ≤ b ∧ b ≤ 59
  rotate_left
  · exact bm_intro (by decide +kernel) (Nat.le_of_ble_eq_true rfl) (show B_X11_letter_0 _ _ _ _ _ _ from s_X11_letter_0 ⟨fun q => absurd c1 q, fun _ => ⟨fun q => absurd q c2, fun _ => x_lf h (bm_intro (by decide +kernel) (Nat.le_of_ble_eq_true rfl) (show B_X12_letter_0 _ _ _ _ _ _ from s_X12_letter_0 (by exact ⟨fun q => absurd c1 q, fun _ => ⟨fun _ => ⟨rfl, rfl, rfl⟩, fun q => absurd q c2⟩⟩)))⟩⟩)
  by_cases c3 : c = -1 ∨ (b ≤ c ∧ c ≤ 59)
  rotate_left
  · exact bm_intro (by decide +kernel) (Nat.le_of_ble_eq_true rfl) (show B_X11_letter_0 _ _ _ _ _ _ from s_X11_letter_0 ⟨fun q => absurd c1 q, fun _ => ⟨fun _ => ⟨fun q => absurd q (fun q => c3 (Or.inl q)), fun _ => ⟨fun q => absurd q (fun q => c3 (Or.inr q)), fun _ => x_lf h (bm_intro (by decide +kernel) (Nat.le_of_ble_eq_true rfl) (show B_X12_letter_0 _ _ _ _ _ _ from s_X12_letter_0 (by exact ⟨fun q => absurd c1 q, fun _ => ⟨fun q => absurd c2 q, fun _ => ⟨fun q => absurd q (fun q => c3 (Or.inl q)), fun _ => ⟨fun q => absurd q (fun q => c3 (Or.inr q)), fun _ => ⟨rfl, rfl, rfl⟩⟩⟩⟩⟩)))⟩⟩, fun q => absurd c2 q⟩⟩)
  by_cases cz : I 15 3 < 20
  rotate_left
  · by_cases c4 : c = -1
    · exact bm_intro (by decide +kernel) (Nat.le_of_ble_eq_true rfl) (show B_X11_letter_0 _ _ _ _ _ _ from s_X11_letter_0 ⟨fun q => absurd c1 q, fun _ => ⟨fun _ => ⟨fun _ => ⟨fun q => absurd q cz, fun _ => x_lf h (bm_intro (by decide +kernel) (Nat.le_of_ble_eq_true rfl) (show B_X12_letter_0 _ _ _ _ _ _ from s_X12_letter_0 (by exact ⟨fun q => absurd c1 q, fun _ => ⟨fun q => absurd c2 q, fun _ => ⟨fun _ => ⟨fun q => absurd (show Int64.toInt32 (L 191 1181) = 20 by rw [t2]; exact hm.2 cz) q, fun _ => ⟨rfl, rfl, rfl⟩⟩, fun q => absurd c4 q⟩⟩⟩)))⟩, fun q => absurd c4 q⟩, fun q => absurd c2 q⟩⟩)
    · exact bm_intro (by decide +kernel) (Nat.le_of_ble_eq_true rfl) (show B_X11_letter_0 _ _ _ _ _ _ from s_X11_letter_0 ⟨fun q => absurd c1 q, fun _ => ⟨fun _ => ⟨fun q => absurd q c4, fun _ => ⟨fun _ => ⟨fun q => absurd q cz, fun _ => x_lf h (bm_intro (by decide +kernel) (Nat.le_of_ble_eq_true rfl) (show B_X12_letter_0 _ _ _ _ _ _ from s_X12_letter_0 (by exact ⟨fun q => absurd c1 q, fun _ => ⟨fun q => absurd c2 q, fun _ => ⟨fun q => absurd q c4, fun _ => ⟨fun _ => ⟨fun q => absurd (show Int64.toInt32 (L 191 1181) = 20 by rw [t2]; exact hm.2 cz) q, fun _ => ⟨rfl, rfl, rfl⟩⟩, fun q => absurd (c3.resolve_left c4) q⟩⟩⟩⟩)))⟩, fun q => absurd (c3.resolve_left c4) q⟩⟩, fun q => absurd c2 q⟩⟩)
  have hk : nl < 20 := (hm.1 cz).2
  have main : B_X12_letter_0 (fun r2 I'' L'' => r2 = some (.int (nI nl)) ∧ x_Inv xc I'' L'') (am_u (am_u (am_u (am_u I 50 nl a) 51 nl b) 52 nl c) 15 3 (nI nl + 1)) L a b c := by
    have fin : x_Inv xc (am_u (am_u (am_u (am_u I 50 nl a) 51 nl b) 52 nl c) 15 3 (nI nl + 1)) (am_u (am_u (am_u (am_u L 191 (916 + 3 * nl) a.toInt64) 191 (917 + 3 * nl) b.toInt64) 191 (918 + 3 * nl) c.toInt64) 191 1181 (am_u (am_u (am_u L 191 (916 + 3 * nl) a.toInt64) 191 (917 + 3 * nl) b.toInt64) 191 (918 + 3 * nl) c.toInt64 191 1181 + 1)) := by
      refine x_main h (fun a x hx => ?_) (fun a x hx hx2 => ?_) ⟨?_, ?_⟩ ?_ ?_
      · rw [am_u_ne _ (Or.inl (by omega)), am_u_ne _ (Or.inl (by omega)), am_u_ne _ (Or.inl (by omega)), am_u_ne _ (Or.inl (by omega))]
      · rw [am_u_ne _ (Or.inl hx2), am_u_ne _ (Or.inl hx2), am_u_ne _ (Or.inl hx2), am_u_ne _ (Or.inl hx2)]
      · rw [am_u_ne _ (Or.inr (by omega)), am_u_ne _ (Or.inr (by omega)), am_u_ne _ (Or.inr (by omega)), am_u_ne _ (Or.inr (by omega))]
      · rw [am_u_ne _ (Or.inr (by omega)), am_u_ne _ (Or.inr (by omega)), am_u_ne _ (Or.inr (by omega)), am_u_ne _ (Or.inr (by omega))]
      · refine x_upd hR [916 + 3 * nl, 917 + 3 * nl, 918 + 3 * nl, 1181] (fun e he => ?_) (fun p s _ _ _ _ _ hq => ?_) (fun p s _ _ _ _ _ hq => ?_) (fun d hd he => ?_) (fun e he _ => ?_)
        · simp only [List.mem_cons, List.not_mem_nil, or_false, not_or] at he
          rw [am_u_ne _ (Or.inr he.2.2.2), am_u_ne _ (Or.inr he.2.2.1), am_u_ne _ (Or.inr he.2.1), am_u_ne _ (Or.inr he.1)]
        · simp only [List.mem_cons, List.not_mem_nil, or_false, not_or] at hq
          rw [am_u_ne _ (x_ne hq.2.2.2 (by decide)), am_u_ne _ (x_ne hq.2.2.1 (xe_let_2 _ hk)), am_u_ne _ (x_ne hq.2.1 (xe_let_1 _ hk)), am_u_ne _ (x_ne hq.1 (xe_let_0 _ hk))]
        · skip
          rw [am_u_ne _ (Or.inl (by omega)), am_u_ne _ (Or.inl (by omega)), am_u_ne _ (Or.inl (by omega)), am_u_ne _ (Or.inl (by omega))]
        · simp only [List.mem_cons, List.not_mem_nil, or_false] at he ⊢
          omega
        · simp only [List.mem_cons, List.not_mem_nil, or_false] at he
          rcases he with rfl | rfl | rfl | rfl
          · rw [xr_let_0 hk]
            repeat first | rw [am_u_eq] | rw [am_u_ne _ (Or.inl (by decide))] | rw [am_u_ne _ (Or.inr (by omega))]
          · rw [xr_let_1 hk]
            repeat first | rw [am_u_eq] | rw [am_u_ne _ (Or.inl (by decide))] | rw [am_u_ne _ (Or.inr (by omega))]
          · rw [xr_let_2 hk]
            repeat first | rw [am_u_eq] | rw [am_u_ne _ (Or.inl (by decide))] | rw [am_u_ne _ (Or.inr (by omega))]
          · rw [xr_nl]
            repeat first | rw [am_u_eq] | rw [am_u_ne _ (Or.inl (by decide))] | rw [am_u_ne _ (Or.inr (by omega))]
            rw [xh_nl hR, f2]; exact x_inc (by omega)
      · obtain ⟨p1, p2, p3⟩ := o5
        refine ⟨np, n, w, nt, nh, ng, ns, nl + 1, nc, o1, o2, o3, o4, ⟨?_, hk, p3⟩⟩
        rw [am_u_eq, nI_succ]
    refine s_X12_letter_0 ?_
    rw [t2, i_let_0 hk, i_let_1 hk, i_let_2 hk]
    by_cases c4 : c = -1
    · exact ⟨fun q => absurd c1 q, fun _ => ⟨fun q => absurd c2 q, fun _ => ⟨fun _ => ⟨fun _ => ⟨(v_let_0 hk), ⟨(v_let_1 hk), ⟨(v_let_2 hk), ⟨rfl, fin⟩⟩⟩⟩, fun q => absurd q (hm.1 cz).1⟩, fun q => absurd c4 q⟩⟩⟩
    · exact ⟨fun q => absurd c1 q, fun _ => ⟨fun q => absurd c2 q, fun _ => ⟨fun q => absurd q c4, fun _ => ⟨fun _ => ⟨fun _ => ⟨(v_let_0 hk), ⟨(v_let_1 hk), ⟨(v_let_2 hk), ⟨rfl, fin⟩⟩⟩⟩, fun q => absurd q (hm.1 cz).1⟩, fun q => absurd (c3.resolve_left c4) q⟩⟩⟩⟩
  have go : x_Q xc M_X12_letter 2 [.ref 190, .int a, .int b, .int c] (some (.int (I 15 3 + 1 - 1))) (am_u (am_u (am_u (am_u I 50 (I 15 3).toNatClampNeg a) 51 (I 15 3).toNatClampNeg b) 52 (I 15 3).toNatClampNeg c) 15 3 (I 15 3 + 1)) L := by
    rw [f2, nI_clamp (by omega), Int32.add_sub_cancel]
    exact bm_intro (by decide +kernel) (Nat.le_of_ble_eq_true rfl) main
  by_cases c4 : c = -1
  · exact bm_intro (by decide +kernel) (Nat.le_of_ble_eq_true rfl) (show B_X11_letter_0 _ _ _ _ _ _ from s_X11_letter_0 ⟨fun q => absurd c1 q, fun _ => ⟨fun _ => ⟨fun _ => ⟨fun _ => ⟨_, am_qf_i (k_X5_addLetter (by rw [f2]; exact am_vI hk (by decide))), fun v I1 L1 e => by obtain ⟨q1, q2, q3⟩ := e; rw [q1, q2, q3]; exact go⟩, fun q => absurd cz q⟩, fun q => absurd c4 q⟩, fun q => absurd c2 q⟩⟩)
  · exact bm_intro (by decide +kernel) (Nat.le_of_ble_eq_true rfl) (show B_X11_letter_0 _ _ _ _ _ _ from s_X11_letter_0 ⟨fun q => absurd c1 q, fun _ => ⟨fun _ => ⟨fun q => absurd q c4, fun _ => ⟨fun _ => ⟨fun _ => ⟨_, am_qf_i (k_X5_addLetter (by rw [f2]; exact am_vI hk (by decide))), fun v I1 L1 e => by obtain ⟨q1, q2, q3⟩ := e; rw [q1, q2, q3]; exact go⟩, fun q => absurd cz q⟩, fun q => absurd (c3.resolve_left c4) q⟩⟩, fun q => absurd c2 q⟩⟩)
theorem x_person {a : Int32} {b : Int32} {I : am_I} {L : am_L} (h : x_Inv xc I L) : am_K M_X11_person 1 [.ref 0, .int a, .int b] I L (x_Q xc M_X12_person 1 [.ref 190, .int a, .int b]) := by
  obtain ⟨hR, hF, ⟨np, n, w, nt, nh, ng, ns, nl, nc, o1, o2, o3, o4, o5⟩, _⟩ := id h
  have f2 : I 11 3 = nI np := o1.1
  have t2 : Int64.toInt32 (L 191 1176) = nI np := by rw [x_i32 (xh_np hR)]; exact f2
  have hm := x_full (b := 12) f2 o1.2.1 (by decide)
  by_cases c1 : -1 ≤ a ∧ a ≤ 7
  rotate_left
  · exact bm_intro (by decide +kernel) (Nat.le_of_ble_eq_true rfl) (show B_X11_person_0 _ _ _ _ _ from s_X11_person_0 ⟨fun q => absurd q c1, fun _ => x_lf h (bm_intro (by decide +kernel) (Nat.le_of_ble_eq_true rfl) (show B_X12_person_0 _ _ _ _ _ from s_X12_person_0 (by exact ⟨fun q => absurd q c1, fun _ => ⟨rfl, rfl, rfl⟩⟩)))⟩)
  by_cases cz : I 11 3 < 12
  rotate_left
  · exact bm_intro (by decide +kernel) (Nat.le_of_ble_eq_true rfl) (show B_X11_person_0 _ _ _ _ _ from s_X11_person_0 ⟨fun _ => ⟨fun q => absurd q cz, fun _ => x_lf h (bm_intro (by decide +kernel) (Nat.le_of_ble_eq_true rfl) (show B_X12_person_0 _ _ _ _ _ from s_X12_person_0 (by exact ⟨fun _ => ⟨fun q => absurd (by rw [t2]; exact hm.2 cz) q, fun _ => ⟨rfl, rfl, rfl⟩⟩, fun q => absurd c1 q⟩)))⟩, fun q => absurd c1 q⟩)
  have hk : np < 12 := (hm.1 cz).2
  refine bm_intro (by decide +kernel) (Nat.le_of_ble_eq_true rfl) (show B_X11_person_0 _ _ _ _ _ from s_X11_person_0 ⟨fun _ => ⟨fun _ => ⟨_, am_qf_i (k_X4_addPerson (by rw [f2]; exact am_vI hk (by decide))), fun v I1 L1 e => ?_⟩, fun q => absurd cz q⟩, fun q => absurd c1 q⟩)
  obtain ⟨q1, q2, q3⟩ := e
  rw [q1, q2, q3]
  refine bm_intro (by decide +kernel) (Nat.le_of_ble_eq_true rfl) (show B_X12_person_0 _ _ _ _ _ from s_X12_person_0 ?_)
  rw [f2, nI_clamp (by omega), Int32.add_sub_cancel]
  have t3 : Int64.toInt32 (am_u L 18 np 0 191 1176) = nI np := by rw [am_u_ne _ (Or.inl (by decide))]; exact t2
  rw [t3, i_per_0 hk, i_per_1 hk, i_per_2 hk]
  by_cases cb : b = 0
  · rw [if_pos cb]
    refine ⟨fun _ => ⟨fun _ => ⟨(v_per_0 hk), ⟨fun _ => ⟨(v_per_1 hk), ⟨(v_per_2 hk), ⟨rfl, ?_⟩⟩⟩, fun q => absurd cb q⟩⟩, fun q => absurd q (hm.1 cz).1⟩, fun q => absurd c1 q⟩
    refine x_main h (fun a x hx => ?_) (fun a x hx hx2 => ?_) ⟨?_, ?_⟩ ?_ ?_
    · rw [am_u_ne _ (Or.inl (by omega)), am_u_ne _ (Or.inl (by omega)), am_u_ne _ (Or.inl (by omega))]
    · rw [am_u_ne _ (Or.inl hx2), am_u_ne _ (Or.inl hx2), am_u_ne _ (Or.inl hx2), am_u_ne _ (Or.inl hx2), am_u_ne _ (Or.inl (by omega))]
    · rw [am_u_ne _ (Or.inr (by omega)), am_u_ne _ (Or.inr (by omega)), am_u_ne _ (Or.inr (by omega)), am_u_ne _ (Or.inr (by omega)), am_u_ne _ (Or.inl (by decide))]
    · rw [am_u_ne _ (Or.inr (by omega)), am_u_ne _ (Or.inr (by omega)), am_u_ne _ (Or.inr (by omega)), am_u_ne _ (Or.inr (by omega)), am_u_ne _ (Or.inl (by decide))]
    · refine x_upd hR [0 + 3 * np, 1 + 3 * np, 2 + 3 * np, 1176] (fun e he => ?_) (fun p s _ _ _ _ _ hq => ?_) (fun p s _ _ _ _ _ hq => ?_) (fun d hd he => ?_) (fun e he _ => ?_)
      · simp only [List.mem_cons, List.not_mem_nil, or_false, not_or] at he
        rw [am_u_ne _ (Or.inr he.2.2.2), am_u_ne _ (Or.inr he.2.2.1), am_u_ne _ (Or.inr he.2.1), am_u_ne _ (Or.inr he.1), am_u_ne _ (Or.inl (by decide))]
      · simp only [List.mem_cons, List.not_mem_nil, or_false, not_or] at hq
        rw [am_u_ne _ (x_ne hq.2.2.2 (by decide)), am_u_ne _ (x_ne hq.2.1 (xe_per_1 _ hk)), am_u_ne _ (x_ne hq.1 (xe_per_0 _ hk))]
      · simp only [List.mem_cons, List.not_mem_nil, or_false, not_or] at hq
        rw [am_u_ne _ (Or.inl (by omega)), am_u_ne _ (Or.inl (by omega)), am_u_ne _ (Or.inl (by omega)), am_u_ne _ (Or.inl (by omega)), am_u_ne _ (x_ne hq.2.2.1 (xe_per_2 _ hk))]
      · simp only [List.mem_cons, List.not_mem_nil, or_false] at he ⊢
        omega
      · simp only [List.mem_cons, List.not_mem_nil, or_false] at he
        rcases he with rfl | rfl | rfl | rfl
        · rw [xr_per_0 hk]
          repeat first | rw [am_u_eq] | rw [am_u_ne _ (Or.inl (by decide))] | rw [am_u_ne _ (Or.inr (by omega))]
        · rw [xr_per_1 hk]
          repeat first | rw [am_u_eq] | rw [am_u_ne _ (Or.inl (by decide))] | rw [am_u_ne _ (Or.inr (by omega))]
          rfl
        · rw [xr_per_2 hk]
          repeat first | rw [am_u_eq] | rw [am_u_ne _ (Or.inl (by decide))] | rw [am_u_ne _ (Or.inr (by omega))]
        · rw [xr_np]
          repeat first | rw [am_u_eq] | rw [am_u_ne _ (Or.inl (by decide))] | rw [am_u_ne _ (Or.inr (by omega))]
          rw [xh_np hR, f2]; exact x_inc (by omega)
    · obtain ⟨p1, p2, p3, p4, p5, p6, p7, p8, p9, p10⟩ := o1
      obtain ⟨r1, r2, r3, r4, r5, r6, r7⟩ := o3
      refine ⟨np + 1, n, w, nt, nh, ng, ns, nl, nc, ⟨?_, hk, p3, p4, p5, p6, p7, fun r hr => ?_, fun p hp => ?_, fun p hp => ?_⟩, o2, ⟨r1, r2, r3, r4, r5, fun g hg => ?_, r7⟩, o4, o5⟩
      · rw [am_u_eq, nI_succ]
      · obtain ⟨x, m, y1, y2⟩ := p8 r hr
        exact ⟨x, m, by omega, y2⟩
      · by_cases hx : p = np
        · subst hx
          rw [show (am_u (am_u (am_u (am_u (am_u L 18 p 0) 191 (0 + 3 * p) a.toInt64) 191 (1 + 3 * p) 0) 191 (2 + 3 * p) 0) 191 1176 (am_u (am_u (am_u (am_u L 18 p 0) 191 (0 + 3 * p) a.toInt64) 191 (1 + 3 * p) 0) 191 (2 + 3 * p) 0 191 1176 + 1)) 18 p = 0 by repeat first | rw [am_u_eq] | rw [am_u_ne _ (Or.inl (by decide))]]
          exact ⟨by decide, Int.natCast_nonneg _⟩
        · have := p9 p hp
          rw [show (am_u (am_u (am_u (am_u (am_u L 18 np 0) 191 (0 + 3 * np) a.toInt64) 191 (1 + 3 * np) 0) 191 (2 + 3 * np) 0) 191 1176 (am_u (am_u (am_u (am_u L 18 np 0) 191 (0 + 3 * np) a.toInt64) 191 (1 + 3 * np) 0) 191 (2 + 3 * np) 0 191 1176 + 1)) 18 p = L 18 p by repeat first | rw [am_u_ne _ (Or.inr hx)] | rw [am_u_ne _ (Or.inl (by decide))]]
          exact this
      · by_cases hx : p = np
        · subst hx
          rw [show (am_u (am_u (am_u I 16 p a) 17 p 0) 11 3 (nI p + 1)) 17 p = 0 by repeat first | rw [am_u_eq] | rw [am_u_ne _ (Or.inl (by decide))]]
          decide
        · have := p10 p hp
          rw [show (am_u (am_u (am_u I 16 np a) 17 np 0) 11 3 (nI np + 1)) 17 p = I 17 p by repeat first | rw [am_u_ne _ (Or.inr hx)] | rw [am_u_ne _ (Or.inl (by decide))]]
          exact this
      · obtain ⟨x, y, y1, y2, y3⟩ := r6 g hg
        exact ⟨x, y, by omega, by omega, y3⟩
  · rw [if_neg cb]
    refine ⟨fun _ => ⟨fun _ => ⟨(v_per_0 hk), ⟨fun q => absurd q cb, fun _ => ⟨(v_per_1 hk), ⟨(v_per_2 hk), ⟨rfl, ?_⟩⟩⟩⟩⟩, fun q => absurd q (hm.1 cz).1⟩, fun q => absurd c1 q⟩
    refine x_main h (fun a x hx => ?_) (fun a x hx hx2 => ?_) ⟨?_, ?_⟩ ?_ ?_
    · rw [am_u_ne _ (Or.inl (by omega)), am_u_ne _ (Or.inl (by omega)), am_u_ne _ (Or.inl (by omega))]
    · rw [am_u_ne _ (Or.inl hx2), am_u_ne _ (Or.inl hx2), am_u_ne _ (Or.inl hx2), am_u_ne _ (Or.inl hx2), am_u_ne _ (Or.inl (by omega))]
    · rw [am_u_ne _ (Or.inr (by omega)), am_u_ne _ (Or.inr (by omega)), am_u_ne _ (Or.inr (by omega)), am_u_ne _ (Or.inr (by omega)), am_u_ne _ (Or.inl (by decide))]
    · rw [am_u_ne _ (Or.inr (by omega)), am_u_ne _ (Or.inr (by omega)), am_u_ne _ (Or.inr (by omega)), am_u_ne _ (Or.inr (by omega)), am_u_ne _ (Or.inl (by decide))]
    · refine x_upd hR [0 + 3 * np, 1 + 3 * np, 2 + 3 * np, 1176] (fun e he => ?_) (fun p s _ _ _ _ _ hq => ?_) (fun p s _ _ _ _ _ hq => ?_) (fun d hd he => ?_) (fun e he _ => ?_)
      · simp only [List.mem_cons, List.not_mem_nil, or_false, not_or] at he
        rw [am_u_ne _ (Or.inr he.2.2.2), am_u_ne _ (Or.inr he.2.2.1), am_u_ne _ (Or.inr he.2.1), am_u_ne _ (Or.inr he.1), am_u_ne _ (Or.inl (by decide))]
      · simp only [List.mem_cons, List.not_mem_nil, or_false, not_or] at hq
        rw [am_u_ne _ (x_ne hq.2.2.2 (by decide)), am_u_ne _ (x_ne hq.2.1 (xe_per_1 _ hk)), am_u_ne _ (x_ne hq.1 (xe_per_0 _ hk))]
      · simp only [List.mem_cons, List.not_mem_nil, or_false, not_or] at hq
        rw [am_u_ne _ (Or.inl (by omega)), am_u_ne _ (Or.inl (by omega)), am_u_ne _ (Or.inl (by omega)), am_u_ne _ (Or.inl (by omega)), am_u_ne _ (x_ne hq.2.2.1 (xe_per_2 _ hk))]
      · simp only [List.mem_cons, List.not_mem_nil, or_false] at he ⊢
        omega
      · simp only [List.mem_cons, List.not_mem_nil, or_false] at he
        rcases he with rfl | rfl | rfl | rfl
        · rw [xr_per_0 hk]
          repeat first | rw [am_u_eq] | rw [am_u_ne _ (Or.inl (by decide))] | rw [am_u_ne _ (Or.inr (by omega))]
        · rw [xr_per_1 hk]
          repeat first | rw [am_u_eq] | rw [am_u_ne _ (Or.inl (by decide))] | rw [am_u_ne _ (Or.inr (by omega))]
          rfl
        · rw [xr_per_2 hk]
          repeat first | rw [am_u_eq] | rw [am_u_ne _ (Or.inl (by decide))] | rw [am_u_ne _ (Or.inr (by omega))]
        · rw [xr_np]
          repeat first | rw [am_u_eq] | rw [am_u_ne _ (Or.inl (by decide))] | rw [am_u_ne _ (Or.inr (by omega))]
          rw [xh_np hR, f2]; exact x_inc (by omega)
    · obtain ⟨p1, p2, p3, p4, p5, p6, p7, p8, p9, p10⟩ := o1
      obtain ⟨r1, r2, r3, r4, r5, r6, r7⟩ := o3
      refine ⟨np + 1, n, w, nt, nh, ng, ns, nl, nc, ⟨?_, hk, p3, p4, p5, p6, p7, fun r hr => ?_, fun p hp => ?_, fun p hp => ?_⟩, o2, ⟨r1, r2, r3, r4, r5, fun g hg => ?_, r7⟩, o4, o5⟩
      · rw [am_u_eq, nI_succ]
      · obtain ⟨x, m, y1, y2⟩ := p8 r hr
        exact ⟨x, m, by omega, y2⟩
      · by_cases hx : p = np
        · subst hx
          rw [show (am_u (am_u (am_u (am_u (am_u L 18 p 0) 191 (0 + 3 * p) a.toInt64) 191 (1 + 3 * p) 1) 191 (2 + 3 * p) 0) 191 1176 (am_u (am_u (am_u (am_u L 18 p 0) 191 (0 + 3 * p) a.toInt64) 191 (1 + 3 * p) 1) 191 (2 + 3 * p) 0 191 1176 + 1)) 18 p = 0 by repeat first | rw [am_u_eq] | rw [am_u_ne _ (Or.inl (by decide))]]
          exact ⟨by decide, Int.natCast_nonneg _⟩
        · have := p9 p hp
          rw [show (am_u (am_u (am_u (am_u (am_u L 18 np 0) 191 (0 + 3 * np) a.toInt64) 191 (1 + 3 * np) 1) 191 (2 + 3 * np) 0) 191 1176 (am_u (am_u (am_u (am_u L 18 np 0) 191 (0 + 3 * np) a.toInt64) 191 (1 + 3 * np) 1) 191 (2 + 3 * np) 0 191 1176 + 1)) 18 p = L 18 p by repeat first | rw [am_u_ne _ (Or.inr hx)] | rw [am_u_ne _ (Or.inl (by decide))]]
          exact this
      · by_cases hx : p = np
        · subst hx
          rw [show (am_u (am_u (am_u I 16 p a) 17 p 1) 11 3 (nI p + 1)) 17 p = 1 by repeat first | rw [am_u_eq] | rw [am_u_ne _ (Or.inl (by decide))]]
          decide
        · have := p10 p hp
          rw [show (am_u (am_u (am_u I 16 np a) 17 np 1) 11 3 (nI np + 1)) 17 p = I 17 p by repeat first | rw [am_u_ne _ (Or.inr hx)] | rw [am_u_ne _ (Or.inl (by decide))]]
          exact this
      · obtain ⟨x, y, y1, y2, y3⟩ := r6 g hg
        exact ⟨x, y, by omega, by omega, y3⟩
