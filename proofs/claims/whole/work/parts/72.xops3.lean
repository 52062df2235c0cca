/-! calls that write, by program (gen/k72.py): what is set -/
variable {xc : Nat → Int32}
theorem x_years {a : Int32} {b : Int32} {I : am_I} {L : am_L} (h : x_Inv xc I L) : am_K M_X11_years 1 [.ref 0, .int a, .int b] I L (x_Q xc M_X12_years 1 [.ref 190, .int a, .int b]) := by
  obtain ⟨hR, hF, ⟨np, n, w, nt, nh, ng, ns, nl, nc, o1, o2, o3, o4, o5⟩, _⟩ := id h
  by_cases c1 : 0 ≤ a ∧ a ≤ 60
  rotate_left
  · exact bm_intro (by decide +kernel) (Nat.le_of_ble_eq_true rfl) (show B_X11_years_0 _ _ _ _ _ from s_X11_years_0 ⟨fun _ => x_lf h (bm_intro (by decide +kernel) (Nat.le_of_ble_eq_true rfl) (show B_X12_years_0 _ _ _ _ _ from s_X12_years_0 (by exact ⟨fun _ => ⟨rfl, rfl, rfl⟩, fun q => absurd q c1⟩))), fun q => absurd q c1⟩)
  by_cases c2 : 0 ≤ b ∧ b ≤ 60
  rotate_left
  · exact bm_intro (by decide +kernel) (Nat.le_of_ble_eq_true rfl) (show B_X11_years_0 _ _ _ _ _ from s_X11_years_0 ⟨fun q => absurd c1 q, fun _ => ⟨fun q => absurd q c2, fun _ => x_lf h (bm_intro (by decide +kernel) (Nat.le_of_ble_eq_true rfl) (show B_X12_years_0 _ _ _ _ _ from s_X12_years_0 (by exact ⟨fun q => absurd c1 q, fun _ => ⟨fun q => absurd q c2, fun _ => ⟨rfl, rfl, rfl⟩⟩⟩)))⟩⟩)
  refine bm_intro (by decide +kernel) (Nat.le_of_ble_eq_true rfl) (show B_X11_years_0 _ _ _ _ _ from s_X11_years_0 ⟨fun q => absurd c1 q, fun _ => ⟨fun _ => ?_, fun q => absurd c2 q⟩⟩)
  refine bm_intro (by decide +kernel) (Nat.le_of_ble_eq_true rfl) (show B_X12_years_0 _ _ _ _ _ from s_X12_years_0 ?_)
  refine ⟨fun q => absurd c1 q, fun _ => ⟨fun _ => ⟨rfl, ?_⟩, fun q => absurd c2 q⟩⟩
  refine x_main h (fun a x hx => ?_) (fun a x hx hx2 => ?_) ⟨?_, ?_⟩ ?_ ?_
  · rw [am_u_ne _ (Or.inl (by omega)), am_u_ne _ (Or.inl (by omega))]
  · rw [am_u_ne _ (Or.inl hx2), am_u_ne _ (Or.inl hx2)]
  · rw [am_u_ne _ (Or.inr (by omega)), am_u_ne _ (Or.inr (by omega))]
  · rw [am_u_ne _ (Or.inr (by omega)), am_u_ne _ (Or.inr (by omega))]
  · refine x_upd hR [1190, 1191] (fun e he => ?_) (fun p s _ _ _ _ _ hq => ?_) (fun p s _ _ _ _ _ hq => ?_) (fun d hd he => ?_) (fun e he _ => ?_)
    · simp only [List.mem_cons, List.not_mem_nil, or_false, not_or] at he
      rw [am_u_ne _ (Or.inr he.2), am_u_ne _ (Or.inr he.1)]
    · simp only [List.mem_cons, List.not_mem_nil, or_false, not_or] at hq
      rw [am_u_ne _ (x_ne hq.2 (by decide)), am_u_ne _ (x_ne hq.1 (by decide))]
    · skip
      rw [am_u_ne _ (Or.inl (by omega)), am_u_ne _ (Or.inl (by omega))]
    · simp only [List.mem_cons, List.not_mem_nil, or_false] at he ⊢
      omega
    · simp only [List.mem_cons, List.not_mem_nil, or_false] at he
      rcases he with rfl | rfl
      · rw [xr_good]
        repeat first | rw [am_u_eq] | rw [am_u_ne _ (Or.inl (by decide))] | rw [am_u_ne _ (Or.inr (by omega))]
      · rw [xr_bad]
        repeat first | rw [am_u_eq] | rw [am_u_ne _ (Or.inl (by decide))] | rw [am_u_ne _ (Or.inr (by omega))]
  · exact ⟨np, n, w, nt, nh, ng, ns, nl, nc, o1, o2, o3, o4, o5⟩
theorem x_index {a : Int32} {b : Int32} {I : am_I} {L : am_L} (h : x_Inv xc I L) : am_K M_X11_index 1 [.ref 0, .int a, .int b] I L (x_Q xc M_X12_index 2 [.ref 190, .int a, .int b]) := by
  obtain ⟨hR, hF, ⟨np, n, w, nt, nh, ng, ns, nl, nc, o1, o2, o3, o4, o5⟩, _⟩ := id h
  by_cases c1 : 0 ≤ a ∧ a ≤ 59
  rotate_left
  · exact bm_intro (by decide +kernel) (Nat.le_of_ble_eq_true rfl) (show B_X11_index_0 _ _ _ _ _ from s_X11_index_0 ⟨fun _ => x_lf h (bm_intro (by decide +kernel) (Nat.le_of_ble_eq_true rfl) (show B_X12_index_0 _ _ _ _ _ from s_X12_index_0 (by exact ⟨fun _ => ⟨rfl, rfl, rfl⟩, fun q => absurd q c1⟩))), fun q => absurd q c1⟩)
  by_cases c2 : 1 ≤ b ∧ b ≤ 1000
  rotate_left
  · exact bm_intro (by decide +kernel) (Nat.le_of_ble_eq_true rfl) (show B_X11_index_0 _ _ _ _ _ from s_X11_index_0 ⟨fun q => absurd c1 q, fun _ => ⟨fun q => absurd q c2, fun _ => x_lf h (bm_intro (by decide +kernel) (Nat.le_of_ble_eq_true rfl) (show B_X12_index_0 _ _ _ _ _ from s_X12_index_0 (by exact ⟨fun q => absurd c1 q, fun _ => ⟨fun q => absurd q c2, fun _ => ⟨rfl, rfl, rfl⟩⟩⟩)))⟩⟩)
  obtain ⟨k, hk0, e0⟩ := x_ix c1.1 (show a ≤ nI 59 from c1.2) (by decide)
  have hk : k < 60 := by omega
  subst e0
  refine bm_intro (by decide +kernel) (Nat.le_of_ble_eq_true rfl) (show B_X11_index_0 _ _ _ _ _ from s_X11_index_0 ⟨fun q => absurd c1 q, fun _ => ⟨fun _ => ⟨(am_vI hk (by decide)), ⟨(am_vI hk (by decide)), ?_⟩⟩, fun q => absurd c2 q⟩⟩)
  refine bm_intro (by decide +kernel) (Nat.le_of_ble_eq_true rfl) (show B_X12_index_0 _ _ _ _ _ from s_X12_index_0 ?_)
  rw [i_idx hk]
  refine ⟨fun q => absurd c1 q, fun _ => ⟨fun _ => ⟨(v_idx hk), ⟨(v_idx hk), ⟨by rw [xh_idx hR hk, am_l2i_id, nI_clamp (by omega)], ?_⟩⟩⟩, fun q => absurd c2 q⟩⟩
  rw [nI_clamp (by omega)]
  refine x_main h (fun a x hx => ?_) (fun a x hx hx2 => ?_) ⟨?_, ?_⟩ ?_ ?_
  · rw [am_u_ne _ (Or.inl (by omega))]
  · rw [am_u_ne _ (Or.inl hx2)]
  · rw [am_u_ne _ (Or.inr (by omega))]
  · rw [am_u_ne _ (Or.inr (by omega))]
  · refine x_upd hR [664 + k] (fun e he => ?_) (fun p s _ _ _ _ _ hq => ?_) (fun p s _ _ _ _ _ hq => ?_) (fun d hd he => ?_) (fun e he _ => ?_)
    · simp only [List.mem_cons, List.not_mem_nil, or_false, not_or] at he
      rw [am_u_ne _ (Or.inr he)]
    · simp only [List.mem_cons, List.not_mem_nil, or_false, not_or] at hq
      rw [am_u_ne _ (x_ne hq (xe_idx _ hk))]
    · skip
      rw [am_u_ne _ (Or.inl (by omega))]
    · simp only [List.mem_cons, List.not_mem_nil, or_false] at he ⊢
      omega
    · simp only [List.mem_cons, List.not_mem_nil, or_false] at he
      subst he
      rw [xr_idx hk]
      repeat first | rw [am_u_eq] | rw [am_u_ne _ (Or.inl (by decide))] | rw [am_u_ne _ (Or.inr (by omega))]
  · obtain ⟨p1, p2, p3, p4, p5, p6, p7⟩ := o3
    refine ⟨np, n, w, nt, nh, ng, ns, nl, nc, o1, o2, ⟨p1, p2, p3, p4, fun m hm => ?_, p6, p7⟩, o4, o5⟩
    by_cases hx : m = k
    · subst hx; rw [am_u_eq]; exact c2
    · rw [am_u_ne _ (Or.inr hx)]; exact p5 m hm
theorem x_coin {a : Int32} {b : Int32} {I : am_I} {L : am_L} (h : x_Inv xc I L) : am_K M_X11_coin 1 [.ref 0, .int a, .int b] I L (x_Q xc M_X12_coin 2 [.ref 190, .int a, .int b]) := by
  obtain ⟨hR, hF, ⟨np, n, w, nt, nh, ng, ns, nl, nc, o1, o2, o3, o4, o5⟩, _⟩ := id h
  by_cases c1 : 0 ≤ a ∧ a ≤ 7
  rotate_left
  · exact bm_intro (by decide +kernel) (Nat.le_of_ble_eq_true rfl) (show B_X11_coin_0 _ _ _ _ _ from s_X11_coin_0 ⟨fun _ => x_lf h (bm_intro (by decide +kernel) (Nat.le_of_ble_eq_true rfl) (show B_X12_coin_0 _ _ _ _ _ from s_X12_coin_0 (by exact ⟨fun _ => ⟨rfl, rfl, rfl⟩, fun q => absurd q c1⟩))), fun q => absurd q c1⟩)
  by_cases c2 : 0 ≤ b ∧ b ≤ 1000000
  rotate_left
  · exact bm_intro (by decide +kernel) (Nat.le_of_ble_eq_true rfl) (show B_X11_coin_0 _ _ _ _ _ from s_X11_coin_0 ⟨fun q => absurd c1 q, fun _ => ⟨fun q => absurd q c2, fun _ => x_lf h (bm_intro (by decide +kernel) (Nat.le_of_ble_eq_true rfl) (show B_X12_coin_0 _ _ _ _ _ from s_X12_coin_0 (by exact ⟨fun q => absurd c1 q, fun _ => ⟨fun q => absurd q c2, fun _ => ⟨rfl, rfl, rfl⟩⟩⟩)))⟩⟩)
  obtain ⟨k, hk0, e0⟩ := x_ix c1.1 (show a ≤ nI 7 from c1.2) (by decide)
  have hk : k < 8 := by omega
  subst e0
  refine bm_intro (by decide +kernel) (Nat.le_of_ble_eq_true rfl) (show B_X11_coin_0 _ _ _ _ _ from s_X11_coin_0 ⟨fun q => absurd c1 q, fun _ => ⟨fun _ => ⟨(am_vI hk (by decide)), ⟨(am_vI hk (by decide)), ?_⟩⟩, fun q => absurd c2 q⟩⟩)
  refine bm_intro (by decide +kernel) (Nat.le_of_ble_eq_true rfl) (show B_X12_coin_0 _ _ _ _ _ from s_X12_coin_0 ?_)
  rw [i_coi hk]
  refine ⟨fun q => absurd c1 q, fun _ => ⟨fun _ => ⟨(v_coi hk), ⟨(v_coi hk), ⟨by rw [xh_coi hR hk, am_l2i_id, nI_clamp (by omega)], ?_⟩⟩⟩, fun q => absurd c2 q⟩⟩
  rw [nI_clamp (by omega)]
  refine x_main h (fun a x hx => ?_) (fun a x hx hx2 => ?_) ⟨?_, ?_⟩ ?_ ?_
  · rw [am_u_ne _ (Or.inl (by omega))]
  · rw [am_u_ne _ (Or.inl hx2)]
  · rw [am_u_ne _ (Or.inr (by omega))]
  · rw [am_u_ne _ (Or.inr (by omega))]
  · refine x_upd hR [844 + k] (fun e he => ?_) (fun p s _ _ _ _ _ hq => ?_) (fun p s _ _ _ _ _ hq => ?_) (fun d hd he => ?_) (fun e he _ => ?_)
    · simp only [List.mem_cons, List.not_mem_nil, or_false, not_or] at he
      rw [am_u_ne _ (Or.inr he)]
    · simp only [List.mem_cons, List.not_mem_nil, or_false, not_or] at hq
      rw [am_u_ne _ (x_ne hq (xe_coi _ hk))]
    · skip
      rw [am_u_ne _ (Or.inl (by omega))]
    · simp only [List.mem_cons, List.not_mem_nil, or_false] at he ⊢
      omega
    · simp only [List.mem_cons, List.not_mem_nil, or_false] at he
      subst he
      rw [xr_coi hk]
      repeat first | rw [am_u_eq] | rw [am_u_ne _ (Or.inl (by decide))] | rw [am_u_ne _ (Or.inr (by omega))]
  · obtain ⟨p1, p2, p3⟩ := o4
    refine ⟨np, n, w, nt, nh, ng, ns, nl, nc, o1, o2, o3, ⟨fun m hm => ?_, p2, p3⟩, o5⟩
    by_cases hx : m = k
    · subst hx; rw [am_u_eq]; exact c2
    · rw [am_u_ne _ (Or.inr hx)]; exact p1 m hm
theorem x_spans {a : Int32} {b : Int32} {c : Int32} {d : Int32} {e : Int32} {I : am_I} {L : am_L} (h : x_Inv xc I L) : am_K M_X11_spans 2 [.ref 0, .int a, .int b, .int c, .int d, .int e] I L (x_Q xc M_X12_spans 2 [.ref 190, .int a, .int b, .int c, .int d, .int e]) := by
  obtain ⟨hR, hF, ⟨np, n, w, nt, nh, ng, ns, nl, nc, o1, o2, o3, o4, o5⟩, _⟩ := id h
  by_cases c1 : 0 ≤ a ∧ a ≤ 11
  rotate_left
  · exact bm_intro (by decide +kernel) (Nat.le_of_ble_eq_true rfl) (show B_X11_spans_0 _ _ _ _ _ _ _ _ from s_X11_spans_0 ⟨fun q => absurd q c1, fun _ => x_lf h (bm_intro (by decide +kernel) (Nat.le_of_ble_eq_true rfl) (show B_X12_spans_0 _ _ _ _ _ _ _ _ from s_X12_spans_0 (by exact ⟨fun _ => ⟨rfl, rfl, rfl⟩, fun q => absurd q c1⟩)))⟩)
  by_cases c2 : (0 ≤ b ∧ b ≤ 1000000) ∧ b ≤ c ∧ c ≤ 1000000
  rotate_left
  · exact bm_intro (by decide +kernel) (Nat.le_of_ble_eq_true rfl) (show B_X11_spans_0 _ _ _ _ _ _ _ _ from s_X11_spans_0 ⟨fun _ => ⟨fun _ => x_lf h (bm_intro (by decide +kernel) (Nat.le_of_ble_eq_true rfl) (show B_X12_spans_0 _ _ _ _ _ _ _ _ from s_X12_spans_0 (by exact ⟨fun q => absurd c1 q, fun _ => ⟨fun _ => ⟨rfl, rfl, rfl⟩, fun q => absurd q c2⟩⟩))), fun q => absurd q c2⟩, fun q => absurd c1 q⟩)
  by_cases c3 : (0 ≤ d ∧ d ≤ 1000000) ∧ d ≤ e ∧ e ≤ 1000000
  rotate_left
  · exact bm_intro (by decide +kernel) (Nat.le_of_ble_eq_true rfl) (show B_X11_spans_0 _ _ _ _ _ _ _ _ from s_X11_spans_0 ⟨fun _ => ⟨fun q => absurd c2 q, fun _ => ⟨fun q => absurd q c3, fun _ => x_lf h (bm_intro (by decide +kernel) (Nat.le_of_ble_eq_true rfl) (show B_X12_spans_0 _ _ _ _ _ _ _ _ from s_X12_spans_0 (by exact ⟨fun q => absurd c1 q, fun _ => ⟨fun q => absurd c2 q, fun _ => ⟨fun q => absurd q c3, fun _ => ⟨rfl, rfl, rfl⟩⟩⟩⟩)))⟩⟩, fun q => absurd c1 q⟩)
  obtain ⟨k, hk0, e0⟩ := x_ix c1.1 (show a ≤ nI 11 from c1.2) (by decide)
  have hk : k < 12 := by omega
  subst e0
  refine bm_intro (by decide +kernel) (Nat.le_of_ble_eq_true rfl) (show B_X11_spans_0 _ _ _ _ _ _ _ _ from s_X11_spans_0 ⟨fun _ => ⟨fun q => absurd c2 q, fun _ => ⟨fun _ => ⟨(am_vI hk (by decide)), ⟨(am_vI hk (by decide)), ⟨(am_vI hk (by decide)), ⟨(am_vI hk (by decide)), ?_⟩⟩⟩⟩, fun q => absurd c3 q⟩⟩, fun q => absurd c1 q⟩)
  refine bm_intro (by decide +kernel) (Nat.le_of_ble_eq_true rfl) (show B_X12_spans_0 _ _ _ _ _ _ _ _ from s_X12_spans_0 ?_)
  rw [i_spn_0 hk, i_spn_1 hk, i_spn_2 hk, i_spn_3 hk]
  refine ⟨fun q => absurd c1 q, fun _ => ⟨fun q => absurd c2 q, fun _ => ⟨fun _ => ⟨(v_spn_0 hk), ⟨(v_spn_1 hk), ⟨(v_spn_2 hk), ⟨(v_spn_3 hk), ⟨rfl, ?_⟩⟩⟩⟩⟩, fun q => absurd c3 q⟩⟩⟩
  rw [nI_clamp (by omega)]
  refine x_main h (fun a x hx => ?_) (fun a x hx hx2 => ?_) ⟨?_, ?_⟩ ?_ ?_
  · rw [am_u_ne _ (Or.inl (by omega)), am_u_ne _ (Or.inl (by omega)), am_u_ne _ (Or.inl (by omega)), am_u_ne _ (Or.inl (by omega))]
  · rw [am_u_ne _ (Or.inl hx2), am_u_ne _ (Or.inl hx2), am_u_ne _ (Or.inl hx2), am_u_ne _ (Or.inl hx2)]
  · rw [am_u_ne _ (Or.inr (by omega)), am_u_ne _ (Or.inr (by omega)), am_u_ne _ (Or.inr (by omega)), am_u_ne _ (Or.inr (by omega))]
  · rw [am_u_ne _ (Or.inr (by omega)), am_u_ne _ (Or.inr (by omega)), am_u_ne _ (Or.inr (by omega)), am_u_ne _ (Or.inr (by omega))]
  · refine x_upd hR [336 + 4 * k, 337 + 4 * k, 338 + 4 * k, 339 + 4 * k] (fun e he => ?_) (fun p s _ _ _ _ _ hq => ?_) (fun p s _ _ _ _ _ hq => ?_) (fun d hd he => ?_) (fun e he _ => ?_)
    · simp only [List.mem_cons, List.not_mem_nil, or_false, not_or] at he
      rw [am_u_ne _ (Or.inr he.2.2.2), am_u_ne _ (Or.inr he.2.2.1), am_u_ne _ (Or.inr he.2.1), am_u_ne _ (Or.inr he.1)]
    · simp only [List.mem_cons, List.not_mem_nil, or_false, not_or] at hq
      rw [am_u_ne _ (x_ne hq.2.2.2 (xe_spn_3 _ hk)), am_u_ne _ (x_ne hq.2.2.1 (xe_spn_2 _ hk)), am_u_ne _ (x_ne hq.2.1 (xe_spn_1 _ hk)), am_u_ne _ (x_ne hq.1 (xe_spn_0 _ hk))]
    · skip
      rw [am_u_ne _ (Or.inl (by omega)), am_u_ne _ (Or.inl (by omega)), am_u_ne _ (Or.inl (by omega)), am_u_ne _ (Or.inl (by omega))]
    · simp only [List.mem_cons, List.not_mem_nil, or_false] at he ⊢
      omega
    · simp only [List.mem_cons, List.not_mem_nil, or_false] at he
      rcases he with rfl | rfl | rfl | rfl
      · rw [xr_spn_0 hk]
        repeat first | rw [am_u_eq] | rw [am_u_ne _ (Or.inl (by decide))] | rw [am_u_ne _ (Or.inr (by omega))]
      · rw [xr_spn_1 hk]
        repeat first | rw [am_u_eq] | rw [am_u_ne _ (Or.inl (by decide))] | rw [am_u_ne _ (Or.inr (by omega))]
      · rw [xr_spn_2 hk]
        repeat first | rw [am_u_eq] | rw [am_u_ne _ (Or.inl (by decide))] | rw [am_u_ne _ (Or.inr (by omega))]
      · rw [xr_spn_3 hk]
        repeat first | rw [am_u_eq] | rw [am_u_ne _ (Or.inl (by decide))] | rw [am_u_ne _ (Or.inr (by omega))]
  · refine ⟨np, n, w, nt, nh, ng, ns, nl, nc, o1, o2, o3, ⟨o4.1, o4.2.1, o4.2.2.1, fun m hm => ?_⟩, o5⟩
    by_cases hx : m = k
    · subst hx
      refine ⟨?_, ?_, ?_, ?_⟩
      · repeat first | rw [am_u_eq] | rw [am_u_ne _ (Or.inl (by decide))]
        exact c2.1
      · repeat first | rw [am_u_eq] | rw [am_u_ne _ (Or.inl (by decide))]
        exact ⟨Int32.le_trans c2.1.1 c2.2.1, c2.2.2⟩
      · repeat first | rw [am_u_eq] | rw [am_u_ne _ (Or.inl (by decide))]
        exact c3.1
      · repeat first | rw [am_u_eq] | rw [am_u_ne _ (Or.inl (by decide))]
        exact ⟨Int32.le_trans c3.1.1 c3.2.1, c3.2.2⟩
    · have z := o4.2.2.2 m hm
      refine ⟨?_, ?_, ?_, ?_⟩
      · repeat first | rw [am_u_ne _ (Or.inr hx)] | rw [am_u_ne _ (Or.inl (by decide))]
        exact z.1
      · repeat first | rw [am_u_ne _ (Or.inr hx)] | rw [am_u_ne _ (Or.inl (by decide))]
        exact z.2.1
      · repeat first | rw [am_u_ne _ (Or.inr hx)] | rw [am_u_ne _ (Or.inl (by decide))]
        exact z.2.2.1
      · repeat first | rw [am_u_ne _ (Or.inr hx)] | rw [am_u_ne _ (Or.inl (by decide))]
        exact z.2.2.2
theorem x_day {a : Int32} {b : Int32} {c : Int32} {d : Int32} {I : am_I} {L : am_L} (h : x_Inv xc I L) : am_K M_X11_day 1 [.ref 0, .int a, .int b, .int c, .int d] I L (x_Q xc M_X12_day 2 [.ref 190, .int a, .int b, .int c, .int d]) := by
  obtain ⟨hR, hF, ⟨np, n, w, nt, nh, ng, ns, nl, nc, o1, o2, o3, o4, o5⟩, _⟩ := id h
  by_cases c1 : 0 ≤ a ∧ a ≤ 29
  rotate_left
  · exact bm_intro (by decide +kernel) (Nat.le_of_ble_eq_true rfl) (show B_X11_day_0 _ _ _ _ _ _ _ from s_X11_day_0 ⟨fun _ => x_lf h (bm_intro (by decide +kernel) (Nat.le_of_ble_eq_true rfl) (show B_X12_day_0 _ _ _ _ _ _ _ from s_X12_day_0 (by exact ⟨fun _ => ⟨rfl, rfl, rfl⟩, fun q => absurd q c1⟩))), fun q => absurd q c1⟩)
  by_cases c2 : 1 ≤ b ∧ b ≤ 10000
  rotate_left
  · exact bm_intro (by decide +kernel) (Nat.le_of_ble_eq_true rfl) (show B_X11_day_0 _ _ _ _ _ _ _ from s_X11_day_0 ⟨fun q => absurd c1 q, fun _ => ⟨fun q => absurd q c2, fun _ => x_lf h (bm_intro (by decide +kernel) (Nat.le_of_ble_eq_true rfl) (show B_X12_day_0 _ _ _ _ _ _ _ from s_X12_day_0 (by exact ⟨fun q => absurd c1 q, fun _ => ⟨fun _ => ⟨rfl, rfl, rfl⟩, fun q => absurd q c2⟩⟩)))⟩⟩)
  by_cases c3 : b ≤ c ∧ c ≤ 10000
  rotate_left
  · exact bm_intro (by decide +kernel) (Nat.le_of_ble_eq_true rfl) (show B_X11_day_0 _ _ _ _ _ _ _ from s_X11_day_0 ⟨fun q => absurd c1 q, fun _ => ⟨fun _ => ⟨fun _ => x_lf h (bm_intro (by decide +kernel) (Nat.le_of_ble_eq_true rfl) (show B_X12_day_0 _ _ _ _ _ _ _ from s_X12_day_0 (by exact ⟨fun q => absurd c1 q, fun _ => ⟨fun q => absurd c2 q, fun _ => ⟨fun _ => ⟨rfl, rfl, rfl⟩, fun q => absurd q c3⟩⟩⟩))), fun q => absurd q c3⟩, fun q => absurd c2 q⟩⟩)
  by_cases c4 : 0 ≤ d ∧ d ≤ 100000
  rotate_left
  · exact bm_intro (by decide +kernel) (Nat.le_of_ble_eq_true rfl) (show B_X11_day_0 _ _ _ _ _ _ _ from s_X11_day_0 ⟨fun q => absurd c1 q, fun _ => ⟨fun _ => ⟨fun q => absurd c3 q, fun _ => ⟨fun q => absurd q c4, fun _ => x_lf h (bm_intro (by decide +kernel) (Nat.le_of_ble_eq_true rfl) (show B_X12_day_0 _ _ _ _ _ _ _ from s_X12_day_0 (by exact ⟨fun q => absurd c1 q, fun _ => ⟨fun q => absurd c2 q, fun _ => ⟨fun q => absurd c3 q, fun _ => ⟨fun q => absurd q c4, fun _ => ⟨rfl, rfl, rfl⟩⟩⟩⟩⟩)))⟩⟩, fun q => absurd c2 q⟩⟩)
  obtain ⟨k, hk0, e0⟩ := x_ix c1.1 (show a ≤ nI 29 from c1.2) (by decide)
  have hk : k < 30 := by omega
  subst e0
  refine bm_intro (by decide +kernel) (Nat.le_of_ble_eq_true rfl) (show B_X11_day_0 _ _ _ _ _ _ _ from s_X11_day_0 ⟨fun q => absurd c1 q, fun _ => ⟨fun _ => ⟨fun q => absurd c3 q, fun _ => ⟨fun _ => ⟨(am_vI hk (by decide)), ⟨(am_vI hk (by decide)), ⟨(am_vI hk (by decide)), ?_⟩⟩⟩, fun q => absurd c4 q⟩⟩, fun q => absurd c2 q⟩⟩)
  refine bm_intro (by decide +kernel) (Nat.le_of_ble_eq_true rfl) (show B_X12_day_0 _ _ _ _ _ _ _ from s_X12_day_0 ?_)
  rw [i_pap_0 hk, i_pap_1 hk, i_pap_2 hk, i_pap_3 hk]
  refine ⟨fun q => absurd c1 q, fun _ => ⟨fun q => absurd c2 q, fun _ => ⟨fun q => absurd c3 q, fun _ => ⟨fun _ => ⟨(v_pap_0 hk), ⟨(v_pap_1 hk), ⟨(v_pap_2 hk), ⟨(v_pap_3 hk), ⟨rfl, ?_⟩⟩⟩⟩⟩, fun q => absurd c4 q⟩⟩⟩⟩
  rw [nI_clamp (by omega)]
  refine x_main h (fun a x hx => ?_) (fun a x hx hx2 => ?_) ⟨?_, ?_⟩ ?_ ?_
  · rw [am_u_ne _ (Or.inl (by omega)), am_u_ne _ (Or.inl (by omega)), am_u_ne _ (Or.inl (by omega))]
  · rw [am_u_ne _ (Or.inl hx2), am_u_ne _ (Or.inl hx2), am_u_ne _ (Or.inl hx2), am_u_ne _ (Or.inl hx2)]
  · rw [am_u_ne _ (Or.inr (by omega)), am_u_ne _ (Or.inr (by omega)), am_u_ne _ (Or.inr (by omega)), am_u_ne _ (Or.inr (by omega))]
  · rw [am_u_ne _ (Or.inr (by omega)), am_u_ne _ (Or.inr (by omega)), am_u_ne _ (Or.inr (by omega)), am_u_ne _ (Or.inr (by omega))]
  · refine x_upd hR [384 + 4 * k, 385 + 4 * k, 386 + 4 * k, 387 + 4 * k] (fun e he => ?_) (fun p s _ _ _ _ _ hq => ?_) (fun p s _ _ _ _ _ hq => ?_) (fun d hd he => ?_) (fun e he _ => ?_)
    · simp only [List.mem_cons, List.not_mem_nil, or_false, not_or] at he
      rw [am_u_ne _ (Or.inr he.2.2.2), am_u_ne _ (Or.inr he.2.2.1), am_u_ne _ (Or.inr he.2.1), am_u_ne _ (Or.inr he.1)]
    · simp only [List.mem_cons, List.not_mem_nil, or_false, not_or] at hq
      rw [am_u_ne _ (x_ne hq.2.2.2 (xe_pap_3 _ hk)), am_u_ne _ (x_ne hq.2.2.1 (xe_pap_2 _ hk)), am_u_ne _ (x_ne hq.2.1 (xe_pap_1 _ hk))]
    · skip
      rw [am_u_ne _ (Or.inl (by omega)), am_u_ne _ (Or.inl (by omega)), am_u_ne _ (Or.inl (by omega)), am_u_ne _ (Or.inl (by omega))]
    · simp only [List.mem_cons, List.not_mem_nil, or_false] at he ⊢
      omega
    · simp only [List.mem_cons, List.not_mem_nil, or_false] at he
      rcases he with rfl | rfl | rfl | rfl
      · rw [xr_pap_0 hk]
        repeat first | rw [am_u_eq] | rw [am_u_ne _ (Or.inl (by decide))] | rw [am_u_ne _ (Or.inr (by omega))]
        rw [if_neg (fun q => absurd c2.1 (by rw [q]; decide))]
      · rw [xr_pap_1 hk]
        repeat first | rw [am_u_eq] | rw [am_u_ne _ (Or.inl (by decide))] | rw [am_u_ne _ (Or.inr (by omega))]
      · rw [xr_pap_2 hk]
        repeat first | rw [am_u_eq] | rw [am_u_ne _ (Or.inl (by decide))] | rw [am_u_ne _ (Or.inr (by omega))]
      · rw [xr_pap_3 hk]
        repeat first | rw [am_u_eq] | rw [am_u_ne _ (Or.inl (by decide))] | rw [am_u_ne _ (Or.inr (by omega))]
  · exact ⟨np, n, w, nt, nh, ng, ns, nl, nc, o1, o2, o3, o4, o5⟩
theorem x_due {a : Int32} {b : Int32} {c : Int32} {I : am_I} {L : am_L} (h : x_Inv xc I L) : am_K M_X11_due 1 [.ref 0, .int a, .int b, .int c] I L (x_Q xc M_X12_due 2 [.ref 190, .int a, .int b, .int c]) := by
  obtain ⟨hR, hF, ⟨np, n, w, nt, nh, ng, ns, nl, nc, o1, o2, o3, o4, o5⟩, _⟩ := id h
  by_cases c1 : 0 ≤ a ∧ a ≤ 7
  rotate_left
  · exact bm_intro (by decide +kernel) (Nat.le_of_ble_eq_true rfl) (show B_X11_due_0 _ _ _ _ _ _ from s_X11_due_0 ⟨fun _ => x_lf h (bm_intro (by decide +kernel) (Nat.le_of_ble_eq_true rfl) (show B_X12_due_0 _ _ _ _ _ _ from s_X12_due_0 (by exact ⟨fun _ => ⟨rfl, rfl, rfl⟩, fun q => absurd q c1⟩))), fun q => absurd q c1⟩)
  by_cases c2 : 0 ≤ b ∧ b ≤ 7
  rotate_left
  · exact bm_intro (by decide +kernel) (Nat.le_of_ble_eq_true rfl) (show B_X11_due_0 _ _ _ _ _ _ from s_X11_due_0 ⟨fun q => absurd c1 q, fun _ => ⟨fun q => absurd q c2, fun _ => x_lf h (bm_intro (by decide +kernel) (Nat.le_of_ble_eq_true rfl) (show B_X12_due_0 _ _ _ _ _ _ from s_X12_due_0 (by exact ⟨fun q => absurd c1 q, fun _ => ⟨fun _ => ⟨rfl, rfl, rfl⟩, fun q => absurd q c2⟩⟩)))⟩⟩)
  by_cases c3 : a = b
  · exact bm_intro (by decide +kernel) (Nat.le_of_ble_eq_true rfl) (show B_X11_due_0 _ _ _ _ _ _ from s_X11_due_0 ⟨fun q => absurd c1 q, fun _ => ⟨fun _ => ⟨fun _ => x_lf h (bm_intro (by decide +kernel) (Nat.le_of_ble_eq_true rfl) (show B_X12_due_0 _ _ _ _ _ _ from s_X12_due_0 (by exact ⟨fun q => absurd c1 q, fun _ => ⟨fun q => absurd c2 q, fun _ => ⟨fun _ => ⟨rfl, rfl, rfl⟩, fun q => absurd c3 q⟩⟩⟩))), fun q => absurd c3 q⟩, fun q => absurd c2 q⟩⟩)
  by_cases c4 : 0 ≤ c ∧ c ≤ 10000
  rotate_left
  · exact bm_intro (by decide +kernel) (Nat.le_of_ble_eq_true rfl) (show B_X11_due_0 _ _ _ _ _ _ from s_X11_due_0 ⟨fun q => absurd c1 q, fun _ => ⟨fun _ => ⟨fun q => absurd q c3, fun _ => ⟨fun q => absurd q c4, fun _ => x_lf h (bm_intro (by decide +kernel) (Nat.le_of_ble_eq_true rfl) (show B_X12_due_0 _ _ _ _ _ _ from s_X12_due_0 (by exact ⟨fun q => absurd c1 q, fun _ => ⟨fun q => absurd c2 q, fun _ => ⟨fun q => absurd q c3, fun _ => ⟨fun q => absurd q c4, fun _ => ⟨rfl, rfl, rfl⟩⟩⟩⟩⟩)))⟩⟩, fun q => absurd c2 q⟩⟩)
  obtain ⟨k, hk0, e0⟩ := x_ix c1.1 (show a ≤ nI 7 from c1.2) (by decide)
  have hk : k < 8 := by omega
  subst e0
  obtain ⟨j, hj0, e0⟩ := x_ix c2.1 (show b ≤ nI 7 from c2.2) (by decide)
  have hj : j < 8 := by omega
  subst e0
  have hi : k * 8 + j < 64 := by omega
  have he : 852 + 8 * k + j = 852 + (k * 8 + j) := by omega
  refine bm_intro (by decide +kernel) (Nat.le_of_ble_eq_true rfl) (show B_X11_due_0 _ _ _ _ _ _ from s_X11_due_0 ⟨fun q => absurd c1 q, fun _ => ⟨fun _ => ⟨fun q => absurd q c3, fun _ => ⟨fun _ => ⟨(c_vx hk hj), ⟨(c_vx hk hj), ?_⟩⟩, fun q => absurd c4 q⟩⟩, fun q => absurd c2 q⟩⟩)
  refine bm_intro (by decide +kernel) (Nat.le_of_ble_eq_true rfl) (show B_X12_due_0 _ _ _ _ _ _ from s_X12_due_0 ?_)
  rw [i_du hk hj, he]
  refine ⟨fun q => absurd c1 q, fun _ => ⟨fun q => absurd c2 q, fun _ => ⟨fun q => absurd q c3, fun _ => ⟨fun _ => ⟨(v_du hk hj), ⟨(v_du hk hj), ⟨by rw [xh_due hR hi, am_l2i_id, c_ix hk hj], ?_⟩⟩⟩, fun q => absurd c4 q⟩⟩⟩⟩
  rw [c_ix hk hj]
  refine x_main h (fun a x hx => ?_) (fun a x hx hx2 => ?_) ⟨?_, ?_⟩ ?_ ?_
  · rw [am_u_ne _ (Or.inl (by omega))]
  · rw [am_u_ne _ (Or.inl hx2)]
  · rw [am_u_ne _ (Or.inr (by omega))]
  · rw [am_u_ne _ (Or.inr (by omega))]
  · refine x_upd hR [852 + (k * 8 + j)] (fun e he => ?_) (fun p s _ _ _ _ _ hq => ?_) (fun p s _ _ _ _ _ hq => ?_) (fun d hd he => ?_) (fun e he _ => ?_)
    · simp only [List.mem_cons, List.not_mem_nil, or_false, not_or] at he
      rw [am_u_ne _ (Or.inr he)]
    · simp only [List.mem_cons, List.not_mem_nil, or_false, not_or] at hq
      rw [am_u_ne _ (x_ne hq (xe_due _ hi))]
    · skip
      rw [am_u_ne _ (Or.inl (by omega))]
    · simp only [List.mem_cons, List.not_mem_nil, or_false] at he ⊢
      omega
    · simp only [List.mem_cons, List.not_mem_nil, or_false] at he
      subst he
      rw [xr_due hi]
      repeat first | rw [am_u_eq] | rw [am_u_ne _ (Or.inl (by decide))] | rw [am_u_ne _ (Or.inr (by omega))]
  · obtain ⟨p1, p2, p3⟩ := o4
    refine ⟨np, n, w, nt, nh, ng, ns, nl, nc, o1, o2, o3, ⟨p1, fun m hm => ?_, p3⟩, o5⟩
    by_cases hx : m = k * 8 + j
    · subst hx; rw [am_u_eq]; exact c4
    · rw [am_u_ne _ (Or.inr hx)]; exact p2 m hm
theorem x_write {a : Int32} {I : am_I} {L : am_L} (h : x_Inv xc I L) : am_K M_X11_write 1 [.ref 0, .int a] I L (x_Q xc M_X12_write 1 [.ref 190, .int a]) := by
  obtain ⟨hR, hF, ⟨np, n, w, nt, nh, ng, ns, nl, nc, o1, o2, o3, o4, o5⟩, _⟩ := id h
  have f2 : I 15 5 = nI nc := o5.2.2.1
  have t2 : Int64.toInt32 (L 191 1184) = nI nc := by rw [x_i32 (xh_nc hR)]; exact f2
  have hm := x_full (b := 40) f2 o5.2.2.2.1 (by decide)
  by_cases c1 : 0 ≤ a ∧ a ≤ 127
  rotate_left
  · exact bm_intro (by decide +kernel) (Nat.le_of_ble_eq_true rfl) (show B_X11_write_0 _ _ _ _ from s_X11_write_0 ⟨fun q => absurd q c1, fun _ => x_lf h (bm_intro (by decide +kernel) (Nat.le_of_ble_eq_true rfl) (show B_X12_write_0 _ _ _ _ from s_X12_write_0 (by exact ⟨fun q => absurd q c1, fun _ => ⟨rfl, rfl, rfl⟩⟩)))⟩)
  by_cases cz : I 15 5 < 40
  rotate_left
  · exact bm_intro (by decide +kernel) (Nat.le_of_ble_eq_true rfl) (show B_X11_write_0 _ _ _ _ from s_X11_write_0 ⟨fun _ => ⟨fun q => absurd q cz, fun _ => x_lf h (bm_intro (by decide +kernel) (Nat.le_of_ble_eq_true rfl) (show B_X12_write_0 _ _ _ _ from s_X12_write_0 (by exact ⟨fun _ => ⟨fun q => absurd (by rw [t2]; exact hm.2 cz) q, fun _ => ⟨rfl, rfl, rfl⟩⟩, fun q => absurd c1 q⟩)))⟩, fun q => absurd c1 q⟩)
  have hk : nc < 40 := (hm.1 cz).2
  refine bm_intro (by decide +kernel) (Nat.le_of_ble_eq_true rfl) (show B_X11_write_0 _ _ _ _ from s_X11_write_0 ⟨fun _ => ⟨fun _ => ⟨(by rw [f2]; exact am_vI hk (by decide)), ?_⟩, fun q => absurd cz q⟩, fun q => absurd c1 q⟩)
  refine bm_intro (by decide +kernel) (Nat.le_of_ble_eq_true rfl) (show B_X12_write_0 _ _ _ _ from s_X12_write_0 ?_)
  rw [t2, i_rul hk]
  refine ⟨fun _ => ⟨fun _ => ⟨(v_rul hk), ⟨?_, ?_⟩⟩, fun q => absurd q (hm.1 cz).1⟩, fun q => absurd c1 q⟩
  · rw [am_u_eq, am_u_ne _ (Or.inr (by omega)), xh_nc hR, f2, x_inc (by omega), am_l2i_id]
  rw [f2, nI_clamp (by omega)]
  refine x_main h (fun a x hx => ?_) (fun a x hx hx2 => ?_) ⟨?_, ?_⟩ ?_ ?_
  · rw [am_u_ne _ (Or.inl (by omega)), am_u_ne _ (Or.inl (by omega))]
  · rw [am_u_ne _ (Or.inl hx2), am_u_ne _ (Or.inl hx2)]
  · rw [am_u_ne _ (Or.inr (by omega)), am_u_ne _ (Or.inr (by omega))]
  · rw [am_u_ne _ (Or.inr (by omega)), am_u_ne _ (Or.inr (by omega))]
  · refine x_upd hR [976 + nc, 1184] (fun e he => ?_) (fun p s _ _ _ _ _ hq => ?_) (fun p s _ _ _ _ _ hq => ?_) (fun d hd he => ?_) (fun e he _ => ?_)
    · simp only [List.mem_cons, List.not_mem_nil, or_false, not_or] at he
      rw [am_u_ne _ (Or.inr he.2), am_u_ne _ (Or.inr he.1)]
    · simp only [List.mem_cons, List.not_mem_nil, or_false, not_or] at hq
      rw [am_u_ne _ (x_ne hq.2 (by decide)), am_u_ne _ (x_ne hq.1 (xe_rul _ hk))]
    · skip
      rw [am_u_ne _ (Or.inl (by omega)), am_u_ne _ (Or.inl (by omega))]
    · simp only [List.mem_cons, List.not_mem_nil, or_false] at he ⊢
      omega
    · simp only [List.mem_cons, List.not_mem_nil, or_false] at he
      rcases he with rfl | rfl
      · rw [xr_rul hk]
        repeat first | rw [am_u_eq] | rw [am_u_ne _ (Or.inl (by decide))] | rw [am_u_ne _ (Or.inr (by omega))]
      · rw [xr_nc]
        repeat first | rw [am_u_eq] | rw [am_u_ne _ (Or.inl (by decide))] | rw [am_u_ne _ (Or.inr (by omega))]
        rw [xh_nc hR, f2]; exact x_inc (by omega)
  · obtain ⟨p1, p2, p3, p4, p5⟩ := o5
    refine ⟨np, n, w, nt, nh, ng, ns, nl, nc + 1, o1, o2, o3, o4, ⟨p1, p2, ?_, hk, fun m hm => ?_⟩⟩
    · rw [am_u_eq, nI_succ]
    · by_cases hx : m = nc
      · subst hx
        rw [show am_u (am_u I 53 m a) 15 5 (nI m + 1) 53 m = a by repeat first | rw [am_u_eq] | rw [am_u_ne _ (Or.inl (by decide))]]
        exact c1
      · rw [show am_u (am_u I 53 nc a) 15 5 (nI nc + 1) 53 m = I 53 m by repeat first | rw [am_u_ne _ (Or.inr hx)] | rw [am_u_ne _ (Or.inl (by decide))]]
        exact p5 m (by omega)
theorem x_erase  {I : am_I} {L : am_L} (h : x_Inv xc I L) : am_K M_X11_erase 0 [.ref 0] I L (x_Q xc M_X12_erase 1 [.ref 190]) := by
  obtain ⟨hR, hF, ⟨np, n, w, nt, nh, ng, ns, nl, nc, o1, o2, o3, o4, o5⟩, _⟩ := id h
  refine bm_intro (by decide +kernel) (Nat.le_of_ble_eq_true rfl) (show B_X11_erase_0 _ _ _ from s_X11_erase_0 ?_)
  refine bm_intro (by decide +kernel) (Nat.le_of_ble_eq_true rfl) (show B_X12_erase_0 _ _ _ from s_X12_erase_0 ⟨by rw [x_i32 (xh_nc hR)], ?_⟩)
  refine x_main h (fun a x hx => ?_) (fun a x hx hx2 => ?_) ⟨?_, ?_⟩ ?_ ?_
  · rw [am_u_ne _ (Or.inl (by omega))]
  · rw [am_u_ne _ (Or.inl hx2)]
  · rw [am_u_ne _ (Or.inr (by omega))]
  · rw [am_u_ne _ (Or.inr (by omega))]
  · refine x_upd hR [1184] (fun e he => ?_) (fun p s _ _ _ _ _ hq => ?_) (fun p s _ _ _ _ _ hq => ?_) (fun d hd he => ?_) (fun e he _ => ?_)
    · simp only [List.mem_cons, List.not_mem_nil, or_false, not_or] at he
      rw [am_u_ne _ (Or.inr he)]
    · simp only [List.mem_cons, List.not_mem_nil, or_false, not_or] at hq
      rw [am_u_ne _ (x_ne hq (by decide))]
    · skip
      rw [am_u_ne _ (Or.inl (by omega))]
    · simp only [List.mem_cons, List.not_mem_nil, or_false] at he ⊢
      omega
    · simp only [List.mem_cons, List.not_mem_nil, or_false] at he
      subst he
      rw [xr_nc]
      repeat first | rw [am_u_eq] | rw [am_u_ne _ (Or.inl (by decide))] | rw [am_u_ne _ (Or.inr (by omega))]
      rfl
  · exact ⟨np, n, w, nt, nh, ng, ns, nl, 0, o1, o2, o3, o4, ⟨o5.1, o5.2.1, rfl, by decide, fun m hm => absurd hm (Nat.not_lt_zero _)⟩⟩
theorem x_struck {a : Int32} {I : am_I} {L : am_L} (h : x_Inv xc I L) (ha : a = 0 ∨ a = 1) : am_K M_X11_struck 0 [.ref 0, .int a] I L (x_Q xc M_X12_struck 0 [.ref 190, .int a]) := by
  obtain ⟨hR, hF, ⟨np, n, w, nt, nh, ng, ns, nl, nc, o1, o2, o3, o4, o5⟩, _⟩ := id h
  have hs := o4.2.2.1
  have t2 : L 191 1192 = (I 14 2).toInt64 := xh_str hR
  have fin : ∀ v : Int32, (v = 0 ∨ v = 1) → ∀ x : Int64, x = v.toInt64 → x_Inv xc (am_u I 14 2 v) (am_u L 191 1192 x) := by
    intro v hv x hx1
    subst hx1
    refine x_main h (fun a x hx => ?_) (fun a x hx hx2 => ?_) ⟨?_, ?_⟩ ?_ ?_
    · rw [am_u_ne _ (Or.inl (by omega))]
    · rw [am_u_ne _ (Or.inl hx2)]
    · rw [am_u_ne _ (Or.inr (by omega))]
    · rw [am_u_ne _ (Or.inr (by omega))]
    · refine x_upd hR [1192] (fun e he => ?_) (fun p s _ _ _ _ _ hq => ?_) (fun p s _ _ _ _ _ hq => ?_) (fun d hd he => ?_) (fun e he _ => ?_)
      · simp only [List.mem_cons, List.not_mem_nil, or_false, not_or] at he
        rw [am_u_ne _ (Or.inr he)]
      · simp only [List.mem_cons, List.not_mem_nil, or_false, not_or] at hq
        rw [am_u_ne _ (x_ne hq (by decide))]
      · skip
        rw [am_u_ne _ (Or.inl (by omega))]
      · simp only [List.mem_cons, List.not_mem_nil, or_false] at he ⊢
        omega
      · simp only [List.mem_cons, List.not_mem_nil, or_false] at he
        subst he
        rw [xr_str]
        repeat first | rw [am_u_eq] | rw [am_u_ne _ (Or.inl (by decide))] | rw [am_u_ne _ (Or.inr (by omega))]
    · exact ⟨np, n, w, nt, nh, ng, ns, nl, nc, o1, o2, o3, ⟨o4.1, o4.2.1, hv, o4.2.2.2⟩, o5⟩
  rcases ha with e | e <;> subst e <;> rcases hs with e | e
  · refine bm_intro (by decide +kernel) (Nat.le_of_ble_eq_true rfl) (show B_X11_struck_0 _ _ _ _ from s_X11_struck_0 ⟨fun q => absurd e q, fun _ => x_lf h (bm_intro (by decide +kernel) (Nat.le_of_ble_eq_true rfl) (show B_X12_struck_0 _ _ _ _ from s_X12_struck_0 (by rw [t2, e]; exact ⟨fun _ => ⟨fun q => absurd rfl q, fun _ => ⟨rfl, rfl, rfl⟩⟩, fun q => absurd q (by decide)⟩)))⟩)
  · refine bm_intro (by decide +kernel) (Nat.le_of_ble_eq_true rfl) (show B_X11_struck_0 _ _ _ _ from s_X11_struck_0 ⟨fun _ => ⟨Or.inl rfl, bm_intro (by decide +kernel) (Nat.le_of_ble_eq_true rfl) (show B_X12_struck_0 _ _ _ _ from s_X12_struck_0 (by rw [t2, e]; exact ⟨fun q => absurd rfl q, fun _ => ⟨fun _ => ⟨fun _ => ⟨rfl, fin 0 (Or.inl rfl) _ rfl⟩, fun q => absurd rfl q⟩, fun q => absurd q (by decide)⟩⟩))⟩, fun q => absurd (e.symm.trans q) (by decide)⟩)
  · refine bm_intro (by decide +kernel) (Nat.le_of_ble_eq_true rfl) (show B_X11_struck_0 _ _ _ _ from s_X11_struck_0 ⟨fun _ => ⟨Or.inr rfl, bm_intro (by decide +kernel) (Nat.le_of_ble_eq_true rfl) (show B_X12_struck_0 _ _ _ _ from s_X12_struck_0 (by rw [t2, e]; exact ⟨fun _ => ⟨fun _ => ⟨fun q => absurd q (by decide), fun _ => ⟨rfl, fin 1 (Or.inr rfl) _ rfl⟩⟩, fun q => absurd q (by decide)⟩, fun q => absurd q (by decide)⟩))⟩, fun q => absurd (e.symm.trans q) (by decide)⟩)
  · refine bm_intro (by decide +kernel) (Nat.le_of_ble_eq_true rfl) (show B_X11_struck_0 _ _ _ _ from s_X11_struck_0 ⟨fun q => absurd e q, fun _ => x_lf h (bm_intro (by decide +kernel) (Nat.le_of_ble_eq_true rfl) (show B_X12_struck_0 _ _ _ _ from s_X12_struck_0 (by rw [t2, e]; exact ⟨fun q => absurd rfl q, fun _ => ⟨fun q => absurd rfl q, fun _ => ⟨rfl, rfl, rfl⟩⟩⟩)))⟩)
