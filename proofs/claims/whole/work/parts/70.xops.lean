/-! calls that write, by program (gen/k70.py) -/
variable {xc : Nat → Int32}
theorem x_full {F : Int32} {k b : Nat} (hF : F = nI k) (hk : k ≤ b) (hb : b < 2 ^ 20) : (F < nI b → ¬ nI k = nI b ∧ k < b) ∧ (¬ F < nI b → nI k = nI b) := by
  subst hF
  by_cases h : k = b
  · subst h
    exact ⟨fun q => (Int32.lt_irrefl q).elim, fun _ => rfl⟩
  · have hl : k < b := by omega
    refine ⟨fun _ => ⟨fun e => ?_, hl⟩, fun q => absurd (nI_lt hl (by omega)) q⟩
    have e2 := congrArg Int32.toNatClampNeg e
    rw [nI_clamp (by omega), nI_clamp (by omega)] at e2
    omega
theorem x_per {I : am_I} {L : am_L} {np n w : Nat} {a : Int32} (o : x_led I L np n w) (h : 0 ≤ a ∧ a ≤ I 11 3 - 1) : ∃ p, p < np ∧ a = nI p := by
  refine ⟨a.toNatClampNeg, ?_, (am_nI h.1).symm⟩
  have h1 := h.1
  have h2 := h.2
  rw [o.1] at h2
  have hp := o.2.1
  rw [Int32.le_iff_toInt_le] at h1 h2
  have a0 : (0 : Int32).toInt = 0 := by decide
  have a1 : (1 : Int32).toInt = 1 := by decide
  have h3 : (a.toNatClampNeg : Int) = a.toInt := Int.toNat_of_nonneg (by omega)
  rw [Int32.toInt_sub, nI_toInt (by omega), a1] at h2
  simp only [Int.bmod_def] at h2
  omega
theorem x_gift {a : Int32} {b : Int32} {c : Int32} {d : Int32} {I : am_I} {L : am_L} (h : x_Inv xc I L) : am_K M_X11_gift 2 [.ref 0, .int a, .int b, .int c, .int d] I L (x_Q xc M_X12_gift 2 [.ref 190, .int a, .int b, .int c, .int d]) := by
  obtain ⟨hR, hF, ⟨np, n, w, nt, nh, ng, ns, nl, nc, o1, o2, o3, o4, o5⟩, _⟩ := id h
  have t1 : Int64.toInt32 (L 191 1176) = I 11 3 := x_i32 (xh_np hR)
  have t2 : Int64.toInt32 (L 191 1180) = nI ng := by rw [x_i32 (xh_ng hR)]; exact o3.1
  have f2 : I 13 5 = nI ng := o3.1
  have hm := x_full (b := 30) f2 o3.2.1 (by decide)
  by_cases c1 : 0 ≤ a ∧ a ≤ I 11 3 - 1
  rotate_left
  · exact bm_intro (by decide +kernel) (Nat.le_of_ble_eq_true rfl) (show B_X11_gift_0 _ _ _ _ _ _ _ from s_X11_gift_0 ⟨fun _ => x_lf h (bm_intro (by decide +kernel) (Nat.le_of_ble_eq_true rfl) (show B_X12_gift_0 _ _ _ _ _ _ _ from s_X12_gift_0 (by rw [t1]; exact ⟨fun _ => ⟨rfl, rfl, rfl⟩, fun q => absurd q c1⟩))), fun q => absurd q c1⟩)
  by_cases c2 : 0 ≤ b ∧ b ≤ I 11 3 - 1
  rotate_left
  · exact bm_intro (by decide +kernel) (Nat.le_of_ble_eq_true rfl) (show B_X11_gift_0 _ _ _ _ _ _ _ from s_X11_gift_0 ⟨fun q => absurd c1 q, fun _ => ⟨fun _ => x_lf h (bm_intro (by decide +kernel) (Nat.le_of_ble_eq_true rfl) (show B_X12_gift_0 _ _ _ _ _ _ _ from s_X12_gift_0 (by rw [t1]; exact ⟨fun q => absurd c1 q, fun _ => ⟨fun _ => ⟨rfl, rfl, rfl⟩, fun q => absurd q c2⟩⟩))), fun q => absurd q c2⟩⟩)
  by_cases c3 : a = b
  · exact bm_intro (by decide +kernel) (Nat.le_of_ble_eq_true rfl) (show B_X11_gift_0 _ _ _ _ _ _ _ from s_X11_gift_0 ⟨fun q => absurd c1 q, fun _ => ⟨fun q => absurd c2 q, fun _ => ⟨fun q => absurd c3 q, fun _ => x_lf h (bm_intro (by decide +kernel) (Nat.le_of_ble_eq_true rfl) (show B_X12_gift_0 _ _ _ _ _ _ _ from s_X12_gift_0 (by rw [t1]; exact ⟨fun q => absurd c1 q, fun _ => ⟨fun q => absurd c2 q, fun _ => ⟨fun _ => ⟨rfl, rfl, rfl⟩, fun q => absurd c3 q⟩⟩⟩)))⟩⟩⟩)
  by_cases c4 : 0 ≤ c ∧ c ≤ 59
  rotate_left
  · exact bm_intro (by decide +kernel) (Nat.le_of_ble_eq_true rfl) (show B_X11_gift_0 _ _ _ _ _ _ _ from s_X11_gift_0 ⟨fun q => absurd c1 q, fun _ => ⟨fun q => absurd c2 q, fun _ => ⟨fun _ => ⟨fun _ => x_lf h (bm_intro (by decide +kernel) (Nat.le_of_ble_eq_true rfl) (show B_X12_gift_0 _ _ _ _ _ _ _ from s_X12_gift_0 (by rw [t1]; exact ⟨fun q => absurd c1 q, fun _ => ⟨fun q => absurd c2 q, fun _ => ⟨fun q => absurd q c3, fun _ => ⟨fun _ => ⟨rfl, rfl, rfl⟩, fun q => absurd q c4⟩⟩⟩⟩))), fun q => absurd q c4⟩, fun q => absurd q c3⟩⟩⟩)
  by_cases c5 : 1 ≤ d ∧ d ≤ 1000000
  rotate_left
  · exact bm_intro (by decide +kernel) (Nat.le_of_ble_eq_true rfl) (show B_X11_gift_0 _ _ _ _ _ _ _ from s_X11_gift_0 ⟨fun q => absurd c1 q, fun _ => ⟨fun q => absurd c2 q, fun _ => ⟨fun _ => ⟨fun q => absurd c4 q, fun _ => ⟨fun q => absurd q c5, fun _ => x_lf h (bm_intro (by decide +kernel) (Nat.le_of_ble_eq_true rfl) (show B_X12_gift_0 _ _ _ _ _ _ _ from s_X12_gift_0 (by rw [t1]; exact ⟨fun q => absurd c1 q, fun _ => ⟨fun q => absurd c2 q, fun _ => ⟨fun q => absurd q c3, fun _ => ⟨fun q => absurd c4 q, fun _ => ⟨fun q => absurd q c5, fun _ => ⟨rfl, rfl, rfl⟩⟩⟩⟩⟩⟩)))⟩⟩, fun q => absurd q c3⟩⟩⟩)
  by_cases c6 : I 13 5 < 30
  rotate_left
  · exact bm_intro (by decide +kernel) (Nat.le_of_ble_eq_true rfl) (show B_X11_gift_0 _ _ _ _ _ _ _ from s_X11_gift_0 ⟨fun q => absurd c1 q, fun _ => ⟨fun q => absurd c2 q, fun _ => ⟨fun _ => ⟨fun q => absurd c4 q, fun _ => ⟨fun _ => ⟨fun q => absurd q c6, fun _ => x_lf h (bm_intro (by decide +kernel) (Nat.le_of_ble_eq_true rfl) (show B_X12_gift_0 _ _ _ _ _ _ _ from s_X12_gift_0 (by rw [t1]; exact ⟨fun q => absurd c1 q, fun _ => ⟨fun q => absurd c2 q, fun _ => ⟨fun q => absurd q c3, fun _ => ⟨fun q => absurd c4 q, fun _ => ⟨fun _ => ⟨fun q => absurd (by rw [t2]; exact hm.2 c6) q, fun _ => ⟨rfl, rfl, rfl⟩⟩, fun q => absurd c5 q⟩⟩⟩⟩⟩)))⟩, fun q => absurd c5 q⟩⟩, fun q => absurd q c3⟩⟩⟩)
  have hk : ng < 30 := (hm.1 c6).2
  refine bm_intro (by decide +kernel) (Nat.le_of_ble_eq_true rfl) (show B_X11_gift_0 _ _ _ _ _ _ _ from s_X11_gift_0 ⟨fun q => absurd c1 q, fun _ => ⟨fun q => absurd c2 q, fun _ => ⟨fun _ => ⟨fun q => absurd c4 q, fun _ => ⟨fun _ => ⟨fun _ => ⟨_, am_qf_i (k_X0_addGift (by rw [f2]; exact am_vI hk (by decide))), fun v I1 L1 e => ?_⟩, fun q => absurd c6 q⟩, fun q => absurd c5 q⟩⟩, fun q => absurd q c3⟩⟩⟩)
  obtain ⟨q1, q2, q3⟩ := e
  rw [q1, q2, q3]
  refine bm_intro (by decide +kernel) (Nat.le_of_ble_eq_true rfl) (show B_X12_gift_0 _ _ _ _ _ _ _ from s_X12_gift_0 ?_)
  rw [t1, t2, i_gif_0 hk, i_gif_1 hk, i_gif_2 hk, i_gif_3 hk]
  refine ⟨fun q => absurd c1 q, fun _ => ⟨fun q => absurd c2 q, fun _ => ⟨fun q => absurd q c3, fun _ => ⟨fun q => absurd c4 q, fun _ => ⟨fun _ => ⟨fun _ => ⟨(v_gif_0 hk), ⟨(v_gif_1 hk), ⟨(v_gif_2 hk), ⟨(v_gif_3 hk), ⟨by rw [f2], ?_⟩⟩⟩⟩⟩, fun q => absurd q (hm.1 c6).1⟩, fun q => absurd c5 q⟩⟩⟩⟩⟩
  rw [f2, nI_clamp (by omega)]
  refine x_main h (fun a x hx => ?_) (fun a x hx hx2 => ?_) ⟨?_, ?_⟩ ?_ ?_
  · rw [am_u_ne _ (Or.inl (by omega)), am_u_ne _ (Or.inl (by omega)), am_u_ne _ (Or.inl (by omega)), am_u_ne _ (Or.inl (by omega)), am_u_ne _ (Or.inl (by omega))]
  · rw [am_u_ne _ (Or.inl hx2), am_u_ne _ (Or.inl hx2), am_u_ne _ (Or.inl hx2), am_u_ne _ (Or.inl hx2), am_u_ne _ (Or.inl hx2)]
  · rw [am_u_ne _ (Or.inr (by omega)), am_u_ne _ (Or.inr (by omega)), am_u_ne _ (Or.inr (by omega)), am_u_ne _ (Or.inr (by omega)), am_u_ne _ (Or.inr (by omega))]
  · rw [am_u_ne _ (Or.inr (by omega)), am_u_ne _ (Or.inr (by omega)), am_u_ne _ (Or.inr (by omega)), am_u_ne _ (Or.inr (by omega)), am_u_ne _ (Or.inr (by omega))]
  · refine x_upd hR [724 + 4 * ng, 725 + 4 * ng, 726 + 4 * ng, 727 + 4 * ng, 1180] (fun e he => ?_) (fun p s _ _ _ _ _ hq => ?_) (fun p s _ _ _ _ _ hq => ?_) (fun d hd he => ?_) (fun e he _ => ?_)
    · simp only [List.mem_cons, List.not_mem_nil, or_false, not_or] at he
      rw [am_u_ne _ (Or.inr he.2.2.2.2), am_u_ne _ (Or.inr he.2.2.2.1), am_u_ne _ (Or.inr he.2.2.1), am_u_ne _ (Or.inr he.2.1), am_u_ne _ (Or.inr he.1)]
    · simp only [List.mem_cons, List.not_mem_nil, or_false, not_or] at hq
      rw [am_u_ne _ (x_ne hq.2.2.2.2 (by decide)), am_u_ne _ (x_ne hq.2.2.2.1 (xe_gif_3 _ hk)), am_u_ne _ (x_ne hq.2.2.1 (xe_gif_2 _ hk)), am_u_ne _ (x_ne hq.2.1 (xe_gif_1 _ hk)), am_u_ne _ (x_ne hq.1 (xe_gif_0 _ hk))]
    · skip
      rw [am_u_ne _ (Or.inl (by omega)), am_u_ne _ (Or.inl (by omega)), am_u_ne _ (Or.inl (by omega)), am_u_ne _ (Or.inl (by omega)), am_u_ne _ (Or.inl (by omega))]
    · simp only [List.mem_cons, List.not_mem_nil, or_false] at he ⊢
      omega
    · simp only [List.mem_cons, List.not_mem_nil, or_false] at he
      rcases he with rfl | rfl | rfl | rfl | rfl
      · rw [xr_gif_0 hk]
        repeat first | rw [am_u_eq] | rw [am_u_ne _ (Or.inl (by decide))] | rw [am_u_ne _ (Or.inr (by omega))]
      · rw [xr_gif_1 hk]
        repeat first | rw [am_u_eq] | rw [am_u_ne _ (Or.inl (by decide))] | rw [am_u_ne _ (Or.inr (by omega))]
      · rw [xr_gif_2 hk]
        repeat first | rw [am_u_eq] | rw [am_u_ne _ (Or.inl (by decide))] | rw [am_u_ne _ (Or.inr (by omega))]
      · rw [xr_gif_3 hk]
        repeat first | rw [am_u_eq] | rw [am_u_ne _ (Or.inl (by decide))] | rw [am_u_ne _ (Or.inr (by omega))]
      · rw [xr_ng]
        repeat first | rw [am_u_eq] | rw [am_u_ne _ (Or.inl (by decide))] | rw [am_u_ne _ (Or.inr (by omega))]
        rw [xh_ng hR, f2]; exact x_inc (by omega)
  · obtain ⟨p1, p2, p3, p4, p5, p6, p7⟩ := o3
    obtain ⟨x1, e1⟩ := x_per o1 c1
    obtain ⟨x2, e2⟩ := x_per o1 c2
    refine ⟨np, n, w, nt, nh, ng + 1, ns, nl, nc, o1, o2, ⟨?_, hk, p3, p4, p5, fun g hg => ?_, p7⟩, o4, o5⟩
    · rw [am_u_eq, nI_succ]
    · by_cases hgn : g = ng
      · subst hgn
        refine ⟨x1, x2, e1.1, e2.1, ?_, ?_⟩
        · rw [e1.2]
          repeat first | rw [am_u_eq] | rw [am_u_ne _ (Or.inl (by decide))]
        · rw [e2.2]
          repeat first | rw [am_u_eq] | rw [am_u_ne _ (Or.inl (by decide))]
      · obtain ⟨y1, y2, y3, y4, y5, y6⟩ := p6 g (by omega)
        refine ⟨y1, y2, y3, y4, ?_, ?_⟩
        · rw [← y5]
          repeat first | rw [am_u_ne _ (Or.inr hgn)] | rw [am_u_ne _ (Or.inl (by decide))]
        · rw [← y6]
          repeat first | rw [am_u_ne _ (Or.inr hgn)] | rw [am_u_ne _ (Or.inl (by decide))]
