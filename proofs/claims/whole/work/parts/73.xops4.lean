/-! calls that write, by program (gen/k73.py): sums in and out -/
variable {xc : Nat → Int32}
theorem x_m1 {x : Int32} : x.toInt64 = -1 ↔ x = -1 := by
  refine ⟨fun h => ?_, fun h => by rw [h]; rfl⟩
  have := congrArg Int64.toInt32 h
  rw [am_l2i_id] at this
  rw [this]; rfl
theorem x_t64 {a b : Int64} (h1 : -(2 ^ 62) ≤ a.toInt + b.toInt) (h2 : a.toInt + b.toInt < 2 ^ 62) : (a + b).toInt = a.toInt + b.toInt := by
  rw [Int64.toInt_add]
  simp only [Int.bmod_def]
  omega
theorem x_capb : ∀ w, w < 61 → 1000000 ≤ x_cap w ∧ x_cap w ≤ 100000000 := by decide +kernel
theorem k_X12_addRow {p n : Nat} {s : Int64} {I : am_I} {L : am_L} (hp : p < 12) (hn : Int64.toInt32 (L 191 1177) = nI n) (hk : n < 100) : am_K M_X12_addRow 1 [.ref 190, .int (nI p), .long s] I L (am_qf none I (am_u (am_u (am_u (am_u (am_u (am_u L 191 (36 + 3 * n) (nI p).toInt64) 191 (37 + 3 * n) (L 191 1178)) 191 (38 + 3 * n) s) 191 1177 (L 191 1177 + 1)) 191 1185 (L 191 1185 + s)) 191 (2 + 3 * p) (L 191 (2 + 3 * p) + s))) := by
  refine bm_intro (by decide +kernel) (Nat.le_of_ble_eq_true rfl) (show B_X12_addRow_0 _ _ _ _ _ from s_X12_addRow_0 ?_)
  rw [hn, i_row_0 hk, i_row_1 hk, i_row_2 hk, i_per_2 hp]
  refine ⟨v_row_0 hk, v_row_1 hk, v_row_2 hk, v_per_2 hp, v_per_2 hp, rfl, rfl, ?_⟩
  repeat rw [am_u_ne _ (Or.inr (by omega))]
/-- a row more -/
theorem x_row {I : am_I} {L : am_L} {np n w nt nh ng ns nl nc k : Nat} {s : Int32} (h : x_Inv xc I L) (o1 : x_led I L np n w) (o2 : x_pap I nt nh) (o3 : x_cla I np ng ns) (o4 : x_hou I) (o5 : x_let I nl nc) (hn : n < 100) (hkp : k < np) (hs : -1000000 ≤ s ∧ s ≤ 1000000) (hs2 : 0 ≤ s ∨ -s.toInt ≤ (L 18 k).toInt) :
    x_Inv xc (am_u (am_u (am_u (am_u I 19 n (nI k)) 20 n (I 11 8)) 21 n s) 11 7 (I 11 7 + 1)) (am_u (am_u (am_u (am_u (am_u (am_u (am_u (am_u L 11 11 (L 11 11 + s.toInt64)) 18 k (L 18 k + s.toInt64)) 191 (36 + 3 * n) (nI k).toInt64) 191 (37 + 3 * n) (L 191 1178)) 191 (38 + 3 * n) s.toInt64) 191 1177 (L 191 1177 + 1)) 191 1185 (L 191 1185 + s.toInt64)) 191 (2 + 3 * k) (L 191 (2 + 3 * k) + s.toInt64)) := by
  have hR := h.1
  have f2 : I 11 7 = nI n := o1.2.2.1
  have hk : k < 12 := Nat.lt_of_lt_of_le hkp o1.2.1
  refine x_main h (fun a x hx => ?_) (fun a x hx hx2 => ?_) ⟨?_, ?_⟩ ?_ ?_
  · rw [am_u_ne _ (Or.inl (by omega)), am_u_ne _ (Or.inl (by omega)), am_u_ne _ (Or.inl (by omega)), am_u_ne _ (Or.inl (by omega))]
  · rw [am_u_ne _ (Or.inl hx2), am_u_ne _ (Or.inl hx2), am_u_ne _ (Or.inl hx2), am_u_ne _ (Or.inl hx2), am_u_ne _ (Or.inl hx2), am_u_ne _ (Or.inl hx2), am_u_ne _ (Or.inl (by omega)), am_u_ne _ (Or.inl (by omega))]
  · rw [am_u_ne _ (Or.inr (by omega)), am_u_ne _ (Or.inr (by omega)), am_u_ne _ (Or.inr (by omega)), am_u_ne _ (Or.inr (by omega)), am_u_ne _ (Or.inr (by omega)), am_u_ne _ (Or.inr (by omega)), am_u_ne _ (Or.inl (by decide)), am_u_ne _ (Or.inl (by decide))]
  · rw [am_u_ne _ (Or.inr (by omega)), am_u_ne _ (Or.inr (by omega)), am_u_ne _ (Or.inr (by omega)), am_u_ne _ (Or.inr (by omega)), am_u_ne _ (Or.inr (by omega)), am_u_ne _ (Or.inr (by omega)), am_u_ne _ (Or.inl (by decide)), am_u_ne _ (Or.inl (by decide))]
  · refine x_upd hR [36 + 3 * n, 37 + 3 * n, 38 + 3 * n, 1177, 1185, 2 + 3 * k] (fun e he => ?_) (fun p s _ _ _ _ _ hq => ?_) (fun p s _ _ _ _ _ hq => ?_) (fun d hd he => ?_) (fun e he _ => ?_)
    · simp only [List.mem_cons, List.not_mem_nil, or_false, not_or] at he
      rw [am_u_ne _ (Or.inr he.2.2.2.2.2), am_u_ne _ (Or.inr he.2.2.2.2.1), am_u_ne _ (Or.inr he.2.2.2.1), am_u_ne _ (Or.inr he.2.2.1), am_u_ne _ (Or.inr he.2.1), am_u_ne _ (Or.inr he.1), am_u_ne _ (Or.inl (by decide)), am_u_ne _ (Or.inl (by decide))]
    · simp only [List.mem_cons, List.not_mem_nil, or_false, not_or] at hq
      rw [am_u_ne _ (x_ne hq.2.2.2.1 (by decide)), am_u_ne _ (x_ne hq.2.2.1 (xe_row_2 _ hn)), am_u_ne _ (x_ne hq.2.1 (xe_row_1 _ hn)), am_u_ne _ (x_ne hq.1 (xe_row_0 _ hn))]
    · simp only [List.mem_cons, List.not_mem_nil, or_false, not_or] at hq
      rw [am_u_ne _ (Or.inl (by omega)), am_u_ne _ (Or.inl (by omega)), am_u_ne _ (Or.inl (by omega)), am_u_ne _ (Or.inl (by omega)), am_u_ne _ (Or.inl (by omega)), am_u_ne _ (Or.inl (by omega)), am_u_ne _ (x_ne hq.2.2.2.2.2 (xe_per_2 _ hk)), am_u_ne _ (x_ne hq.2.2.2.2.1 (by decide))]
    · simp only [List.mem_cons, List.not_mem_nil, or_false] at he ⊢
      omega
    · simp only [List.mem_cons, List.not_mem_nil, or_false] at he
      rcases he with rfl | rfl | rfl | rfl | rfl | rfl
      · rw [xr_row_0 hn]
        repeat first | rw [am_u_eq] | rw [am_u_ne _ (Or.inl (by decide))] | rw [am_u_ne _ (Or.inr (by omega))]
      · rw [xr_row_1 hn]
        repeat first | rw [am_u_eq] | rw [am_u_ne _ (Or.inl (by decide))] | rw [am_u_ne _ (Or.inr (by omega))]
        exact xh_now hR
      · rw [xr_row_2 hn]
        repeat first | rw [am_u_eq] | rw [am_u_ne _ (Or.inl (by decide))] | rw [am_u_ne _ (Or.inr (by omega))]
      · rw [xr_rows]
        repeat first | rw [am_u_eq] | rw [am_u_ne _ (Or.inl (by decide))] | rw [am_u_ne _ (Or.inr (by omega))]
        rw [xh_rows hR, f2]; exact x_inc (by omega)
      · rw [xr_acc]
        repeat first | rw [am_u_eq] | rw [am_u_ne _ (Or.inl (by decide))] | rw [am_u_ne _ (Or.inr (by omega))]
        rw [xh_acc hR]
      · rw [xr_per_2 hk]
        repeat first | rw [am_u_eq] | rw [am_u_ne _ (Or.inl (by decide))] | rw [am_u_ne _ (Or.inr (by omega))]
        rw [xh_per_2 hR hk]
  · obtain ⟨p1, p2, p3, p4, p5, p6, p7, p8, p9, p10⟩ := o1
    have hcap := x_capb w (by omega)
    have hst : s.toInt64.toInt = s.toInt := Int32.toInt_toInt64 s
    have hsb : -1000000 ≤ s.toInt ∧ s.toInt ≤ 1000000 := by
      have q1 := hs.1
      have q2 := hs.2
      rw [Int32.le_iff_toInt_le] at q1 q2
      have a1 : (-1000000 : Int32).toInt = -1000000 := by decide
      have a2 : (1000000 : Int32).toInt = 1000000 := by decide
      omega
    have hmul : (n + 1) * x_cap w = n * x_cap w + x_cap w := by rw [Nat.add_mul, Nat.one_mul]
    have hmx : n * x_cap w ≤ 100 * 100000000 := Nat.mul_le_mul (by omega) hcap.2
    refine ⟨np, n + 1, w, nt, nh, ng, ns, nl, nc, ⟨p1, p2, ?_, hn, p5, p6, p7, fun r hr => ?_, fun p hp => ?_, p10⟩, o2, o3, o4, o5⟩
    · rw [am_u_eq, f2, nI_succ]
    · by_cases hx : r = n
      · subst hx
        refine ⟨k, w, hkp, p6, ?_, ?_, ?_⟩
        · repeat first | rw [am_u_eq] | rw [am_u_ne _ (Or.inl (by decide))]
        · rw [show (am_u (am_u (am_u (am_u I 19 r (nI k)) 20 r (I 11 8)) 21 r s) 11 7 (I 11 7 + 1)) 20 r = I 11 8 by repeat first | rw [am_u_eq] | rw [am_u_ne _ (Or.inl (by decide))]]; exact p5
        · rw [show (am_u (am_u (am_u (am_u I 19 r (nI k)) 20 r (I 11 8)) 21 r s) 11 7 (I 11 7 + 1)) 21 r = s by repeat first | rw [am_u_eq] | rw [am_u_ne _ (Or.inl (by decide))]]; exact hs
      · obtain ⟨x, m, y1, y2, y3, y4, y5⟩ := p8 r (by omega)
        refine ⟨x, m, y1, y2, ?_, ?_, ?_⟩
        · rw [← y3]
          repeat first | rw [am_u_ne _ (Or.inr hx)] | rw [am_u_ne _ (Or.inl (by decide))]
        · rw [← y4]
          repeat first | rw [am_u_ne _ (Or.inr hx)] | rw [am_u_ne _ (Or.inl (by decide))]
        · rw [show (am_u (am_u (am_u (am_u I 19 n (nI k)) 20 n (I 11 8)) 21 n s) 11 7 (I 11 7 + 1)) 21 r = I 21 r by repeat first | rw [am_u_ne _ (Or.inr hx)] | rw [am_u_ne _ (Or.inl (by decide))]]
          exact y5
    · have z := p9 p hp
      have hs0 : 0 ≤ s → 0 ≤ s.toInt := fun q => by
        rw [Int32.le_iff_toInt_le] at q
        have a0 : (0 : Int32).toInt = 0 := by decide
        omega
      by_cases hx : p = k
      · subst hx
        repeat rw [am_u_ne _ (Or.inl (by decide))]
        rw [am_u_eq, hmul]
        rw [x_t64 (by omega) (by omega), hst]
        rcases hs2 with q | q
        · have := hs0 q
          omega
        · omega
      · repeat first | rw [am_u_ne _ (Or.inr hx)] | rw [am_u_ne _ (Or.inl (by decide))]
        rw [hmul]
        omega
theorem x_puts {a : Int32} {b : Int32} {I : am_I} {L : am_L} (h : x_Inv xc I L) : am_K M_X11_puts 2 [.ref 0, .int a, .int b] I L (x_Q xc M_X12_puts 2 [.ref 190, .int a, .int b]) := by
  obtain ⟨hR, hF, ⟨np, n, w, nt, nh, ng, ns, nl, nc, o1, o2, o3, o4, o5⟩, _⟩ := id h
  have t1 : Int64.toInt32 (L 191 1176) = I 11 3 := x_i32 (xh_np hR)
  have f2 : I 11 7 = nI n := o1.2.2.1
  have t2 : Int64.toInt32 (L 191 1177) = nI n := by rw [x_i32 (xh_rows hR)]; exact f2
  have hm := x_full (b := 100) f2 o1.2.2.2.1 (by decide)
  have t3 : L 191 1188 = (I 11 13).toInt64 := xh_fell hR
  by_cases c1 : 0 ≤ a ∧ a ≤ I 11 3 - 1
  rotate_left
  · exact bm_intro (by decide +kernel) (Nat.le_of_ble_eq_true rfl) (show B_X11_puts_0 _ _ _ _ _ from s_X11_puts_0 ⟨fun _ => x_lf h (bm_intro (by decide +kernel) (Nat.le_of_ble_eq_true rfl) (show B_X12_puts_0 _ _ _ _ _ from s_X12_puts_0 (by rw [t1]; exact ⟨fun _ => ⟨rfl, rfl, rfl⟩, fun q => absurd q c1⟩))), fun q => absurd q c1⟩)
  by_cases c2 : 1 ≤ b ∧ b ≤ 1000000
  rotate_left
  · exact bm_intro (by decide +kernel) (Nat.le_of_ble_eq_true rfl) (show B_X11_puts_0 _ _ _ _ _ from s_X11_puts_0 ⟨fun q => absurd c1 q, fun _ => ⟨fun q => absurd q c2, fun _ => x_lf h (bm_intro (by decide +kernel) (Nat.le_of_ble_eq_true rfl) (show B_X12_puts_0 _ _ _ _ _ from s_X12_puts_0 (by rw [t1]; exact ⟨fun q => absurd c1 q, fun _ => ⟨fun q => absurd q c2, fun _ => ⟨rfl, rfl, rfl⟩⟩⟩)))⟩⟩)
  by_cases c3 : I 11 13 = -1
  rotate_left
  · exact bm_intro (by decide +kernel) (Nat.le_of_ble_eq_true rfl) (show B_X11_puts_0 _ _ _ _ _ from s_X11_puts_0 ⟨fun q => absurd c1 q, fun _ => ⟨fun _ => ⟨fun q => absurd q c3, fun _ => x_lf h (bm_intro (by decide +kernel) (Nat.le_of_ble_eq_true rfl) (show B_X12_puts_0 _ _ _ _ _ from s_X12_puts_0 (by rw [t1]; exact ⟨fun q => absurd c1 q, fun _ => ⟨fun _ => ⟨fun q => absurd (show ¬ L 191 1188 = -1 from fun q => c3 (x_m1.mp (by rw [← t3]; exact q))) q, fun _ => ⟨rfl, rfl, rfl⟩⟩, fun q => absurd c2 q⟩⟩)))⟩, fun q => absurd c2 q⟩⟩)
  by_cases cz : I 11 7 < 100
  rotate_left
  · exact bm_intro (by decide +kernel) (Nat.le_of_ble_eq_true rfl) (show B_X11_puts_0 _ _ _ _ _ from s_X11_puts_0 ⟨fun q => absurd c1 q, fun _ => ⟨fun _ => ⟨fun _ => ⟨fun q => absurd q cz, fun _ => x_lf h (bm_intro (by decide +kernel) (Nat.le_of_ble_eq_true rfl) (show B_X12_puts_0 _ _ _ _ _ from s_X12_puts_0 (by rw [t1]; exact ⟨fun q => absurd c1 q, fun _ => ⟨fun _ => ⟨fun _ => ⟨fun q => absurd (by rw [t2]; exact hm.2 cz) q, fun _ => ⟨rfl, rfl, rfl⟩⟩, fun q => absurd (by rw [t3]; exact x_m1.mpr c3) q⟩, fun q => absurd c2 q⟩⟩)))⟩, fun q => absurd c3 q⟩, fun q => absurd c2 q⟩⟩)
  have hn : n < 100 := (hm.1 cz).2
  obtain ⟨k, hkp, e0⟩ := x_per o1 c1
  subst e0
  have hk : k < 12 := Nat.lt_of_lt_of_le hkp o1.2.1
  refine bm_intro (by decide +kernel) (Nat.le_of_ble_eq_true rfl) (show B_X11_puts_0 _ _ _ _ _ from s_X11_puts_0 ⟨fun q => absurd c1 q, fun _ => ⟨fun _ => ⟨fun _ => ⟨fun _ => ⟨_, am_qf_i (k_X4_addRow (by rw [f2]; exact am_vI hn (by decide)) (am_vI hk (by decide))), fun v I1 L1 e => ?_⟩, fun q => absurd cz q⟩, fun q => absurd c3 q⟩, fun q => absurd c2 q⟩⟩)
  obtain ⟨q1, q2, q3⟩ := e
  rw [q1, q2, q3, f2, nI_clamp (by omega), nI_clamp (by omega), Int32.add_sub_cancel]
  have u : ∀ e, (am_u (am_u L 11 11 (L 11 11 + b.toInt64)) 18 k (L 18 k + b.toInt64)) 191 e = L 191 e := fun e => by rw [am_u_ne _ (Or.inl (by decide)), am_u_ne _ (Or.inl (by decide))]
  have fin := x_row (k := k) (s := b) h o1 o2 o3 o4 o5 hn hkp ⟨Int32.le_trans (by decide) c2.1, c2.2⟩ (Or.inl (Int32.le_trans (by decide) c2.1))
  rw [f2] at fin
  refine bm_intro (by decide +kernel) (Nat.le_of_ble_eq_true rfl) (show B_X12_puts_0 _ _ _ _ _ from s_X12_puts_0 ?_)
  rw [u, u, u, t1, t2, t3]
  refine ⟨fun q => absurd c1 q, fun _ => ⟨fun _ => ⟨fun _ => ⟨fun _ => ⟨_, am_qf_v (k_X12_addRow hk (by rw [u]; exact t2) hn), fun I1 L1 e => ?_⟩, fun q => absurd q (hm.1 cz).1⟩, fun q => absurd (x_m1.mpr c3) q⟩, fun q => absurd c2 q⟩⟩
  obtain ⟨q1, q2⟩ := e
  rw [q1, q2, u, u, u, u]
  refine ⟨?_, fin⟩
  rw [am_u_ne _ (Or.inr (by omega)), am_u_ne _ (Or.inr (by omega)), am_u_eq, xh_rows hR, f2, x_inc (by omega), am_l2i_id, Int32.add_sub_cancel]
theorem x_draws {a : Int32} {b : Int32} {I : am_I} {L : am_L} (h : x_Inv xc I L) : am_K M_X11_draws 2 [.ref 0, .int a, .int b] I L (x_Q xc M_X12_draws 2 [.ref 190, .int a, .int b]) := by
  obtain ⟨hR, hF, ⟨np, n, w, nt, nh, ng, ns, nl, nc, o1, o2, o3, o4, o5⟩, _⟩ := id h
  have t1 : Int64.toInt32 (L 191 1176) = I 11 3 := x_i32 (xh_np hR)
  have f2 : I 11 7 = nI n := o1.2.2.1
  have t2 : Int64.toInt32 (L 191 1177) = nI n := by rw [x_i32 (xh_rows hR)]; exact f2
  have hm := x_full (b := 100) f2 o1.2.2.2.1 (by decide)
  have t3 : L 191 1188 = (I 11 13).toInt64 := xh_fell hR
  have t4 : L 191 1185 = L 11 11 := xh_acc hR
  by_cases c1 : 0 ≤ a ∧ a ≤ I 11 3 - 1
  rotate_left
  · exact bm_intro (by decide +kernel) (Nat.le_of_ble_eq_true rfl) (show B_X11_draws_0 _ _ _ _ _ from s_X11_draws_0 ⟨fun _ => x_lf h (bm_intro (by decide +kernel) (Nat.le_of_ble_eq_true rfl) (show B_X12_draws_0 _ _ _ _ _ from s_X12_draws_0 (by rw [t1, t2, t3, t4]; exact ⟨fun _ => ⟨rfl, rfl, rfl⟩, fun q => absurd q c1⟩))), fun q => absurd q c1⟩)
  obtain ⟨k, hkp, e0⟩ := x_per o1 c1
  subst e0
  have hk : k < 12 := Nat.lt_of_lt_of_le hkp o1.2.1
  have ck : (nI k).toNatClampNeg = k := nI_clamp (by omega)
  have t5 : L 191 (2 + 3 * k) = L 18 k := xh_per_2 hR hk
  by_cases c2 : 1 ≤ b ∧ b ≤ 1000000
  rotate_left
  · exact bm_intro (by decide +kernel) (Nat.le_of_ble_eq_true rfl) (show B_X11_draws_0 _ _ _ _ _ from s_X11_draws_0 ⟨fun q => absurd c1 q, fun _ => ⟨fun q => absurd q c2, fun _ => x_lf h (bm_intro (by decide +kernel) (Nat.le_of_ble_eq_true rfl) (show B_X12_draws_0 _ _ _ _ _ from s_X12_draws_0 (by rw [t1, t2, t3, t4]; exact ⟨fun q => absurd c1 q, fun _ => ⟨fun q => absurd q c2, fun _ => ⟨rfl, rfl, rfl⟩⟩⟩)))⟩⟩)
  by_cases c3 : I 11 13 = -1
  rotate_left
  · exact bm_intro (by decide +kernel) (Nat.le_of_ble_eq_true rfl) (show B_X11_draws_0 _ _ _ _ _ from s_X11_draws_0 ⟨fun q => absurd c1 q, fun _ => ⟨fun _ => ⟨fun _ => x_lf h (bm_intro (by decide +kernel) (Nat.le_of_ble_eq_true rfl) (show B_X12_draws_0 _ _ _ _ _ from s_X12_draws_0 (by rw [t1, t2, t3, t4]; exact ⟨fun q => absurd c1 q, fun _ => ⟨fun _ => ⟨fun _ => ⟨rfl, rfl, rfl⟩, fun q => absurd (fun q => c3 (x_m1.mp q)) q⟩, fun q => absurd c2 q⟩⟩))), fun q => absurd q c3⟩, fun q => absurd c2 q⟩⟩)
  by_cases c4 : b.toInt64 ≤ L 18 k
  rotate_left
  · exact bm_intro (by decide +kernel) (Nat.le_of_ble_eq_true rfl) (show B_X11_draws_0 _ _ _ _ _ from s_X11_draws_0 ⟨fun q => absurd c1 q, fun _ => ⟨fun _ => ⟨fun q => absurd c3 q, fun _ => ⟨(am_vI hk (by decide)), ⟨fun q => absurd q (show ¬ b.toInt64 ≤ L 18 (nI k).toNatClampNeg by rw [ck]; exact c4), fun _ => x_lf h (bm_intro (by decide +kernel) (Nat.le_of_ble_eq_true rfl) (show B_X12_draws_0 _ _ _ _ _ from s_X12_draws_0 (by rw [t1, t2, t3, t4]; exact ⟨fun q => absurd c1 q, fun _ => ⟨fun _ => ⟨fun q => absurd (x_m1.mpr c3) q, fun _ => ⟨(v_per_2 hk), ⟨fun q => absurd q (show ¬ b.toInt64 ≤ L 191 (0 + 3 * nI k + 2).toNatClampNeg by rw [i_per_2 hk, t5]; exact c4), fun _ => ⟨rfl, rfl, rfl⟩⟩⟩⟩, fun q => absurd c2 q⟩⟩)))⟩⟩⟩, fun q => absurd c2 q⟩⟩)
  by_cases cz : I 11 7 < 100
  rotate_left
  · exact bm_intro (by decide +kernel) (Nat.le_of_ble_eq_true rfl) (show B_X11_draws_0 _ _ _ _ _ from s_X11_draws_0 ⟨fun q => absurd c1 q, fun _ => ⟨fun _ => ⟨fun q => absurd c3 q, fun _ => ⟨(am_vI hk (by decide)), ⟨fun _ => ⟨fun q => absurd q cz, fun _ => x_lf h (bm_intro (by decide +kernel) (Nat.le_of_ble_eq_true rfl) (show B_X12_draws_0 _ _ _ _ _ from s_X12_draws_0 (by rw [t1, t2, t3, t4]; exact ⟨fun q => absurd c1 q, fun _ => ⟨fun _ => ⟨fun q => absurd (x_m1.mpr c3) q, fun _ => ⟨(v_per_2 hk), ⟨fun _ => ⟨fun q => absurd (hm.2 cz) q, fun _ => ⟨rfl, rfl, rfl⟩⟩, fun q => absurd (show b.toInt64 ≤ L 191 (0 + 3 * nI k + 2).toNatClampNeg by rw [i_per_2 hk, t5]; exact c4) q⟩⟩⟩, fun q => absurd c2 q⟩⟩)))⟩, fun q => absurd (show b.toInt64 ≤ L 18 (nI k).toNatClampNeg by rw [ck]; exact c4) q⟩⟩⟩, fun q => absurd c2 q⟩⟩)
  have hn : n < 100 := (hm.1 cz).2
  by_cases c5 : b.toInt64 ≤ L 11 11
  rotate_left
  · refine bm_intro (by decide +kernel) (Nat.le_of_ble_eq_true rfl) (show B_X11_draws_0 _ _ _ _ _ from s_X11_draws_0 ⟨fun q => absurd c1 q, fun _ => ⟨fun _ => ⟨fun q => absurd c3 q, fun _ => ⟨(am_vI hk (by decide)), ⟨fun _ => ⟨fun _ => ⟨fun q => absurd q c5, fun _ => ?_⟩, fun q => absurd cz q⟩, fun q => absurd (show b.toInt64 ≤ L 18 (nI k).toNatClampNeg by rw [ck]; exact c4) q⟩⟩⟩, fun q => absurd c2 q⟩⟩)
    refine bm_intro (by decide +kernel) (Nat.le_of_ble_eq_true rfl) (show B_X12_draws_0 _ _ _ _ _ from s_X12_draws_0 ?_)
    rw [t1, t2, t3, t4]
    refine ⟨fun q => absurd c1 q, fun _ => ⟨fun _ => ⟨fun q => absurd (x_m1.mpr c3) q, fun _ => ⟨(v_per_2 hk), ⟨fun _ => ⟨fun _ => ⟨fun q => absurd q c5, fun _ => ⟨rfl, ?_⟩⟩, fun q => absurd q (hm.1 cz).1⟩, fun q => absurd (show b.toInt64 ≤ L 191 (0 + 3 * nI k + 2).toNatClampNeg by rw [i_per_2 hk, t5]; exact c4) q⟩⟩⟩, fun q => absurd c2 q⟩⟩
    refine x_main h (fun a x hx => ?_) (fun a x hx hx2 => ?_) ⟨?_, ?_⟩ ?_ ?_
    · rw [am_u_ne _ (Or.inl (by omega))]
    · rw [am_u_ne _ (Or.inl hx2)]
    · rw [am_u_ne _ (Or.inr (by omega))]
    · rw [am_u_ne _ (Or.inr (by omega))]
    · refine x_upd hR [1188] (fun e he => ?_) (fun p s _ _ _ _ _ hq => ?_) (fun p s _ _ _ _ _ hq => ?_) (fun d hd he => ?_) (fun e he _ => ?_)
      · simp only [List.mem_cons, List.not_mem_nil, or_false, not_or] at he
        rw [am_u_ne _ (Or.inr he)]
      · simp only [List.mem_cons, List.not_mem_nil, or_false, not_or] at hq
        rw [am_u_ne _ (x_ne hq (by decide))]
      · skip
        rw [am_u_ne _ (Or.inl (by omega))]
      · simp only [List.mem_cons, List.not_mem_nil, or_false] at he ⊢
        omega
      · simp only [List.mem_cons, List.not_mem_nil, or_false] at he
        subst he
        rw [xr_fell]
        repeat first | rw [am_u_eq] | rw [am_u_ne _ (Or.inl (by decide))] | rw [am_u_ne _ (Or.inr (by omega))]
        exact xh_now hR
    · exact ⟨np, n, w, nt, nh, ng, ns, nl, nc, o1, o2, o3, o4, o5⟩
  refine bm_intro (by decide +kernel) (Nat.le_of_ble_eq_true rfl) (show B_X11_draws_0 _ _ _ _ _ from s_X11_draws_0 ⟨fun q => absurd c1 q, fun _ => ⟨fun _ => ⟨fun q => absurd c3 q, fun _ => ⟨(am_vI hk (by decide)), ⟨fun _ => ⟨fun _ => ⟨fun _ => ⟨_, am_qf_i (k_X4_addRow (by rw [f2]; exact am_vI hn (by decide)) (am_vI hk (by decide))), fun v I1 L1 e => ?_⟩, fun q => absurd c5 q⟩, fun q => absurd cz q⟩, fun q => absurd (show b.toInt64 ≤ L 18 (nI k).toNatClampNeg by rw [ck]; exact c4) q⟩⟩⟩, fun q => absurd c2 q⟩⟩)
  obtain ⟨q1, q2, q3⟩ := e
  rw [q2, q3, f2, nI_clamp (by omega), nI_clamp (by omega)]
  have u : ∀ e, (am_u (am_u L 11 11 (L 11 11 + (-b).toInt64)) 18 k (L 18 k + (-b).toInt64)) 191 e = L 191 e := fun e => by rw [am_u_ne _ (Or.inl (by decide)), am_u_ne _ (Or.inl (by decide))]
  have hbt : (1 : Int) ≤ b.toInt ∧ b.toInt ≤ 1000000 := by
    have q1 := c2.1
    have q2 := c2.2
    rw [Int32.le_iff_toInt_le] at q1 q2
    have a1 : (1 : Int32).toInt = 1 := by decide
    have a2 : (1000000 : Int32).toInt = 1000000 := by decide
    omega
  have hng : (-b).toInt = -b.toInt := by
    rw [Int32.toInt_neg]
    simp only [Int.bmod_def]
    omega
  have hnb : -1000000 ≤ -b ∧ -b ≤ 1000000 := by
    rw [Int32.le_iff_toInt_le, Int32.le_iff_toInt_le, hng]
    have a1 : (-1000000 : Int32).toInt = -1000000 := by decide
    have a2 : (1000000 : Int32).toInt = 1000000 := by decide
    omega
  have hle : b.toInt ≤ (L 18 k).toInt := by
    have := c4
    rw [Int64.le_iff_toInt_le, Int32.toInt_toInt64] at this
    exact this
  have fin := x_row (k := k) (s := -b) h o1 o2 o3 o4 o5 hn hkp hnb (Or.inr (by rw [hng]; omega))
  rw [f2] at fin
  refine bm_intro (by decide +kernel) (Nat.le_of_ble_eq_true rfl) (show B_X12_draws_0 _ _ _ _ _ from s_X12_draws_0 ?_)
  rw [u, u, u, u, u, t1, t2, t3, t4]
  refine ⟨fun q => absurd c1 q, fun _ => ⟨fun _ => ⟨fun q => absurd (x_m1.mpr c3) q, fun _ => ⟨(v_per_2 hk), ⟨fun _ => ⟨fun _ => ⟨fun _ => ⟨_, am_qf_v (k_X12_addRow hk (by rw [u]; exact t2) hn), fun I1 L1 e => ?_⟩, fun q => absurd c5 q⟩, fun q => absurd q (hm.1 cz).1⟩, fun q => absurd (show b.toInt64 ≤ L 191 (0 + 3 * nI k + 2).toNatClampNeg by rw [i_per_2 hk, t5]; exact c4) q⟩⟩⟩, fun q => absurd c2 q⟩⟩
  obtain ⟨q1, q2⟩ := e
  rw [q1, q2, u, u, u, u]
  exact ⟨rfl, fin⟩
