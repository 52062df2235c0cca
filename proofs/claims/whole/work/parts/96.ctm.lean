/-! the reference's constructor -/
theorem dc_X12_init : am_dcs cX12_init [(0, .aload_n 0, 1), (1, .invokespecial 1, 3), (4, .aload_n 0, 1), (5, .sipush 1200, 3), (8, .newarray .long, 2), (10, .putfield 7, 3), (13, .aload_n 0, 1), (14, .sipush 2400, 3), (17, .newarray .long, 2), (19, .putfield 13, 3), (22, .aload_n 0, 1), (23, .iconst 2, 1), (24, .newarray .boolean, 2), (26, .putfield 16, 3), (29, .aload_n 0, 1), (30, .bipush 12, 2), (32, .newarray .long, 2), (34, .putfield 20, 3), (37, .aload_n 0, 1), (38, .bipush 8, 2), (40, .newarray .long, 2), (42, .putfield 23, 3), (45, .aload_n 0, 1), (46, .bipush 8, 2), (48, .newarray .long, 2), (50, .putfield 26, 3), (53, .aload_n 0, 1), (54, .bipush 8, 2), (56, .newarray .long, 2), (58, .putfield 29, 3), (61, .aload_n 0, 1), (62, .bipush 8, 2), (64, .newarray .long, 2), (66, .putfield 32, 3), (69, .aload_n 0, 1), (70, .bipush 64, 2), (72, .newarray .long, 2), (74, .putfield 35, 3), (77, .aload_n 0, 1), (78, .sipush 128, 3), (81, .newarray .int, 2), (83, .putfield 38, 3), (86, .aload_n 0, 1), (87, .bipush 7, 2), (89, .newarray .long, 2), (91, .putfield 42, 3), (94, .aload_n 0, 1), (95, .sipush 300, 3), (98, .newarray .int, 2), (100, .putfield 45, 3), (103, .iconst 0, 1), (104, .istore_n 1, 1), (105, .iload_n 1, 1), (106, .bipush 60, 2), (108, .if_icmp .ge 22, 3), (111, .aload_n 0, 1), (112, .getfield 7, 3), (115, .sipush 664, 3), (118, .iload_n 1, 1), (119, .iadd, 1), (120, .ldc2_w 48, 3), (123, .lastore, 1), (124, .iinc 1 1, 3), (127, .goto (-22), 3), (130, .aload_n 0, 1), (131, .getfield 7, 3), (134, .sipush 1187, 3), (137, .ldc2_w 50, 3), (140, .lastore, 1), (141, .aload_n 0, 1), (142, .getfield 7, 3), (145, .sipush 1188, 3), (148, .ldc2_w 52, 3), (151, .lastore, 1), (152, .aload_n 0, 1), (153, .getfield 7, 3), (156, .sipush 1190, 3), (159, .ldc2_w 54, 3), (162, .lastore, 1), (163, .aload_n 0, 1), (164, .getfield 7, 3), (167, .sipush 1191, 3), (170, .ldc2_w 54, 3), (173, .lastore, 1), (174, .aload_n 0, 1), (175, .getfield 7, 3), (178, .sipush 1194, 3), (181, .lconst 1, 1), (182, .lastore, 1), (183, .return_, 1)] = true := by decide +kernel
theorem nq_1187 : (1187 : Int32) = nI 1187 := by decide
theorem nq_1188 : (1188 : Int32) = nI 1188 := by decide
theorem nq_1190 : (1190 : Int32) = nI 1190 := by decide
theorem nq_1191 : (1191 : Int32) = nI 1191 := by decide
theorem nq_1194 : (1194 : Int32) = nI 1194 := by decide
abbrev nF_190 (x : Nat) : Prop := 191 ≤ x ∧ x ≤ 202
theorem ct_wl {b r : Nat} {N : Nat → Prop} {vI : am_I} {vL : am_L} {fI : Nat → Int32} {fL : Nat → Int64} {T : List (Nat × Nat × Nat)} {al0 al : List Nat} {h0 h : am_H} (p : ct_P b N vI vL fI fL T al0 h0 al h) (hb : ¬ N b) (hr : N r) (e : Nat) (x : Int64) : ct_P b N vI (am_u vL r e x) fI fL T al0 h0 al (h.1, am_u h.2.1 r e x, h.2.2) := by
  obtain ⟨p0, p1, p2, p3, p4, p5, p6, p7⟩ := p
  refine ⟨p0, p1, fun a ha hna i => ?_, fun a ha i => ?_, fun i => ?_, p5, p6, p7⟩
  · have c : a ≠ r := fun q => hna (q ▸ hr)
    obtain ⟨e1, e2, e3⟩ := p2 a ha hna i
    exact ⟨e1, (am_u_ne _ (Or.inl c)).trans e2, e3⟩
  · obtain ⟨e1, e2⟩ := p3 a ha i
    refine ⟨e1, ?_⟩
    show am_u h.2.1 r e x a i = am_u vL r e x a i
    simp only [am_u]; rw [e2]
  · have c : b ≠ r := fun q => hb (q ▸ hr)
    obtain ⟨e1, e2⟩ := p4 i
    exact ⟨e1, (am_u_ne _ (Or.inl c)).trans e2⟩
def v_Lk (k : Nat) : am_L := fun a j => if a = 191 ∧ 664 ≤ j ∧ j < 664 + k then 100 else 0
theorem v_Lk_s (k : Nat) : am_u (v_Lk k) 191 (664 + k) 100 = v_Lk (k + 1) := by
  funext a j
  by_cases c : a = 191
  · subst c
    by_cases d : j = 664 + k
    · subst d
      rw [am_u_eq]
      simp only [v_Lk, true_and]
      rw [if_pos (by omega)]
    · rw [am_u_ne _ (Or.inr d)]
      simp only [v_Lk, true_and]
      by_cases e : 664 ≤ j ∧ j < 664 + k
      · rw [if_pos e, if_pos (by omega)]
      · rw [if_neg e, if_neg (by omega)]
  · rw [am_u_ne _ (Or.inl c)]
    simp [v_Lk, c]
theorem v_Le (N : Nat → Prop) (hN : ∀ x, N x → 191 ≤ x) (a : Nat) (ha : N a) (j : Nat) : am_u (am_u (am_u (am_u (am_u (v_Lk 60) 191 1187 10) 191 1188 (-1)) 191 1190 60) 191 1191 60) 191 1194 1 a j = v_L a j := by
  have h9 := hN a ha
  by_cases c : a = 191
  · subst c
    simp only [am_u, v_Lk, v_L, true_and, if_true]
    rw [if_neg (by decide : ¬ (191 = 7)), if_neg (by decide : ¬ (191 = 160))]
    by_cases d1 : j = 1194
    · subst d1; rfl
    by_cases d2 : j = 1191
    · subst d2; rfl
    by_cases d3 : j = 1190
    · subst d3; rfl
    by_cases d4 : j = 1188
    · subst d4; rfl
    by_cases d5 : j = 1187
    · subst d5; rfl
    simp only [d1, d2, d3, d4, d5, if_false]
  · simp only [am_u, v_Lk, v_L, c, if_false, false_and]
    rw [if_neg (by omega), if_neg (by omega)]
theorem v_i60 : ∀ k, k ≤ 60 → (60 : Int32) ≤ nI k → k = 60 := by decide +kernel
set_option maxHeartbeats 4000000 in
set_option maxRecDepth 100000 in
theorem k_mt {X : am_X} {Q : am_P} {al0 al : List Nat} {h0 hx : am_H} {c s : Nat} {N : Nat → Prop} {T : List (Nat × Nat × Nat)} (px : ct_P 190 N v_I z_L (fun _ => 0) (fun _ => 0) T al0 h0 al hx) (hN : N 191) (hNb : ¬ N 190) (hNl : ∀ x, N x → 191 ≤ x) (hb : 190 ∈ al0) (hT : (190, 0, 191) ∈ T) (hc : c ≤ X.2.1) (hs : s ≤ X.2.2.1) (hQ : ∀ h', ct_P 190 N v_I v_L (fun _ => 0) (fun _ => 0) T al0 h0 al h' → Q none h' al) : am_OK M_X12_init X Q (al, c, s) hx 103 [(0, .ref 190)] [] := by
  have key : ∀ k, k ≤ 60 → ∀ hk, ct_P 190 N v_I (v_Lk k) (fun _ => 0) (fun _ => 0) T al0 h0 al hk → am_OK M_X12_init X Q (al, c, s) hk 105 [(1, .int (nI k)), (0, .ref 190)] [] := by
    refine am_down (fun h p => ?_) (fun k hk ih h p => ?_)
    · refine am_iload_n 0 rfl rfl (dg dc_X12_init 52 rfl) <| am_bipush kb_60 (dg dc_X12_init 53 rfl) <| am_icmp_ge (tgt := 130) rfl (dg dc_X12_init 54 rfl) (fun _ => ?_) (fun q => absurd (by decide) q)
      refine am_aload_n 1 rfl rfl (dg dc_X12_init 64 rfl) <| am_get fl_X12_7.1 ly_190 ((p.2.1 190).mpr (Or.inl hb)) fl_X12_7.2.1 (w := .ref 191) (fun ad => by have e : h.2.2 190 0 = some 191 := p.2.2.2.2.2.1 (190, 0, 191) hT; show va_rf (Option.map ad (h.2.2 190 0)) = _; rw [e]; rfl) fl_X12_7.2.2 (dg dc_X12_init 65 rfl) <| am_sipush ks_1187 (dg dc_X12_init 66 rfl) <| am_ldc2 ct_X12_50 (dg dc_X12_init 67 rfl) <| am_last (I := h.1) (L := h.2.1) (R := h.2.2) ly_191 ((p.2.1 191).mpr (Or.inr hN)) (am_vx nq_1187 (by decide) (by decide)) (dg dc_X12_init 68 rfl) <| ?_
      have p1 := ct_wl p hNb hN 1187 (10)
      rw [am_cx (m := 1187) nq_1187 (by decide)]
      generalize (h.1, am_u h.2.1 191 1187 (10), h.2.2) = h1 at p1 ⊢
      refine am_aload_n 1 rfl rfl (dg dc_X12_init 69 rfl) <| am_get fl_X12_7.1 ly_190 ((p1.2.1 190).mpr (Or.inl hb)) fl_X12_7.2.1 (w := .ref 191) (fun ad => by have e : h1.2.2 190 0 = some 191 := p1.2.2.2.2.2.1 (190, 0, 191) hT; show va_rf (Option.map ad (h1.2.2 190 0)) = _; rw [e]; rfl) fl_X12_7.2.2 (dg dc_X12_init 70 rfl) <| am_sipush ks_1188 (dg dc_X12_init 71 rfl) <| am_ldc2 ct_X12_52 (dg dc_X12_init 72 rfl) <| am_last (I := h1.1) (L := h1.2.1) (R := h1.2.2) ly_191 ((p1.2.1 191).mpr (Or.inr hN)) (am_vx nq_1188 (by decide) (by decide)) (dg dc_X12_init 73 rfl) <| ?_
      have p2 := ct_wl p1 hNb hN 1188 (-1)
      rw [am_cx (m := 1188) nq_1188 (by decide)]
      generalize (h1.1, am_u h1.2.1 191 1188 (-1), h1.2.2) = h2 at p2 ⊢
      refine am_aload_n 1 rfl rfl (dg dc_X12_init 74 rfl) <| am_get fl_X12_7.1 ly_190 ((p2.2.1 190).mpr (Or.inl hb)) fl_X12_7.2.1 (w := .ref 191) (fun ad => by have e : h2.2.2 190 0 = some 191 := p2.2.2.2.2.2.1 (190, 0, 191) hT; show va_rf (Option.map ad (h2.2.2 190 0)) = _; rw [e]; rfl) fl_X12_7.2.2 (dg dc_X12_init 75 rfl) <| am_sipush ks_1190 (dg dc_X12_init 76 rfl) <| am_ldc2 ct_X12_54 (dg dc_X12_init 77 rfl) <| am_last (I := h2.1) (L := h2.2.1) (R := h2.2.2) ly_191 ((p2.2.1 191).mpr (Or.inr hN)) (am_vx nq_1190 (by decide) (by decide)) (dg dc_X12_init 78 rfl) <| ?_
      have p3 := ct_wl p2 hNb hN 1190 (60)
      rw [am_cx (m := 1190) nq_1190 (by decide)]
      generalize (h2.1, am_u h2.2.1 191 1190 (60), h2.2.2) = h3 at p3 ⊢
      refine am_aload_n 1 rfl rfl (dg dc_X12_init 79 rfl) <| am_get fl_X12_7.1 ly_190 ((p3.2.1 190).mpr (Or.inl hb)) fl_X12_7.2.1 (w := .ref 191) (fun ad => by have e : h3.2.2 190 0 = some 191 := p3.2.2.2.2.2.1 (190, 0, 191) hT; show va_rf (Option.map ad (h3.2.2 190 0)) = _; rw [e]; rfl) fl_X12_7.2.2 (dg dc_X12_init 80 rfl) <| am_sipush ks_1191 (dg dc_X12_init 81 rfl) <| am_ldc2 ct_X12_54 (dg dc_X12_init 82 rfl) <| am_last (I := h3.1) (L := h3.2.1) (R := h3.2.2) ly_191 ((p3.2.1 191).mpr (Or.inr hN)) (am_vx nq_1191 (by decide) (by decide)) (dg dc_X12_init 83 rfl) <| ?_
      have p4 := ct_wl p3 hNb hN 1191 (60)
      rw [am_cx (m := 1191) nq_1191 (by decide)]
      generalize (h3.1, am_u h3.2.1 191 1191 (60), h3.2.2) = h4 at p4 ⊢
      refine am_aload_n 1 rfl rfl (dg dc_X12_init 84 rfl) <| am_get fl_X12_7.1 ly_190 ((p4.2.1 190).mpr (Or.inl hb)) fl_X12_7.2.1 (w := .ref 191) (fun ad => by have e : h4.2.2 190 0 = some 191 := p4.2.2.2.2.2.1 (190, 0, 191) hT; show va_rf (Option.map ad (h4.2.2 190 0)) = _; rw [e]; rfl) fl_X12_7.2.2 (dg dc_X12_init 85 rfl) <| am_sipush ks_1194 (dg dc_X12_init 86 rfl) <| am_lconst kl_1 (dg dc_X12_init 87 rfl) <| am_last (I := h4.1) (L := h4.2.1) (R := h4.2.2) ly_191 ((p4.2.1 191).mpr (Or.inr hN)) (am_vx nq_1194 (by decide) (by decide)) (dg dc_X12_init 88 rfl) <| ?_
      have p5 := ct_wl p4 hNb hN 1194 (1)
      rw [am_cx (m := 1194) nq_1194 (by decide)]
      generalize (h4.1, am_u h4.2.1 191 1194 (1), h4.2.2) = h5 at p5 ⊢
      exact am_vret rfl hc hs (dg dc_X12_init 89 rfl) (hQ _ (ct_conv p5 (fun _ => Iff.rfl) (fun a ha j => ⟨rfl, v_Le N hNl a ha j⟩) (fun _ => ⟨rfl, rfl⟩) (fun _ q => q)))
    · refine am_iload_n 0 rfl rfl (dg dc_X12_init 52 rfl) <| am_bipush kb_60 (dg dc_X12_init 53 rfl) <| am_icmp_ge (tgt := 130) rfl (dg dc_X12_init 54 rfl) (fun q => absurd (v_i60 k (by omega) q) (by omega)) (fun _ => ?_)
      refine am_aload_n 1 rfl rfl (dg dc_X12_init 55 rfl) <| am_get fl_X12_7.1 ly_190 ((p.2.1 190).mpr (Or.inl hb)) fl_X12_7.2.1 (w := .ref 191) (fun ad => by have e : h.2.2 190 0 = some 191 := p.2.2.2.2.2.1 (190, 0, 191) hT; show va_rf (Option.map ad (h.2.2 190 0)) = _; rw [e]; rfl) fl_X12_7.2.2 (dg dc_X12_init 56 rfl) <| am_sipush ks_664 (dg dc_X12_init 57 rfl) <| am_iload_n 0 rfl rfl (dg dc_X12_init 58 rfl) <| am_iadd (dg dc_X12_init 59 rfl) <| am_ldc2 ct_X12_48 (dg dc_X12_init 60 rfl) <| am_last (I := h.1) (L := h.2.1) (R := h.2.2) ly_191 ((p.2.1 191).mpr (Or.inr hN)) (am_vx (m := 664 + k) (by simp only [nq_664, nI_qa]) (by omega) (by decide)) (dg dc_X12_init 61 rfl) <| am_iinc 0 rfl rfl (by decide) rfl (dg dc_X12_init 62 rfl) <| am_goto (tgt := 105) rfl (dg dc_X12_init 63 rfl) ?_
      have p1 := ct_wl p hNb hN (664 + k) 100
      rw [v_Lk_s] at p1
      rw [am_cx (m := 664 + k) (i := 664 + nI k) (by simp only [nq_664, nI_qa]) (by omega)]
      have e : nI k + Int32.ofInt 1 = nI (k + 1) := by rw [nI_succ]; rfl
      rw [e]
      exact ih _ p1
  have k0 := key 0 (Nat.zero_le _) hx (ct_conv px (fun _ => Iff.rfl) (fun a ha j => ⟨rfl, by simp [z_L, v_Lk] <;> omega⟩) (fun _ => ⟨rfl, rfl⟩) (fun _ q => q))
  rw [nI_0] at k0
  exact am_iconst ki_0 (dg dc_X12_init 50 rfl) <| am_istore_n rfl (by decide) rfl (dg dc_X12_init 51 rfl) k0
def nT_190 : List (Nat × Nat × Nat) := [(190, 19, 202), (190, 17, 201), (190, 15, 200), (190, 13, 199), (190, 9, 198), (190, 8, 197), (190, 7, 196), (190, 6, 195), (190, 5, 194), (190, 2, 193), (190, 1, 192), (190, 0, 191)]
set_option maxHeartbeats 4000000 in
set_option maxRecDepth 100000 in
theorem kc_190 {al : List Nat} {h : am_H} (hn : al.Nodup) (hb : 190 ∈ al) (hF : ct_F nF_190 al h.2.2) (hz : ∀ j, h.1 190 j = 0 ∧ h.2.1 190 j = 0) : am_C M_X12_init 1 12 4145 (fun x => ¬ nF_190 x) al [.ref 190] h (fun r h' al' => r = none ∧ ct_P 190 nF_190 v_I v_L (v_I 190) (v_L 190) nT_190 al h al' h') :=
  am_intro (by decide +kernel) (Nat.le_of_ble_eq_true rfl) (show am_OK M_X12_init (1, 12, 4145, fun x => ¬ nF_190 x) _ (al, 0, 0) h 0 [(0, .ref 190)] [] from am_aload_n 0 rfl rfl (dg dc_X12_init 0 rfl) <| am_objInit ml_X12_1 oi_in oi_co (Nat.le_of_ble_eq_true rfl) (Nat.le_of_ble_eq_true rfl) (dg dc_X12_init 1 rfl) <| am_aload_n 0 rfl rfl (dg dc_X12_init 2 rfl) <| am_sipush ks_1200 (dg dc_X12_init 3 rfl) <| ct_mk 191 0 (ct_start (vI := v_I) (vL := z_L) hn hz) hF rfl hb (show nF_190 191 from ⟨by decide, by decide⟩) (by simp) (fun _ => ⟨rfl, rfl⟩) (by decide) (by simp) (by decide) (by decide) (by simp) (t0 := 1) ly_191 rfl (fun _ => rfl) (Or.inr (Or.inl rfl)) (by decide) (by decide) (Nat.le_of_ble_eq_true rfl) ar_long (Nat.le_of_ble_eq_true rfl) (Nat.le_of_ble_eq_true rfl) (dg dc_X12_init 4 rfl) fl_X12_7 ly_190 rfl rfl rfl rfl rfl (dg dc_X12_init 5 rfl) <| fun al1 h1 p1 => am_aload_n 0 rfl rfl (dg dc_X12_init 6 rfl) <| am_sipush ks_2400 (dg dc_X12_init 7 rfl) <| ct_mk 192 1 p1 hF rfl hb (show nF_190 192 from ⟨by decide, by decide⟩) (by simp) (fun _ => ⟨rfl, rfl⟩) (by decide) (by simp) (by decide) (by decide) (by simp) (t0 := 1) ly_192 rfl (fun _ => rfl) (Or.inr (Or.inl rfl)) (by decide) (by decide) (Nat.le_of_ble_eq_true rfl) ar_long (Nat.le_of_ble_eq_true rfl) (Nat.le_of_ble_eq_true rfl) (dg dc_X12_init 8 rfl) fl_X12_13 ly_190 rfl rfl rfl rfl rfl (dg dc_X12_init 9 rfl) <| fun al2 h2 p2 => am_aload_n 0 rfl rfl (dg dc_X12_init 10 rfl) <| am_iconst ki_2 (dg dc_X12_init 11 rfl) <| ct_mk 193 2 p2 hF rfl hb (show nF_190 193 from ⟨by decide, by decide⟩) (by simp) (fun _ => ⟨rfl, rfl⟩) (by decide) (by simp) (by decide) (by decide) (by simp) (t0 := 2) ly_193 rfl (fun _ => rfl) (Or.inr (Or.inr rfl)) (by decide) (by decide) (Nat.le_of_ble_eq_true rfl) ar_boolean (Nat.le_of_ble_eq_true rfl) (Nat.le_of_ble_eq_true rfl) (dg dc_X12_init 12 rfl) fl_X12_16 ly_190 rfl rfl rfl rfl rfl (dg dc_X12_init 13 rfl) <| fun al3 h3 p3 => am_aload_n 0 rfl rfl (dg dc_X12_init 14 rfl) <| am_bipush kb_12 (dg dc_X12_init 15 rfl) <| ct_mk 194 5 p3 hF rfl hb (show nF_190 194 from ⟨by decide, by decide⟩) (by simp) (fun _ => ⟨rfl, rfl⟩) (by decide) (by simp) (by decide) (by decide) (by simp) (t0 := 1) ly_194 rfl (fun _ => rfl) (Or.inr (Or.inl rfl)) (by decide) (by decide) (Nat.le_of_ble_eq_true rfl) ar_long (Nat.le_of_ble_eq_true rfl) (Nat.le_of_ble_eq_true rfl) (dg dc_X12_init 16 rfl) fl_X12_20 ly_190 rfl rfl rfl rfl rfl (dg dc_X12_init 17 rfl) <| fun al4 h4 p4 => am_aload_n 0 rfl rfl (dg dc_X12_init 18 rfl) <| am_bipush kb_8 (dg dc_X12_init 19 rfl) <| ct_mk 195 6 p4 hF rfl hb (show nF_190 195 from ⟨by decide, by decide⟩) (by simp) (fun _ => ⟨rfl, rfl⟩) (by decide) (by simp) (by decide) (by decide) (by simp) (t0 := 1) ly_195 rfl (fun _ => rfl) (Or.inr (Or.inl rfl)) (by decide) (by decide) (Nat.le_of_ble_eq_true rfl) ar_long (Nat.le_of_ble_eq_true rfl) (Nat.le_of_ble_eq_true rfl) (dg dc_X12_init 20 rfl) fl_X12_23 ly_190 rfl rfl rfl rfl rfl (dg dc_X12_init 21 rfl) <| fun al5 h5 p5 => am_aload_n 0 rfl rfl (dg dc_X12_init 22 rfl) <| am_bipush kb_8 (dg dc_X12_init 23 rfl) <| ct_mk 196 7 p5 hF rfl hb (show nF_190 196 from ⟨by decide, by decide⟩) (by simp) (fun _ => ⟨rfl, rfl⟩) (by decide) (by simp) (by decide) (by decide) (by simp) (t0 := 1) ly_196 rfl (fun _ => rfl) (Or.inr (Or.inl rfl)) (by decide) (by decide) (Nat.le_of_ble_eq_true rfl) ar_long (Nat.le_of_ble_eq_true rfl) (Nat.le_of_ble_eq_true rfl) (dg dc_X12_init 24 rfl) fl_X12_26 ly_190 rfl rfl rfl rfl rfl (dg dc_X12_init 25 rfl) <| fun al6 h6 p6 => am_aload_n 0 rfl rfl (dg dc_X12_init 26 rfl) <| am_bipush kb_8 (dg dc_X12_init 27 rfl) <| ct_mk 197 8 p6 hF rfl hb (show nF_190 197 from ⟨by decide, by decide⟩) (by simp) (fun _ => ⟨rfl, rfl⟩) (by decide) (by simp) (by decide) (by decide) (by simp) (t0 := 1) ly_197 rfl (fun _ => rfl) (Or.inr (Or.inl rfl)) (by decide) (by decide) (Nat.le_of_ble_eq_true rfl) ar_long (Nat.le_of_ble_eq_true rfl) (Nat.le_of_ble_eq_true rfl) (dg dc_X12_init 28 rfl) fl_X12_29 ly_190 rfl rfl rfl rfl rfl (dg dc_X12_init 29 rfl) <| fun al7 h7 p7 => am_aload_n 0 rfl rfl (dg dc_X12_init 30 rfl) <| am_bipush kb_8 (dg dc_X12_init 31 rfl) <| ct_mk 198 9 p7 hF rfl hb (show nF_190 198 from ⟨by decide, by decide⟩) (by simp) (fun _ => ⟨rfl, rfl⟩) (by decide) (by simp) (by decide) (by decide) (by simp) (t0 := 1) ly_198 rfl (fun _ => rfl) (Or.inr (Or.inl rfl)) (by decide) (by decide) (Nat.le_of_ble_eq_true rfl) ar_long (Nat.le_of_ble_eq_true rfl) (Nat.le_of_ble_eq_true rfl) (dg dc_X12_init 32 rfl) fl_X12_32 ly_190 rfl rfl rfl rfl rfl (dg dc_X12_init 33 rfl) <| fun al8 h8 p8 => am_aload_n 0 rfl rfl (dg dc_X12_init 34 rfl) <| am_bipush kb_64 (dg dc_X12_init 35 rfl) <| ct_mk 199 13 p8 hF rfl hb (show nF_190 199 from ⟨by decide, by decide⟩) (by simp) (fun _ => ⟨rfl, rfl⟩) (by decide) (by simp) (by decide) (by decide) (by simp) (t0 := 1) ly_199 rfl (fun _ => rfl) (Or.inr (Or.inl rfl)) (by decide) (by decide) (Nat.le_of_ble_eq_true rfl) ar_long (Nat.le_of_ble_eq_true rfl) (Nat.le_of_ble_eq_true rfl) (dg dc_X12_init 36 rfl) fl_X12_35 ly_190 rfl rfl rfl rfl rfl (dg dc_X12_init 37 rfl) <| fun al9 h9 p9 => am_aload_n 0 rfl rfl (dg dc_X12_init 38 rfl) <| am_sipush ks_128 (dg dc_X12_init 39 rfl) <| ct_mk 200 15 p9 hF rfl hb (show nF_190 200 from ⟨by decide, by decide⟩) (by simp) (fun _ => ⟨rfl, rfl⟩) (by decide) (by simp) (by decide) (by decide) (by simp) (t0 := 0) ly_200 rfl (fun _ => rfl) (Or.inl rfl) (by decide) (by decide) (Nat.le_of_ble_eq_true rfl) ar_int (Nat.le_of_ble_eq_true rfl) (Nat.le_of_ble_eq_true rfl) (dg dc_X12_init 40 rfl) fl_X12_38 ly_190 rfl rfl rfl rfl rfl (dg dc_X12_init 41 rfl) <| fun al10 h10 p10 => am_aload_n 0 rfl rfl (dg dc_X12_init 42 rfl) <| am_bipush kb_7 (dg dc_X12_init 43 rfl) <| ct_mk 201 17 p10 hF rfl hb (show nF_190 201 from ⟨by decide, by decide⟩) (by simp) (fun _ => ⟨rfl, rfl⟩) (by decide) (by simp) (by decide) (by decide) (by simp) (t0 := 1) ly_201 rfl (fun _ => rfl) (Or.inr (Or.inl rfl)) (by decide) (by decide) (Nat.le_of_ble_eq_true rfl) ar_long (Nat.le_of_ble_eq_true rfl) (Nat.le_of_ble_eq_true rfl) (dg dc_X12_init 44 rfl) fl_X12_42 ly_190 rfl rfl rfl rfl rfl (dg dc_X12_init 45 rfl) <| fun al11 h11 p11 => am_aload_n 0 rfl rfl (dg dc_X12_init 46 rfl) <| am_sipush ks_300 (dg dc_X12_init 47 rfl) <| ct_mk 202 19 p11 hF rfl hb (show nF_190 202 from ⟨by decide, by decide⟩) (by simp) (fun _ => ⟨rfl, rfl⟩) (by decide) (by simp) (by decide) (by decide) (by simp) (t0 := 0) ly_202 rfl (fun _ => rfl) (Or.inl rfl) (by decide) (by decide) (Nat.le_of_ble_eq_true rfl) ar_int (Nat.le_of_ble_eq_true rfl) (Nat.le_of_ble_eq_true rfl) (dg dc_X12_init 48 rfl) fl_X12_45 ly_190 rfl rfl rfl rfl rfl (dg dc_X12_init 49 rfl) <| fun al12 h12 p12 => k_mt p12 (by simp) (by simp) (fun x q => by simp only [false_or] at q; omega) hb (by decide) (Nat.le_of_ble_eq_true rfl) (Nat.le_of_ble_eq_true rfl) (fun h' q => ⟨rfl, ct_conv q (fun x => by simp only [nF_190, false_or]; omega) (fun _ _ _ => ⟨rfl, rfl⟩) (fun j => ⟨rfl, rfl⟩) (fun _ q => q)⟩))
