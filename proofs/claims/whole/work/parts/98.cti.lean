/-! image, the first time: the image's world is made -/
variable {xc : Nat → Int32}
theorem ct_out {b : Nat} {N : Nat → Prop} {vI : am_I} {vL : am_L} {fI : Nat → Int32} {fL : Nat → Int64} {T : List (Nat × Nat × Nat)} {al0 al : List Nat} {h h2 : am_H} (p : ct_P b N vI vL fI fL T al0 (ct_z h b) al h2) {a : Nat} (ha : a ≠ b) (hN : ¬ N a) (j : Nat) : h2.1 a j = h.1 a j ∧ h2.2.1 a j = h.2.1 a j ∧ h2.2.2 a j = h.2.2 a j := by
  obtain ⟨e1, e2, e3⟩ := p.2.2.1 a ha hN j
  refine ⟨e1.trans ?_, e2.trans ?_, e3.trans ?_⟩
  · simp only [ct_z, am_z, if_neg ha]
  · simp only [ct_z, am_z, if_neg ha]
  · simp only [ct_z, am_z, if_neg ha]
def am_im (b i : Nat) (F : Nat → Prop) (al : List Nat) (R : am_R) (al' : List Nat) (R' : am_R) : Prop := al'.Nodup ∧ (∀ x, x ∈ al' ↔ x ∈ al ∨ F x) ∧ R' 1 i = some b ∧ (∀ a j, (a ≠ 1 ∨ j ≠ i) → ¬ F a → R' a j = R a j) ∧ ∀ a j x, R' a j = some x → R a j = some x ∨ F x ∨ x ∈ al
theorem st_keep {F : Nat → Prop} {b i : Nat} {al al' : List Nat} {R R' : am_R} (h : am_im b i F al R al' R') (ms : List Nat) (ts : List (Nat × Nat × Nat)) (ht : ∀ q ∈ ts, (q.1 ≠ 1) ∧ ¬ F q.1) (s : (∀ k ∈ ms, k ∈ al) ∧ ∀ q ∈ ts, R q.1 q.2.1 = some q.2.2) : (∀ k ∈ ms, k ∈ al') ∧ ∀ q ∈ ts, R' q.1 q.2.1 = some q.2.2 :=
  ⟨fun k hk => (h.2.1 k).mpr (Or.inl (s.1 k hk)), fun q hq => (h.2.2.2.1 q.1 q.2.1 (Or.inl (ht q hq).1) (ht q hq).2).trans (s.2 q hq)⟩
set_option maxHeartbeats 4000000 in
set_option maxRecDepth 100000 in
theorem x_image_n1 {al : List Nat} {R : am_R} {I : am_I} {L : am_L} (h : x_Inv xc I L) (hS : am_st al R) (hn : al.Nodup) (hr : R 1 0 = none) (hF : ct_F (fun x => x = 60 ∨ nF_60 x) al R) : am_C M_X11_image 3 44 1298 (fun x => ¬ (fun x => x = 60 ∨ nF_60 x) x) al [.ref 0, .int (nI 0)] (I, L, R) (fun r h' al' => ∃ (I' : am_I) (L' : am_L) (R' : am_R), h' = (I', L', R') ∧ x_Q (x_st xc 0) M_X12_image 1 [.ref 190, .int (nI 0)] r I' L' ∧ am_sh (some .int) r ∧ am_st1 al' R' ∧ am_im 60 0 (fun x => x = 60 ∨ nF_60 x) al R al' R') := by
  have hc : (nI 0).toNatClampNeg = 0 := nI_clamp (by omega)
  refine am_intro (by decide +kernel) (Nat.le_of_ble_eq_true rfl) ?_
  generalize hQ : (fun (r : Option Value) (h' : am_H) (al' : List Nat) => ∃ (I' : am_I) (L' : am_L) (R' : am_R), h' = (I', L', R') ∧ x_Q (x_st xc 0) M_X12_image 1 [.ref 190, .int (nI 0)] r I' L' ∧ am_sh (some .int) r ∧ am_st1 al' R' ∧ am_im 60 0 (fun x => x = 60 ∨ nF_60 x) al R al' R') = Q
  show am_OK M_X11_image (3, 44, 1298, fun x => ¬ (fun x => x = 60 ∨ nF_60 x) x) Q (al, 0, 0) (I, L, R) 0 [(0, .ref 0), (1, .int (nI 0))] []
  refine am_iload_n 1 rfl rfl (dg dc_X11_image 0 rfl) <| am_iconst ki_0 (dg dc_X11_image 1 rfl) <| am_iconst ki_1 (dg dc_X11_image 2 rfl) <| am_invS (as := [.int (nI 0), .int (0 : Int32), .int (1 : Int32)]) (k_X11_within al R hS) cw_X11_within ml_X11_60 sta_X11_within rfl (Nat.le_of_ble_eq_true rfl) (Nat.le_of_ble_eq_true rfl) (Nat.le_of_ble_eq_true rfl) (Nat.le_of_ble_eq_true rfl) ⟨fun _ _ _ _ => trivial, fun _ _ _ _ => trivial⟩ (fun _ _ => trivial) (dg dc_X11_image 3 rfl) (fun r h1 al1 hq => ?_)
  obtain ⟨ea, I1, L1, eh, ⟨e1, e2, e3⟩, _⟩ := hq
  rw [eh, ea, e1, e2, e3]
  refine am_if_ne (tgt := 12) rfl (dg dc_X11_image 4 rfl) (fun _ => ?_) (fun c => absurd c (by decide))
  refine am_aload_n 0 rfl rfl (dg dc_X11_image 7 rfl) <| am_get fl_X11_16.1 ly_0 (ba_0 hS) fl_X11_16.2.1 (w := .ref 1) (fun ad => by show va_rf (Option.map ad (R 0 1)) = _; rw [sr_0_1 hS]; rfl) fl_X11_16.2.2 (dg dc_X11_image 8 rfl) <| am_iload_n 1 rfl rfl (dg dc_X11_image 9 rfl) <| am_aald rfl ly_1 (ba_1 hS) (am_vI (by decide) (by decide)) (dg dc_X11_image 10 rfl) ?_
  show am_OK M_X11_image _ _ _ _ _ _ [am_rr (R 1 (nI 0).toNatClampNeg)]
  rw [hc, hr]
  have f60 := hF 60 (Or.inl rfl)
  have hn2 : (al ++ [60]).Nodup := by
    rw [List.nodup_append]
    refine ⟨hn, by simp, fun a ha c hc => ?_⟩
    rw [List.mem_singleton] at hc
    rw [hc]
    exact fun e => f60.1 (e ▸ ha)
  have hF2 : ct_F nF_60 (al ++ [60]) (ct_z (I, L, R) 60).2.2 := fun x hx => ⟨fun q => by
    rcases List.mem_append.mp q with q | q
    · exact (hF x (Or.inr hx)).1 q
    · rw [List.mem_singleton] at q; rw [q] at hx; exact absurd hx (by decide), am_nr_z (hF x (Or.inr hx)).2⟩
  refine am_ifnonnull0 (dg dc_X11_image 11 rfl) <| am_aload_n 0 rfl rfl (dg dc_X11_image 12 rfl) <| am_get fl_X11_16.1 ly_0 (ba_0 hS) fl_X11_16.2.1 (w := .ref 1) (fun ad => by show va_rf (Option.map ad (R 0 1)) = _; rw [sr_0_1 hS]; rfl) fl_X11_16.2.2 (dg dc_X11_image 13 rfl) <| am_iload_n 1 rfl rfl (dg dc_X11_image 14 rfl) <| am_new (I := I) (L := L) (R := R) 60 cls_10 ly_60 f60.1 (by decide) (fun q => q (Or.inl rfl)) f60.2 ⟨by simp, by simp⟩ nfd_10 (tb_1 (i := 31) (by decide +kernel)) (tb_1 (i := 32) (by decide +kernel)) (tb_1 (i := 2) (by decide +kernel)) (Nat.le_of_ble_eq_true rfl) (Nat.le_of_ble_eq_true rfl) (dg dc_X11_image 15 rfl) <| am_dup rfl (dg dc_X11_image 16 rfl) <| am_invIN (as := []) (kc_60 hn2 (by simp) hF2 (ct_zz (I, L, R) 60)) cw_X10_init rfl nl_X11_9 ins_X10_init rfl rfl (Nat.le_of_ble_eq_true rfl) (Nat.le_of_ble_eq_true rfl) (Nat.le_of_ble_eq_true rfl) (Nat.le_of_ble_eq_true rfl) ⟨by simp [nF_60], by simp [nF_60]⟩ (fun y q r => q (Or.inr r)) (dg dc_X11_image 17 rfl) (fun r h2 al2 hq => ?_)
  obtain ⟨rfl, p⟩ := hq
  obtain ⟨I2, L2, R2⟩ := h2
  have hm : ∀ x, x ∈ al2 ↔ x ∈ al ∨ (x = 60 ∨ nF_60 x) := fun x => by
    rw [p.2.1 x, List.mem_append, List.mem_singleton, or_assoc]
  have o3 : ∀ a, a ≠ 60 → ¬ nF_60 a → ∀ j, I2 a j = I a j ∧ L2 a j = L a j ∧ R2 a j = R a j := fun a ha hN j => ct_out (h := (I, L, R)) (h2 := (I2, L2, R2)) p ha hN j
  have hm' : ∀ x, x ∈ al → x ∈ al2 := fun x hx => (hm x).mpr (Or.inl hx)
  have im : am_im 60 0 (fun x => x = 60 ∨ nF_60 x) al R al2 (am_u R2 1 0 (some 60)) := by
    refine ⟨p.1, hm, am_u_eq _ _ _ _, fun a j hj hN => ?_, fun a j x e => ?_⟩
    · rw [am_u_ne _ hj]
      exact (o3 a (fun q => hN (Or.inl q)) (fun q => hN (Or.inr q)) j).2.2
    · by_cases c : a = 1 ∧ j = 0
      · obtain ⟨rfl, rfl⟩ := c
        rw [am_u_eq] at e
        exact Or.inr (Or.inl (Or.inl (Option.some.inj e).symm))
      · rw [am_u_ne _ (by by_cases c1 : a = 1; exact Or.inr (fun c2 => c ⟨c1, c2⟩); exact Or.inl c1)] at e
        rcases p.2.2.2.2.2.2.1 a j x e with q | q | q
        · have q' : am_z none R 60 a j = some x := q
          simp only [am_z] at q'
          split at q'
          · cases q'
          · exact Or.inl q'
        · exact Or.inr (Or.inl (Or.inr q))
        · rcases List.mem_append.mp q with q | q
          · exact Or.inr (Or.inr q)
          · exact Or.inr (Or.inl (Or.inl (List.mem_singleton.mp q)))
  have hS3 : am_st al2 (am_u R2 1 0 (some 60)) := st_keep im am_ba am_sr (by decide +kernel) hS
  have hS13 : am_st1 al2 (am_u R2 1 0 (some 60)) := by
    refine ⟨fun k hk => (hm k).mpr (Or.inr ?_), fun q hq => ?_⟩
    · have e : ∀ k ∈ am_ba1, k = 60 ∨ nF_60 k := by decide +kernel
      exact e k hk
    · have e : ∀ q ∈ am_sr1, q.1 ≠ 1 ∧ q ∈ nT_60 := by decide +kernel
      rw [am_u_ne _ (Or.inl (e q hq).1)]
      exact p.2.2.2.2.2.1 q (e q hq).2
  refine am_aast (I := I2) (L := L2) (R := R2) ly_1 (hm' 1 (ba_1 hS)) ly_60 ((hm 60).mpr (Or.inr (Or.inl rfl))) (am_vI (by decide) (by decide)) (dg dc_X11_image 18 rfl) ?_
  rw [hc]
  refine am_aload_n 0 rfl rfl (dg dc_X11_image 19 rfl) <| am_get fl_X11_16.1 ly_0 (ba_0 hS3) fl_X11_16.2.1 (w := .ref 1) (fun ad => by show va_rf (Option.map ad (am_u R2 1 0 (some 60) 0 1)) = _; rw [sr_0_1 hS3]; rfl) fl_X11_16.2.2 (dg dc_X11_image 20 rfl) <| am_iload_n 1 rfl rfl (dg dc_X11_image 21 rfl) <| am_aald rfl ly_1 (ba_1 hS3) (am_vI (by decide) (by decide)) (dg dc_X11_image 22 rfl) ?_
  show am_OK M_X11_image _ _ _ _ _ _ [am_rr (am_u R2 1 0 (some 60) 1 (nI 0).toNatClampNeg)]
  rw [hc, am_u_eq]
  have hz : I2 14 2 = 0 ∨ I2 14 2 = 1 := by
    rw [(o3 14 (by decide) (by decide) 2).1]; exact x_hz h.2.2.1
  refine am_aload_n 0 rfl rfl (dg dc_X11_image 23 rfl) <| am_get fl_X11_10.1 ly_0 (ba_0 hS3) fl_X11_10.2.1 (w := .ref 10) (fun ad => by show va_rf (Option.map ad (am_u R2 1 0 (some 60) 0 0)) = _; rw [sr_0_0 hS3]; rfl) fl_X11_10.2.2 (dg dc_X11_image 24 rfl) <| am_invV (as := [.ref 10]) (b := 60) (k_X10_copyFrom_i1 (I := I2) (L := L2) hz al2 _ ⟨hS3, hS13⟩) cw_X10_copyFrom ml_X11_356 ins_X10_copyFrom sel_X10_copyFrom cls_10 rfl ly_60 ((hm 60).mpr (Or.inr (Or.inl rfl))) rfl (Nat.le_of_ble_eq_true rfl) (Nat.le_of_ble_eq_true rfl) (Nat.le_of_ble_eq_true rfl) (Nat.le_of_ble_eq_true rfl) ⟨fun _ _ _ _ => trivial, fun _ _ _ _ => trivial⟩ (fun _ _ => trivial) (dg dc_X11_image 25 rfl) (fun r h3 al3 hq => ?_)
  obtain ⟨ea, I3, L3, eh, ⟨e1, e2, e3⟩, _⟩ := hq
  rw [eh, ea, e1, e2, e3]
  refine am_iconst ki_1 (dg dc_X11_image 26 rfl) <| am_iret rfl rfl (Nat.le_of_ble_eq_true rfl) (Nat.le_of_ble_eq_true rfl) (dg dc_X11_image 27 rfl) ?_
  rw [← hQ]
  refine ⟨_, _, _, rfl, ?_, ⟨fun _ => ⟨_, rfl⟩, fun e => by cases e⟩, hS13, im⟩
  refine am_mono (k_X12_image (by decide)) (fun r I4 L4 q => ?_)
  obtain ⟨q1, q2, q3⟩ := q
  rw [q1, q2, q3]
  refine ⟨rfl, x_image_inv (by decide) h (fun p s hp => (w_i1_I_c hp).trans ?_) (fun p s hp => (w_i1_L_c hp).trans ?_) (fun a x ha => (w_i1_I_n (by omega)).trans ?_) (fun a x ha => (w_i1_L_n (by omega)).trans ?_)⟩
  · have := x_wi_le hp
    exact (o3 p (by omega) (by simp only [nF_60]; omega) s).1
  · have := x_wl_le hp
    exact (o3 p (by omega) (by simp only [nF_60]; omega) s).2.1
  · exact (o3 a (by omega) (by simp only [nF_60]; omega) x).1
  · exact (o3 a (by omega) (by simp only [nF_60]; omega) x).2.1
set_option maxHeartbeats 4000000 in
set_option maxRecDepth 100000 in
theorem x_image_n2 {al : List Nat} {R : am_R} {I : am_I} {L : am_L} (h : x_Inv xc I L) (hS : am_st al R) (hn : al.Nodup) (hr : R 1 1 = none) (hF : ct_F (fun x => x = 110 ∨ nF_110 x) al R) : am_C M_X11_image 3 44 1298 (fun x => ¬ (fun x => x = 110 ∨ nF_110 x) x) al [.ref 0, .int (nI 1)] (I, L, R) (fun r h' al' => ∃ (I' : am_I) (L' : am_L) (R' : am_R), h' = (I', L', R') ∧ x_Q (x_st xc 1) M_X12_image 1 [.ref 190, .int (nI 1)] r I' L' ∧ am_sh (some .int) r ∧ am_st2 al' R' ∧ am_im 110 1 (fun x => x = 110 ∨ nF_110 x) al R al' R') := by
  have hc : (nI 1).toNatClampNeg = 1 := nI_clamp (by omega)
  refine am_intro (by decide +kernel) (Nat.le_of_ble_eq_true rfl) ?_
  generalize hQ : (fun (r : Option Value) (h' : am_H) (al' : List Nat) => ∃ (I' : am_I) (L' : am_L) (R' : am_R), h' = (I', L', R') ∧ x_Q (x_st xc 1) M_X12_image 1 [.ref 190, .int (nI 1)] r I' L' ∧ am_sh (some .int) r ∧ am_st2 al' R' ∧ am_im 110 1 (fun x => x = 110 ∨ nF_110 x) al R al' R') = Q
  show am_OK M_X11_image (3, 44, 1298, fun x => ¬ (fun x => x = 110 ∨ nF_110 x) x) Q (al, 0, 0) (I, L, R) 0 [(0, .ref 0), (1, .int (nI 1))] []
  refine am_iload_n 1 rfl rfl (dg dc_X11_image 0 rfl) <| am_iconst ki_0 (dg dc_X11_image 1 rfl) <| am_iconst ki_1 (dg dc_X11_image 2 rfl) <| am_invS (as := [.int (nI 1), .int (0 : Int32), .int (1 : Int32)]) (k_X11_within al R hS) cw_X11_within ml_X11_60 sta_X11_within rfl (Nat.le_of_ble_eq_true rfl) (Nat.le_of_ble_eq_true rfl) (Nat.le_of_ble_eq_true rfl) (Nat.le_of_ble_eq_true rfl) ⟨fun _ _ _ _ => trivial, fun _ _ _ _ => trivial⟩ (fun _ _ => trivial) (dg dc_X11_image 3 rfl) (fun r h1 al1 hq => ?_)
  obtain ⟨ea, I1, L1, eh, ⟨e1, e2, e3⟩, _⟩ := hq
  rw [eh, ea, e1, e2, e3]
  refine am_if_ne (tgt := 12) rfl (dg dc_X11_image 4 rfl) (fun _ => ?_) (fun c => absurd c (by decide))
  refine am_aload_n 0 rfl rfl (dg dc_X11_image 7 rfl) <| am_get fl_X11_16.1 ly_0 (ba_0 hS) fl_X11_16.2.1 (w := .ref 1) (fun ad => by show va_rf (Option.map ad (R 0 1)) = _; rw [sr_0_1 hS]; rfl) fl_X11_16.2.2 (dg dc_X11_image 8 rfl) <| am_iload_n 1 rfl rfl (dg dc_X11_image 9 rfl) <| am_aald rfl ly_1 (ba_1 hS) (am_vI (by decide) (by decide)) (dg dc_X11_image 10 rfl) ?_
  show am_OK M_X11_image _ _ _ _ _ _ [am_rr (R 1 (nI 1).toNatClampNeg)]
  rw [hc, hr]
  have f60 := hF 110 (Or.inl rfl)
  have hn2 : (al ++ [110]).Nodup := by
    rw [List.nodup_append]
    refine ⟨hn, by simp, fun a ha c hc => ?_⟩
    rw [List.mem_singleton] at hc
    rw [hc]
    exact fun e => f60.1 (e ▸ ha)
  have hF2 : ct_F nF_110 (al ++ [110]) (ct_z (I, L, R) 110).2.2 := fun x hx => ⟨fun q => by
    rcases List.mem_append.mp q with q | q
    · exact (hF x (Or.inr hx)).1 q
    · rw [List.mem_singleton] at q; rw [q] at hx; exact absurd hx (by decide), am_nr_z (hF x (Or.inr hx)).2⟩
  refine am_ifnonnull0 (dg dc_X11_image 11 rfl) <| am_aload_n 0 rfl rfl (dg dc_X11_image 12 rfl) <| am_get fl_X11_16.1 ly_0 (ba_0 hS) fl_X11_16.2.1 (w := .ref 1) (fun ad => by show va_rf (Option.map ad (R 0 1)) = _; rw [sr_0_1 hS]; rfl) fl_X11_16.2.2 (dg dc_X11_image 13 rfl) <| am_iload_n 1 rfl rfl (dg dc_X11_image 14 rfl) <| am_new (I := I) (L := L) (R := R) 110 cls_10 ly_110 f60.1 (by decide) (fun q => q (Or.inl rfl)) f60.2 ⟨by simp, by simp⟩ nfd_10 (tb_1 (i := 31) (by decide +kernel)) (tb_1 (i := 32) (by decide +kernel)) (tb_1 (i := 2) (by decide +kernel)) (Nat.le_of_ble_eq_true rfl) (Nat.le_of_ble_eq_true rfl) (dg dc_X11_image 15 rfl) <| am_dup rfl (dg dc_X11_image 16 rfl) <| am_invIN (as := []) (kc_110 hn2 (by simp) hF2 (ct_zz (I, L, R) 110)) cw_X10_init rfl nl_X11_9 ins_X10_init rfl rfl (Nat.le_of_ble_eq_true rfl) (Nat.le_of_ble_eq_true rfl) (Nat.le_of_ble_eq_true rfl) (Nat.le_of_ble_eq_true rfl) ⟨by simp [nF_110], by simp [nF_110]⟩ (fun y q r => q (Or.inr r)) (dg dc_X11_image 17 rfl) (fun r h2 al2 hq => ?_)
  obtain ⟨rfl, p⟩ := hq
  obtain ⟨I2, L2, R2⟩ := h2
  have hm : ∀ x, x ∈ al2 ↔ x ∈ al ∨ (x = 110 ∨ nF_110 x) := fun x => by
    rw [p.2.1 x, List.mem_append, List.mem_singleton, or_assoc]
  have o3 : ∀ a, a ≠ 110 → ¬ nF_110 a → ∀ j, I2 a j = I a j ∧ L2 a j = L a j ∧ R2 a j = R a j := fun a ha hN j => ct_out (h := (I, L, R)) (h2 := (I2, L2, R2)) p ha hN j
  have hm' : ∀ x, x ∈ al → x ∈ al2 := fun x hx => (hm x).mpr (Or.inl hx)
  have im : am_im 110 1 (fun x => x = 110 ∨ nF_110 x) al R al2 (am_u R2 1 1 (some 110)) := by
    refine ⟨p.1, hm, am_u_eq _ _ _ _, fun a j hj hN => ?_, fun a j x e => ?_⟩
    · rw [am_u_ne _ hj]
      exact (o3 a (fun q => hN (Or.inl q)) (fun q => hN (Or.inr q)) j).2.2
    · by_cases c : a = 1 ∧ j = 1
      · obtain ⟨rfl, rfl⟩ := c
        rw [am_u_eq] at e
        exact Or.inr (Or.inl (Or.inl (Option.some.inj e).symm))
      · rw [am_u_ne _ (by by_cases c1 : a = 1; exact Or.inr (fun c2 => c ⟨c1, c2⟩); exact Or.inl c1)] at e
        rcases p.2.2.2.2.2.2.1 a j x e with q | q | q
        · have q' : am_z none R 110 a j = some x := q
          simp only [am_z] at q'
          split at q'
          · cases q'
          · exact Or.inl q'
        · exact Or.inr (Or.inl (Or.inr q))
        · rcases List.mem_append.mp q with q | q
          · exact Or.inr (Or.inr q)
          · exact Or.inr (Or.inl (Or.inl (List.mem_singleton.mp q)))
  have hS3 : am_st al2 (am_u R2 1 1 (some 110)) := st_keep im am_ba am_sr (by decide +kernel) hS
  have hS13 : am_st2 al2 (am_u R2 1 1 (some 110)) := by
    refine ⟨fun k hk => (hm k).mpr (Or.inr ?_), fun q hq => ?_⟩
    · have e : ∀ k ∈ am_ba2, k = 110 ∨ nF_110 k := by decide +kernel
      exact e k hk
    · have e : ∀ q ∈ am_sr2, q.1 ≠ 1 ∧ q ∈ nT_110 := by decide +kernel
      rw [am_u_ne _ (Or.inl (e q hq).1)]
      exact p.2.2.2.2.2.1 q (e q hq).2
  refine am_aast (I := I2) (L := L2) (R := R2) ly_1 (hm' 1 (ba_1 hS)) ly_110 ((hm 110).mpr (Or.inr (Or.inl rfl))) (am_vI (by decide) (by decide)) (dg dc_X11_image 18 rfl) ?_
  rw [hc]
  refine am_aload_n 0 rfl rfl (dg dc_X11_image 19 rfl) <| am_get fl_X11_16.1 ly_0 (ba_0 hS3) fl_X11_16.2.1 (w := .ref 1) (fun ad => by show va_rf (Option.map ad (am_u R2 1 1 (some 110) 0 1)) = _; rw [sr_0_1 hS3]; rfl) fl_X11_16.2.2 (dg dc_X11_image 20 rfl) <| am_iload_n 1 rfl rfl (dg dc_X11_image 21 rfl) <| am_aald rfl ly_1 (ba_1 hS3) (am_vI (by decide) (by decide)) (dg dc_X11_image 22 rfl) ?_
  show am_OK M_X11_image _ _ _ _ _ _ [am_rr (am_u R2 1 1 (some 110) 1 (nI 1).toNatClampNeg)]
  rw [hc, am_u_eq]
  have hz : I2 14 2 = 0 ∨ I2 14 2 = 1 := by
    rw [(o3 14 (by decide) (by decide) 2).1]; exact x_hz h.2.2.1
  refine am_aload_n 0 rfl rfl (dg dc_X11_image 23 rfl) <| am_get fl_X11_10.1 ly_0 (ba_0 hS3) fl_X11_10.2.1 (w := .ref 10) (fun ad => by show va_rf (Option.map ad (am_u R2 1 1 (some 110) 0 0)) = _; rw [sr_0_0 hS3]; rfl) fl_X11_10.2.2 (dg dc_X11_image 24 rfl) <| am_invV (as := [.ref 10]) (b := 110) (k_X10_copyFrom_i2 (I := I2) (L := L2) hz al2 _ ⟨hS3, hS13⟩) cw_X10_copyFrom ml_X11_356 ins_X10_copyFrom sel_X10_copyFrom cls_10 rfl ly_110 ((hm 110).mpr (Or.inr (Or.inl rfl))) rfl (Nat.le_of_ble_eq_true rfl) (Nat.le_of_ble_eq_true rfl) (Nat.le_of_ble_eq_true rfl) (Nat.le_of_ble_eq_true rfl) ⟨fun _ _ _ _ => trivial, fun _ _ _ _ => trivial⟩ (fun _ _ => trivial) (dg dc_X11_image 25 rfl) (fun r h3 al3 hq => ?_)
  obtain ⟨ea, I3, L3, eh, ⟨e1, e2, e3⟩, _⟩ := hq
  rw [eh, ea, e1, e2, e3]
  refine am_iconst ki_1 (dg dc_X11_image 26 rfl) <| am_iret rfl rfl (Nat.le_of_ble_eq_true rfl) (Nat.le_of_ble_eq_true rfl) (dg dc_X11_image 27 rfl) ?_
  rw [← hQ]
  refine ⟨_, _, _, rfl, ?_, ⟨fun _ => ⟨_, rfl⟩, fun e => by cases e⟩, hS13, im⟩
  refine am_mono (k_X12_image (by decide)) (fun r I4 L4 q => ?_)
  obtain ⟨q1, q2, q3⟩ := q
  rw [q1, q2, q3]
  refine ⟨rfl, x_image_inv (by decide) h (fun p s hp => (w_i2_I_c hp).trans ?_) (fun p s hp => (w_i2_L_c hp).trans ?_) (fun a x ha => (w_i2_I_n (by omega)).trans ?_) (fun a x ha => (w_i2_L_n (by omega)).trans ?_)⟩
  · have := x_wi_le hp
    exact (o3 p (by omega) (by simp only [nF_110]; omega) s).1
  · have := x_wl_le hp
    exact (o3 p (by omega) (by simp only [nF_110]; omega) s).2.1
  · exact (o3 a (by omega) (by simp only [nF_110]; omega) x).1
  · exact (o3 a (by omega) (by simp only [nF_110]; omega) x).2.1
