/-! the law's beginning -/
theorem dl_bg : am_dcs code [(0, .new 7, 3), (3, .dup, 1), (4, .invokespecial 9, 3), (7, .astore_n 1, 1), (8, .new 10, 3), (11, .dup, 1), (12, .invokespecial 12, 3), (15, .astore_n 2, 1), (16, .iconst 0, 1), (17, .istore_n 3, 1)] = true := by decide +kernel
set_option maxHeartbeats 4000000 in
set_option maxRecDepth 100000 in
theorem la_begin {xs : Nat → Int32} {Lx : Nat} (hL : Lx ≤ 3072) : la_OK xs Lx ([], 0, 0) (fun _ _ => 0, fun _ _ => 0, fun _ _ => none) 0 [(0, .ref 901)] [] := by
  have hF0 : ct_F nF_0 ([] ++ [0]) (ct_z ((fun _ _ => 0, fun _ _ => 0, fun _ _ => none) : am_H) 0).2.2 := fun x hx => ⟨fun q => by
    rw [List.nil_append, List.mem_singleton] at q
    rw [q] at hx; exact absurd hx (by decide), fun a j e => by
    have e' : am_z none (fun _ _ => (none : Option Nat)) 0 a j = some x := e
    simp only [am_z] at e'
    split at e' <;> cases e'⟩
  refine la_new (g := ([], 0, 0)) (I := fun _ _ => 0) (L := fun _ _ => 0) (R := fun _ _ => none) 0 cls_11 ly_0 List.not_mem_nil (by decide) (by simp [la_Z]) (fun a j e => by cases e) ⟨by simp, by simp⟩ nfd_11 (tb_1 (i := 23) (by decide +kernel)) (tb_1 (i := 24) (by decide +kernel)) (tb_1 (i := 1) (by decide +kernel)) (Nat.le_of_ble_eq_true rfl) (Nat.le_of_ble_eq_true rfl) (dg dl_bg 0 rfl) <| la_dup rfl (dg dl_bg 1 rfl) <| la_invI (as := []) (kc_0 (al := [] ++ [0]) (h := ct_z (fun _ _ => 0, fun _ _ => 0, fun _ _ => none) 0) (by simp) (by simp) hF0 (ct_zz _ 0)) cw_X11_init rfl (tb_1 (i := 25) (by decide +kernel)) ins_X11_init rfl rfl (Nat.le_of_ble_eq_true rfl) (Nat.le_of_ble_eq_true rfl) (Nat.le_of_ble_eq_true rfl) (Nat.le_of_ble_eq_true rfl) ⟨by simp [nF_0], by simp [nF_0]⟩ (by decide) (dg dl_bg 2 rfl) (fun r h1 al1 hq => ?_)
  obtain ⟨rfl, p⟩ := hq
  have r0 : ∀ a j x, h1.2.2 a j = some x → nF_0 x ∨ x = 0 := fun a j x e => by
    rcases p.2.2.2.2.2.2.1 a j x e with q | q | q
    · have e' : am_z none (fun _ _ => (none : Option Nat)) 0 a j = some x := q
      simp only [am_z] at e'
      split at e' <;> cases e'
    · exact Or.inl q
    · rw [List.nil_append, List.mem_singleton] at q; exact Or.inr q
  have m0 : ∀ x, x ∈ al1 ↔ x = 0 ∨ nF_0 x := fun x => by rw [p.2.1 x, List.nil_append, List.mem_singleton]
  have nm : ∀ x, (x = 190 ∨ nF_190 x) → x ∉ al1 := fun x hx q => by
    rcases (m0 x).mp q with q | q
    · simp only [nF_190] at hx; omega
    · simp only [nF_190, nF_0] at hx q; omega
  have nr : ∀ x, (x = 190 ∨ nF_190 x) → am_nr h1.2.2 x := fun x hx a j e => by
    rcases r0 a j x e with q | q
    · simp only [nF_190, nF_0] at hx q; omega
    · simp only [nF_190] at hx; omega
  have hn1 : (al1 ++ [190]).Nodup := by
    rw [List.nodup_append]
    refine ⟨p.1, by simp, fun a ha c hc => ?_⟩
    rw [List.mem_singleton] at hc
    rw [hc]
    exact fun e => nm 190 (Or.inl rfl) (e ▸ ha)
  have hF1 : ct_F nF_190 (al1 ++ [190]) (ct_z h1 190).2.2 := fun x hx => ⟨fun q => by
    rcases List.mem_append.mp q with q | q
    · exact nm x (Or.inr hx) q
    · rw [List.mem_singleton] at q; rw [q] at hx; exact absurd hx (by decide), am_nr_z (nr x (Or.inr hx))⟩
  refine la_astore_n (l' := [(1, .ref 0), (0, .ref 901)]) rfl (by decide) rfl (dg dl_bg 3 rfl) <| la_new (I := h1.1) (L := h1.2.1) (R := h1.2.2) 190 cls_12 ly_190 (nm 190 (Or.inl rfl)) (by decide) (by simp [la_Z]) (nr 190 (Or.inl rfl)) ⟨by simp, by simp⟩ nfd_12 (tb_5 (i := 203) (by decide +kernel)) (tb_5 (i := 204) (by decide +kernel)) (tb_1 (i := 14) (by decide +kernel)) (Nat.le_of_ble_eq_true rfl) (Nat.le_of_ble_eq_true rfl) (dg dl_bg 4 rfl) <| la_dup rfl (dg dl_bg 5 rfl) <| la_invI (as := []) (kc_190 (al := al1 ++ [190]) (h := ct_z h1 190) hn1 (by simp) hF1 (ct_zz _ 190)) cw_X12_init rfl (tb_5 (i := 205) (by decide +kernel)) ins_X12_init rfl rfl (Nat.le_of_ble_eq_true rfl) (Nat.le_of_ble_eq_true rfl) (Nat.le_of_ble_eq_true rfl) (Nat.le_of_ble_eq_true rfl) ⟨by simp [nF_190], by simp [nF_190]⟩ (by decide) (dg dl_bg 6 rfl) (fun r h2 al2 hq => ?_)
  obtain ⟨rfl, p2⟩ := hq
  refine la_astore_n (l' := [(2, .ref 190), (1, .ref 0), (0, .ref 901)]) rfl (by decide) rfl (dg dl_bg 7 rfl) <| la_iconst ki_0 (dg dl_bg 8 rfl) <| la_istore_n (l' := [(3, .int 0), (2, .ref 190), (1, .ref 0), (0, .ref 901)]) rfl (by decide) rfl (dg dl_bg 9 rfl) <| la_sub (l' := [(0, .ref 901), (1, .ref 0), (2, .ref 190), (3, .int 0)]) [3, 2, 1, 0] rfl ?_
  have k0 := la_loop (xs := xs) hL (Lx + 1) 0 (al2, 0 + 1 + 73 + 1 + 12, 0 + 8 + 2144 + 23 + 4145) h2 (by omega) (by omega)
  have e0 : la_l 0 = [(0, .ref 901), (1, .ref 0), (2, .ref 190), (3, .int 0)] := by unfold la_l; rw [nI_0]
  rw [e0] at k0
  apply k0
  have m2 : ∀ x, x ∈ al2 ↔ x = 0 ∨ nF_0 x ∨ x = 190 ∨ nF_190 x := fun x => by
    rw [p2.2.1 x, List.mem_append, List.mem_singleton, m0 x]
    simp only [or_assoc]
  have o3 : ∀ a, a ≠ 190 → ¬ nF_190 a → ∀ j, h2.1 a j = h1.1 a j ∧ h2.2.1 a j = h1.2.1 a j ∧ h2.2.2 a j = h1.2.2 a j := fun a ha hN j => ct_out p2 ha hN j
  have c2 : ∀ a, (a = 0 ∨ nF_0 a ∨ a = 190 ∨ nF_190 a) → ∀ j, h2.1 a j = v_I a j ∧ h2.2.1 a j = v_L a j := fun a ha j => by
    rcases ha with rfl | ha | rfl | ha
    · obtain ⟨e1, e2, -⟩ := o3 0 (by decide) (by decide) j
      obtain ⟨d1, d2⟩ := p.2.2.2.2.1 j
      exact ⟨e1.trans d1, e2.trans d2⟩
    · obtain ⟨e1, e2, -⟩ := o3 a (by simp only [nF_0] at ha; omega) (by simp only [nF_0, nF_190] at *; omega) j
      obtain ⟨d1, d2⟩ := p.2.2.2.1 a ha j
      exact ⟨e1.trans d1, e2.trans d2⟩
    · exact p2.2.2.2.2.1 j
    · exact p2.2.2.2.1 a ha j
  have s2 : ∀ q ∈ am_sr, h2.2.2 q.1 q.2.1 = some q.2.2 := fun q hq => by
    have e : ∀ q ∈ am_sr, ((q.1 ≠ 190 ∧ ¬ nF_190 q.1) ∧ q ∈ nT_0) ∨ q ∈ nT_190 := by decide +kernel
    rcases e q hq with ⟨⟨e1, e2⟩, e3⟩ | e3
    · exact (o3 q.1 e1 e2 q.2.1).2.2.trans (p.2.2.2.2.2.1 q e3)
    · exact p2.2.2.2.2.2.1 q e3
  have i2 : ∀ j, h2.2.2 1 j = none := fun j => (o3 1 (by decide) (by decide) j).2.2.trans (p.2.2.2.2.2.2.2 1 _ (by decide) ly_1 j)
  have f2 : ∀ x, (60 ≤ x ∧ x ≤ 153) → x ∉ al2 ∧ am_nr h2.2.2 x := fun x hx => ⟨fun q => by
    have := (m2 x).mp q
    simp only [nF_0, nF_190] at this; omega, fun a j e => by
    rcases p2.2.2.2.2.2.2.1 a j x e with q | q | q
    · have q' : am_z none h1.2.2 190 a j = some x := q
      simp only [am_z] at q'
      split at q'
      · cases q'
      · have := r0 a j x q'
        simp only [nF_0] at this; omega
    · simp only [nF_190] at q; omega
    · rcases List.mem_append.mp q with q | q
      · have := (m0 x).mp q
        simp only [nF_0] at this; omega
      · rw [List.mem_singleton] at q; omega⟩
  refine ⟨fun _ => 0, h2.1, h2.2.1, h2.2.2, rfl, v_start (fun a ha j => (c2 a ha j).1) (fun a ha j => (c2 a ha j).2), p2.1, ⟨fun k hk => (m2 k).mpr ?_, s2⟩, Or.inl ⟨rfl, i2 0, fun x hx => f2 x (by simp only [nF_60] at hx; omega)⟩, Or.inl ⟨rfl, i2 1, fun x hx => f2 x (by simp only [nF_110] at hx; omega)⟩, by simp, by simp⟩
  have e : ∀ k ∈ am_ba, k = 0 ∨ nF_0 k ∨ k = 190 ∨ nF_190 k := by decide +kernel
  exact e k hk
