/-! fault and bound -/
variable {xc : Nat → Int32}
theorem am_it_s {α : Type} (f : Nat → α → α) (a : α) (n : Nat) : am_it f a (n + 1) = f n (am_it f a n) := rfl
theorem x_rT {I : am_I} {L M : am_L} {nl nc : Nat} (hR : x_R I L (L 191)) (o5 : x_let I nl nc) (hM : M 191 = L 191) : r_T M (f_tk I nc 186) nc := by
  have hc := o5.2.2.2.1
  refine ⟨hc, ?_, fun k hk => ?_⟩
  · rw [hM]; exact xt_nc hR o5
  · rw [hM, f_tk_T I (by omega)]; exact xh_rul hR (by omega)
theorem x_rX_sm {I J : am_I} {L M : am_L} (h : r_X I L J M) : x_sm I L J M := ⟨fun a x _ _ _ _ h5 h6 => h.1 a x h5 (h6.elim Or.inl (fun q => Or.inr (by omega))), fun a x _ _ _ _ h5 h6 => h.2 a x (by omega) h5⟩
theorem x_qI_sm {I : am_I} {L : am_L} {n p o : Nat} {f : Int32} : x_sm I L (q_I (f_tk I n) p o f) L := ⟨fun a x _ _ _ h4 _ _ => by rw [q_I, am_ro_ne' (by omega), f_tk_ne I n (by omega) (by omega)], fun _ _ _ _ _ _ _ _ => rfl⟩
theorem x_o_fault {I : am_I} {L : am_L} (h : x_Inv xc I L) : am_K M_X11_fault 323 [.ref 0] I L (x_Q xc M_X12_fault 3 [.ref 190]) := by
  obtain ⟨hR, hF, ⟨np, n, nw, nt, nh, ng, ns, nl, nc, o1, o2, o3, o4, o5⟩, _⟩ := id h
  refine bm_intro (by decide +kernel) (Nat.le_of_ble_eq_true rfl) (show B_X11_fault_0 _ _ _ from s_X11_fault_0 ⟨_, am_qf_i (k_X7_faultOf o5.2.2.1 o5.2.2.2.1 o5.2.2.2.2), fun v I3 L4 e => ?_⟩)
  obtain ⟨e1, e2, e3⟩ := e
  rw [e1, e2, e3]
  have h2 := x_keep h (x_qI_sm (I := I) (L := L) (n := nc) (p := q_s (f_tk I nc 186) nc (z_val (f_tk I nc 186) nc (L 185)).2.1) (o := (z_val (f_tk I nc 186) nc (L 185)).2.2.1) (f := z_flt (f_tk I nc 186) nc (L 185)))
  refine am_mono (k_X12_fault (T := f_tk I nc 186) (n := nc) (N := L 185) (x_rT hR o5 rfl) (fun x hx => h.2.2.2.2.2.2 x hx)) (fun r I5 L6 q => ?_)
  obtain ⟨v2, q1, q2, q3⟩ := q
  rw [q1, q3]
  exact ⟨rfl, x_keep h2 (x_rX_sm q2)⟩
theorem x_ask_eq {I : am_I} {L : am_L} {nl nc m : Nat} (hR : x_R I L (L 191)) (o5 : x_let I nl nc) : (am_it (f_ask I (nI m)) 0 nl).toInt64 = am_sum (g_la L m) nl ∧ (am_it (f_rea I (nI m)) 0 nl).toInt64 = am_sum (g_lr L m) nl := by
  have b := o5.2.1
  have m1 : (-1 : Int64) = (-1 : Int32).toInt64 := by decide
  have key : ∀ k, k ≤ nl → ((∃ t, t ≤ k ∧ am_it (f_ask I (nI m)) 0 k = nI t) ∧ (∃ t, t ≤ k ∧ am_it (f_rea I (nI m)) 0 k = nI t)) ∧ (am_it (f_ask I (nI m)) 0 k).toInt64 = am_sum (g_la L m) k ∧ (am_it (f_rea I (nI m)) 0 k).toInt64 = am_sum (g_lr L m) k := by
    intro k
    induction k with
    | zero => intro _; exact ⟨⟨⟨0, Nat.le_refl _, rfl⟩, ⟨0, Nat.le_refl _, rfl⟩⟩, rfl, rfl⟩
    | succ k ih =>
      intro hk
      obtain ⟨⟨⟨t1, a1, a2⟩, ⟨t2, b1, b2⟩⟩, i1, i2⟩ := ih (by omega)
      show ((∃ t, t ≤ k + 1 ∧ f_ask I (nI m) k (am_it (f_ask I (nI m)) 0 k) = nI t) ∧ (∃ t, t ≤ k + 1 ∧ f_rea I (nI m) k (am_it (f_rea I (nI m)) 0 k) = nI t)) ∧ (f_ask I (nI m) k (am_it (f_ask I (nI m)) 0 k)).toInt64 = am_sum (g_la L m) k + g_la L m k ∧ (f_rea I (nI m) k (am_it (f_rea I (nI m)) 0 k)).toInt64 = am_sum (g_lr L m) k + g_lr L m k
      rw [← i1, ← i2, a2, b2, f_ask, f_rea, g_la, g_lr, xh_let_1 hR (show k < 20 by omega), xh_let_2 hR (show k < 20 by omega), m1]
      simp only [am_lt64, x_eq64]
      refine ⟨⟨?_, ?_⟩, ?_, ?_⟩
      · split
        · exact ⟨t1, by omega, rfl⟩
        · exact ⟨t1 + 1, by omega, (nI_succ t1).symm⟩
      · split
        · exact ⟨t2, by omega, rfl⟩
        · split
          · exact ⟨t2, by omega, rfl⟩
          · exact ⟨t2 + 1, by omega, (nI_succ t2).symm⟩
      · split
        · exact (Int64.add_zero _).symm
        · exact (x_inc (by omega)).symm
      · split
        · exact (Int64.add_zero _).symm
        · split
          · exact (Int64.add_zero _).symm
          · exact (x_inc (by omega)).symm
  exact (key nl (Nat.le_refl _)).2
theorem x_nm_eq {I : am_I} {L M : am_L} {np n nw nl nc m : Nat} (hR : x_R I L (L 191)) (o1 : x_led I L np n nw) (o5 : x_let I nl nc) (hm : m < 60) (hM : M 191 = L 191) : ∀ x, x < 7 → f_nm I L n nl m x = g_nm M n nl m x := by
  intro x hx
  have hw : g_went M = g_went L := by
    funext a b c d r
    simp only [g_went, hM]
  have hl : g_la M m = g_la L m := by funext l; simp only [g_la, hM]
  have hr : g_lr M m = g_lr L m := by funext l; simp only [g_lr, hM]
  rw [g_nm, g_n1, g_n0, hw, hl, hr, hM, f_nm]
  obtain ⟨e1, e2⟩ := x_ask_eq (m := m) hR o5
  simp only [am_f]
  by_cases h6 : x = 6
  · subst h6; rfl
  by_cases h5 : x = 5
  · subst h5; exact e2
  by_cases h4 : x = 4
  · subst h4; exact e1
  by_cases h3 : x = 3
  · subst h3; exact xs_outa hR o1 x_bm
  by_cases h2 : x = 2
  · subst h2; exact xs_ina hR o1 x_bm
  by_cases h1 : x = 1
  · subst h1; exact (xh_shs hR hm).symm
  by_cases h0 : x = 0
  · subst h0; exact (xh_cns hR hm).symm
  omega
/-- behind the reader's work: its own cells, its own text -/
def f_tb (I : am_I) (n : Nat) (B : Nat → Int32) : am_I := am_ro (f_tk I n) 184 B
theorem f_tb_ne (I : am_I) (n : Nat) (B : Nat → Int32) {a x : Nat} (h1 : a ≠ 184) (h2 : a ≠ 186) : f_tb I n B a x = I a x := by rw [f_tb, am_ro_ne' h1, f_tk_ne I n h1 h2]
theorem f_tb_T (I : am_I) (n : Nat) (B : Nat → Int32) : f_tb I n B 186 = f_tk I n 186 := am_ro_ne _ _ (by decide)
theorem f_tb_q (I : am_I) (n p o : Nat) (f : Int32) (B : Nat → Int32) : q_I (f_tb I n B) p o f = f_tb I n (am_f (am_f (am_f B 3 (nI p)) 4 (nI o)) 5 f) := by rw [q_I, f_tb, am_ro_rr, am_ro_at, f_tb]
theorem f_tb_0 (I : am_I) (n p o : Nat) (f : Int32) : q_I (f_tk I n) p o f = f_tb I n (am_f (am_f (am_f (f_tk I n 184) 3 (nI p)) 4 (nI o)) 5 f) := by rw [q_I, f_tb]
theorem f_nm_ro {I : am_I} {L : am_L} {B : Nat → Int32} {n nl nc m : Nat} : f_nm (f_tb I nc B) L n nl m = f_nm I L n nl m := by
  have hb : ∀ {a : Nat}, a ≠ 184 → a ≠ 186 → f_tb I nc B a = I a := fun h1 h2 => funext fun x => f_tb_ne I nc B h1 h2
  have e1 : f_ina (f_tb I nc B) = f_ina I := by funext a b r; simp [f_ina, hb]
  have e2 : f_outa (f_tb I nc B) = f_outa I := by funext a b r; simp [f_outa, hb]
  have e3 : f_ask (f_tb I nc B) = f_ask I := by funext a b r; simp [f_ask, hb]
  have e4 : f_rea (f_tb I nc B) = f_rea I := by funext a b r; simp [f_rea, hb]
  funext x
  simp only [f_nm, e1, e2, e3, e4]
def f_bd (I : am_I) (L : am_L) (n nl nc m : Nat) (a : Int64) : Int64 := if (z_val (f_tk I nc 186) nc (f_nm I L n nl m)).1 = 0 then a else a ||| ((1 : Int64) <<< ((nI m).toInt64 &&& 63))
def f_bw (I : am_I) (L : am_L) (n nl : Nat) : Nat → Nat → Int64
  | 0 => L 185
  | m + 1 => f_nm I L n nl m
theorem k_X11_bound {I : am_I} {L : am_L} {np n nw nl nc : Nat} (o1 : x_led I L np n nw) (o5 : x_let I nl nc) : am_K M_X11_bound 323 [.ref 0] I L (fun r I' L' => ∃ B, I' = f_tb I nc B ∧ (¬ z_flt (f_tk I nc 186) nc (L 185) = -1 → r = some (.long (-3)) ∧ L' = L) ∧ (z_flt (f_tk I nc 186) nc (L 185) = -1 → r = some (.long (am_it (f_bd I L n nl nc) 0 nw)) ∧ L' = am_ro L 185 (f_bw I L n nl nw))) := by
  refine bm_intro (by decide +kernel) (Nat.le_of_ble_eq_true rfl) (show B_X11_bound_0 _ _ _ from s_X11_bound_0 ⟨_, am_qf_i (k_X7_faultOf o5.2.2.1 o5.2.2.2.1 o5.2.2.2.2), fun v I3 L4 e => ?_⟩)
  obtain ⟨e1, e2, e3⟩ := e
  rw [e1, e2, e3, f_tb_0]
  refine ⟨fun c1 => ?_, fun c1 => ⟨_, rfl, fun _ => ⟨rfl, rfl⟩, fun q => absurd q c1⟩⟩
  have key : ∀ k, k ≤ nw → ∀ B : Nat → Int32, B 2 = nI nc → B_X11_bound_26 (fun r I' L' => ∃ B, I' = f_tb I nc B ∧ (¬ z_flt (f_tk I nc 186) nc (L 185) = -1 → r = some (.long (-3)) ∧ L' = L) ∧ (z_flt (f_tk I nc 186) nc (L 185) = -1 → r = some (.long (am_it (f_bd I L n nl nc) 0 nw)) ∧ L' = am_ro L 185 (f_bw I L n nl nw))) (f_tb I nc B) (am_ro L 185 (f_bw I L n nl k)) (am_it (f_bd I L n nl nc) 0 k) (nI k) := by
    have h8 : ∀ B, f_tb I nc B 11 8 = nI nw := fun B => by rw [f_tb_ne I nc B (by decide) (by decide)]; exact o1.2.2.2.2.1
    have hw60 := o1.2.2.2.2.2.1
    refine am_down (fun B _ => ?_) (fun k hk ih B hB => ?_)
    · exact s_X11_bound_26 ⟨fun _ => ⟨B, rfl, fun q => absurd c1 q, fun _ => ⟨rfl, rfl⟩⟩, fun q => absurd (by rw [h8]; exact Int32.le_refl _) q⟩
    · refine s_X11_bound_26 ⟨fun q => absurd q (by rw [h8]; exact nI_ge hk (by omega)), fun _ => ?_⟩
      have hn : f_tb I nc B 11 7 = nI n := by rw [f_tb_ne I nc B (by decide) (by decide)]; exact o1.2.2.1
      have hl : f_tb I nc B 15 3 = nI nl := by rw [f_tb_ne I nc B (by decide) (by decide)]; exact o5.1
      have hc : f_tb I nc B 184 2 = nI nc := by rw [f_tb, am_ro_at]; exact hB
      have hc40 := o5.2.2.2.1
      have hN : ∀ x, 7 ≤ x → am_ro L 185 (f_bw I L n nl k) 185 x = L 185 x := fun x hx => by
        rw [am_ro_at]
        cases k with
        | zero => rfl
        | succ k =>
          show f_nm I L n nl k x = _
          rw [f_nm, if_neg (by omega), if_neg (by omega), if_neg (by omega), if_neg (by omega), if_neg (by omega), if_neg (by omega), if_neg (by omega)]
      refine ⟨_, am_qf_v (k_X7_learn (L0 := L) hn o1.2.2.2.1 hl o5.2.1 (by omega) hN (am_ro_ne _ _ (by decide)) (am_ro_ne _ _ (by decide))), fun I7 L8 e => ?_⟩
      obtain ⟨q1, q2⟩ := e
      rw [q1, q2, am_ro_rr, f_nm_ro]
      refine ⟨_, am_qf_l (k_X7_valueRead hc hc40 (fun k hk => by rw [f_tb_T, f_tk_T I (by omega)]; exact o5.2.2.2.2 k hk)), fun v I9 L10 e => ?_⟩
      obtain ⟨q3, q4, q5⟩ := e
      rw [q3, q4, q5, f_tb_T, am_ro_at, f_tb_q]
      have e0 : am_it (f_bd I L n nl nc) 0 (k + 1) = f_bd I L n nl nc k (am_it (f_bd I L n nl nc) 0 k) := am_it_s _ _ _
      rw [e0, f_bd, nI_succ] at ih
      refine ⟨fun c2 => ?_, fun c2 => ?_⟩
      · rw [if_pos c2] at ih; exact ih _ (by rw [am_f_ne _ _ (by decide), am_f_ne _ _ (by decide), am_f_ne _ _ (by decide)]; exact hB)
      · rw [if_neg c2] at ih; exact ih _ (by rw [am_f_ne _ _ (by decide), am_f_ne _ _ (by decide), am_f_ne _ _ (by decide)]; exact hB)
  have k0 := key 0 (Nat.zero_le _) (am_f (am_f (am_f (f_tk I nc 184) 3 (nI (q_s (f_tk I nc 186) nc (z_val (f_tk I nc 186) nc (L 185)).2.1))) 4 (nI (z_val (f_tk I nc 186) nc (L 185)).2.2.1)) 5 (z_flt (f_tk I nc 186) nc (L 185))) (by rw [am_f_ne _ _ (by decide), am_f_ne _ _ (by decide), am_f_ne _ _ (by decide)]; exact f_tk_n I nc)
  rw [show f_bw I L n nl 0 = L 185 from rfl, am_ro_self] at k0
  exact k0
theorem x_o_bound {I : am_I} {L : am_L} (h : x_Inv xc I L) : am_K M_X11_bound 323 [.ref 0] I L (x_Q xc M_X12_bound 3 [.ref 190]) := by
  obtain ⟨hR, hF, ⟨np, n, nw, nt, nh, ng, ns, nl, nc, o1, o2, o3, o4, o5⟩, _⟩ := id h
  have hnm := h.2.2.2.2.2.2
  refine am_mono (k_X11_bound o1 o5) (fun r I1 L1 q => ?_)
  obtain ⟨B, q1, q2, q3⟩ := q
  by_cases c : z_flt (f_tk I nc 186) nc (L 185) = -1
  · obtain ⟨q4, q5⟩ := q3 c
    rw [q1, q4, q5]
    generalize hV : am_it (f_bd I L n nl nc) 0 nw = V
    have h191 : am_ro L 185 (f_bw I L n nl nw) 191 = L 191 := am_ro_ne _ _ (by decide)
    refine bm_intro (by decide +kernel) (Nat.le_of_ble_eq_true rfl) (show B_X12_bound_0 _ _ _ from s_X12_bound_0 ⟨_, k_X12_reads (T := f_tk I nc 186) (n := nc) (N := am_ro L 185 (f_bw I L n nl nw) 201) (x_rT hR o5 h191) (fun _ _ => rfl), fun v I3 L4 e => ?_⟩)
    obtain ⟨p1, p2, p3, p4⟩ := e
    have cf : ∀ N, z_flt (f_tk I nc 186) nc N = -1 := fun N => by rw [z_flt_ind N (L 185)]; exact c
    refine ⟨fun _ => ?_, fun z => absurd z (by rw [(p3 (cf _)).1]; decide)⟩
    have hw60 := o1.2.2.2.2.2.1
    have key : ∀ k, k ≤ nw → ∀ J M, (∀ a x, (a < 184 ∨ 186 < a) → a ≠ 200 → (a ≠ 190 ∨ 17 ≤ x) → J a x = I a x) → (∀ a x, a ≠ 185 → a ≠ 199 → a ≠ 190 → a ≠ 201 → M a x = L a x) → (M 185 = f_bw I L n nl nw) → (∀ x, x < 7 → M 201 x = f_bw I L n nl k x) → B_X12_bound_15 (fun r2 I'' L'' => r2 = some (.long V) ∧ x_Inv xc I'' L'') J M (am_it (f_bd I L n nl nc) 0 k) (nI k) := by
      refine am_down (fun J M h1 h2 h3 h4 => ?_) (fun k hk ih J M h1 h2 h3 h4 => ?_)
      · have e191 : M 191 = L 191 := funext fun x => h2 191 x (by decide) (by decide) (by decide) (by decide)
        refine s_X12_bound_15 ⟨fun _ => ⟨by rw [hV], x_keepn h ⟨fun a x g1 g2 g3 g4 g5 g6 => h1 a x g4 g5 (g6.elim Or.inl (fun q => Or.inr (by omega))), fun a x g1 g2 g3 g4 g5 g6 g7 g8 => h2 a x g5 (by omega) g7 g6⟩ (fun x hx => ?_)⟩, fun q => absurd (by rw [e191, xt_w hR o1]; exact Int32.le_refl _) q⟩
        rw [h3, h4 x hx]
      · have e191 : M 191 = L 191 := funext fun x => h2 191 x (by decide) (by decide) (by decide) (by decide)
        refine s_X12_bound_15 ⟨fun q => absurd q (by rw [e191, xt_w hR o1]; exact nI_ge hk (by omega)), fun _ => ?_⟩
        refine ⟨_, am_qf_v (k_X12_lay (n := n) (nl := nl) (by rw [e191]; exact xt_n hR o1) o1.2.2.2.1 (by rw [e191]; exact xt_nl hR o5) o5.2.1 (by omega)), fun I7 L8 e => ?_⟩
        obtain ⟨t1, t2⟩ := e
        rw [t1, t2]
        have hnm2 := x_nm_eq (m := k) hR o1 o5 (by omega) e191
        refine ⟨_, k_X12_reads (T := f_tk I nc 186) (n := nc) (N := f_nm I L n nl k) (x_rT hR o5 (by rw [am_ro_ne _ _ (by decide)]; exact e191)) (fun x hx => by rw [am_ro_at]; exact hnm2 x hx), fun v I9 L10 e => ?_⟩
        obtain ⟨u1, u2, u3, u4⟩ := e
        have u5 := (u3 (cf _)).2
        rw [u5]
        have e0 : am_it (f_bd I L n nl nc) 0 (k + 1) = f_bd I L n nl nc k (am_it (f_bd I L n nl nc) 0 k) := am_it_s _ _ _
        have ih2 := ih I9 L10 (fun a x g1 g2 g3 => by rw [u1.1 a x g2 g3]; exact h1 a x g1 g2 g3)
          (fun a x g1 g2 g3 g4 => by rw [u1.2 a x g2 g3, am_ro_ne' g4]; exact h2 a x g1 g2 g3 g4)
          (funext fun x => by rw [u1.2 185 x (by decide) (by decide), am_ro_ne' (by decide), h3])
          (fun x hx => by rw [u1.2 201 x (by decide) (by decide), am_ro_at]; exact (hnm2 x hx).symm)
        rw [e0, f_bd, nI_succ] at ih2
        refine ⟨fun c2 => ?_, fun c2 => ?_⟩
        · rw [if_pos c2] at ih2; rw [Int64.or_zero]; exact ih2
        · rw [if_neg c2] at ih2; exact ih2
    refine key 0 (Nat.zero_le _) I3 L4 (fun a x g1 g2 g3 => by rw [p1.1 a x g2 g3, f_tb_ne I nc B (by omega) (by omega)]) (fun a x g1 g2 g3 g4 => by rw [p1.2 a x g2 g3, am_ro_ne' g1]) (funext fun x => by rw [p1.2 185 x (by decide) (by decide), am_ro_at]) (fun x hx => ?_)
    rw [p1.2 201 x (by decide) (by decide), am_ro_ne' (by decide)]
    exact (hnm x hx).symm
  · obtain ⟨q4, q5⟩ := q2 c
    rw [q1, q4, q5]
    have h2 : x_Inv xc (f_tb I nc B) L := x_keep h ⟨fun a x _ _ _ g4 _ _ => f_tb_ne I nc B (by omega) (by omega), fun _ _ _ _ _ _ _ _ => rfl⟩
    refine bm_intro (by decide +kernel) (Nat.le_of_ble_eq_true rfl) (show B_X12_bound_0 _ _ _ from s_X12_bound_0 ⟨_, k_X12_reads (T := f_tk I nc 186) (n := nc) (N := L 185) (x_rT hR o5 rfl) hnm, fun v I3 L4 e => ?_⟩)
    obtain ⟨p1, p2, p3, p4⟩ := e
    refine ⟨fun z => absurd (p4 c).1 z, fun _ => ⟨rfl, x_keep h2 (x_rX_sm p1)⟩⟩
