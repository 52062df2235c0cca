/-! pays and rounds -/
variable {xc : Nat → Int32}
theorem g_du_c {L M : am_L} (h : M 191 = L 191) : g_du M = g_du L := by funext k; rw [g_du, g_du, h]
theorem g_sq_c {L M : am_L} (h : M 191 = L 191) : g_sq M = g_sq L := by
  have hd := g_du_c h
  have ho : g_own M = g_own L := by
    funext n np k
    have e : g_ow M = g_ow L := by funext a b c d; rw [g_ow, g_ow, h, g_cnt_c h]
    rw [g_own, g_own, h, e]
  have hn : g_nx M = g_nx L := by
    funext n np C k
    have e : g_gp M = g_gp L := by funext a b c d; rw [g_gp, g_gp, h, hd]
    rw [g_nx, g_nx, hd, g_gets, g_gets, e, ho]
  funext n np gr i
  induction i with
  | zero => rw [g_sq, g_sq, hd]
  | succ i ih => rw [g_sq, g_sq, ih, hn]
theorem x_round_eq {I : am_I} {L : am_L} {np n w : Nat} (hR : x_R I L (L 191)) (o1 : x_led I L np n w) (o4 : x_hou I) (hx : ∀ m, m < 60 → 1 ≤ I 39 m) {o c p C : Nat → Int64} (ho : ∀ i, i < 64 → o i = (I 49 i).toInt64) (hc : ∀ h, h < 8 → c h = f_coins I n np h) (hp : ∀ k, k < 8 → p k = C k) : (∀ h, h < 8 → c_D o h = g_du L h) ∧ ∀ h, h < 8 → c_step o c p h = g_nx L n np C h := by
  have hD : ∀ h, h < 8 → c_D o h = g_du L h := fun h hh => by
    rw [c_D, g_du]
    refine am_sum_congr 8 (fun k hk => ?_)
    rw [ho _ (by omega), show 852 + 8 * h + k = 852 + (h * 8 + k) by omega, xh_due hR (by omega)]
  refine ⟨hD, fun h hh => ?_⟩
  have key : ∀ j, j ≤ 8 → am_it (g_gp L C h) (g_own L n np h) j = g_own L n np h + am_sum (fun k => c_sh o p k h) j := by
    intro j
    induction j with
    | zero => intro _; show g_own L n np h = g_own L n np h + 0; rw [Int64.add_zero]
    | succ j ih =>
      intro hj
      rw [am_it_s, ih (by omega), am_sum, g_gp, c_sh, am_cut, hD j (by omega), hp j (by omega), ho _ (by omega), show 852 + 8 * j + h = 852 + (j * 8 + h) by omega, xh_due hR (by omega), Int64.add_assoc]
  rw [c_step, g_nx, g_gets, key 8 (Nat.le_refl _), x_own_eq hR o1 o4 hx hh, hD h hh, hc h hh]
  by_cases q : f_coins I n np h + am_sum (fun k => c_sh o p k h) 8 < g_du L h
  · rw [if_pos q, if_neg (Int64.not_le.mpr q)]
  · rw [if_neg q, if_pos (Int64.not_lt.mp q)]
theorem x_clear {I : am_I} {L : am_L} {np n w : Nat} (hR : x_R I L (L 191)) (o1 : x_led I L np n w) (o4 : x_hou I) (hx : ∀ m, m < 60 → 1 ≤ I 39 m) {o c : Nat → Int64} (ho : ∀ i, i < 64 → o i = (I 49 i).toInt64) (hc : ∀ h, h < 8 → c h = f_coins I n np h) (g : Int32) : ∃ m, (∀ h, h < 8 → (c_run o c 1000000 (fun h => if g = 0 then 0 else c_D o h) 0).1 h = g_sq L n np g m h) ∧ (c_run o c 1000000 (fun h => if g = 0 then 0 else c_D o h) 0).2 = nI m ∧ (∀ h, h < 8 → c_D o h = g_du L h) ∧ (∀ i, i < m → ∃ h, h < 8 ∧ ¬ g_sq L n np g (i + 1) h = g_sq L n np g i h) ∧ ∀ h, h < 8 → g_sq L n np g (m + 1) h = g_sq L n np g m h := by
  have hb : x_oc o c := by
    refine ⟨fun i hi => ?_, fun h hh => ?_⟩
    · rw [ho i hi, Int32.toInt_toInt64]
      obtain ⟨g1, g2⟩ := o4.2.1 i hi
      rw [Int32.le_iff_toInt_le] at g1 g2
      exact ⟨g1, g2⟩
    · rw [hc h hh]; exact x_coinb o1 o4 hh
  have hD := (x_round_eq hR o1 o4 hx (p := fun _ => 0) (C := fun _ => 0) ho hc (fun _ _ => rfl)).1
  generalize hp0 : (fun h => if g = 0 then 0 else c_D o h) = p0
  have hpr : ∀ k, k < 8 → 0 ≤ (p0 k).toInt ∧ (p0 k).toInt ≤ 80000 := fun k hk => by
    rw [← hp0]
    show 0 ≤ (if g = 0 then 0 else c_D o k).toInt ∧ (if g = 0 then 0 else c_D o k).toInt ≤ 80000
    split
    · decide
    · exact x_Db hb hk
  have hm : (∀ h, h < 8 → (p0 h).toInt ≤ (c_step o c p0 h).toInt) ∨ ∀ h, h < 8 → (c_step o c p0 h).toInt ≤ (p0 h).toInt := by
    by_cases q : g = 0
    · refine Or.inl (fun h hh => ?_)
      have e : p0 h = 0 := by rw [← hp0]; exact if_pos q
      rw [e]
      exact (x_stp hb hpr hh).2.1
    · refine Or.inr (fun h hh => ?_)
      have e : p0 h = c_D o h := by rw [← hp0]; exact if_neg q
      rw [e, c_step]
      split
      · rename_i c; exact Int.le_of_lt (Int64.lt_iff_toInt_lt.mp c)
      · exact Int.le_refl _
  obtain ⟨m, m1, m2, m3⟩ := x_rest hb hpr hm
  have es : ∀ i h, h < 8 → c_sqn o c p0 i h = g_sq L n np g i h := by
    intro i
    induction i with
    | zero =>
      intro h hh
      rw [c_sqn, ← hp0, g_sq]
      show (if g = 0 then 0 else c_D o h) = if g = 0 then 0 else g_du L h
      rw [hD h hh]
    | succ i ih =>
      intro h hh
      rw [c_sqn, c_nx8 hh, g_sq]
      exact (x_round_eq hR o1 o4 hx ho hc ih).2 h hh
  have en : ∀ i h, h < 8 → c_step o c (c_sqn o c p0 i) h = g_sq L n np g (i + 1) h := fun i h hh => (x_round_eq hR o1 o4 hx ho hc (es i)).2 h hh
  have hr := c_run_m (o := o) (c := c) m p0 1000000 0 (by omega) m2 m3
  rw [Nat.zero_add, show nI 0 = 0 from rfl] at hr
  rw [hr]
  refine ⟨m, fun h hh => es m h hh, rfl, hD, fun i hi => ?_, fun h hh => ?_⟩
  · refine Classical.byContradiction fun z => m2 i hi (fun h hh => ?_)
    rw [en i h hh, es i h hh]
    exact Classical.byContradiction fun z2 => z ⟨h, hh, z2⟩
  · rw [← en m h hh, ← es m h hh]; exact m3 h hh
theorem x_cac_a {I I' : am_I} {L L' : am_L} (h : c_cachea I L) (hI : ∀ a x, 164 ≤ a → a ≤ 171 → I' a x = I a x) (hL : ∀ a x, 164 ≤ a → a ≤ 171 → L' a x = L a x) : c_cachea I' L' := by
  have i0 : I' 164 = I 164 := funext fun x => hI _ x (by decide) (by decide)
  have i2 : I' 166 = I 166 := funext fun x => hI _ x (by decide) (by decide)
  have l1 : L' 165 = L 165 := funext fun x => hL _ x (by decide) (by decide)
  have l3 : L' 167 = L 167 := funext fun x => hL _ x (by decide) (by decide)
  have l4 : L' 168 = L 168 := funext fun x => hL _ x (by decide) (by decide)
  have l6 : L' 170 = L 170 := funext fun x => hL _ x (by decide) (by decide)
  have l7 : L' 171 = L 171 := funext fun x => hL _ x (by decide) (by decide)
  have oa : c_oa I' = c_oa I := by funext i; rw [c_oa, c_oa, i2]
  have pa : c_p0a I' = c_p0a I := by unfold c_p0a; simp only [oa, i0]
  have ga : c_G 164 L' ↔ c_G 164 L := by unfold c_G; simp only [show 164 + 4 = 168 from rfl, show 164 + 6 = 170 from rfl, l4, l6]
  simp only [c_cachea, c_oka, oa, pa, ga, i0, l1, l3, l6, l7] at h ⊢
  exact h
theorem x_cac_b {I I' : am_I} {L L' : am_L} (h : c_cacheb I L) (hI : ∀ a x, 174 ≤ a → a ≤ 181 → I' a x = I a x) (hL : ∀ a x, 174 ≤ a → a ≤ 181 → L' a x = L a x) : c_cacheb I' L' := by
  have i0 : I' 174 = I 174 := funext fun x => hI _ x (by decide) (by decide)
  have i2 : I' 176 = I 176 := funext fun x => hI _ x (by decide) (by decide)
  have l1 : L' 175 = L 175 := funext fun x => hL _ x (by decide) (by decide)
  have l3 : L' 177 = L 177 := funext fun x => hL _ x (by decide) (by decide)
  have l4 : L' 178 = L 178 := funext fun x => hL _ x (by decide) (by decide)
  have l6 : L' 180 = L 180 := funext fun x => hL _ x (by decide) (by decide)
  have l7 : L' 181 = L 181 := funext fun x => hL _ x (by decide) (by decide)
  have oa : c_ob I' = c_ob I := by funext i; rw [c_ob, c_ob, i2]
  have pa : c_p0b I' = c_p0b I := by unfold c_p0b; simp only [oa, i0]
  have ga : c_G 174 L' ↔ c_G 174 L := by unfold c_G; simp only [show 174 + 4 = 178 from rfl, show 174 + 6 = 180 from rfl, l4, l6]
  simp only [c_cacheb, c_okb, oa, pa, ga, i0, l1, l3, l6, l7] at h ⊢
  exact h
theorem x_keepca {I I' : am_I} {L L' : am_L} {n np : Nat} (h : x_Inv xc I L) (hq : c_set_posta I L n np I' L') : x_Inv xc I' L' := by
  obtain ⟨hR, hF, hO, ⟨hi0, hi1⟩, hr, hc, hn⟩ := h
  have sI : ∀ a x, a ≠ 166 → (a ≠ 164 ∨ x ≠ 8) → I' a x = I a x := hq.2.2.2.2
  have sL : ∀ a x, (a < 165 ∨ 171 < a) → L' a x = L a x := hq.2.2.2.1
  have hw : x_wq I L I' L' := fun a x h1 h2 h3 h4 h5 => ⟨sI a x (by omega) (by omega), sL a x (by omega)⟩
  have e191 : L' 191 = L 191 := funext fun x => sL 191 x (by omega)
  have e7 : L' 7 = L 7 := funext fun x => sL 7 x (by omega)
  refine ⟨x_R_c hR hw (fun e _ => by rw [e191]), by rw [x_fra, e191, e7]; exact hF, x_ok_c hO hw, ⟨?_, ?_⟩, ?_, ⟨?_, ?_, ?_⟩, fun x hx => ?_⟩
  · exact x_img_c (by decide) hi0 (fun a x h1 h2 => sI a x (by omega) (by omega)) (fun a x h1 h2 => sL a x (by omega)) (sI 193 0 (by decide) (by decide)) (fun x => sL 192 x (by omega))
  · exact x_img_c (by decide) hi1 (fun a x h1 h2 => sI a x (by omega) (by omega)) (fun a x h1 h2 => sL a x (by omega)) (sI 193 1 (by decide) (by decide)) (fun x => sL 192 x (by omega))
  · exact x_rec_c hr (fun x => sI 2 x (by omega) (by omega)) (fun x => sI 3 x (by omega) (by omega)) (fun x => sI 4 x (by omega) (by omega)) (fun x => sI 5 x (by omega) (by omega)) (fun x => sI 202 x (by omega) (by omega)) (fun x _ => sI 190 x (by omega) (by omega))
  · exact ⟨hq.2.2.1, x_cac_b hc.1.2 (fun a x h1 h2 => sI a x (by omega) (by omega)) (fun a x h1 h2 => sL a x (by omega))⟩
  · rw [sI 164 0 (by decide) (Or.inr (by decide))]; exact hc.2.1
  · rw [sI 174 0 (by decide) (Or.inr (by decide))]; exact hc.2.2
  · rw [sL 185 x (by omega), sL 201 x (by omega)]; exact hn x hx
theorem k_X11_agreeda {I : am_I} {L : am_L} {np n w : Nat} (o1 : x_led I L np n w) (hcc : c_cachea I L) : am_K M_X11_agreed 6 [.ref 0, .int 0] I L (am_qr 164 fun I1 L1 => c_set_posta I L n np I1 L1) :=
  bm_intro (by decide +kernel) (Nat.le_of_ble_eq_true rfl) (show B_X11_agreed_0 _ _ _ _ from s_X11_agreed_0 ⟨fun q => absurd rfl q, fun _ => ⟨_, k_X1_settlea o1.2.2.1 o1.2.2.2.1 o1.1 o1.2.1 hcc, fun I7 L8 q => ⟨rfl, q⟩⟩⟩)
/-- both sides at rest: the fund's numbers after settling, and what the reference then finds -/
theorem x_agreea {I I1 : am_I} {L L1 : am_L} {np n w nt nh ng ns : Nat} (h : x_Inv xc I L) (o1 : x_led I L np n w) (o2 : x_pap I nt nh) (o3 : x_cla I np ng ns) (o4 : x_hou I) (hq : c_set_posta I L n np I1 L1) : ∃ m P, c_oka I1 L1 P ∧ I1 164 8 = nI m ∧ (∀ h, h < 8 → P h = g_sq L1 n np 0 m h ∧ c_D (c_oa I1) h = g_du L1 h) ∧ am_K M_X12_findPays 2 [.ref 190, .int 0] I1 L1 (am_qv (g_paid L1 n np 0 m I1)) := by
  have hR := h.1
  have hc := h.2.2.2.2.2.1
  have hx : ∀ m, m < 60 → 1 ≤ I 39 m := fun m hm => (o3.2.2.2.2.1 m hm).1
  have e191 : L1 191 = L 191 := funext fun x => hq.2.2.2.1 191 x (by omega)
  have ep : c_p0a I1 = fun h => if (0 : Int32) = 0 then 0 else c_D (c_oa I1) h := by
    funext h
    rw [c_p0a, hq.2.2.2.2 164 0 (by decide) (Or.inr (by decide)), hc.2.1]
  obtain ⟨m, h1, h2, h3, h4, h5⟩ := x_clear hR o1 o4 hx (o := c_oa I1) (c := L1 165) (fun i hi => by rw [c_oa, hq.2.1 i hi]) hq.1 0
  rw [← ep] at h1 h2
  obtain ⟨q1, q2⟩ := hq.2.2.1
  refine ⟨m, _, q1, by rw [q2]; exact h2, fun k hk => ⟨?_, ?_⟩, ?_⟩
  · rw [g_sq_c e191]; exact h1 k hk
  · rw [g_du_c e191]; exact h3 k hk
  · exact k_X12_findPays (by rw [e191]; exact xt_n hR o1) o1.2.2.2.1 (by rw [e191]; exact xt_np hR o1) o1.2.1 (by rw [e191]; exact xt_w hR o1) o1.2.2.2.2.2.1 (by rw [e191]; exact xt_hm hR o1 o3) (by rw [g_sq_c e191]; exact h4) (by rw [g_sq_c e191]; exact h5)
theorem x_keepcb {I I' : am_I} {L L' : am_L} {n np : Nat} (h : x_Inv xc I L) (hq : c_set_postb I L n np I' L') : x_Inv xc I' L' := by
  obtain ⟨hR, hF, hO, ⟨hi0, hi1⟩, hr, hc, hn⟩ := h
  have sI : ∀ a x, a ≠ 176 → (a ≠ 174 ∨ x ≠ 8) → I' a x = I a x := hq.2.2.2.2
  have sL : ∀ a x, (a < 175 ∨ 181 < a) → L' a x = L a x := hq.2.2.2.1
  have hw : x_wq I L I' L' := fun a x h1 h2 h3 h4 h5 => ⟨sI a x (by omega) (by omega), sL a x (by omega)⟩
  have e191 : L' 191 = L 191 := funext fun x => sL 191 x (by omega)
  have e7 : L' 7 = L 7 := funext fun x => sL 7 x (by omega)
  refine ⟨x_R_c hR hw (fun e _ => by rw [e191]), by rw [x_fra, e191, e7]; exact hF, x_ok_c hO hw, ⟨?_, ?_⟩, ?_, ⟨?_, ?_, ?_⟩, fun x hx => ?_⟩
  · exact x_img_c (by decide) hi0 (fun a x h1 h2 => sI a x (by omega) (by omega)) (fun a x h1 h2 => sL a x (by omega)) (sI 193 0 (by decide) (by decide)) (fun x => sL 192 x (by omega))
  · exact x_img_c (by decide) hi1 (fun a x h1 h2 => sI a x (by omega) (by omega)) (fun a x h1 h2 => sL a x (by omega)) (sI 193 1 (by decide) (by decide)) (fun x => sL 192 x (by omega))
  · exact x_rec_c hr (fun x => sI 2 x (by omega) (by omega)) (fun x => sI 3 x (by omega) (by omega)) (fun x => sI 4 x (by omega) (by omega)) (fun x => sI 5 x (by omega) (by omega)) (fun x => sI 202 x (by omega) (by omega)) (fun x _ => sI 190 x (by omega) (by omega))
  · exact ⟨x_cac_a hc.1.1 (fun a x h1 h2 => sI a x (by omega) (by omega)) (fun a x h1 h2 => sL a x (by omega)), hq.2.2.1⟩
  · rw [sI 164 0 (by decide) (Or.inr (by decide))]; exact hc.2.1
  · rw [sI 174 0 (by decide) (Or.inr (by decide))]; exact hc.2.2
  · rw [sL 185 x (by omega), sL 201 x (by omega)]; exact hn x hx
theorem k_X11_agreedb {I : am_I} {L : am_L} {np n w : Nat} (o1 : x_led I L np n w) (hcc : c_cacheb I L) : am_K M_X11_agreed 6 [.ref 0, .int 1] I L (am_qr 174 fun I1 L1 => c_set_postb I L n np I1 L1) :=
  bm_intro (by decide +kernel) (Nat.le_of_ble_eq_true rfl) (show B_X11_agreed_0 _ _ _ _ from s_X11_agreed_0 ⟨fun _ => ⟨_, k_X1_settleb o1.2.2.1 o1.2.2.2.1 o1.1 o1.2.1 hcc, fun I7 L8 q => ⟨rfl, q⟩⟩, fun q => absurd q (by decide)⟩)
/-- both sides at rest: the fund's numbers after settling, and what the reference then finds -/
theorem x_agreeb {I I1 : am_I} {L L1 : am_L} {np n w nt nh ng ns : Nat} (h : x_Inv xc I L) (o1 : x_led I L np n w) (o2 : x_pap I nt nh) (o3 : x_cla I np ng ns) (o4 : x_hou I) (hq : c_set_postb I L n np I1 L1) : ∃ m P, c_okb I1 L1 P ∧ I1 174 8 = nI m ∧ (∀ h, h < 8 → P h = g_sq L1 n np 1 m h ∧ c_D (c_ob I1) h = g_du L1 h) ∧ am_K M_X12_findPays 2 [.ref 190, .int 1] I1 L1 (am_qv (g_paid L1 n np 1 m I1)) := by
  have hR := h.1
  have hc := h.2.2.2.2.2.1
  have hx : ∀ m, m < 60 → 1 ≤ I 39 m := fun m hm => (o3.2.2.2.2.1 m hm).1
  have e191 : L1 191 = L 191 := funext fun x => hq.2.2.2.1 191 x (by omega)
  have ep : c_p0b I1 = fun h => if (1 : Int32) = 0 then 0 else c_D (c_ob I1) h := by
    funext h
    rw [c_p0b, hq.2.2.2.2 174 0 (by decide) (Or.inr (by decide)), hc.2.2]
  obtain ⟨m, h1, h2, h3, h4, h5⟩ := x_clear hR o1 o4 hx (o := c_ob I1) (c := L1 175) (fun i hi => by rw [c_ob, hq.2.1 i hi]) hq.1 1
  rw [← ep] at h1 h2
  obtain ⟨q1, q2⟩ := hq.2.2.1
  refine ⟨m, _, q1, by rw [q2]; exact h2, fun k hk => ⟨?_, ?_⟩, ?_⟩
  · rw [g_sq_c e191]; exact h1 k hk
  · rw [g_du_c e191]; exact h3 k hk
  · exact k_X12_findPays (by rw [e191]; exact xt_n hR o1) o1.2.2.2.1 (by rw [e191]; exact xt_np hR o1) o1.2.1 (by rw [e191]; exact xt_w hR o1) o1.2.2.2.2.2.1 (by rw [e191]; exact xt_hm hR o1 o3) (by rw [g_sq_c e191]; exact h4) (by rw [g_sq_c e191]; exact h5)
theorem x_paid_sm {I I' : am_I} {L L' : am_L} {n np m : Nat} {g : Int32} (h : g_paid L n np g m I I' L') : x_sm I L I' L' := by
  obtain ⟨A, B, C, D, h1, h2, _⟩ := h
  rw [h1, h2]
  refine ⟨fun a x g1 g2 g3 g4 g5 g6 => by rw [am_u_ne _ (by omega)], fun a x g1 g2 g3 g4 g5 g6 => ?_⟩
  rw [am_r4, am_ro_ne' (by omega), am_ro_ne' (by omega), am_ro_ne' (by omega), am_ro_ne' (by omega)]
theorem x_01 {b : Int32} (h : 0 ≤ b ∧ b ≤ 1) : b = 0 ∨ b = 1 := by
  obtain ⟨h1, h2⟩ := h
  rw [Int32.le_iff_toInt_le] at h1 h2
  rw [← Int32.toInt_inj, ← Int32.toInt_inj]
  have y0 : (0 : Int32).toInt = 0 := by decide
  have y1 : (1 : Int32).toInt = 1 := by decide
  omega
theorem x_pays {a b : Int32} {I : am_I} {L : am_L} (h : x_Inv xc I L) : am_K M_X11_pays 7 [.ref 0, .int a, .int b] I L (x_Q xc M_X12_pays 3 [.ref 190, .int a, .int b]) := by
  obtain ⟨hR, hF, ⟨np, n, w, nt, nh, ng, ns, nl, nc, o1, o2, o3, o4, o5⟩, _, _, hc, _⟩ := id h
  by_cases c1 : 0 ≤ a ∧ a ≤ 7
  rotate_left
  · exact bm_intro (by decide +kernel) (Nat.le_of_ble_eq_true rfl) (show B_X11_paysa_0 _ _ _ _ _ from s_X11_paysa_0 ⟨fun _ => x_lf h (bm_intro (by decide +kernel) (Nat.le_of_ble_eq_true rfl) (show B_X12_pays_0 _ _ _ _ _ from s_X12_pays_0 ⟨fun _ => ⟨rfl, rfl, rfl⟩, fun q => absurd q c1⟩)), fun q => absurd q c1⟩)
  by_cases c2 : 0 ≤ b ∧ b ≤ 1
  rotate_left
  · exact bm_intro (by decide +kernel) (Nat.le_of_ble_eq_true rfl) (show B_X11_paysa_0 _ _ _ _ _ from s_X11_paysa_0 ⟨fun q => absurd c1 q, fun _ => ⟨fun q => absurd q c2, fun _ => x_lf h (bm_intro (by decide +kernel) (Nat.le_of_ble_eq_true rfl) (show B_X12_pays_0 _ _ _ _ _ from s_X12_pays_0 ⟨fun q => absurd c1 q, fun _ => ⟨fun q => absurd q c2, fun _ => ⟨rfl, rfl, rfl⟩⟩⟩))⟩⟩)
  obtain ⟨k, hk0, e0⟩ := x_ix c1.1 (show a ≤ nI 7 from c1.2) (by decide)
  have hk : k < 8 := by omega
  subst e0
  have hv : vp_in (nI k) 8 := am_vI hk (by decide)
  have hcl : (nI k).toNatClampNeg = k := nI_clamp (by omega)
  rcases x_01 c2 with e | e
  · subst e
    refine bm_intro (by decide +kernel) (Nat.le_of_ble_eq_true rfl) (show B_X11_paysa_0 _ _ _ _ _ from s_X11_paysa_0 ⟨fun q => absurd c1 q, fun _ => ⟨fun _ => ⟨_, k_X11_agreeda o1 hc.1.1, fun I1 L1 hq => ⟨hv, ?_⟩⟩, fun q => absurd c2 q⟩⟩)
    have h1 := x_keepca h hq
    obtain ⟨m, P, p1, p2, p3, p4⟩ := x_agreea h o1 o2 o3 o4 hq
    refine bm_intro (by decide +kernel) (Nat.le_of_ble_eq_true rfl) (show B_X12_pays_0 _ _ _ _ _ from s_X12_pays_0 ⟨fun q => absurd c1 q, fun _ => ⟨fun _ => ⟨fun _ => ?_, fun q => absurd q (by decide)⟩, fun q => absurd c2 q⟩⟩)
    refine ⟨_, p4, fun I5 L6 hp => ⟨hv, ?_, x_keep h1 (x_paid_sm hp)⟩⟩
    obtain ⟨A, B, C, D, u1, u2, u3⟩ := hp
    rw [u2, am_r4_197, hcl, (u3 k hk).2.2, p1.2.2.1 k hk, (p3 k hk).1]
  · subst e
    refine bm_intro (by decide +kernel) (Nat.le_of_ble_eq_true rfl) (show B_X11_paysb_0 _ _ _ _ _ from s_X11_paysb_0 ⟨fun q => absurd c1 q, fun _ => ⟨fun _ => ⟨_, k_X11_agreedb o1 hc.1.2, fun I1 L1 hq => ⟨hv, ?_⟩⟩, fun q => absurd c2 q⟩⟩)
    have h1 := x_keepcb h hq
    obtain ⟨m, P, p1, p2, p3, p4⟩ := x_agreeb h o1 o2 o3 o4 hq
    refine bm_intro (by decide +kernel) (Nat.le_of_ble_eq_true rfl) (show B_X12_pays_0 _ _ _ _ _ from s_X12_pays_0 ⟨fun q => absurd c1 q, fun _ => ⟨fun _ => ⟨fun q => absurd rfl q, fun _ => ?_⟩, fun q => absurd c2 q⟩⟩)
    refine ⟨_, p4, fun I5 L6 hp => ⟨hv, ?_, x_keep h1 (x_paid_sm hp)⟩⟩
    obtain ⟨A, B, C, D, u1, u2, u3⟩ := hp
    rw [u2, am_r4_197, hcl, (u3 k hk).2.2, p1.2.2.1 k hk, (p3 k hk).1]
def g_fl (B C : Nat → Int64) (h : Nat) (b : Int32) : Int32 := if B h ≤ C h then b else b ||| (1 <<< (nI h &&& 31))
theorem x_rounds {a b : Int32} {I : am_I} {L : am_L} (h : x_Inv xc I L) : am_K M_X11_rounds 7 [.ref 0, .int a, .int b] I L (x_Q xc M_X12_rounds 3 [.ref 190, .int a, .int b]) := by
  obtain ⟨hR, hF, ⟨np, n, w, nt, nh, ng, ns, nl, nc, o1, o2, o3, o4, o5⟩, _, _, hc, _⟩ := id h
  by_cases c1 : 0 ≤ a ∧ a ≤ 1
  rotate_left
  · exact bm_intro (by decide +kernel) (Nat.le_of_ble_eq_true rfl) (show B_X11_roundsa_0 _ _ _ _ _ from s_X11_roundsa_0 ⟨fun _ => x_lf h (bm_intro (by decide +kernel) (Nat.le_of_ble_eq_true rfl) (show B_X12_rounds_0 _ _ _ _ _ from s_X12_rounds_0 ⟨fun _ => ⟨rfl, rfl, rfl⟩, fun q => absurd q c1⟩)), fun q => absurd q c1⟩)
  by_cases c2 : 0 ≤ b ∧ b ≤ 1
  rotate_left
  · exact bm_intro (by decide +kernel) (Nat.le_of_ble_eq_true rfl) (show B_X11_roundsa_0 _ _ _ _ _ from s_X11_roundsa_0 ⟨fun q => absurd c1 q, fun _ => ⟨fun q => absurd q c2, fun _ => x_lf h (bm_intro (by decide +kernel) (Nat.le_of_ble_eq_true rfl) (show B_X12_rounds_0 _ _ _ _ _ from s_X12_rounds_0 ⟨fun q => absurd c1 q, fun _ => ⟨fun q => absurd q c2, fun _ => ⟨rfl, rfl, rfl⟩⟩⟩))⟩⟩)
  have loop : ∀ (Q : am_S) (I5 : am_I) (L6 : am_L), (Q (some (.int (if b = 0 then I5 190 10 else am_it (g_fl (L6 196) (L6 197)) 0 8))) I5 L6) → B_X12_rounds_42 Q I5 L6 b 0 0 := by
    intro Q I5 L6 hQ
    have key : ∀ k, k ≤ 8 → B_X12_rounds_42 Q I5 L6 b (am_it (g_fl (L6 196) (L6 197)) 0 k) (nI k) := by
      refine am_down ?_ (fun k hk ih => ?_)
      · refine s_X12_rounds_42 ⟨fun _ => ⟨fun c => ?_, fun c => ?_⟩, fun q => absurd (by decide) q⟩
        · rw [if_neg c] at hQ; exact hQ
        · rw [if_pos c] at hQ; exact hQ
      · obtain ⟨g1, g2⟩ := c_8s hk
        rw [am_it_s, g_fl, nI_succ] at ih
        refine s_X12_rounds_42 ⟨fun q => absurd q (c_8 hk), fun _ => ⟨g2, g2, ?_⟩⟩
        rw [g1]
        refine ⟨fun c => ?_, fun c => ?_⟩
        · rw [if_pos c] at ih; rw [Int32.or_zero]; exact ih
        · rw [if_neg c] at ih; exact ih
    exact key 0 (Nat.zero_le _)
  rcases x_01 c1 with e | e
  · subst e
    refine bm_intro (by decide +kernel) (Nat.le_of_ble_eq_true rfl) (show B_X11_roundsa_0 _ _ _ _ _ from s_X11_roundsa_0 ⟨fun q => absurd c1 q, fun _ => ⟨fun _ => ⟨_, k_X11_agreeda o1 hc.1.1, fun I1 L1 hq => ?_⟩, fun q => absurd c2 q⟩⟩)
    have h1 := x_keepca h hq
    obtain ⟨m, P, p1, p2, p3, p4⟩ := x_agreea h o1 o2 o3 o4 hq
    have ref : ∀ v, (v = if b = 0 then nI m else am_it (c_fla P (c_oa I1)) 0 8) → x_Q xc M_X12_rounds 3 [.ref 190, .int 0, .int b] (some (.int v)) I1 L1 := by
      intro v hv
      refine bm_intro (by decide +kernel) (Nat.le_of_ble_eq_true rfl) (show B_X12_rounds_0 _ _ _ _ _ from s_X12_rounds_0 ⟨fun q => absurd c1 q, fun _ => ⟨fun _ => ⟨fun _ => ?_, fun q => absurd q (by decide)⟩, fun q => absurd c2 q⟩⟩)
      refine ⟨_, p4, fun I5 L6 hp => loop _ _ _ ⟨?_, x_keep h1 (x_paid_sm hp)⟩⟩
      obtain ⟨A, B, C, D, u1, u2, u3⟩ := hp
      rw [u1, u2, am_r4_196, am_r4_197, am_u_eq, hv]
      have e : am_it (g_fl B C) 0 8 = am_it (c_fla P (c_oa I1)) 0 8 := by
        refine am_it_congr 8 (fun k hk x => ?_)
        rw [g_fl, c_fla, (u3 k hk).2.1, (u3 k hk).2.2, (p3 k hk).1, (p3 k hk).2]
      rw [e]
    refine ⟨fun c3 => ⟨_, am_qf_i (k_X1_fallena p1), fun v I5 L6 e => ?_⟩, fun c3 => ?_⟩
    · obtain ⟨q1, q2, q3⟩ := e
      rw [q1, q2, q3]
      exact ref _ (by rw [if_neg c3])
    · rw [p2]
      exact ref _ (by rw [if_pos c3])
  · subst e
    refine bm_intro (by decide +kernel) (Nat.le_of_ble_eq_true rfl) (show B_X11_roundsb_0 _ _ _ _ _ from s_X11_roundsb_0 ⟨fun q => absurd c1 q, fun _ => ⟨fun _ => ⟨_, k_X11_agreedb o1 hc.1.2, fun I1 L1 hq => ?_⟩, fun q => absurd c2 q⟩⟩)
    have h1 := x_keepcb h hq
    obtain ⟨m, P, p1, p2, p3, p4⟩ := x_agreeb h o1 o2 o3 o4 hq
    have ref : ∀ v, (v = if b = 0 then nI m else am_it (c_flb P (c_ob I1)) 0 8) → x_Q xc M_X12_rounds 3 [.ref 190, .int 1, .int b] (some (.int v)) I1 L1 := by
      intro v hv
      refine bm_intro (by decide +kernel) (Nat.le_of_ble_eq_true rfl) (show B_X12_rounds_0 _ _ _ _ _ from s_X12_rounds_0 ⟨fun q => absurd c1 q, fun _ => ⟨fun _ => ⟨fun q => absurd rfl q, fun _ => ?_⟩, fun q => absurd c2 q⟩⟩)
      refine ⟨_, p4, fun I5 L6 hp => loop _ _ _ ⟨?_, x_keep h1 (x_paid_sm hp)⟩⟩
      obtain ⟨A, B, C, D, u1, u2, u3⟩ := hp
      rw [u1, u2, am_r4_196, am_r4_197, am_u_eq, hv]
      have e : am_it (g_fl B C) 0 8 = am_it (c_flb P (c_ob I1)) 0 8 := by
        refine am_it_congr 8 (fun k hk x => ?_)
        rw [g_fl, c_flb, (u3 k hk).2.1, (u3 k hk).2.2, (p3 k hk).1, (p3 k hk).2]
      rw [e]
    refine ⟨fun c3 => ⟨_, am_qf_i (k_X1_fallenb p1), fun v I5 L6 e => ?_⟩, fun c3 => ?_⟩
    · obtain ⟨q1, q2, q3⟩ := e
      rw [q1, q2, q3]
      exact ref _ (by rw [if_neg c3])
    · rw [p2]
      exact ref _ (by rw [if_pos c3])
