/-! the months: the loops -/
variable {xc : Nat → Int32}
def x_fm (np : Nat) (I : am_I) (L : am_L) (j : Nat) : am_I × am_L := am_it (fun _ q => (f_endI q.1, f_endL q.1 q.2 np)) (I, L) j
def x_hm (np w : Nat) (N : Nat → Int64) (j : Nat) : Nat → Int64 := am_it (fun i M => h_mon np (w + i) M) N j
theorem x_mrel {I : am_I} {L : am_L} {N : Nat → Int64} {np n w : Nat} (hR : x_R I L N) (o : x_led I L np n w) : ∀ j, w + j < 60 → x_R (x_fm np I L j).1 (x_fm np I L j).2 (x_hm np w N j) ∧ x_led (x_fm np I L j).1 (x_fm np I L j).2 np n (w + j) := by
  intro j
  induction j with
  | zero => intro _; exact ⟨hR, o⟩
  | succ j ih =>
    intro hw
    have ih := ih (by omega)
    exact x_month ih.1 ih.2 (show w + j + 1 < 60 by omega)
theorem x_fm_ne {I : am_I} {L : am_L} {np : Nat} : ∀ j, (∀ a x, a ≠ 11 ∨ x ≠ 8 → (x_fm np I L j).1 a x = I a x) ∧ ∀ a x, a ≠ 11 → a ≠ 18 → a ≠ 22 → a ≠ 23 → (x_fm np I L j).2 a x = L a x := by
  intro j
  induction j with
  | zero => exact ⟨fun _ _ _ => rfl, fun _ _ _ _ _ _ => rfl⟩
  | succ j ih =>
    refine ⟨fun a x h => ?_, fun a x h1 h2 h3 h4 => ?_⟩
    · show am_u (x_fm np I L j).1 11 8 _ a x = _
      rw [am_u_ne _ h]; exact ih.1 a x h
    · show am_u (am_u (f_grow (am_u (am_u (x_fm np I L j).2 11 11 _) 11 12 _) _ np) 22 _ _) 23 _ _ a x = _
      rw [am_u_ne _ (Or.inl h4), am_u_ne _ (Or.inl h3), f_grow, if_neg h2, am_u_ne _ (Or.inl h1), am_u_ne _ (Or.inl h1)]
      exact ih.2 a x h1 h2 h3 h4
theorem x_hm_ne {N : Nat → Int64} {np w e : Nat} (hnp : np ≤ 12) (he : 1190 ≤ e) : ∀ j, w + j ≤ 60 → x_hm np w N j e = N e := by
  intro j
  induction j with
  | zero => intro _; rfl
  | succ j ih =>
    intro hw
    show h_mon np (w + j) (x_hm np w N j) e = _
    rw [h_mon_ne hnp he (by omega)]
    exact ih (by omega)
theorem k_fmonths {Q : am_S} {I : am_I} {L : am_L} {N : Nat → Int64} {np n w k : Nat} (hR : x_R I L N) (o : x_led I L np n w) (hw : w + k < 60) (hq : Q (some (.int ((x_fm np I L k).1 11 8))) (x_fm np I L k).1 (x_fm np I L k).2) : B_X11_months_45 Q I L (nI k) 0 := by
  have key : ∀ j, j ≤ k → B_X11_months_45 Q (x_fm np I L j).1 (x_fm np I L j).2 (nI k) (nI j) := by
    refine am_down ?_ (fun j hj ih => ?_)
    · exact s_X11_months_45 ⟨fun _ => hq, fun c => absurd (Int32.le_refl _) c⟩
    · have oj := (x_mrel hR o j (by omega)).2
      refine s_X11_months_45 ⟨fun c => absurd c (nI_ge hj (by omega)), fun _ => ⟨_, am_qf_v (k_X4_endMonth oj.1 oj.2.1 (by rw [oj.2.2.2.2.1]; exact am_vI (by omega) (by decide))), fun I7 L8 e => ?_⟩⟩
      rw [e.1, e.2, ← nI_succ]
      exact ih
  exact key 0 (Nat.zero_le _)
theorem k_gmonth {Q : am_S} {I : am_I} {M : am_L} {N : Nat → Int64} {np w : Nat} {a j : Int32} (hp : Int64.toInt32 (N 1176) = nI np) (hp1 : np ≤ 12) (hn : Int64.toInt32 (N 1178) = nI w) (hw : w < 60) (hq : B_X12_months_39 Q I (am_ro M 191 (h_mon np w N)) a (j + 1)) : B_X12_months_93 Q I (am_ro M 191 (h_1 N)) a j 0 := by
  have t76 : ∀ i, i ≤ 12 → Int64.toInt32 (h_2 i (h_1 N) 1176) = nI np := fun i hi => by rw [h_2_ne (by decide) _ hi, h_1, am_f_ne _ _ (by decide), am_f_ne _ _ (by decide)]; exact hp
  have t78 : ∀ i, i ≤ 12 → Int64.toInt32 (h_2 i (h_1 N) 1178) = nI w := fun i hi => by rw [h_2_ne (by decide) _ hi, h_1, am_f_ne _ _ (by decide), am_f_ne _ _ (by decide)]; exact hn
  have key : ∀ i, i ≤ np → B_X12_months_93 Q I (am_ro M 191 (h_2 i (h_1 N))) a j (nI i) := by
    refine am_down ?_ (fun i hi ih => ?_)
    · refine s_X12_months_93 ?_
      rw [am_ro_at, t76 _ hp1, t78 _ hp1, i_cns hw, am_ro_u, am_ro_at]
      refine ⟨fun _ => ⟨v_cns hw, _, am_qf_l (k_X12_allShown (by rw [am_ro_at, am_f_ne _ _ (by omega)]; exact t76 _ hp1) hp1), fun v I8 L9 e => ?_⟩, fun c => absurd (Int32.le_refl _) c⟩
      obtain ⟨q1, q2, q3⟩ := e
      rw [q1, q2, q3, am_f_ne _ _ (by omega), t78 _ hp1, i_shs hw]
      refine ⟨v_shs hw, ?_⟩
      rw [am_ro_u, am_ro_at, am_ro_u]
      have eg : g_shown (am_ro M 191 (am_f (h_2 np (h_1 N)) (1056 + w) (h_2 np (h_1 N) 1185))) = fun k => h_3 w (h_2 np (h_1 N)) (2 + 3 * k) := by funext k; rw [g_shown, am_ro_at]; rfl
      rw [eg]
      exact hq
    · refine s_X12_months_93 ?_
      rw [am_ro_at, t76 _ (by omega), t78 _ (by omega), i_per_2 (by omega)]
      refine ⟨fun c => absurd c (nI_ge hi (by omega)), fun _ => ⟨v_per_2 (by omega), v_per_2 (by omega), v_per_2 (by omega), ?_⟩⟩
      rw [am_ro_u, ← nI_succ]
      exact ih
  exact key 0 (Nat.zero_le _)
theorem k_gmonths {Q : am_S} {I I0 : am_I} {L M : am_L} {N : Nat → Int64} {np n w k : Nat} (hR : x_R I0 L N) (o : x_led I0 L np n w) (hw : w + k < 60) (hq : Q (some (.int (Int64.toInt32 (x_hm np w N k 1178)))) I (am_ro M 191 (x_hm np w N k))) : B_X12_months_39 Q I (am_ro M 191 N) (nI k) 0 := by
  have key : ∀ j, j ≤ k → B_X12_months_39 Q I (am_ro M 191 (x_hm np w N j)) (nI k) (nI j) := by
    refine am_down ?_ (fun j hj ih => ?_)
    · refine s_X12_months_39 ?_
      rw [am_ro_at]
      exact ⟨fun _ => hq, fun c => absurd (Int32.le_refl _) c⟩
    · have oj := x_mrel hR o j (by omega)
      refine s_X12_months_39 ⟨fun c => absurd c (nI_ge hj (by omega)), fun _ => ?_⟩
      rw [am_ro_at, am_ro_u, am_ro_u]
      refine k_gmonth (w := w + j) (by rw [xh_np oj.1, am_l2i_id]; exact oj.2.1) o.2.1 (by rw [xh_now oj.1, am_l2i_id]; exact oj.2.2.2.2.2.1) (by omega) ?_
      rw [← nI_succ]
      exact ih
  exact key 0 (Nat.zero_le _)
theorem am_ro_ne' {α : Type} {L : Nat → Nat → α} {p q : Nat} {A : Nat → α} {x : Nat} (h : q ≠ p) : am_ro L p A q x = L q x := by rw [am_ro_ne _ _ h]
theorem x_l60 {x : Int32} : x < 60 ↔ x ≤ 59 := by
  rw [Int32.lt_iff_toInt_lt, Int32.le_iff_toInt_le]
  have a1 : (60 : Int32).toInt = 60 := by decide
  have a2 : (59 : Int32).toInt = 59 := by decide
  omega
theorem x_months {a : Int32} {I : am_I} {L : am_L} (h : x_Inv xc I L) : am_K M_X11_months 2 [.ref 0, .int a] I L (x_Q xc M_X12_months 2 [.ref 190, .int a]) := by
  obtain ⟨hR, hF, ⟨np, n, w, nt, nh, ng, ns, nl, nc, o1, o2, o3, o4, o5⟩, _⟩ := id h
  have t2 : Int64.toInt32 (L 191 1178) = I 11 8 := x_i32 (xh_now hR)
  have t3 : L 191 1188 = (I 11 13).toInt64 := xh_fell hR
  by_cases c1 : 1 ≤ a ∧ a ≤ 12
  rotate_left
  · exact bm_intro (by decide +kernel) (Nat.le_of_ble_eq_true rfl) (show B_X11_months_0 _ _ _ _ from s_X11_months_0 ⟨fun _ => x_lf h (bm_intro (by decide +kernel) (Nat.le_of_ble_eq_true rfl) (show B_X12_months_0 _ _ _ _ from s_X12_months_0 (by exact ⟨fun _ => ⟨rfl, rfl, rfl⟩, fun q => absurd q c1⟩))), fun q => absurd q c1⟩)
  by_cases c2 : I 11 8 + a < 60
  rotate_left
  · exact bm_intro (by decide +kernel) (Nat.le_of_ble_eq_true rfl) (show B_X11_months_0 _ _ _ _ from s_X11_months_0 ⟨fun q => absurd c1 q, fun _ => ⟨fun q => absurd q c2, fun _ => x_lf h (bm_intro (by decide +kernel) (Nat.le_of_ble_eq_true rfl) (show B_X12_months_0 _ _ _ _ from s_X12_months_0 (by exact ⟨fun q => absurd c1 q, fun _ => ⟨fun q => absurd q (show ¬ Int64.toInt32 (L 191 1178) + a ≤ 59 by rw [t2]; exact fun q => c2 (x_l60.mpr q)), fun _ => ⟨rfl, rfl, rfl⟩⟩⟩)))⟩⟩)
  by_cases c3 : I 11 13 = -1
  rotate_left
  · exact bm_intro (by decide +kernel) (Nat.le_of_ble_eq_true rfl) (show B_X11_months_0 _ _ _ _ from s_X11_months_0 ⟨fun q => absurd c1 q, fun _ => ⟨fun _ => ⟨fun q => absurd q c3, fun _ => x_lf h (bm_intro (by decide +kernel) (Nat.le_of_ble_eq_true rfl) (show B_X12_months_0 _ _ _ _ from s_X12_months_0 (by exact ⟨fun q => absurd c1 q, fun _ => ⟨fun _ => ⟨fun q => absurd (show ¬ L 191 1188 = -1 by rw [t3]; exact fun q => c3 (x_m1.mp q)) q, fun _ => ⟨rfl, rfl, rfl⟩⟩, fun q => absurd (show Int64.toInt32 (L 191 1178) + a ≤ 59 by rw [t2]; exact x_l60.mp c2) q⟩⟩)))⟩, fun q => absurd c2 q⟩⟩)
  obtain ⟨k, hk, e0⟩ := x_ix (Int32.le_trans (by decide) c1.1) (show a ≤ nI 12 from c1.2) (by decide)
  subst e0
  have hw : w + k < 60 := by
    have q := c2
    rw [o1.2.2.2.2.1, nI_qa, Int32.lt_iff_toInt_lt, nI_toInt (by have := o1.2.2.2.2.2.1; omega)] at q
    have a1 : (60 : Int32).toInt = 60 := by decide
    omega
  refine bm_intro (by decide +kernel) (Nat.le_of_ble_eq_true rfl) (show B_X11_months_0 _ _ _ _ from s_X11_months_0 ⟨fun q => absurd c1 q, fun _ => ⟨fun _ => ⟨fun _ => (k_fmonths hR o1 hw ?_), fun q => absurd c3 q⟩, fun q => absurd c2 q⟩⟩)
  have u : ∀ e, (x_fm np I L k).2 191 e = L 191 e := fun e => (x_fm_ne k).2 191 e (by decide) (by decide) (by decide) (by decide)
  refine bm_intro (by decide +kernel) (Nat.le_of_ble_eq_true rfl) (show B_X12_months_0 _ _ _ _ from s_X12_months_0 ?_)
  rw [u, u, t2, t3]
  have e191 : (x_fm np I L k).2 = am_ro (x_fm np I L k).2 191 (L 191) := by rw [show L 191 = (x_fm np I L k).2 191 from funext fun e => (u e).symm, am_ro_self]
  refine ⟨fun q => absurd c1 q, fun _ => ⟨fun _ => ⟨fun _ => ?_, fun q => absurd (x_m1.mpr c3) q⟩, fun q => absurd (x_l60.mp c2) q⟩⟩
  rw [e191]
  refine k_gmonths hR o1 hw ⟨?_, ?_⟩
  · rw [x_i32 (xh_now (x_mrel hR o1 k hw).1)]
  · have m := x_mrel hR o1 k hw
    have f := x_fm_ne (np := np) (I := I) (L := L) k
    refine x_main h (fun a x hx => f.1 a x (Or.inl (by omega))) (fun a x hx hx2 => ?_) ⟨?_, ?_⟩ ?_ ?_
    · rw [am_ro_ne _ _ hx2]; exact f.2 a x (by omega) (by omega) (by omega) (by omega)
    · rw [am_ro_at]; exact x_hm_ne o1.2.1 (by decide) k (by omega)
    · rw [am_ro_at]; exact x_hm_ne o1.2.1 (by decide) k (by omega)
    · rw [am_ro_at]
      exact x_R_c m.1 (fun a x h1 h2 h3 h4 h5 => ⟨rfl, am_ro_ne' (by omega)⟩) (fun e _ => rfl)
    · have c1 : ∀ a, a ≠ 11 → (x_fm np I L k).1 a = I a := fun a ha => funext fun x => f.1 a x (Or.inl ha)
      refine ⟨np, n, w + k, nt, nh, ng, ns, nl, nc, m.2, ?_, ?_, ?_, ?_⟩
      · simp only [x_pap, c1 12 (by decide), c1 31 (by decide), c1 34 (by decide)]; exact o2
      · simp only [x_cla, c1 13 (by decide), c1 39 (by decide), c1 40 (by decide), c1 41 (by decide), c1 44 (by decide), c1 45 (by decide), c1 46 (by decide)]; exact o3
      · simp only [x_hou, c1 48 (by decide), c1 49 (by decide), c1 14 (by decide), c1 24 (by decide), c1 25 (by decide), c1 26 (by decide), c1 27 (by decide)]; exact o4
      · simp only [x_let, c1 15 (by decide), c1 53 (by decide)]; exact o5
