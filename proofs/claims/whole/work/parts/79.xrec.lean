/-! calls over the record: keep, alter, check -/
variable {xc : Nat → Int32}
theorem x_keepr {I I' : am_I} {L : am_L} (h : x_Inv xc I L) (hI : ∀ a x, a ≠ 2 → a ≠ 3 → a ≠ 4 → a ≠ 5 → a ≠ 190 → a ≠ 202 → I' a x = I a x) (hr : x_rec I') : x_Inv xc I' L := by
  obtain ⟨hR, hF, hO, ⟨hi0, hi1⟩, _, hc, hn⟩ := h
  have hw : x_wq I L I' L := fun a x h1 h2 h3 h4 h5 => ⟨hI a x (by omega) (by omega) (by omega) (by omega) (by omega) (by omega), rfl⟩
  refine ⟨x_R_c hR hw (fun e _ => rfl), hF, x_ok_c hO hw, ⟨?_, ?_⟩, hr, ?_, hn⟩
  · exact x_img_c (by decide) hi0 (fun a x h1 h2 => hI a x (by omega) (by omega) (by omega) (by omega) (by omega) (by omega)) (fun _ _ _ _ => rfl) (hI 193 0 (by decide) (by decide) (by decide) (by decide) (by decide) (by decide)) (fun _ => rfl)
  · exact x_img_c (by decide) hi1 (fun a x h1 h2 => hI a x (by omega) (by omega) (by omega) (by omega) (by omega) (by omega)) (fun _ _ _ _ => rfl) (hI 193 1 (by decide) (by decide) (by decide) (by decide) (by decide) (by decide)) (fun _ => rfl)
  · exact x_cac_c hc (fun a x h1 h2 => hI a x (by omega) (by omega) (by omega) (by omega) (by omega) (by omega)) (fun _ _ _ _ => rfl)
theorem x_se_eq {I J : am_I} {b s : Int32} {n : Nat} (h : ∀ r, r < n → I 202 (3 * r) = J 3 r ∧ I 202 (3 * r + 1) = J 4 r ∧ I 202 (3 * r + 2) = J 5 r) : am_it (g_se I b) s (3 * n) = am_it (f_se J b) s n := by
  have key : ∀ k, k ≤ n → am_it (g_se I b) s (3 * k) = am_it (f_se J b) s k := by
    intro k
    induction k with
    | zero => intro _; rfl
    | succ k ih =>
      intro hk
      show g_se I b (3 * k + 2) (g_se I b (3 * k + 1) (g_se I b (3 * k) (am_it (g_se I b) s (3 * k)))) = f_se J b k (am_it (f_se J b) s k)
      obtain ⟨e1, e2, e3⟩ := h k (by omega)
      rw [ih (by omega), g_se, g_se, g_se, f_se, e1, e2, e3]
  exact key n (Nat.le_refl _)
theorem x_o_keep {I : am_I} {L : am_L} (h : x_Inv xc I L) : am_K M_X11_keep 2 [.ref 0] I L (x_Q xc M_X12_keep 1 [.ref 190]) := by
  obtain ⟨hR, hF, ⟨np, n, w, nt, nh, ng, ns, nl, nc, o1, o2, o3, o4, o5⟩, _⟩ := id h
  have hn1 := o1.2.2.2.1
  refine bm_intro (by decide +kernel) (Nat.le_of_ble_eq_true rfl) (show B_X11_keep_0 _ _ _ from s_X11_keep_0 ⟨_, am_qf_v (k_X8_copyRows o1.2.2.1 hn1), fun I3 L4 e => ?_⟩)
  obtain ⟨e2, e3⟩ := e
  rw [e2, e3]
  have hwn : Int64.toInt32 (L 191 1177) = nI n := xt_n hR o1
  have v24 : f_keep I n 2 4 = nI n := by simp [f_keep, f_kept, am_u, am_cp, o1.2.2.1]
  have hR3 : x_R (f_keep I n) L (L 191) := by
    refine x_R_c hR (I' := f_keep I n) (L' := L) (fun a x h1 h2 h3 h4 h5 => ⟨?_, rfl⟩) (fun _ _ => rfl)
    simp only [f_keep, f_kept, am_u, am_cp]
    rw [if_neg (by omega), if_neg (by omega), if_neg (by omega), if_neg (by omega), if_neg (by omega), if_neg (by omega)]
  rw [v24]
  refine am_mono (k_X12_keep (I := f_keep I n) hwn hn1) (fun r I5 L5 q => ?_)
  obtain ⟨q1, q2, q3⟩ := q
  rw [q1, q2, q3]
  refine ⟨rfl, x_keepr h (fun a x h1 h2 h3 h4 h5 h6 => ?_) ?_⟩
  · simp only [g_keep, g_kept, g_rec, f_keep, f_kept, am_u, am_cp, h1, h2, h3, h4, h5, h6, false_and, if_false]
  · have c3 : ∀ r, r < n → f_kept I 3 r = I 19 r := fun r hr => by simp [f_kept, am_u, am_cp, show r < 100 by omega]
    have c4 : ∀ r, r < n → f_kept I 4 r = I 20 r := fun r hr => by simp [f_kept, am_u, am_cp, show r < 100 by omega]
    have c5 : ∀ r, r < n → f_kept I 5 r = I 21 r := fun r hr => by simp [f_kept, am_u, am_cp, show r < 100 by omega]
    have m1 : ∀ (r : Nat), r < n → Int64.toInt32 (L 191 (36 + 3 * r)) = I 19 r ∧ Int64.toInt32 (L 191 (36 + (3 * r + 1))) = I 20 r ∧ Int64.toInt32 (L 191 (36 + (3 * r + 2))) = I 21 r := fun r hr => by
      have hr1 : r < 112 := by omega
      refine ⟨?_, ?_, ?_⟩
      · rw [xh_row_0 hR (by omega), am_l2i_id]
      · rw [show 36 + (3 * r + 1) = 37 + 3 * r by omega, xh_row_1 hR (by omega), am_l2i_id]
      · rw [show 36 + (3 * r + 2) = 38 + 3 * r by omega, xh_row_2 hR (by omega), am_l2i_id]
    have g3 : ∀ (J : am_I) (s b : Int32) (r : Nat), r < n → (am_u (am_u (g_kept J L n) 190 21 s) 190 22 b) 202 (3 * r) = I 19 r ∧ (am_u (am_u (g_kept J L n) 190 21 s) 190 22 b) 202 (3 * r + 1) = I 20 r ∧ (am_u (am_u (g_kept J L n) 190 21 s) 190 22 b) 202 (3 * r + 2) = I 21 r := fun J s b r hr => by
      obtain ⟨e1, e2, e3⟩ := m1 r hr
      refine ⟨?_, ?_, ?_⟩
      · rw [am_u_ne _ (Or.inl (by decide)), am_u_ne _ (Or.inl (by decide)), g_kept, g_rec, if_pos rfl, if_pos (by omega)]; exact e1
      · rw [am_u_ne _ (Or.inl (by decide)), am_u_ne _ (Or.inl (by decide)), g_kept, g_rec, if_pos rfl, if_pos (by omega)]; exact e2
      · rw [am_u_ne _ (Or.inl (by decide)), am_u_ne _ (Or.inl (by decide)), g_kept, g_rec, if_pos rfl, if_pos (by omega)]; exact e3
    have p3 : ∀ (a : Nat), a ≠ 190 → a ≠ 202 → ∀ x, g_keep (f_keep I n) L n a x = f_keep I n a x := fun a h1 h2 x => by
      simp only [g_keep, g_kept, g_rec, am_u, h1, h2, false_and, if_false]
    have f3 : ∀ (a : Nat), a = 3 ∨ a = 4 ∨ a = 5 → ∀ x, f_keep I n a x = f_kept I a x := fun a ha x => by
      rw [f_keep, am_u_ne _ (Or.inl (by omega)), am_u_ne _ (Or.inl (by omega))]
    have s1 : am_it (g_se (g_kept (f_keep I n) L n) 31) 5 (3 * n) = am_it (f_se (f_kept I) 31) 5 n := x_se_eq fun r hr => by
      have z := g3 (f_keep I n) 0 0 r hr
      rw [am_u_ne _ (Or.inl (by decide)), am_u_ne _ (Or.inl (by decide)), am_u_ne _ (Or.inl (by decide)), am_u_ne _ (Or.inl (by decide)), am_u_ne _ (Or.inl (by decide)), am_u_ne _ (Or.inl (by decide))] at z
      rw [c3 r hr, c4 r hr, c5 r hr]; exact z
    have s2 : ∀ s u, am_it (g_se (am_u (g_kept (f_keep I n) L n) 190 21 s) 33) 7 (3 * n) = am_it (f_se (am_u (f_kept I) 2 5 u) 33) 7 n := fun s u => x_se_eq fun r hr => by
      have z := g3 (f_keep I n) s 0 r hr
      repeat rw [am_u_ne _ (Or.inl (by decide))] at z
      repeat rw [am_u_ne _ (Or.inl (by decide))]
      rw [c3 r hr, c4 r hr, c5 r hr]; exact z
    have u5 : f_keep I n 2 5 = am_it (f_se (f_kept I) 31) 5 n := by rw [f_keep, am_u_ne _ (Or.inr (by decide)), am_u_eq]
    have u6 : f_keep I n 2 6 = am_it (f_se (am_u (f_kept I) 2 5 (am_it (f_se (f_kept I) 31) 5 n)) 33) 7 n := by rw [f_keep, am_u_eq]
    refine ⟨n, hn1, by rw [p3 2 (by decide) (by decide)]; exact v24, ?_, fun r hr => ?_, fun z => ?_, fun z => ⟨?_, ?_⟩⟩
    · rw [g_keep, am_u_ne _ (Or.inr (by decide)), am_u_ne _ (Or.inr (by decide)), g_kept, g_rec_n _ _ _ (by decide), am_u_eq]
    · have z := g3 (f_keep I n) (am_it (g_se (g_kept (f_keep I n) L n) 31) 5 (3 * n)) (am_it (g_se (am_u (g_kept (f_keep I n) L n) 190 21 (am_it (g_se (g_kept (f_keep I n) L n) 31) 5 (3 * n))) 33) 7 (3 * n)) r hr
      rw [p3 3 (by decide) (by decide), p3 4 (by decide) (by decide), p3 5 (by decide) (by decide), f3 3 (by omega), f3 4 (by omega), f3 5 (by omega), c3 r hr, c4 r hr, c5 r hr]
      exact z
    · subst z
      rw [p3 2 (by decide) (by decide), p3 2 (by decide) (by decide)]
      refine ⟨?_, ?_⟩
      · rw [f_keep, am_u_ne _ (Or.inr (by decide)), am_u_eq]; rfl
      · rw [f_keep, am_u_eq]; rfl
    · rw [p3 2 (by decide) (by decide), u5, g_keep, am_u_ne _ (Or.inr (by decide)), am_u_eq, s1]
    · rw [p3 2 (by decide) (by decide), u6, g_keep, am_u_eq]
      exact (s2 _ _).symm
theorem x_o_alter {a b : Int32} {I : am_I} {L : am_L} (h : x_Inv xc I L) : am_K M_X11_alter 1 [.ref 0, .int a, .int b] I L (x_Q xc M_X12_alter 1 [.ref 190, .int a, .int b]) := by
  obtain ⟨nr, r0, r1, r2, r3, r4, r5⟩ := h.2.2.2.2.1
  refine bm_intro (by decide +kernel) (Nat.le_of_ble_eq_true rfl) (show B_X11_alter_0 _ _ _ _ _ from s_X11_alter_0 ?_)
  rw [r1]
  refine ⟨fun c1 => ?_, fun c1 => ⟨fun c2 => ?_, fun c2 => ?_⟩⟩
  · exact x_lf h (bm_intro (by decide +kernel) (Nat.le_of_ble_eq_true rfl) (show B_X12_alter_0 _ _ _ _ _ from s_X12_alter_0 (by rw [r2]; exact ⟨fun _ => ⟨rfl, rfl, rfl⟩, fun q => absurd q c1⟩)))
  · have hz : 1 ≤ nr := by
      rcases Nat.eq_zero_or_pos nr with z | z
      · subst z
        exact absurd (Int32.le_trans c1.1 c1.2) (by decide)
      · exact z
    have c1' := c1
    rw [show nr = (nr - 1) + 1 by omega, nI_pred] at c1'
    obtain ⟨k, hk0, e0⟩ := x_ix c1'.1 c1'.2 (by omega)
    subst e0
    have hk : k < nr := by omega
    refine ⟨am_vI (by omega) (by decide), am_vI (by omega) (by decide), ?_⟩
    rw [nI_clamp (by omega)]
    have ex : ((3 : Int32) * nI k + 2).toNatClampNeg = 3 * k + 2 := am_cx (by simp only [nq_3, nq_2, nI_qm, nI_qa]) (by omega)
    have vx : vp_in ((3 : Int32) * nI k + 2) 300 := am_vx (m := 3 * k + 2) (by simp only [nq_3, nq_2, nI_qm, nI_qa]) (by omega) (by decide)
    refine bm_intro (by decide +kernel) (Nat.le_of_ble_eq_true rfl) (show B_X12_alter_0 _ _ _ _ _ from s_X12_alter_0 ?_)
    rw [am_u_ne _ (Or.inl (by decide)), r2, ex]
    refine ⟨fun q => absurd c1 q, fun _ => ⟨fun _ => ⟨vx, vx, rfl, ?_⟩, fun q => absurd q c2⟩⟩
    refine x_keepr h (fun a x h1 h2 h3 h4 h5 h6 => by rw [am_u_ne _ (Or.inl h6), am_u_ne _ (Or.inl h4)]) ?_
    refine ⟨nr, r0, ?_, ?_, fun r hr => ?_, fun z => ?_, fun z => ?_⟩
    · rw [am_u_ne _ (Or.inl (by decide)), am_u_ne _ (Or.inl (by decide)), r1]
    · rw [am_u_ne _ (Or.inl (by decide)), am_u_ne _ (Or.inl (by decide)), r2]
    · obtain ⟨e1, e2, e3⟩ := r3 r hr
      have j202 : ∀ (p : Int32) x, x ≠ 3 * k + 2 → am_u (am_u I 5 k (I 5 k ^^^ b)) 202 (3 * k + 2) p 202 x = I 202 x := fun p x hx => by rw [am_u_ne _ (Or.inr hx), am_u_ne _ (Or.inl (by decide))]
      have j3 : ∀ (p : Int32) a x, a ≠ 202 → a ≠ 5 → am_u (am_u I 5 k (I 5 k ^^^ b)) 202 (3 * k + 2) p a x = I a x := fun p a x h1 h2 => by rw [am_u_ne _ (Or.inl h1), am_u_ne _ (Or.inl h2)]
      rw [j202 _ _ (by omega), j202 _ _ (by omega), j3 _ 3 _ (by decide) (by decide), j3 _ 4 _ (by decide) (by decide)]
      refine ⟨e1, e2, ?_⟩
      by_cases hx : r = k
      · subst hx
        rw [am_u_eq, am_u_ne _ (Or.inl (by decide)), am_u_ne _ (Or.inl (by decide)), am_u_eq, e3]
      · rw [j202 _ _ (by omega), am_u_ne _ (Or.inl (by decide)), am_u_ne _ (Or.inr hx)]; exact e3
    · omega
    · rw [am_u_ne _ (Or.inl (by decide)), am_u_ne _ (Or.inl (by decide)), am_u_ne _ (Or.inl (by decide)), am_u_ne _ (Or.inl (by decide)), am_u_ne _ (Or.inl (by decide)), am_u_ne _ (Or.inl (by decide)), am_u_ne _ (Or.inl (by decide)), am_u_ne _ (Or.inl (by decide))]
      exact r5 z
  · exact x_lf h (bm_intro (by decide +kernel) (Nat.le_of_ble_eq_true rfl) (show B_X12_alter_0 _ _ _ _ _ from s_X12_alter_0 (by rw [r2]; exact ⟨fun q => absurd c1 q, fun _ => ⟨fun q => absurd c2 q, fun _ => ⟨rfl, rfl, rfl⟩⟩⟩)))
/-! check: the reference divides by a power of 31, the fund multiplies with it -/
theorem x_pw3 {b c : Int32} (h : b * b * b = c) : ∀ j, am_pw b (3 * j) = am_pw c j := by
  intro j
  induction j with
  | zero => rfl
  | succ j ih =>
    show am_pw b (3 * j) * b * b * b = am_pw c j * c
    rw [ih, ← h]
    grind
theorem x_nw {v x e : Int32} (k : Nat) (h : v * x = 1 - e) : v * g_iv v k x = 1 - e * e := by
  rw [g_iv]; grind
theorem x_sq : ∀ j, ∃ t, am_pw 29791 j * am_pw 29791 j = 1 - 64 * t := by
  intro j
  induction j with
  | zero => exact ⟨0, by decide⟩
  | succ j ih =>
    obtain ⟨t, ht⟩ := ih
    refine ⟨t * (29791 * 29791) - 13867245, ?_⟩
    show am_pw 29791 j * 29791 * (am_pw 29791 j * 29791) = _
    grind
theorem x_pwA (j : Nat) : am_pw 31 (3 * j) = am_pw 29791 j ∧ am_pw 33 (3 * j) = am_pw 35937 j ∧ am_pw 31 (3 * j) * am_it (g_iv (am_pw 31 (3 * j))) (am_pw 31 (3 * j)) 5 = 1 := by
  have h1 : am_pw 31 (3 * j) = am_pw 29791 j := x_pw3 (by decide) j
  refine ⟨h1, x_pw3 (by decide) j, ?_⟩
  rw [h1]
  obtain ⟨t, ht⟩ := x_sq j
  generalize am_pw 29791 j = v at ht
  have n1 := x_nw 0 ht
  have n2 := x_nw 1 n1
  have n3 := x_nw 2 n2
  have n4 := x_nw 3 n3
  have n5 := x_nw 4 n4
  refine Eq.trans n5 ?_
  have z : 64 * t * (64 * t) * (64 * t * (64 * t)) * (64 * t * (64 * t) * (64 * t * (64 * t))) = 0 := by
    have : (64 : Int32) * 64 * (64 * 64) * (64 * 64 * (64 * 64)) = 0 := by decide
    grind
  rw [z]
  decide
abbrev x_fit (a b : Int32) (j : Nat) : Prop := a * am_pw 35937 j = b * am_pw 29791 j
theorem x_fit_g {a b : Int32} {n r : Nat} (hn : n ≤ 100) (hr : r < n) (hab : ¬ (a = 0 ∧ b = 0)) : (¬ g_more a n r = 0 ∧ g_more a n r * am_pw 33 (3 * (n - 1 - r)) = b) ↔ x_fit a b (n - 1 - r) := by
  obtain ⟨e1, e2, e3⟩ := x_pwA (n - 1 - r)
  rw [g_more, x_fit, ← e1, ← e2]
  generalize am_it (g_iv (am_pw 31 (3 * (n - 1 - r)))) (am_pw 31 (3 * (n - 1 - r))) 5 = v at e3 ⊢
  generalize am_pw 31 (3 * (n - 1 - r)) = p at e3 ⊢
  generalize am_pw 33 (3 * (n - 1 - r)) = q
  have hc : ∀ x : Int32, x * v * p = x := fun x => by rw [Int32.mul_assoc, Int32.mul_comm v p, e3, Int32.mul_one]
  have hd : ∀ x : Int32, x * p * v = x := fun x => by rw [Int32.mul_assoc, e3, Int32.mul_one]
  constructor
  · rintro ⟨_, h⟩
    rw [← h, Int32.mul_assoc (a * v) q p, Int32.mul_comm q p, ← Int32.mul_assoc, hc]
  · intro h
    have hb : b = a * v * q := by
      rw [← hd b, ← h, Int32.mul_assoc, Int32.mul_comm q v, ← Int32.mul_assoc]
    refine ⟨fun z => hab ?_, hb.symm⟩
    have ha : a = 0 := by rw [← hc a, z, Int32.zero_mul]
    exact ⟨ha, by rw [hb, z, Int32.zero_mul]⟩
theorem x_ith_w {a b w : Int32} {n : Nat} {I : am_I} (hn : n ≤ 100) (hw : ¬ w = -1) (hab : ¬ (a = 0 ∧ b = 0)) : ∀ m r s, r + m = n → g_ith a b w n m r s = f_ith (fun r => ¬ f_fits I a b n n 6 r = 0) w m r s := by
  intro m
  induction m with
  | zero => intro r s _; rw [g_ith, f_ith, if_neg hw]
  | succ m ih =>
    intro r s hr
    have hf := x_fit_g hn (show r < n by omega) hab
    have hv : (¬ f_fits I a b n n 6 r = 0) ↔ x_fit a b (n - 1 - r) := by
      rw [f_fits, if_pos rfl, if_pos (by omega), x_fit]
      split
      · rename_i q; exact ⟨fun _ => q, fun _ => by decide⟩
      · rename_i q; exact ⟨fun z => absurd rfl z, fun z => absurd z q⟩
    rw [g_ith, f_ith]
    by_cases q : x_fit a b (n - 1 - r)
    · obtain ⟨q1, q2⟩ := hf.mpr q
      rw [if_neg q1, if_pos q2, if_pos (hv.mpr q), ih (r + 1) (s + 1) (by omega)]
    · rw [if_neg (fun z => q (hv.mp z)), ← ih (r + 1) s (by omega)]
      by_cases q1 : g_more a n r = 0
      · rw [if_pos q1]
      · rw [if_neg q1, if_neg (fun z => q (hf.mp ⟨q1, z⟩))]
theorem x_ith_c {a b : Int32} {n : Nat} (hn : n ≤ 100) (hab : ¬ (a = 0 ∧ b = 0)) : ∀ m r (s : Nat), r + m = n → s ≤ r → g_ith a b (-1) n m r (nI s) = am_it (f_cntf a b) (nI s) m := by
  intro m
  have one : ∀ m (s : Nat), ∃ t, t ≤ m ∧ am_it (f_cntf a b) (nI s) m = nI (s + t) := by
    intro m s
    induction m with
    | zero => exact ⟨0, Nat.le_refl _, rfl⟩
    | succ m ih =>
      obtain ⟨t, h1, h2⟩ := ih
      show ∃ t, t ≤ m + 1 ∧ f_cntf a b m (am_it (f_cntf a b) (nI s) m) = _
      rw [h2, f_cntf]
      split
      · exact ⟨t + 1, by omega, by rw [← nI_succ]; rfl⟩
      · exact ⟨t, by omega, rfl⟩
  have sh : ∀ m (s : Nat), am_it (f_cntf a b) (nI (s + 1)) m = am_it (f_cntf a b) (nI s) m + 1 := by
    intro m s
    induction m with
    | zero => exact nI_succ s
    | succ m ih =>
      show f_cntf a b m (am_it (f_cntf a b) (nI (s + 1)) m) = f_cntf a b m (am_it (f_cntf a b) (nI s) m) + 1
      rw [ih, f_cntf, f_cntf]
      split <;> rfl
  induction m with
  | zero => intro r s _ _; rw [g_ith, if_pos rfl]; rfl
  | succ m ih =>
    intro r s hr hs
    have hf := x_fit_g hn (show r < n by omega) hab
    have hm : n - 1 - r = m := by omega
    rw [hm] at hf
    rw [g_ith, hm]
    show _ = f_cntf a b m (am_it (f_cntf a b) (nI s) m)
    have hne : ¬ nI s = -1 := by
      intro z
      have := congrArg Int32.toNatClampNeg z
      have z2 : (0 : Int32) ≤ nI s := Int32.not_lt.mp (nI_pos (by omega))
      rw [z] at z2
      exact absurd z2 (by decide)
    by_cases q : x_fit a b m
    · obtain ⟨q1, q2⟩ := hf.mpr q
      rw [if_neg q1, if_pos q2, if_neg hne, f_cntf, if_pos q, ← nI_succ, ih (r + 1) (s + 1) (by omega) (by omega), sh]
    · rw [f_cntf, if_neg q, ← ih (r + 1) s (by omega) (by omega)]
      by_cases q1 : g_more a n r = 0
      · rw [if_pos q1]
      · rw [if_neg q1, if_neg (fun z => q (hf.mp ⟨q1, z⟩))]
def g_chk (I : am_I) (n : Nat) (w : Int32) : Int32 :=
  let a := I 190 21 - am_it (g_se I 31) 5 (3 * n)
  let b := I 190 22 - am_it (g_se I 33) 7 (3 * n)
  if n = 0 ∨ a = 0 ∧ b = 0 then -1 else g_ith a b w n n 0 0
theorem k_X12_check {w : Int32} {n : Nat} {I : am_I} {L : am_L} (hw : -1 ≤ w) (hn : I 190 20 = nI n) (hn1 : n ≤ 100) : am_K M_X12_check 1 [.ref 190, .int w] I L (am_qf (some (.int (g_chk I n w))) I L) := by
  refine bm_intro (by decide +kernel) (Nat.le_of_ble_eq_true rfl) (show B_X12_check_0 _ _ _ _ from s_X12_check_0 ⟨fun _ => ?_, fun q => absurd hw q⟩)
  refine ⟨_, am_qf_i (k_X12_sealOf hn hn1), fun v I7 L8 e => ?_⟩
  obtain ⟨q1, q2, q3⟩ := e
  subst q1; subst q2; subst q3
  refine ⟨_, am_qf_i (k_X12_sealOf hn hn1), fun v I7 L8 e => ?_⟩
  obtain ⟨q1, q2, q3⟩ := e
  subst q1; subst q2; subst q3
  refine ⟨fun z => ?_, fun z => ?_⟩
  · have z0 : n = 0 := by
      have := congrArg Int32.toNatClampNeg z
      rw [hn, nI_clamp (by omega)] at this
      exact this
    rw [g_chk, if_pos (Or.inl z0)]; exact ⟨rfl, rfl, rfl⟩
  · have z0 : ¬ n = 0 := fun e => z (by rw [hn, e]; rfl)
    refine ⟨fun z1 => ?_, fun z1 => ⟨fun z2 => ?_, fun z2 => ?_⟩⟩
    · rw [g_chk, if_neg (fun q => q.elim z0 (fun q => z1 q.1))]; exact k_check58 hn hn1
    · rw [g_chk, if_neg (fun q => q.elim z0 (fun q => z2 q.2))]; exact k_check58 hn hn1
    · rw [g_chk, if_pos (Or.inr ⟨z1, z2⟩)]; exact ⟨rfl, rfl, rfl⟩
theorem x_o_check {w : Int32} {I : am_I} {L : am_L} (h : x_Inv xc I L) : am_K M_X11_check 2 [.ref 0, .int w] I L (x_Q xc M_X12_check 1 [.ref 190, .int w]) := by
  obtain ⟨nr, r0, r1, r2, r3, r4, r5⟩ := h.2.2.2.2.1
  refine bm_intro (by decide +kernel) (Nat.le_of_ble_eq_true rfl) (show B_X11_check_0 _ _ _ _ from s_X11_check_0 ⟨fun c1 => ?_, fun c1 => ?_⟩)
  · refine ⟨_, am_qf_i (k_X8_findAltered r1 r0 r4), fun v I3 L4 e => ?_⟩
    obtain ⟨e1, e2, e3⟩ := e
    rw [e1, e2, e3]
    have s1 := x_se_eq (b := 31) (s := 5) r3
    have s2 := x_se_eq (b := 33) (s := 7) r3
    have sm : x_sm I L (f_chk I nr w).2 L := by
      refine ⟨fun a x h1 h2 h3 h4 h5 h6 => ?_, fun _ _ _ _ _ _ _ _ => rfl⟩
      rw [f_chk]
      try dsimp only
      split
      · rfl
      · split <;> simp only [f_fits, if_neg h1]
    have h2 := x_keep h sm
    have ef : ∀ a x, a ≠ 6 → (f_chk I nr w).2 a x = I a x := by
      intro a x h1
      rw [f_chk]
      try dsimp only
      split
      · rfl
      · split <;> simp only [f_fits, if_neg h1]
    have g202 : ∀ b, g_se (f_chk I nr w).2 b = g_se I b := fun b => by funext k s; rw [g_se, g_se, ef 202 k (by decide)]
    have m20 : (f_chk I nr w).2 190 20 = nI nr := by rw [ef 190 20 (by decide)]; exact r2
    have m21 : (f_chk I nr w).2 190 21 = I 190 21 := ef 190 21 (by decide)
    have m22 : (f_chk I nr w).2 190 22 = I 190 22 := ef 190 22 (by decide)
    have ee : g_chk (f_chk I nr w).2 nr w = (f_chk I nr w).1 := by
      rw [g_chk, m21, m22, g202, g202, s1, s2]
      try dsimp only
      by_cases z : nr = 0
      · subst z
        rw [if_pos (Or.inl rfl), f_chk, if_pos ⟨by rw [(r4 rfl).1]; exact Int32.sub_self 5, by rw [(r4 rfl).2]; exact Int32.sub_self 7⟩]
      · obtain ⟨t1, t2⟩ := r5 z
        rw [← t1, ← t2, f_chk]
        try dsimp only
        by_cases hab : I 2 5 - am_it (f_se I 31) 5 nr = 0 ∧ I 2 6 - am_it (f_se I 33) 7 nr = 0
        · rw [if_pos (Or.inr hab), if_pos hab]
        · rw [if_neg (fun q => q.elim z hab), if_neg hab]
          by_cases hw : w = -1
          · rw [if_pos hw, hw]
            exact x_ith_c r0 hab nr 0 0 (by omega) (Nat.le_refl _)
          · rw [if_neg hw]
            exact x_ith_w r0 hw hab nr 0 0 (by omega)
    refine am_mono (k_X12_check c1 m20 r0) (fun r2 I2 L2 q => ?_)
    obtain ⟨q1, q2, q3⟩ := q
    rw [q1, q2, q3, ee]
    exact ⟨rfl, h2⟩
  · exact x_lf h (bm_intro (by decide +kernel) (Nat.le_of_ble_eq_true rfl) (show B_X12_check_0 _ _ _ _ from s_X12_check_0 ⟨fun q => absurd q c1, fun _ => ⟨rfl, rfl, rfl⟩⟩))
