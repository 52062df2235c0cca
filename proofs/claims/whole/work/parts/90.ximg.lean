/-! image and from: the relation behind a copy -/
variable {xc : Nat → Int32}
def x_wib (p s : Nat) : Bool := (p == 16 && Nat.blt s 12) || (p == 17 && Nat.blt s 12) || (p == 19 && Nat.blt s 100) || (p == 20 && Nat.blt s 100) || (p == 21 && Nat.blt s 100) || (p == 24 && Nat.blt s 12) || (p == 25 && Nat.blt s 12) || (p == 26 && Nat.blt s 12) || (p == 27 && Nat.blt s 12) || (p == 28 && Nat.blt s 30) || (p == 29 && Nat.blt s 30) || (p == 30 && Nat.blt s 30) || (p == 31 && Nat.blt s 40) || (p == 32 && Nat.blt s 40) || (p == 33 && Nat.blt s 40) || (p == 34 && Nat.blt s 40) || (p == 35 && Nat.blt s 8) || (p == 36 && Nat.blt s 8) || (p == 39 && Nat.blt s 60) || (p == 40 && Nat.blt s 30) || (p == 41 && Nat.blt s 30) || (p == 42 && Nat.blt s 30) || (p == 43 && Nat.blt s 30) || (p == 44 && Nat.blt s 8) || (p == 45 && Nat.blt s 8) || (p == 46 && Nat.blt s 8) || (p == 48 && Nat.blt s 8) || (p == 49 && Nat.blt s 64) || (p == 50 && Nat.blt s 20) || (p == 51 && Nat.blt s 20) || (p == 52 && Nat.blt s 20) || (p == 53 && Nat.blt s 40) || (p == 11 && s == 3) || (p == 11 && s == 7) || (p == 11 && s == 8) || (p == 11 && s == 9) || (p == 11 && s == 10) || (p == 11 && s == 13) || (p == 12 && s == 7) || (p == 12 && s == 10) || (p == 13 && s == 5) || (p == 13 && s == 6) || (p == 13 && s == 7) || (p == 13 && s == 11) || (p == 14 && s == 2) || (p == 15 && s == 3) || (p == 15 && s == 5)
theorem x_wib_p {p s : Nat} (h : x_wib p s = true) : x_wi p s := by
  simp only [x_wib, Bool.or_eq_true, Bool.and_eq_true, beq_iff_eq, Nat.blt_eq] at h
  simp only [or_assoc] at h
  exact h
theorem x_wi_le {p s : Nat} (h : x_wi p s) : p ≤ 53 := by
  unfold x_wi at h
  omega
def x_wlb (p s : Nat) : Bool := (p == 18 && Nat.blt s 12) || (p == 22 && Nat.blt s 60) || (p == 23 && Nat.blt s 60) || (p == 11 && s == 11) || (p == 11 && s == 12)
theorem x_wlb_p {p s : Nat} (h : x_wlb p s = true) : x_wl p s := by
  simp only [x_wlb, Bool.or_eq_true, Bool.and_eq_true, beq_iff_eq, Nat.blt_eq] at h
  simp only [or_assoc] at h
  exact h
theorem x_wl_le {p s : Nat} (h : x_wl p s) : p ≤ 53 := by
  unfold x_wl at h
  omega
theorem x_wd_all : ((List.range 1193).all fun e => decide (x_fl e) || (if x_lg e then x_wlb (x_dec e).1 (x_dec e).2 else x_wib (x_dec e).1 (x_dec e).2)) = true := by decide +kernel
theorem x_wd_dec (e : Nat) (he : e < 1193) (hf : ¬ x_fl e) : (x_lg e → x_wl (x_dec e).1 (x_dec e).2) ∧ (¬ x_lg e → x_wi (x_dec e).1 (x_dec e).2) := by
  have h := List.all_eq_true.mp x_wd_all e (List.mem_range.mpr he)
  rw [decide_eq_false hf, Bool.false_or] at h
  refine ⟨fun hl => ?_, fun hl => ?_⟩
  · rw [if_pos hl] at h; exact x_wlb_p h
  · rw [if_neg hl] at h; exact x_wib_p h
theorem x_rd_v {I J : am_I} {L K : am_L} (hI : ∀ p s, x_wi p s → J p s = I p s) (hL : ∀ p s, x_wl p s → K p s = L p s) {e : Nat} (he : e < 1193) : x_rd J K e = x_rd I L e := by
  rw [x_rd, x_rd]
  by_cases hf : x_fl e
  · rw [if_pos hf, if_pos hf, hI 28 ((e - 384) / 4) (by simp [x_wi]; omega)]
  · obtain ⟨d1, d2⟩ := x_wd_dec e he hf
    rw [if_neg hf, if_neg hf]
    by_cases hl : x_lg e
    · rw [if_pos hl, if_pos hl, hL _ _ (d1 hl)]
    · rw [if_neg hl, if_neg hl, hI _ _ (d2 hl)]
theorem x_ok_v {I J : am_I} {L K : am_L} (hI : ∀ p s, x_wi p s → J p s = I p s) (hL : ∀ p s, x_wl p s → K p s = L p s) (h : x_ok I L) : x_ok J K := by
  obtain ⟨np, n, w, nt, nh, ng, ns, nl, nc, ⟨a1, a2, a3, a4, a5, a6, a7, a8, a9, a10⟩, ⟨b1, b2, b3, b4, b5⟩, ⟨c1, c2, c3, c4, c5, c6, c7⟩, ⟨d1, d2, d3, d4⟩, ⟨e1, e2, e3, e4, e5⟩⟩ := h
  refine ⟨np, n, w, nt, nh, ng, ns, nl, nc, ⟨?_, a2, ?_, a4, ?_, a6, ?_, fun r hr => ?_, fun p hp => ?_, fun p hp => ?_⟩, ⟨?_, b2, ?_, b4, fun t ht => ?_⟩, ⟨?_, c2, ?_, c4, fun m hm => ?_, fun g hg => ?_, fun s hs => ?_⟩, ⟨fun k hk => ?_, fun k hk => ?_, ?_, fun k hk => ?_⟩, ⟨?_, e2, ?_, e4, fun k hk => ?_⟩⟩
  · rw [hI 11 3 (by simp [x_wi])]; exact a1
  · rw [hI 11 7 (by simp [x_wi])]; exact a3
  · rw [hI 11 8 (by simp [x_wi])]; exact a5
  · rw [hI 11 10 (by simp [x_wi])]; exact a7
  · rw [hI 19 r (by simp [x_wi]; omega), hI 20 r (by simp [x_wi]; omega), hI 21 r (by simp [x_wi]; omega)]; exact a8 r hr
  · rw [hL 18 p (by simp [x_wl]; omega)]; exact a9 p hp
  · rw [hI 17 p (by simp [x_wi]; omega)]; exact a10 p hp
  · rw [hI 12 7 (by simp [x_wi])]; exact b1
  · rw [hI 12 10 (by simp [x_wi])]; exact b3
  · rw [hI 31 t (by simp [x_wi]; omega), hI 34 t (by simp [x_wi]; omega)]; exact b5 t ht
  · rw [hI 13 5 (by simp [x_wi])]; exact c1
  · rw [hI 13 11 (by simp [x_wi])]; exact c3
  · rw [hI 39 m (by simp [x_wi]; omega)]; exact c5 m hm
  · rw [hI 40 g (by simp [x_wi]; omega), hI 41 g (by simp [x_wi]; omega)]; exact c6 g hg
  · rw [hI 44 s (by simp [x_wi]; omega), hI 45 s (by simp [x_wi]; omega), hI 46 s (by simp [x_wi]; omega)]; exact c7 s hs
  · rw [hI 48 k (by simp [x_wi]; omega)]; exact d1 k hk
  · rw [hI 49 k (by simp [x_wi]; omega)]; exact d2 k hk
  · rw [hI 14 2 (by simp [x_wi])]; exact d3
  · rw [hI 24 k (by simp [x_wi]; omega), hI 25 k (by simp [x_wi]; omega), hI 26 k (by simp [x_wi]; omega), hI 27 k (by simp [x_wi]; omega)]; exact d4 k hk
  · rw [hI 15 3 (by simp [x_wi])]; exact e1
  · rw [hI 15 5 (by simp [x_wi])]; exact e3
  · rw [hI 53 k (by simp [x_wi]; omega)]; exact e5 k hk
theorem x_img_c2 {I I' : am_I} {L L' : am_L} {j : Nat} (h : x_img xc I L j) (hI : ∀ a x, 61 + 50 * j ≤ a → a ≤ 103 + 50 * j → I' a x = I a x) (hL : ∀ a x, 61 + 50 * j ≤ a → a ≤ 103 + 50 * j → L' a x = L a x) (h193 : I' 193 j = I 193 j) (h192 : ∀ e, e < 1193 → L' 192 (1200 * j + e) = L 192 (1200 * j + e)) : x_img xc I' L' j := by
  have hw : x_wq (x_V I (50 * (j + 1))) (x_V L (50 * (j + 1))) (x_V I' (50 * (j + 1))) (x_V L' (50 * (j + 1))) := fun a x h1 h2 _ _ _ => ⟨hI _ _ (by omega) (by omega), hL _ _ (by omega) (by omega)⟩
  rw [x_img, h193]
  refine ⟨h.1, fun q => ?_⟩
  have h2 := h.2 q
  exact ⟨x_R_c h2.1 hw (fun e he => h192 e he), x_ok_c h2.2 hw⟩
def g_img (L : am_L) (i k : Nat) : am_L := fun a b => if a = 192 ∧ 1200 * i ≤ b ∧ b < 1200 * i + k then L 191 (b - 1200 * i) else L a b
def g_frm (L : am_L) (i k : Nat) : am_L := fun a b => if a = 191 ∧ b < k then L 192 (1200 * i + b) else L a b
theorem k_X12_image {i : Nat} {I : am_I} {L : am_L} (hi : i < 2) : am_K M_X12_image 1 [.ref 190, .int (nI i)] I L (am_qf (some (.int 1)) (am_u I 193 i 1) (g_img L i 1200)) := by
  have r : (0 : Int32) ≤ nI i ∧ nI i ≤ 1 := by
    have e : ∀ i, i < 2 → (0 : Int32) ≤ nI i ∧ nI i ≤ 1 := by decide
    exact e i hi
  have hc : (nI i).toNatClampNeg = i := nI_clamp (by omega)
  generalize hQ : am_qf (some (.int 1)) (am_u I 193 i 1) (g_img L i 1200) = Q
  have key : ∀ k, k ≤ 1200 → B_X12_image_15 Q I (g_img L i k) (nI i) (nI k) := by
    refine am_down ?_ (fun k hk ih => ?_)
    · refine s_X12_image_15 ⟨fun _ => ⟨⟨am_vI hi (by decide), by decide⟩, ?_⟩, fun q => absurd (by decide) q⟩
      rw [hc, ← hQ]; exact ⟨rfl, rfl, rfl⟩
    · have hk1 : (nI k).toNatClampNeg = k := nI_clamp (by omega)
      have ex : ((1200 : Int32) * nI i + nI k).toNatClampNeg = 1200 * i + k := am_cx (by simp only [nq_1200, nI_qm, nI_qa]) (by omega)
      have vx : vp_in ((1200 : Int32) * nI i + nI k) 2400 := am_vx (m := 1200 * i + k) (by simp only [nq_1200, nI_qm, nI_qa]) (by omega) (by decide)
      refine s_X12_image_15 ⟨fun q => absurd q (by rw [nq_1200]; exact nI_ge hk (by omega)), fun _ => ⟨am_vI hk (by decide), vx, ?_⟩⟩
      rw [hk1, ex, ← nI_succ]
      have e : am_u (g_img L i k) 192 (1200 * i + k) (g_img L i k 191 k) = g_img L i (k + 1) := by
        have e1 : g_img L i k 191 k = L 191 k := if_neg (by omega)
        rw [e1]
        funext a b
        by_cases ha : a = 192
        · subst ha
          by_cases hb : b = 1200 * i + k
          · subst hb
            rw [am_u_eq, g_img, if_pos ⟨rfl, by omega, by omega⟩, Nat.add_sub_cancel_left]
          · rw [am_u_ne _ (Or.inr hb), g_img, g_img]
            by_cases hb2 : 1200 * i ≤ b ∧ b < 1200 * i + k
            · rw [if_pos ⟨rfl, hb2⟩, if_pos ⟨rfl, by omega, by omega⟩]
            · rw [if_neg (fun q => hb2 q.2), if_neg (fun q => hb2 (by omega))]
        · rw [am_u_ne _ (Or.inl ha), g_img, g_img, if_neg (fun q => ha q.1), if_neg (fun q => ha q.1)]
      rw [e]; exact ih
  have e0 : g_img L i 0 = L := by funext a b; exact if_neg (by omega)
  have k0 := key 0 (Nat.zero_le _)
  rw [e0] at k0
  exact bm_intro (by decide +kernel) (Nat.le_of_ble_eq_true rfl) (show B_X12_image_0 _ _ _ _ from s_X12_image_0 ⟨fun _ => k0, fun q => absurd r q⟩)
theorem k_X12_from {i : Nat} {I : am_I} {L : am_L} (hi : i < 2) (h193 : ¬ I 193 i = 0) : am_K M_X12_from 1 [.ref 190, .int (nI i)] I L (am_qf (some (.int 1)) I (g_frm L i 1193)) := by
  have r : (0 : Int32) ≤ nI i ∧ nI i ≤ 1 := by
    have e : ∀ i, i < 2 → (0 : Int32) ≤ nI i ∧ nI i ≤ 1 := by decide
    exact e i hi
  have hc : (nI i).toNatClampNeg = i := nI_clamp (by omega)
  generalize hQ : am_qf (some (.int 1)) I (g_frm L i 1193) = Q
  have key : ∀ k, k ≤ 1193 → B_X12_from_27 Q I (g_frm L i k) (nI i) (nI k) := by
    refine am_down ?_ (fun k hk ih => ?_)
    · exact s_X12_from_27 ⟨fun _ => by rw [← hQ]; exact ⟨rfl, rfl, rfl⟩, fun q => absurd (by decide) q⟩
    · have hk1 : (nI k).toNatClampNeg = k := nI_clamp (by omega)
      have ex : ((1200 : Int32) * nI i + nI k).toNatClampNeg = 1200 * i + k := am_cx (by simp only [nq_1200, nI_qm, nI_qa]) (by omega)
      have vx : vp_in ((1200 : Int32) * nI i + nI k) 2400 := am_vx (m := 1200 * i + k) (by simp only [nq_1200, nI_qm, nI_qa]) (by omega) (by decide)
      refine s_X12_from_27 ⟨fun q => absurd q (by rw [show (1193 : Int32) = nI 1193 by decide]; exact nI_ge hk (by omega)), fun _ => ⟨vx, am_vI (by omega) (by decide), ?_⟩⟩
      rw [hk1, ex, ← nI_succ]
      have e : am_u (g_frm L i k) 191 k (g_frm L i k 192 (1200 * i + k)) = g_frm L i (k + 1) := by
        have e1 : g_frm L i k 192 (1200 * i + k) = L 192 (1200 * i + k) := if_neg (by omega)
        rw [e1]
        funext a b
        by_cases ha : a = 191
        · subst ha
          by_cases hb : b = k
          · subst hb
            rw [am_u_eq, g_frm, if_pos ⟨rfl, by omega⟩]
          · rw [am_u_ne _ (Or.inr hb), g_frm, g_frm]
            by_cases hb2 : b < k
            · rw [if_pos ⟨rfl, hb2⟩, if_pos ⟨rfl, by omega⟩]
            · rw [if_neg (fun q => hb2 q.2), if_neg (fun q => hb2 (by omega))]
        · rw [am_u_ne _ (Or.inl ha), g_frm, g_frm, if_neg (fun q => ha q.1), if_neg (fun q => ha q.1)]
      rw [e]; exact ih
  have e0 : g_frm L i 0 = L := by funext a b; exact if_neg (by omega)
  have k0 := key 0 (Nat.zero_le _)
  rw [e0] at k0
  refine bm_intro (by decide +kernel) (Nat.le_of_ble_eq_true rfl) (show B_X12_from_0 _ _ _ _ from s_X12_from_0 ⟨fun _ => ⟨am_vI hi (by decide), ?_⟩, fun q => absurd r q⟩)
  rw [hc]
  exact ⟨fun _ => k0, fun q => absurd q h193⟩
def x_st (c : Nat → Int32) (i : Nat) : Nat → Int32 := fun j => if j = i then 1 else c j
theorem x_image_inv {i : Nat} {I I' : am_I} {L L' : am_L} (hi : i < 2) (h : x_Inv xc I L) (hcI : ∀ p s, x_wi p s → I' (p + 50 * (i + 1)) s = I p s) (hcL : ∀ p s, x_wl p s → L' (p + 50 * (i + 1)) s = L p s) (hI : ∀ a x, (a < 60 + 50 * i ∨ 109 + 50 * i < a) → I' a x = I a x) (hL : ∀ a x, (a < 60 + 50 * i ∨ 109 + 50 * i < a) → L' a x = L a x) : x_Inv (x_st xc i) (am_u I' 193 i 1) (g_img L' i 1200) := by
  obtain ⟨hR, hF, hO, ⟨hi0, hi1⟩, hr, hc, hn⟩ := h
  have gL : ∀ a x, a ≠ 192 → g_img L' i 1200 a x = L' a x := fun a x ha => if_neg (fun q => ha q.1)
  have gI : ∀ a x, a ≠ 193 → am_u I' 193 i 1 a x = I' a x := fun a x ha => am_u_ne _ (Or.inl ha)
  have hw : x_wq I L (am_u I' 193 i 1) (g_img L' i 1200) := fun a x h1 h2 h3 h4 h5 => ⟨by rw [gI a x (by omega)]; exact hI a x (by omega), by rw [gL a x (by omega)]; exact hL a x (by omega)⟩
  have e191 : ∀ e, g_img L' i 1200 191 e = L 191 e := fun e => by rw [gL 191 e (by decide)]; exact hL 191 e (by omega)
  have e7 : ∀ e, g_img L' i 1200 7 e = L 7 e := fun e => by rw [gL 7 e (by decide)]; exact hL 7 e (by omega)
  have same : x_img (x_st xc i) (am_u I' 193 i 1) (g_img L' i 1200) i := by
    refine ⟨by rw [am_u_eq, x_st, if_pos rfl], fun _ => ⟨fun e he => ?_, ?_⟩⟩
    · have e1 : g_img L' i 1200 192 (1200 * i + e) = L 191 e := by
        rw [g_img, if_pos ⟨rfl, by omega, by omega⟩, Nat.add_sub_cancel_left]; exact hL 191 e (by omega)
      show g_img L' i 1200 192 (1200 * i + e) = _
      rw [e1, hR e he]
      refine (x_rd_v (fun p s hp => ?_) (fun p s hp => ?_) he).symm
      · show am_u I' 193 i 1 (p + 50 * (i + 1)) s = I p s
        have : p ≤ 53 := x_wi_le hp
        rw [gI _ _ (by omega)]; exact hcI p s hp
      · show g_img L' i 1200 (p + 50 * (i + 1)) s = L p s
        have : p ≤ 53 := x_wl_le hp
        rw [gL _ _ (by omega)]; exact hcL p s hp
    · refine x_ok_v (fun p s hp => ?_) (fun p s hp => ?_) hO
      · show am_u I' 193 i 1 (p + 50 * (i + 1)) s = I p s
        have : p ≤ 53 := x_wi_le hp
        rw [gI _ _ (by omega)]; exact hcI p s hp
      · show g_img L' i 1200 (p + 50 * (i + 1)) s = L p s
        have : p ≤ 53 := x_wl_le hp
        rw [gL _ _ (by omega)]; exact hcL p s hp
  have other : ∀ j, j < 2 → j ≠ i → x_img xc I L j → x_img (x_st xc i) (am_u I' 193 i 1) (g_img L' i 1200) j := by
    intro j hj hne hx0
    have hx : x_img (x_st xc i) I L j := ⟨by rw [x_st, if_neg hne]; exact hx0.1, hx0.2⟩
    refine x_img_c2 hx (fun a x h1 h2 => ?_) (fun a x h1 h2 => ?_) ?_ (fun e he => ?_)
    · rw [gI a x (by omega)]; exact hI a x (by omega)
    · rw [gL a x (by omega)]; exact hL a x (by omega)
    · rw [am_u_ne _ (Or.inr hne)]; exact hI 193 j (by omega)
    · rw [g_img, if_neg (by omega)]; exact hL 192 _ (by omega)
  refine ⟨x_R_c hR hw (fun e _ => e191 e), ⟨by rw [e191, e7]; exact hF.1, by rw [e191, e7]; exact hF.2⟩, x_ok_c hO hw, ⟨?_, ?_⟩, ?_, ?_, fun x hx => ?_⟩
  · by_cases e : (0 : Nat) = i
    · rw [e]; exact same
    · exact other 0 (by decide) e hi0
  · by_cases e : (1 : Nat) = i
    · rw [e]; exact same
    · exact other 1 (by decide) e hi1
  · exact x_rec_c hr (fun x => by rw [gI 2 x (by decide)]; exact hI 2 x (by omega)) (fun x => by rw [gI 3 x (by decide)]; exact hI 3 x (by omega)) (fun x => by rw [gI 4 x (by decide)]; exact hI 4 x (by omega)) (fun x => by rw [gI 5 x (by decide)]; exact hI 5 x (by omega)) (fun x => by rw [gI 202 x (by decide)]; exact hI 202 x (by omega)) (fun x _ => by rw [gI 190 x (by decide)]; exact hI 190 x (by omega))
  · exact x_cac_c hc (fun a x h1 h2 => by rw [gI a x (by omega)]; exact hI a x (by omega)) (fun a x h1 h2 => by rw [gL a x (by omega)]; exact hL a x (by omega))
  · rw [gL 185 x (by decide), gL 201 x (by decide), hL 185 x (by omega), hL 201 x (by omega)]; exact hn x hx
theorem x_from_inv {i : Nat} {I I' : am_I} {L L' : am_L} (hi : i < 2) (h : x_Inv xc I L) (h193 : I 193 i = 1) (hcI : ∀ p s, x_wi p s → I' p s = I (p + 50 * (i + 1)) s) (hcL : ∀ p s, x_wl p s → L' p s = L (p + 50 * (i + 1)) s) (hI : ∀ a x, (a < 10 ∨ 59 < a) → I' a x = I a x) (hL : ∀ a x, (a < 10 ∨ 59 < a) → L' a x = L a x) : x_Inv xc I' (g_frm L' i 1193) := by
  obtain ⟨hR, hF, hO, ⟨hi0, hi1⟩, hr, hc, hn⟩ := h
  have gL : ∀ a x, a ≠ 191 → g_frm L' i 1193 a x = L' a x := fun a x ha => if_neg (fun q => ha q.1)
  have hx : x_img xc I L i := by
    by_cases e : i = 0
    · rw [e]; exact hi0
    · rw [show i = 1 by omega]; exact hi1
  obtain ⟨im1, im2⟩ := hx.2 h193
  have hcL2 : ∀ p s, x_wl p s → g_frm L' i 1193 p s = L (p + 50 * (i + 1)) s := fun p s hp => by
    have : p ≤ 53 := x_wl_le hp
    rw [gL _ _ (by omega)]; exact hcL p s hp
  have hF2 : ∀ e, 1193 ≤ e → g_frm L' i 1193 191 e = L 191 e := fun e he => by
    rw [g_frm, if_neg (by omega)]; exact hL 191 e (by omega)
  refine ⟨fun e he => ?_, ⟨?_, ?_⟩, ?_, ⟨?_, ?_⟩, ?_, ?_, fun x hx => ?_⟩
  · have e1 : g_frm L' i 1193 191 e = L 192 (1200 * i + e) := by
      rw [g_frm, if_pos ⟨rfl, he⟩]; exact hL 192 _ (by omega)
    rw [e1]
    exact (im1 e he).trans (x_rd_v (I := x_V I (50 * (i + 1))) (L := x_V L (50 * (i + 1))) hcI hcL2 he).symm
  · rw [hF2 1193 (by decide), gL 7 0 (by decide), hL 7 0 (by omega)]; exact hF.1
  · rw [hF2 1194 (by decide), gL 7 1 (by decide), hL 7 1 (by omega)]; exact hF.2
  · exact x_ok_v (I := x_V I (50 * (i + 1))) (L := x_V L (50 * (i + 1))) hcI hcL2 im2
  · exact x_img_c (by decide) hi0 (fun a x h1 h2 => hI a x (by omega)) (fun a x h1 h2 => by rw [gL a x (by omega)]; exact hL a x (by omega)) (hI 193 0 (by omega)) (fun x => by rw [gL 192 x (by decide)]; exact hL 192 x (by omega))
  · exact x_img_c (by decide) hi1 (fun a x h1 h2 => hI a x (by omega)) (fun a x h1 h2 => by rw [gL a x (by omega)]; exact hL a x (by omega)) (hI 193 1 (by omega)) (fun x => by rw [gL 192 x (by decide)]; exact hL 192 x (by omega))
  · exact x_rec_c hr (fun x => hI 2 x (by omega)) (fun x => hI 3 x (by omega)) (fun x => hI 4 x (by omega)) (fun x => hI 5 x (by omega)) (fun x => hI 202 x (by omega)) (fun x _ => hI 190 x (by omega))
  · exact x_cac_c hc (fun a x h1 h2 => hI a x (by omega)) (fun a x h1 h2 => by rw [gL a x (by omega)]; exact hL a x (by omega))
  · rw [gL 185 x (by decide), gL 201 x (by decide), hL 185 x (by omega), hL 201 x (by omega)]; exact hn x hx
