/-! calls: first ones -/
variable {xc : Nat → Int32}
theorem x_ne {p s a b e : Nat} (h : ¬ x_enc p s = e) (k : x_enc a b = e) : p ≠ a ∨ s ≠ b := by
  by_cases h1 : p = a
  · refine Or.inr (fun h2 => h ?_)
    rw [h1, h2]; exact k
  · exact Or.inl h1
theorem x_inc {k : Nat} (h : k < 2 ^ 20) : (nI k).toInt64 + 1 = (nI k + 1).toInt64 := by
  apply Int64.toInt_inj.mp
  have h1 : (nI k).toInt = k := nI_toInt (by omega)
  have h2 : (nI (k + 1)).toInt = ((k + 1 : Nat) : Int) := nI_toInt (by omega)
  rw [← nI_succ, Int32.toInt_toInt64, h2, Int64.toInt_add, Int32.toInt_toInt64, h1]
  have h3 : (1 : Int64).toInt = 1 := by decide
  rw [h3]
  simp only [Int.bmod_def]
  omega
/-- writing in the main world -/
theorem x_main {I I' : am_I} {L L' : am_L} (h : x_Inv xc I L) (hI : ∀ a x, a < 11 ∨ 53 < a → I' a x = I a x) (hL : ∀ a x, a < 11 ∨ 53 < a → a ≠ 191 → L' a x = L a x) (hF : L' 191 1193 = L 191 1193 ∧ L' 191 1194 = L 191 1194) (hR : x_R I' L' (L' 191)) (hO : x_ok I' L') : x_Inv xc I' L' := by
  obtain ⟨_, f, _, ⟨hi0, hi1⟩, hr, hc, hn⟩ := h
  have e7 : ∀ x, L' 7 x = L 7 x := fun x => hL 7 x (Or.inl (by decide)) (by decide)
  refine ⟨hR, ⟨by rw [hF.1, e7]; exact f.1, by rw [hF.2, e7]; exact f.2⟩, hO, ⟨?_, ?_⟩, ?_, ?_, ?_⟩
  · exact x_img_c (by decide) hi0 (fun a x h1 h2 => hI a x (Or.inr (by omega))) (fun a x h1 h2 => hL a x (Or.inr (by omega)) (by omega)) (hI _ _ (Or.inr (by decide))) (fun x => hL _ _ (Or.inr (by decide)) (by decide))
  · exact x_img_c (by decide) hi1 (fun a x h1 h2 => hI a x (Or.inr (by omega))) (fun a x h1 h2 => hL a x (Or.inr (by omega)) (by omega)) (hI _ _ (Or.inr (by decide))) (fun x => hL _ _ (Or.inr (by decide)) (by decide))
  · exact x_rec_c hr (fun x => hI _ _ (Or.inl (by decide))) (fun x => hI _ _ (Or.inl (by decide))) (fun x => hI _ _ (Or.inl (by decide))) (fun x => hI _ _ (Or.inl (by decide))) (fun x => hI _ _ (Or.inr (by decide))) (fun x _ => hI _ _ (Or.inr (by decide)))
  · exact x_cac_c hc (fun a x h1 h2 => hI _ _ (Or.inr (by omega))) (fun a x h1 h2 => hL _ _ (Or.inr (by omega)) (by omega))
  · intro x hx
    rw [hL 185 x (Or.inr (by decide)) (by decide), hL 201 x (Or.inr (by decide)) (by decide)]
    exact hn x hx
theorem x_terms {a b : Int32} {I : am_I} {L : am_L} (h : x_Inv xc I L) : am_K M_X11_terms 1 [.ref 0, .int a, .int b] I L (x_Q xc M_X12_terms 1 [.ref 190, .int a, .int b]) := by
  refine bm_intro (by decide +kernel) (Nat.le_of_ble_eq_true rfl) (show B_X11_terms_0 _ _ _ _ _ from s_X11_terms_0 ⟨fun c1 => x_lf h ?_, fun c1 => ⟨fun c2 => ?_, fun c2 => x_lf h ?_⟩⟩)
  · exact bm_intro (by decide +kernel) (Nat.le_of_ble_eq_true rfl) (show B_X12_terms_0 _ _ _ _ _ from s_X12_terms_0 ⟨fun _ => ⟨rfl, rfl, rfl⟩, fun q => absurd q c1⟩)
  · refine bm_intro (by decide +kernel) (Nat.le_of_ble_eq_true rfl) (show B_X12_terms_0 _ _ _ _ _ from s_X12_terms_0 ⟨fun q => absurd c1 q, fun _ => ⟨fun _ => ⟨rfl, ?_⟩, fun q => absurd c2 q⟩⟩)
    obtain ⟨hR, hF, ⟨np, n, w, nt, nh, ng, ns, nl, nc, o1, o2, o3, o4, o5⟩, _⟩ := id h
    refine x_main h (fun a x hx => ?_) (fun a x hx hx2 => ?_) ⟨?_, ?_⟩ ?_ ?_
    · rw [am_u_ne _ (Or.inl (by omega)), am_u_ne _ (Or.inl (by omega))]
    · rw [am_u_ne _ (Or.inl hx2), am_u_ne _ (Or.inl hx2)]
    · rw [am_u_ne _ (Or.inr (by decide)), am_u_ne _ (Or.inr (by decide))]
    · rw [am_u_ne _ (Or.inr (by decide)), am_u_ne _ (Or.inr (by decide))]
    · refine x_upd hR [1186, 1187] (fun e he => ?_) (fun p s _ _ _ _ _ hq => ?_) (fun p s _ _ _ _ _ hq => ?_) (fun d hd he => ?_) (fun e he _ => ?_)
      · simp only [List.mem_cons, List.not_mem_nil, or_false, not_or] at he
        rw [am_u_ne _ (Or.inr he.2), am_u_ne _ (Or.inr he.1)]
      · simp only [List.mem_cons, List.not_mem_nil, or_false, not_or] at hq
        rw [am_u_ne _ (x_ne hq.2 (by decide)), am_u_ne _ (x_ne hq.1 (by decide))]
      · rw [am_u_ne _ (Or.inl (by omega)), am_u_ne _ (Or.inl (by omega))]
      · simp only [List.mem_cons, List.not_mem_nil, or_false] at he
        omega
      · simp only [List.mem_cons, List.not_mem_nil, or_false] at he
        rcases he with rfl | rfl
        · rw [xr_fee]
          repeat first | rw [am_u_eq] | rw [am_u_ne _ (Or.inl (by decide))] | rw [am_u_ne _ (Or.inr (by omega))]
        · rw [xr_rate]
          repeat first | rw [am_u_eq] | rw [am_u_ne _ (Or.inl (by decide))] | rw [am_u_ne _ (Or.inr (by omega))]
    · refine ⟨np, n, w, nt, nh, ng, ns, nl, nc, ?_, o2, o3, o4, o5⟩
      obtain ⟨p1, p2, p3, p4, p5, p6, p7, p8⟩ := o1
      exact ⟨p1, p2, p3, p4, p5, p6, c2, p8⟩
  · exact bm_intro (by decide +kernel) (Nat.le_of_ble_eq_true rfl) (show B_X12_terms_0 _ _ _ _ _ from s_X12_terms_0 ⟨fun q => absurd c1 q, fun _ => ⟨fun q => absurd q c2, fun _ => ⟨rfl, rfl, rfl⟩⟩⟩)
