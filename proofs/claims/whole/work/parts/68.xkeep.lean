/-! what keeps the relation -/
variable {xc : Nat → Int32}
theorem x_cac_c {I I' : am_I} {L L' : am_L} (h : x_cac I L) (hI : ∀ a x, 164 ≤ a → a ≤ 181 → I' a x = I a x) (hL : ∀ a x, 164 ≤ a → a ≤ 181 → L' a x = L a x) : x_cac I' L' := by
  have i164 : I' 164 = I 164 := funext fun x => hI _ x (by decide) (by decide)
  have i166 : I' 166 = I 166 := funext fun x => hI _ x (by decide) (by decide)
  have i174 : I' 174 = I 174 := funext fun x => hI _ x (by decide) (by decide)
  have i176 : I' 176 = I 176 := funext fun x => hI _ x (by decide) (by decide)
  have l165 : L' 165 = L 165 := funext fun x => hL _ x (by decide) (by decide)
  have l167 : L' 167 = L 167 := funext fun x => hL _ x (by decide) (by decide)
  have l168 : L' 168 = L 168 := funext fun x => hL _ x (by decide) (by decide)
  have l170 : L' 170 = L 170 := funext fun x => hL _ x (by decide) (by decide)
  have l171 : L' 171 = L 171 := funext fun x => hL _ x (by decide) (by decide)
  have l175 : L' 175 = L 175 := funext fun x => hL _ x (by decide) (by decide)
  have l177 : L' 177 = L 177 := funext fun x => hL _ x (by decide) (by decide)
  have l178 : L' 178 = L 178 := funext fun x => hL _ x (by decide) (by decide)
  have l180 : L' 180 = L 180 := funext fun x => hL _ x (by decide) (by decide)
  have l181 : L' 181 = L 181 := funext fun x => hL _ x (by decide) (by decide)
  have oa : c_oa I' = c_oa I := by funext i; rw [c_oa, c_oa, i166]
  have ob : c_ob I' = c_ob I := by funext i; rw [c_ob, c_ob, i176]
  have pa : c_p0a I' = c_p0a I := by unfold c_p0a; simp only [oa, i164]
  have pb : c_p0b I' = c_p0b I := by unfold c_p0b; simp only [ob, i174]
  have ga : c_G 164 L' ↔ c_G 164 L := by unfold c_G; simp only [show 164 + 4 = 168 from rfl, show 164 + 6 = 170 from rfl, l168, l170]
  have gb : c_G 174 L' ↔ c_G 174 L := by unfold c_G; simp only [show 174 + 4 = 178 from rfl, show 174 + 6 = 180 from rfl, l178, l180]
  obtain ⟨⟨h1, h2⟩, h3⟩ := h
  refine ⟨⟨?_, ?_⟩, by rw [i164, i174]; exact h3⟩
  · simp only [c_cachea, c_oka, oa, pa, ga, i164, l165, l167, l170, l171] at h1 ⊢
    exact h1
  · simp only [c_cacheb, c_okb, ob, pb, gb, i174, l175, l177, l180, l181] at h2 ⊢
    exact h2
theorem x_img_c {I I' : am_I} {L L' : am_L} {i : Nat} (hi : i < 2) (h : x_img xc I L i) (hI : ∀ a x, 61 ≤ a → a ≤ 153 → I' a x = I a x) (hL : ∀ a x, 61 ≤ a → a ≤ 153 → L' a x = L a x) (h193 : I' 193 i = I 193 i) (h192 : ∀ x, L' 192 x = L 192 x) : x_img xc I' L' i := by
  have hw : x_wq (x_V I (50 * (i + 1))) (x_V L (50 * (i + 1))) (x_V I' (50 * (i + 1))) (x_V L' (50 * (i + 1))) := fun a x h1 h2 _ _ _ => ⟨hI _ _ (by omega) (by omega), hL _ _ (by omega) (by omega)⟩
  rw [x_img, h193]
  refine ⟨h.1, fun q => ?_⟩
  have h2 := h.2 q
  exact ⟨x_R_c h2.1 hw (fun e _ => h192 _), x_ok_c h2.2 hw⟩
theorem x_rec_c {I I' : am_I} (h : x_rec I) (h2 : ∀ x, I' 2 x = I 2 x) (h3 : ∀ x, I' 3 x = I 3 x) (h4 : ∀ x, I' 4 x = I 4 x) (h5 : ∀ x, I' 5 x = I 5 x) (h202 : ∀ x, I' 202 x = I 202 x) (h190 : ∀ x, 20 ≤ x → I' 190 x = I 190 x) : x_rec I' := by
  obtain ⟨nr, q1, q2, q3, q4, q5, q6⟩ := h
  refine ⟨nr, q1, by rw [h2]; exact q2, by rw [h190 20 (by decide)]; exact q3, fun r hr => ?_, fun z => ?_, fun z => ?_⟩
  · rw [h202, h202, h202, h3, h4, h5]; exact q4 r hr
  · rw [h2, h2]; exact q5 z
  · rw [h2, h2, h190 21 (by decide), h190 22 (by decide)]; exact q6 z
/-- only cells that no answer hangs on, and the readers' names -/
def x_sn (I : am_I) (L : am_L) (I' : am_I) (L' : am_L) : Prop := (∀ a x, a ≠ 6 → a ≠ 37 → a ≠ 38 → (a < 184 ∨ 186 < a) → a ≠ 200 → (a ≠ 190 ∨ 20 ≤ x) → I' a x = I a x) ∧ ∀ a x, a ≠ 47 → a ≠ 160 → a ≠ 161 → a ≠ 162 → a ≠ 185 → a ≠ 201 → a ≠ 190 → (a < 194 ∨ 199 < a) → L' a x = L a x
theorem x_keepn {I I' : am_I} {L L' : am_L} (h : x_Inv xc I L) (s : x_sn I L I' L') (hn : x_nms L') : x_Inv xc I' L' := by
  obtain ⟨hR, hF, hO, ⟨hi0, hi1⟩, hr, hc, _⟩ := h
  obtain ⟨sI, sL⟩ := s
  have hw : x_wq I L I' L' := fun a x h1 h2 h3 h4 h5 => ⟨sI a x (by omega) h3 h4 (by omega) (by omega) (Or.inl (by omega)), sL a x h5 (by omega) (by omega) (by omega) (by omega) (by omega) (by omega) (Or.inl (by omega))⟩
  have e191 : L' 191 = L 191 := funext fun x => sL 191 x (by decide) (by decide) (by decide) (by decide) (by decide) (by decide) (by decide) (by decide)
  have e7 : L' 7 = L 7 := funext fun x => sL 7 x (by decide) (by decide) (by decide) (by decide) (by decide) (by decide) (by decide) (by decide)
  refine ⟨x_R_c hR hw (fun e _ => by rw [e191]), by rw [x_fra, e191, e7]; exact hF, x_ok_c hO hw, ⟨?_, ?_⟩, ?_, ?_, hn⟩
  · exact x_img_c (by decide) hi0 (fun a x h1 h2 => sI a x (by omega) (by omega) (by omega) (by omega) (by omega) (Or.inl (by omega))) (fun a x h1 h2 => sL a x (by omega) (by omega) (by omega) (by omega) (by omega) (by omega) (by omega) (Or.inl (by omega)))
      (sI 193 0 (by decide) (by decide) (by decide) (by decide) (by decide) (by decide)) (fun x => sL 192 x (by decide) (by decide) (by decide) (by decide) (by decide) (by decide) (by decide) (by decide))
  · exact x_img_c (by decide) hi1 (fun a x h1 h2 => sI a x (by omega) (by omega) (by omega) (by omega) (by omega) (Or.inl (by omega))) (fun a x h1 h2 => sL a x (by omega) (by omega) (by omega) (by omega) (by omega) (by omega) (by omega) (Or.inl (by omega)))
      (sI 193 1 (by decide) (by decide) (by decide) (by decide) (by decide) (by decide)) (fun x => sL 192 x (by decide) (by decide) (by decide) (by decide) (by decide) (by decide) (by decide) (by decide))
  · exact x_rec_c hr (fun x => sI 2 x (by decide) (by decide) (by decide) (by decide) (by decide) (Or.inl (by decide))) (fun x => sI 3 x (by decide) (by decide) (by decide) (by decide) (by decide) (Or.inl (by decide))) (fun x => sI 4 x (by decide) (by decide) (by decide) (by decide) (by decide) (Or.inl (by decide)))
      (fun x => sI 5 x (by decide) (by decide) (by decide) (by decide) (by decide) (Or.inl (by decide))) (fun x => sI 202 x (by decide) (by decide) (by decide) (by decide) (by decide) (Or.inl (by decide))) (fun x hx => sI 190 x (by decide) (by decide) (by decide) (by decide) (by decide) (Or.inr hx))
  · exact x_cac_c hc (fun a x h1 h2 => sI a x (by omega) (by omega) (by omega) (by omega) (by omega) (Or.inl (by omega))) (fun a x h1 h2 => sL a x (by omega) (by omega) (by omega) (by omega) (by omega) (by omega) (by omega) (Or.inl (by omega)))
theorem x_sm_n {I I' : am_I} {L L' : am_L} (s : x_sm I L I' L') : x_sn I L I' L' := ⟨s.1, fun a x h1 h2 h3 h4 _ _ h7 h8 => s.2 a x h1 h2 h3 h4 h7 h8⟩
theorem x_keep {I I' : am_I} {L L' : am_L} (h : x_Inv xc I L) (s : x_sm I L I' L') : x_Inv xc I' L' := by
  refine x_keepn h (x_sm_n s) ?_
  intro x hx
  rw [s.2 185 x (by decide) (by decide) (by decide) (by decide) (by decide) (by decide), s.2 201 x (by decide) (by decide) (by decide) (by decide) (by decide) (by decide)]
  exact h.2.2.2.2.2.2 x hx
theorem x_sm_rf {I : am_I} {L : am_L} : x_sm I L I L := ⟨fun _ _ _ _ _ _ _ _ => rfl, fun _ _ _ _ _ _ _ _ => rfl⟩
theorem x_sm_tr {I J K : am_I} {L M N : am_L} (h : x_sm I L J M) (k : x_sm J M K N) : x_sm I L K N := ⟨fun a x h1 h2 h3 h4 h5 h6 => (k.1 a x h1 h2 h3 h4 h5 h6).trans (h.1 a x h1 h2 h3 h4 h5 h6), fun a x h1 h2 h3 h4 h5 h6 => (k.2 a x h1 h2 h3 h4 h5 h6).trans (h.2 a x h1 h2 h3 h4 h5 h6)⟩
/-- what a call of the fund owes: the reference's call behind it ends with the same answer, in step again -/
def x_Q (xc : Nat → Int32) (M2 : am_M) (d2 : Nat) (as2 : List Value) : am_S := fun r I' L' => am_K M2 d2 as2 I' L' (fun r2 I'' L'' => r2 = r ∧ x_Inv xc I'' L'')
theorem x_ro {M1 M2 : am_M} {d1 d2 : Nat} {as1 as2 : List Value} {v : Value} {I : am_I} {L : am_L} {P1 P2 : am_I → am_L → Prop} (h : x_Inv xc I L) (k1 : am_K M1 d1 as1 I L (fun r I1 L1 => r = some v ∧ P1 I1 L1)) (s1 : ∀ I1 L1, P1 I1 L1 → x_sm I L I1 L1)
    (k2 : ∀ I1 L1, x_Inv xc I1 L1 → P1 I1 L1 → am_K M2 d2 as2 I1 L1 (fun r I2 L2 => r = some v ∧ x_sm I1 L1 I2 L2)) : am_K M1 d1 as1 I L (x_Q xc M2 d2 as2) := by
  refine am_mono k1 (fun r I1 L1 q => ?_)
  have h1 := x_keep h (s1 I1 L1 q.2)
  exact am_mono (k2 I1 L1 h1 q.2) (fun r2 I2 L2 q2 => ⟨by rw [q2.1, q.1], x_keep h1 q2.2⟩)
/-- the simple case: neither side changes anything -/
theorem x_rq {M1 M2 : am_M} {d1 d2 : Nat} {as1 as2 : List Value} {v w : Value} {I : am_I} {L : am_L} (h : x_Inv xc I L) (k1 : am_K M1 d1 as1 I L (am_qf (some v) I L)) (k2 : am_K M2 d2 as2 I L (am_qf (some w) I L)) (e : w = v) : am_K M1 d1 as1 I L (x_Q xc M2 d2 as2) := by
  refine am_mono k1 (fun r I1 L1 q => ?_)
  obtain ⟨q1, q2, q3⟩ := q
  rw [q1, q2, q3]
  exact am_mono k2 (fun r2 I2 L2 q => by
    obtain ⟨q1, q2, q3⟩ := q
    rw [q1, q2, q3, e]
    exact ⟨rfl, h⟩)
/-- a leaf of the fund's call: nothing changed, and the reference answers so too -/
theorem x_lf {M2 : am_M} {d2 : Nat} {as2 : List Value} {v : Value} {I : am_I} {L : am_L} (h : x_Inv xc I L) (k2 : am_K M2 d2 as2 I L (am_qf (some v) I L)) : x_Q xc M2 d2 as2 (some v) I L := am_mono k2 (fun r2 I2 L2 q => by
    obtain ⟨q1, q2, q3⟩ := q
    rw [q1, q2, q3]
    exact ⟨rfl, h⟩)
theorem x_i32 {x : Int32} {y : Int64} (h : y = x.toInt64) : Int64.toInt32 y = x := by rw [h, am_l2i_id]
