/-! from and image, both sides -/
variable {xc : Nat → Int32}
def am_s1x (al : List Nat) (R : Nat → Nat → Option Nat) : Prop := am_s1 al R ∧ R 1 0 = some 60
def am_s2x (al : List Nat) (R : Nat → Nat → Option Nat) : Prop := am_s2 al R ∧ R 1 1 = some 110
theorem x_hz {I : am_I} {L : am_L} (h : x_ok I L) : I 14 2 = 0 ∨ I 14 2 = 1 := by
  obtain ⟨np, n, w, nt, nh, ng, ns, nl, nc, o1, o2, o3, o4, o5⟩ := h
  exact o4.2.2.1
theorem x_from_r {S : List Nat → am_R → Prop} (hS : ∀ al R, S al R → am_st al R) {a : Int32} {I : am_I} {L : am_L} (h : x_Inv xc I L) (ha : ¬ ((0 : Int32) ≤ a ∧ a ≤ 1)) : am_KS S M_X11_from 3 [.ref 0, .int a] I L (x_Q xc M_X12_from 1 [.ref 190, .int a]) :=
  k_X11_from_r hS ha (x_lf h (bm_intro (by decide +kernel) (Nat.le_of_ble_eq_true rfl) (show B_X12_from_0 _ _ _ _ from s_X12_from_0 ⟨fun q => absurd q ha, fun _ => ⟨rfl, rfl, rfl⟩⟩)))
theorem x_image_r {S : List Nat → am_R → Prop} (hS : ∀ al R, S al R → am_st al R) {a : Int32} {I : am_I} {L : am_L} (h : x_Inv xc I L) (ha : ¬ ((0 : Int32) ≤ a ∧ a ≤ 1)) : am_KS S M_X11_image 3 [.ref 0, .int a] I L (x_Q xc M_X12_image 1 [.ref 190, .int a]) :=
  k_X11_image_r hS ha (x_lf h (bm_intro (by decide +kernel) (Nat.le_of_ble_eq_true rfl) (show B_X12_image_0 _ _ _ _ from s_X12_image_0 ⟨fun q => absurd q ha, fun _ => ⟨rfl, rfl, rfl⟩⟩)))
theorem x_from_0 {S : List Nat → am_R → Prop} (hS : ∀ al R, S al R → am_st al R) {i : Nat} (hi : i < 2) (hr : ∀ al R, S al R → R 1 i = none) {I : am_I} {L : am_L} (h : x_Inv xc I L) (h193 : I 193 i = 0) : am_KS S M_X11_from 3 [.ref 0, .int (nI i)] I L (x_Q xc M_X12_from 1 [.ref 190, .int (nI i)]) := by
  have hc : (nI i).toNatClampNeg = i := nI_clamp (by omega)
  refine k_X11_from_0 hS hi (fun al R q => by rw [hc]; exact hr al R q) (x_lf h (bm_intro (by decide +kernel) (Nat.le_of_ble_eq_true rfl) (show B_X12_from_0 _ _ _ _ from s_X12_from_0 ⟨fun _ => ⟨am_vI hi (by decide), ?_⟩, fun q => absurd (x_i2 hi) q⟩)))
  rw [hc]
  exact ⟨fun q => absurd h193 q, fun _ => ⟨rfl, rfl, rfl⟩⟩
theorem x_from_1 {I : am_I} {L : am_L} (h : x_Inv xc I L) (h193 : I 193 0 = 1) : am_KS am_s1x M_X11_from 3 [.ref 0, .int (nI 0)] I L (x_Q xc M_X12_from 1 [.ref 190, .int (nI 0)]) := by
  have hx : x_img xc I L 0 := h.2.2.2.1.1
  have hz : I 64 2 = 0 ∨ I 64 2 = 1 := x_hz (hx.2 h193).2
  have hne : ¬ w_f1_I I 193 0 = 0 := by
    rw [w_f1_I_n (by omega), h193]; decide
  refine k_X11_from_1 (b := 60) (fun al R q => q.1.1) (by decide) (fun al R q => by rw [show (nI 0).toNatClampNeg = 0 from nI_clamp (by omega)]; exact q.2) (am_KS_w (fun al R q => q.1) (k_X10_copyFrom_f1 hz)) (fun I1 L1 e => ?_)
  obtain ⟨e1, e2⟩ := e
  rw [e1, e2]
  refine am_mono (k_X12_from (by decide) hne) (fun r I2 L2 q => ?_)
  obtain ⟨q1, q2, q3⟩ := q
  rw [q1, q2, q3]
  exact ⟨rfl, x_from_inv (by decide) h h193 (fun p s hp => w_f1_I_c hp) (fun p s hp => w_f1_L_c hp) (fun a x ha => w_f1_I_n ha) (fun a x ha => w_f1_L_n ha)⟩
theorem x_image_1 {I : am_I} {L : am_L} (h : x_Inv xc I L) : am_KS am_s1x M_X11_image 3 [.ref 0, .int (nI 0)] I L (x_Q (x_st xc 0) M_X12_image 1 [.ref 190, .int (nI 0)]) := by
  have hz : I 14 2 = 0 ∨ I 14 2 = 1 := x_hz h.2.2.1
  refine k_X11_image_1 (b := 60) (fun al R q => q.1.1) (by decide) (fun al R q => by rw [show (nI 0).toNatClampNeg = 0 from nI_clamp (by omega)]; exact q.2) ly_60 (fun al R q => ba_60 q.1.2) (am_KS_w (fun al R q => q.1) (k_X10_copyFrom_i1 hz)) (fun I1 L1 e => ?_)
  obtain ⟨e1, e2⟩ := e
  rw [e1, e2]
  refine am_mono (k_X12_image (by decide)) (fun r I2 L2 q => ?_)
  obtain ⟨q1, q2, q3⟩ := q
  rw [q1, q2, q3]
  exact ⟨rfl, x_image_inv (by decide) h (fun p s hp => w_i1_I_c hp) (fun p s hp => w_i1_L_c hp) (fun a x ha => w_i1_I_n ha) (fun a x ha => w_i1_L_n ha)⟩
theorem x_from_2 {I : am_I} {L : am_L} (h : x_Inv xc I L) (h193 : I 193 1 = 1) : am_KS am_s2x M_X11_from 3 [.ref 0, .int (nI 1)] I L (x_Q xc M_X12_from 1 [.ref 190, .int (nI 1)]) := by
  have hx : x_img xc I L 1 := h.2.2.2.1.2
  have hz : I 114 2 = 0 ∨ I 114 2 = 1 := x_hz (hx.2 h193).2
  have hne : ¬ w_f2_I I 193 1 = 0 := by
    rw [w_f2_I_n (by omega), h193]; decide
  refine k_X11_from_1 (b := 110) (fun al R q => q.1.1) (by decide) (fun al R q => by rw [show (nI 1).toNatClampNeg = 1 from nI_clamp (by omega)]; exact q.2) (am_KS_w (fun al R q => q.1) (k_X10_copyFrom_f2 hz)) (fun I1 L1 e => ?_)
  obtain ⟨e1, e2⟩ := e
  rw [e1, e2]
  refine am_mono (k_X12_from (by decide) hne) (fun r I2 L2 q => ?_)
  obtain ⟨q1, q2, q3⟩ := q
  rw [q1, q2, q3]
  exact ⟨rfl, x_from_inv (by decide) h h193 (fun p s hp => w_f2_I_c hp) (fun p s hp => w_f2_L_c hp) (fun a x ha => w_f2_I_n ha) (fun a x ha => w_f2_L_n ha)⟩
theorem x_image_2 {I : am_I} {L : am_L} (h : x_Inv xc I L) : am_KS am_s2x M_X11_image 3 [.ref 0, .int (nI 1)] I L (x_Q (x_st xc 1) M_X12_image 1 [.ref 190, .int (nI 1)]) := by
  have hz : I 14 2 = 0 ∨ I 14 2 = 1 := x_hz h.2.2.1
  refine k_X11_image_1 (b := 110) (fun al R q => q.1.1) (by decide) (fun al R q => by rw [show (nI 1).toNatClampNeg = 1 from nI_clamp (by omega)]; exact q.2) ly_110 (fun al R q => ba_110 q.1.2) (am_KS_w (fun al R q => q.1) (k_X10_copyFrom_i2 hz)) (fun I1 L1 e => ?_)
  obtain ⟨e1, e2⟩ := e
  rw [e1, e2]
  refine am_mono (k_X12_image (by decide)) (fun r I2 L2 q => ?_)
  obtain ⟨q1, q2, q3⟩ := q
  rw [q1, q2, q3]
  exact ⟨rfl, x_image_inv (by decide) h (fun p s hp => w_i2_I_c hp) (fun p s hp => w_i2_L_c hp) (fun a x ha => w_i2_I_n ha) (fun a x ha => w_i2_L_n ha)⟩
