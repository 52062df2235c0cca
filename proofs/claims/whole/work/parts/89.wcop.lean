/-! copies between the world and the images: what they are -/
def w_X4_i1_I (I : am_I) : am_I := (am_cp (am_cp (am_cp (am_cp (am_u (am_u (am_u (am_u (am_u (am_cp (am_cp (am_cp (am_u (am_cp (am_cp I 66 16 12) 67 17 12) 61 3 (I 11 3)) 69 19 100) 70 20 100) 71 21 100) 61 7 (I 11 7)) 61 8 (I 11 8)) 61 9 (I 11 9)) 61 10 (I 11 10)) 61 13 (I 11 13)) 74 24 12) 75 25 12) 76 26 12) 77 27 12)
def w_X4_i1_L (L : am_L) : am_L := (am_cp (am_cp (am_u (am_u (am_cp L 68 18 12) 61 11 (L 11 11)) 61 12 (L 11 12)) 72 22 60) 73 23 60)
theorem k_X4_copyFrom_i1 {I : am_I} {L : am_L} : am_KS am_s1 M_X4_copyFrom 1 [.ref 61, .ref 11] I L (am_qf none (w_X4_i1_I I) (w_X4_i1_L L)) :=
  bm_intro (by decide +kernel) (Nat.le_of_ble_eq_true rfl) (show B_X4_copyFrom_i1_0 _ _ _ from s_X4_copyFrom_i1_0 ⟨rfl, rfl, rfl⟩)
def w_X4_i2_I (I : am_I) : am_I := (am_cp (am_cp (am_cp (am_cp (am_u (am_u (am_u (am_u (am_u (am_cp (am_cp (am_cp (am_u (am_cp (am_cp I 116 16 12) 117 17 12) 111 3 (I 11 3)) 119 19 100) 120 20 100) 121 21 100) 111 7 (I 11 7)) 111 8 (I 11 8)) 111 9 (I 11 9)) 111 10 (I 11 10)) 111 13 (I 11 13)) 124 24 12) 125 25 12) 126 26 12) 127 27 12)
def w_X4_i2_L (L : am_L) : am_L := (am_cp (am_cp (am_u (am_u (am_cp L 118 18 12) 111 11 (L 11 11)) 111 12 (L 11 12)) 122 22 60) 123 23 60)
theorem k_X4_copyFrom_i2 {I : am_I} {L : am_L} : am_KS am_s2 M_X4_copyFrom 1 [.ref 111, .ref 11] I L (am_qf none (w_X4_i2_I I) (w_X4_i2_L L)) :=
  bm_intro (by decide +kernel) (Nat.le_of_ble_eq_true rfl) (show B_X4_copyFrom_i2_0 _ _ _ from s_X4_copyFrom_i2_0 ⟨rfl, rfl, rfl⟩)
def w_X4_f1_I (I : am_I) : am_I := (am_cp (am_cp (am_cp (am_cp (am_u (am_u (am_u (am_u (am_u (am_cp (am_cp (am_cp (am_u (am_cp (am_cp I 16 66 12) 17 67 12) 11 3 (I 61 3)) 19 69 100) 20 70 100) 21 71 100) 11 7 (I 61 7)) 11 8 (I 61 8)) 11 9 (I 61 9)) 11 10 (I 61 10)) 11 13 (I 61 13)) 24 74 12) 25 75 12) 26 76 12) 27 77 12)
def w_X4_f1_L (L : am_L) : am_L := (am_cp (am_cp (am_u (am_u (am_cp L 18 68 12) 11 11 (L 61 11)) 11 12 (L 61 12)) 22 72 60) 23 73 60)
theorem k_X4_copyFrom_f1 {I : am_I} {L : am_L} : am_KS am_s1 M_X4_copyFrom 1 [.ref 11, .ref 61] I L (am_qf none (w_X4_f1_I I) (w_X4_f1_L L)) :=
  bm_intro (by decide +kernel) (Nat.le_of_ble_eq_true rfl) (show B_X4_copyFrom_f1_0 _ _ _ from s_X4_copyFrom_f1_0 ⟨rfl, rfl, rfl⟩)
def w_X4_f2_I (I : am_I) : am_I := (am_cp (am_cp (am_cp (am_cp (am_u (am_u (am_u (am_u (am_u (am_cp (am_cp (am_cp (am_u (am_cp (am_cp I 16 116 12) 17 117 12) 11 3 (I 111 3)) 19 119 100) 20 120 100) 21 121 100) 11 7 (I 111 7)) 11 8 (I 111 8)) 11 9 (I 111 9)) 11 10 (I 111 10)) 11 13 (I 111 13)) 24 124 12) 25 125 12) 26 126 12) 27 127 12)
def w_X4_f2_L (L : am_L) : am_L := (am_cp (am_cp (am_u (am_u (am_cp L 18 118 12) 11 11 (L 111 11)) 11 12 (L 111 12)) 22 122 60) 23 123 60)
theorem k_X4_copyFrom_f2 {I : am_I} {L : am_L} : am_KS am_s2 M_X4_copyFrom 1 [.ref 11, .ref 111] I L (am_qf none (w_X4_f2_I I) (w_X4_f2_L L)) :=
  bm_intro (by decide +kernel) (Nat.le_of_ble_eq_true rfl) (show B_X4_copyFrom_f2_0 _ _ _ from s_X4_copyFrom_f2_0 ⟨rfl, rfl, rfl⟩)
def w_X6_i1_I (I : am_I) : am_I := (am_u (am_cp (am_cp (am_u (am_cp (am_cp (am_cp (am_cp (am_cp (am_cp (am_cp I 78 28 30) 79 29 30) 80 30 30) 81 31 40) 82 32 40) 83 33 40) 84 34 40) 62 7 (I 12 7)) 85 35 8) 86 36 8) 62 10 (I 12 10))
def w_X6_i1_L (L : am_L) : am_L := L
theorem k_X6_copyFrom_i1 {I : am_I} {L : am_L} : am_KS am_s1 M_X6_copyFrom 1 [.ref 62, .ref 12] I L (am_qf none (w_X6_i1_I I) (w_X6_i1_L L)) :=
  bm_intro (by decide +kernel) (Nat.le_of_ble_eq_true rfl) (show B_X6_copyFrom_i1_0 _ _ _ from s_X6_copyFrom_i1_0 ⟨rfl, rfl, rfl⟩)
def w_X6_i2_I (I : am_I) : am_I := (am_u (am_cp (am_cp (am_u (am_cp (am_cp (am_cp (am_cp (am_cp (am_cp (am_cp I 128 28 30) 129 29 30) 130 30 30) 131 31 40) 132 32 40) 133 33 40) 134 34 40) 112 7 (I 12 7)) 135 35 8) 136 36 8) 112 10 (I 12 10))
def w_X6_i2_L (L : am_L) : am_L := L
theorem k_X6_copyFrom_i2 {I : am_I} {L : am_L} : am_KS am_s2 M_X6_copyFrom 1 [.ref 112, .ref 12] I L (am_qf none (w_X6_i2_I I) (w_X6_i2_L L)) :=
  bm_intro (by decide +kernel) (Nat.le_of_ble_eq_true rfl) (show B_X6_copyFrom_i2_0 _ _ _ from s_X6_copyFrom_i2_0 ⟨rfl, rfl, rfl⟩)
def w_X6_f1_I (I : am_I) : am_I := (am_u (am_cp (am_cp (am_u (am_cp (am_cp (am_cp (am_cp (am_cp (am_cp (am_cp I 28 78 30) 29 79 30) 30 80 30) 31 81 40) 32 82 40) 33 83 40) 34 84 40) 12 7 (I 62 7)) 35 85 8) 36 86 8) 12 10 (I 62 10))
def w_X6_f1_L (L : am_L) : am_L := L
theorem k_X6_copyFrom_f1 {I : am_I} {L : am_L} : am_KS am_s1 M_X6_copyFrom 1 [.ref 12, .ref 62] I L (am_qf none (w_X6_f1_I I) (w_X6_f1_L L)) :=
  bm_intro (by decide +kernel) (Nat.le_of_ble_eq_true rfl) (show B_X6_copyFrom_f1_0 _ _ _ from s_X6_copyFrom_f1_0 ⟨rfl, rfl, rfl⟩)
def w_X6_f2_I (I : am_I) : am_I := (am_u (am_cp (am_cp (am_u (am_cp (am_cp (am_cp (am_cp (am_cp (am_cp (am_cp I 28 128 30) 29 129 30) 30 130 30) 31 131 40) 32 132 40) 33 133 40) 34 134 40) 12 7 (I 112 7)) 35 135 8) 36 136 8) 12 10 (I 112 10))
def w_X6_f2_L (L : am_L) : am_L := L
theorem k_X6_copyFrom_f2 {I : am_I} {L : am_L} : am_KS am_s2 M_X6_copyFrom 1 [.ref 12, .ref 112] I L (am_qf none (w_X6_f2_I I) (w_X6_f2_L L)) :=
  bm_intro (by decide +kernel) (Nat.le_of_ble_eq_true rfl) (show B_X6_copyFrom_f2_0 _ _ _ from s_X6_copyFrom_f2_0 ⟨rfl, rfl, rfl⟩)
def w_X0_i1_I (I : am_I) : am_I := (am_u (am_cp (am_cp (am_cp (am_u (am_u (am_u (am_cp (am_cp (am_cp (am_cp (am_cp I 89 39 60) 90 40 30) 91 41 30) 92 42 30) 93 43 30) 63 5 (I 13 5)) 63 6 (I 13 6)) 63 7 (I 13 7)) 94 44 8) 95 45 8) 96 46 8) 63 11 (I 13 11))
def w_X0_i1_L (L : am_L) : am_L := L
theorem k_X0_copyFrom_i1 {I : am_I} {L : am_L} : am_KS am_s1 M_X0_copyFrom 1 [.ref 63, .ref 13] I L (am_qf none (w_X0_i1_I I) (w_X0_i1_L L)) :=
  bm_intro (by decide +kernel) (Nat.le_of_ble_eq_true rfl) (show B_X0_copyFrom_i1_0 _ _ _ from s_X0_copyFrom_i1_0 ⟨rfl, rfl, rfl⟩)
def w_X0_i2_I (I : am_I) : am_I := (am_u (am_cp (am_cp (am_cp (am_u (am_u (am_u (am_cp (am_cp (am_cp (am_cp (am_cp I 139 39 60) 140 40 30) 141 41 30) 142 42 30) 143 43 30) 113 5 (I 13 5)) 113 6 (I 13 6)) 113 7 (I 13 7)) 144 44 8) 145 45 8) 146 46 8) 113 11 (I 13 11))
def w_X0_i2_L (L : am_L) : am_L := L
theorem k_X0_copyFrom_i2 {I : am_I} {L : am_L} : am_KS am_s2 M_X0_copyFrom 1 [.ref 113, .ref 13] I L (am_qf none (w_X0_i2_I I) (w_X0_i2_L L)) :=
  bm_intro (by decide +kernel) (Nat.le_of_ble_eq_true rfl) (show B_X0_copyFrom_i2_0 _ _ _ from s_X0_copyFrom_i2_0 ⟨rfl, rfl, rfl⟩)
def w_X0_f1_I (I : am_I) : am_I := (am_u (am_cp (am_cp (am_cp (am_u (am_u (am_u (am_cp (am_cp (am_cp (am_cp (am_cp I 39 89 60) 40 90 30) 41 91 30) 42 92 30) 43 93 30) 13 5 (I 63 5)) 13 6 (I 63 6)) 13 7 (I 63 7)) 44 94 8) 45 95 8) 46 96 8) 13 11 (I 63 11))
def w_X0_f1_L (L : am_L) : am_L := L
theorem k_X0_copyFrom_f1 {I : am_I} {L : am_L} : am_KS am_s1 M_X0_copyFrom 1 [.ref 13, .ref 63] I L (am_qf none (w_X0_f1_I I) (w_X0_f1_L L)) :=
  bm_intro (by decide +kernel) (Nat.le_of_ble_eq_true rfl) (show B_X0_copyFrom_f1_0 _ _ _ from s_X0_copyFrom_f1_0 ⟨rfl, rfl, rfl⟩)
def w_X0_f2_I (I : am_I) : am_I := (am_u (am_cp (am_cp (am_cp (am_u (am_u (am_u (am_cp (am_cp (am_cp (am_cp (am_cp I 39 139 60) 40 140 30) 41 141 30) 42 142 30) 43 143 30) 13 5 (I 113 5)) 13 6 (I 113 6)) 13 7 (I 113 7)) 44 144 8) 45 145 8) 46 146 8) 13 11 (I 113 11))
def w_X0_f2_L (L : am_L) : am_L := L
theorem k_X0_copyFrom_f2 {I : am_I} {L : am_L} : am_KS am_s2 M_X0_copyFrom 1 [.ref 13, .ref 113] I L (am_qf none (w_X0_f2_I I) (w_X0_f2_L L)) :=
  bm_intro (by decide +kernel) (Nat.le_of_ble_eq_true rfl) (show B_X0_copyFrom_f2_0 _ _ _ from s_X0_copyFrom_f2_0 ⟨rfl, rfl, rfl⟩)
def w_X3_i1_I (I : am_I) : am_I := (am_u (am_cp (am_cp I 98 48 8) 99 49 64) 64 2 (I 14 2))
def w_X3_i1_L (L : am_L) : am_L := L
theorem k_X3_copyFrom_i1 {I : am_I} {L : am_L} (hz : I 14 2 = 0 ∨ I 14 2 = 1) : am_KS am_s1 M_X3_copyFrom 1 [.ref 64, .ref 14] I L (am_qf none (w_X3_i1_I I) (w_X3_i1_L L)) :=
  bm_intro (by decide +kernel) (Nat.le_of_ble_eq_true rfl) (show B_X3_copyFrom_i1_0 _ _ _ from s_X3_copyFrom_i1_0 ⟨hz, rfl, rfl, rfl⟩)
def w_X3_i2_I (I : am_I) : am_I := (am_u (am_cp (am_cp I 148 48 8) 149 49 64) 114 2 (I 14 2))
def w_X3_i2_L (L : am_L) : am_L := L
theorem k_X3_copyFrom_i2 {I : am_I} {L : am_L} (hz : I 14 2 = 0 ∨ I 14 2 = 1) : am_KS am_s2 M_X3_copyFrom 1 [.ref 114, .ref 14] I L (am_qf none (w_X3_i2_I I) (w_X3_i2_L L)) :=
  bm_intro (by decide +kernel) (Nat.le_of_ble_eq_true rfl) (show B_X3_copyFrom_i2_0 _ _ _ from s_X3_copyFrom_i2_0 ⟨hz, rfl, rfl, rfl⟩)
def w_X3_f1_I (I : am_I) : am_I := (am_u (am_cp (am_cp I 48 98 8) 49 99 64) 14 2 (I 64 2))
def w_X3_f1_L (L : am_L) : am_L := L
theorem k_X3_copyFrom_f1 {I : am_I} {L : am_L} (hz : I 64 2 = 0 ∨ I 64 2 = 1) : am_KS am_s1 M_X3_copyFrom 1 [.ref 14, .ref 64] I L (am_qf none (w_X3_f1_I I) (w_X3_f1_L L)) :=
  bm_intro (by decide +kernel) (Nat.le_of_ble_eq_true rfl) (show B_X3_copyFrom_f1_0 _ _ _ from s_X3_copyFrom_f1_0 ⟨hz, rfl, rfl, rfl⟩)
def w_X3_f2_I (I : am_I) : am_I := (am_u (am_cp (am_cp I 48 148 8) 49 149 64) 14 2 (I 114 2))
def w_X3_f2_L (L : am_L) : am_L := L
theorem k_X3_copyFrom_f2 {I : am_I} {L : am_L} (hz : I 114 2 = 0 ∨ I 114 2 = 1) : am_KS am_s2 M_X3_copyFrom 1 [.ref 14, .ref 114] I L (am_qf none (w_X3_f2_I I) (w_X3_f2_L L)) :=
  bm_intro (by decide +kernel) (Nat.le_of_ble_eq_true rfl) (show B_X3_copyFrom_f2_0 _ _ _ from s_X3_copyFrom_f2_0 ⟨hz, rfl, rfl, rfl⟩)
def w_X5_i1_I (I : am_I) : am_I := (am_u (am_cp (am_u (am_cp (am_cp (am_cp I 100 50 20) 101 51 20) 102 52 20) 65 3 (I 15 3)) 103 53 40) 65 5 (I 15 5))
def w_X5_i1_L (L : am_L) : am_L := L
theorem k_X5_copyFrom_i1 {I : am_I} {L : am_L} : am_KS am_s1 M_X5_copyFrom 1 [.ref 65, .ref 15] I L (am_qf none (w_X5_i1_I I) (w_X5_i1_L L)) :=
  bm_intro (by decide +kernel) (Nat.le_of_ble_eq_true rfl) (show B_X5_copyFrom_i1_0 _ _ _ from s_X5_copyFrom_i1_0 ⟨rfl, rfl, rfl⟩)
def w_X5_i2_I (I : am_I) : am_I := (am_u (am_cp (am_u (am_cp (am_cp (am_cp I 150 50 20) 151 51 20) 152 52 20) 115 3 (I 15 3)) 153 53 40) 115 5 (I 15 5))
def w_X5_i2_L (L : am_L) : am_L := L
theorem k_X5_copyFrom_i2 {I : am_I} {L : am_L} : am_KS am_s2 M_X5_copyFrom 1 [.ref 115, .ref 15] I L (am_qf none (w_X5_i2_I I) (w_X5_i2_L L)) :=
  bm_intro (by decide +kernel) (Nat.le_of_ble_eq_true rfl) (show B_X5_copyFrom_i2_0 _ _ _ from s_X5_copyFrom_i2_0 ⟨rfl, rfl, rfl⟩)
def w_X5_f1_I (I : am_I) : am_I := (am_u (am_cp (am_u (am_cp (am_cp (am_cp I 50 100 20) 51 101 20) 52 102 20) 15 3 (I 65 3)) 53 103 40) 15 5 (I 65 5))
def w_X5_f1_L (L : am_L) : am_L := L
theorem k_X5_copyFrom_f1 {I : am_I} {L : am_L} : am_KS am_s1 M_X5_copyFrom 1 [.ref 15, .ref 65] I L (am_qf none (w_X5_f1_I I) (w_X5_f1_L L)) :=
  bm_intro (by decide +kernel) (Nat.le_of_ble_eq_true rfl) (show B_X5_copyFrom_f1_0 _ _ _ from s_X5_copyFrom_f1_0 ⟨rfl, rfl, rfl⟩)
def w_X5_f2_I (I : am_I) : am_I := (am_u (am_cp (am_u (am_cp (am_cp (am_cp I 50 150 20) 51 151 20) 52 152 20) 15 3 (I 115 3)) 53 153 40) 15 5 (I 115 5))
def w_X5_f2_L (L : am_L) : am_L := L
theorem k_X5_copyFrom_f2 {I : am_I} {L : am_L} : am_KS am_s2 M_X5_copyFrom 1 [.ref 15, .ref 115] I L (am_qf none (w_X5_f2_I I) (w_X5_f2_L L)) :=
  bm_intro (by decide +kernel) (Nat.le_of_ble_eq_true rfl) (show B_X5_copyFrom_f2_0 _ _ _ from s_X5_copyFrom_f2_0 ⟨rfl, rfl, rfl⟩)
def w_i1_I (I : am_I) : am_I := w_X5_i1_I (w_X3_i1_I (w_X0_i1_I (w_X6_i1_I (w_X4_i1_I I))))
def w_i1_L (L : am_L) : am_L := w_X5_i1_L (w_X3_i1_L (w_X0_i1_L (w_X6_i1_L (w_X4_i1_L L))))
theorem k_X10_copyFrom_i1 {I : am_I} {L : am_L} (hz : I 14 2 = 0 ∨ I 14 2 = 1) : am_KS am_s1 M_X10_copyFrom 2 [.ref 60, .ref 10] I L (am_qf none (w_i1_I I) (w_i1_L L)) := by
  refine bm_intro (by decide +kernel) (Nat.le_of_ble_eq_true rfl) (show B_X10_copyFrom_i1_0 _ _ _ from s_X10_copyFrom_i1_0 ?_)
  refine ⟨_, am_qf_v k_X4_copyFrom_i1, fun I L e => ?_⟩
  obtain ⟨q1, q2⟩ := e
  subst q1; subst q2
  refine ⟨_, am_qf_v k_X6_copyFrom_i1, fun I L e => ?_⟩
  obtain ⟨q1, q2⟩ := e
  subst q1; subst q2
  refine ⟨_, am_qf_v k_X0_copyFrom_i1, fun I L e => ?_⟩
  obtain ⟨q1, q2⟩ := e
  subst q1; subst q2
  refine ⟨_, am_qf_v (k_X3_copyFrom_i1 (by simpa [w_X4_i1_I, w_X6_i1_I, w_X0_i1_I, am_cp, am_u] using hz)), fun I L e => ?_⟩
  obtain ⟨q1, q2⟩ := e
  subst q1; subst q2
  refine ⟨_, am_qf_v k_X5_copyFrom_i1, fun I L e => ?_⟩
  obtain ⟨q1, q2⟩ := e
  subst q1; subst q2
  exact ⟨rfl, rfl, rfl⟩
def w_i2_I (I : am_I) : am_I := w_X5_i2_I (w_X3_i2_I (w_X0_i2_I (w_X6_i2_I (w_X4_i2_I I))))
def w_i2_L (L : am_L) : am_L := w_X5_i2_L (w_X3_i2_L (w_X0_i2_L (w_X6_i2_L (w_X4_i2_L L))))
theorem k_X10_copyFrom_i2 {I : am_I} {L : am_L} (hz : I 14 2 = 0 ∨ I 14 2 = 1) : am_KS am_s2 M_X10_copyFrom 2 [.ref 110, .ref 10] I L (am_qf none (w_i2_I I) (w_i2_L L)) := by
  refine bm_intro (by decide +kernel) (Nat.le_of_ble_eq_true rfl) (show B_X10_copyFrom_i2_0 _ _ _ from s_X10_copyFrom_i2_0 ?_)
  refine ⟨_, am_qf_v k_X4_copyFrom_i2, fun I L e => ?_⟩
  obtain ⟨q1, q2⟩ := e
  subst q1; subst q2
  refine ⟨_, am_qf_v k_X6_copyFrom_i2, fun I L e => ?_⟩
  obtain ⟨q1, q2⟩ := e
  subst q1; subst q2
  refine ⟨_, am_qf_v k_X0_copyFrom_i2, fun I L e => ?_⟩
  obtain ⟨q1, q2⟩ := e
  subst q1; subst q2
  refine ⟨_, am_qf_v (k_X3_copyFrom_i2 (by simpa [w_X4_i2_I, w_X6_i2_I, w_X0_i2_I, am_cp, am_u] using hz)), fun I L e => ?_⟩
  obtain ⟨q1, q2⟩ := e
  subst q1; subst q2
  refine ⟨_, am_qf_v k_X5_copyFrom_i2, fun I L e => ?_⟩
  obtain ⟨q1, q2⟩ := e
  subst q1; subst q2
  exact ⟨rfl, rfl, rfl⟩
def w_f1_I (I : am_I) : am_I := w_X5_f1_I (w_X3_f1_I (w_X0_f1_I (w_X6_f1_I (w_X4_f1_I I))))
def w_f1_L (L : am_L) : am_L := w_X5_f1_L (w_X3_f1_L (w_X0_f1_L (w_X6_f1_L (w_X4_f1_L L))))
theorem k_X10_copyFrom_f1 {I : am_I} {L : am_L} (hz : I 64 2 = 0 ∨ I 64 2 = 1) : am_KS am_s1 M_X10_copyFrom 2 [.ref 10, .ref 60] I L (am_qf none (w_f1_I I) (w_f1_L L)) := by
  refine bm_intro (by decide +kernel) (Nat.le_of_ble_eq_true rfl) (show B_X10_copyFrom_f1_0 _ _ _ from s_X10_copyFrom_f1_0 ?_)
  refine ⟨_, am_qf_v k_X4_copyFrom_f1, fun I L e => ?_⟩
  obtain ⟨q1, q2⟩ := e
  subst q1; subst q2
  refine ⟨_, am_qf_v k_X6_copyFrom_f1, fun I L e => ?_⟩
  obtain ⟨q1, q2⟩ := e
  subst q1; subst q2
  refine ⟨_, am_qf_v k_X0_copyFrom_f1, fun I L e => ?_⟩
  obtain ⟨q1, q2⟩ := e
  subst q1; subst q2
  refine ⟨_, am_qf_v (k_X3_copyFrom_f1 (by simpa [w_X4_f1_I, w_X6_f1_I, w_X0_f1_I, am_cp, am_u] using hz)), fun I L e => ?_⟩
  obtain ⟨q1, q2⟩ := e
  subst q1; subst q2
  refine ⟨_, am_qf_v k_X5_copyFrom_f1, fun I L e => ?_⟩
  obtain ⟨q1, q2⟩ := e
  subst q1; subst q2
  exact ⟨rfl, rfl, rfl⟩
def w_f2_I (I : am_I) : am_I := w_X5_f2_I (w_X3_f2_I (w_X0_f2_I (w_X6_f2_I (w_X4_f2_I I))))
def w_f2_L (L : am_L) : am_L := w_X5_f2_L (w_X3_f2_L (w_X0_f2_L (w_X6_f2_L (w_X4_f2_L L))))
theorem k_X10_copyFrom_f2 {I : am_I} {L : am_L} (hz : I 114 2 = 0 ∨ I 114 2 = 1) : am_KS am_s2 M_X10_copyFrom 2 [.ref 10, .ref 110] I L (am_qf none (w_f2_I I) (w_f2_L L)) := by
  refine bm_intro (by decide +kernel) (Nat.le_of_ble_eq_true rfl) (show B_X10_copyFrom_f2_0 _ _ _ from s_X10_copyFrom_f2_0 ?_)
  refine ⟨_, am_qf_v k_X4_copyFrom_f2, fun I L e => ?_⟩
  obtain ⟨q1, q2⟩ := e
  subst q1; subst q2
  refine ⟨_, am_qf_v k_X6_copyFrom_f2, fun I L e => ?_⟩
  obtain ⟨q1, q2⟩ := e
  subst q1; subst q2
  refine ⟨_, am_qf_v k_X0_copyFrom_f2, fun I L e => ?_⟩
  obtain ⟨q1, q2⟩ := e
  subst q1; subst q2
  refine ⟨_, am_qf_v (k_X3_copyFrom_f2 (by simpa [w_X4_f2_I, w_X6_f2_I, w_X0_f2_I, am_cp, am_u] using hz)), fun I L e => ?_⟩
  obtain ⟨q1, q2⟩ := e
  subst q1; subst q2
  refine ⟨_, am_qf_v k_X5_copyFrom_f2, fun I L e => ?_⟩
  obtain ⟨q1, q2⟩ := e
  subst q1; subst q2
  exact ⟨rfl, rfl, rfl⟩
abbrev x_wi (p s : Nat) : Prop := (p = 16 ∧ s < 12) ∨ (p = 17 ∧ s < 12) ∨ (p = 19 ∧ s < 100) ∨ (p = 20 ∧ s < 100) ∨ (p = 21 ∧ s < 100) ∨ (p = 24 ∧ s < 12) ∨ (p = 25 ∧ s < 12) ∨ (p = 26 ∧ s < 12) ∨ (p = 27 ∧ s < 12) ∨ (p = 28 ∧ s < 30) ∨ (p = 29 ∧ s < 30) ∨ (p = 30 ∧ s < 30) ∨ (p = 31 ∧ s < 40) ∨ (p = 32 ∧ s < 40) ∨ (p = 33 ∧ s < 40) ∨ (p = 34 ∧ s < 40) ∨ (p = 35 ∧ s < 8) ∨ (p = 36 ∧ s < 8) ∨ (p = 39 ∧ s < 60) ∨ (p = 40 ∧ s < 30) ∨ (p = 41 ∧ s < 30) ∨ (p = 42 ∧ s < 30) ∨ (p = 43 ∧ s < 30) ∨ (p = 44 ∧ s < 8) ∨ (p = 45 ∧ s < 8) ∨ (p = 46 ∧ s < 8) ∨ (p = 48 ∧ s < 8) ∨ (p = 49 ∧ s < 64) ∨ (p = 50 ∧ s < 20) ∨ (p = 51 ∧ s < 20) ∨ (p = 52 ∧ s < 20) ∨ (p = 53 ∧ s < 40) ∨ (p = 11 ∧ s = 3) ∨ (p = 11 ∧ s = 7) ∨ (p = 11 ∧ s = 8) ∨ (p = 11 ∧ s = 9) ∨ (p = 11 ∧ s = 10) ∨ (p = 11 ∧ s = 13) ∨ (p = 12 ∧ s = 7) ∨ (p = 12 ∧ s = 10) ∨ (p = 13 ∧ s = 5) ∨ (p = 13 ∧ s = 6) ∨ (p = 13 ∧ s = 7) ∨ (p = 13 ∧ s = 11) ∨ (p = 14 ∧ s = 2) ∨ (p = 15 ∧ s = 3) ∨ (p = 15 ∧ s = 5)
abbrev x_wl (p s : Nat) : Prop := (p = 18 ∧ s < 12) ∨ (p = 22 ∧ s < 60) ∨ (p = 23 ∧ s < 60) ∨ (p = 11 ∧ s = 11) ∨ (p = 11 ∧ s = 12)
theorem w_i1_I_c {I : am_I} {p s : Nat} (h : x_wi p s) : w_i1_I I (p + 50) s = I (p) s := by
  rcases h with ⟨rfl, h⟩ | ⟨rfl, h⟩ | ⟨rfl, h⟩ | ⟨rfl, h⟩ | ⟨rfl, h⟩ | ⟨rfl, h⟩ | ⟨rfl, h⟩ | ⟨rfl, h⟩ | ⟨rfl, h⟩ | ⟨rfl, h⟩ | ⟨rfl, h⟩ | ⟨rfl, h⟩ | ⟨rfl, h⟩ | ⟨rfl, h⟩ | ⟨rfl, h⟩ | ⟨rfl, h⟩ | ⟨rfl, h⟩ | ⟨rfl, h⟩ | ⟨rfl, h⟩ | ⟨rfl, h⟩ | ⟨rfl, h⟩ | ⟨rfl, h⟩ | ⟨rfl, h⟩ | ⟨rfl, h⟩ | ⟨rfl, h⟩ | ⟨rfl, h⟩ | ⟨rfl, h⟩ | ⟨rfl, h⟩ | ⟨rfl, h⟩ | ⟨rfl, h⟩ | ⟨rfl, h⟩ | ⟨rfl, h⟩ | ⟨rfl, rfl⟩ | ⟨rfl, rfl⟩ | ⟨rfl, rfl⟩ | ⟨rfl, rfl⟩ | ⟨rfl, rfl⟩ | ⟨rfl, rfl⟩ | ⟨rfl, rfl⟩ | ⟨rfl, rfl⟩ | ⟨rfl, rfl⟩ | ⟨rfl, rfl⟩ | ⟨rfl, rfl⟩ | ⟨rfl, rfl⟩ | ⟨rfl, rfl⟩ | ⟨rfl, rfl⟩ | ⟨rfl, rfl⟩
  · simp [w_i1_I, w_X4_i1_I, w_X6_i1_I, w_X0_i1_I, w_X3_i1_I, w_X5_i1_I, am_cp, am_u, h]
  · simp [w_i1_I, w_X4_i1_I, w_X6_i1_I, w_X0_i1_I, w_X3_i1_I, w_X5_i1_I, am_cp, am_u, h]
  · simp [w_i1_I, w_X4_i1_I, w_X6_i1_I, w_X0_i1_I, w_X3_i1_I, w_X5_i1_I, am_cp, am_u, h]
  · simp [w_i1_I, w_X4_i1_I, w_X6_i1_I, w_X0_i1_I, w_X3_i1_I, w_X5_i1_I, am_cp, am_u, h]
  · simp [w_i1_I, w_X4_i1_I, w_X6_i1_I, w_X0_i1_I, w_X3_i1_I, w_X5_i1_I, am_cp, am_u, h]
  · simp [w_i1_I, w_X4_i1_I, w_X6_i1_I, w_X0_i1_I, w_X3_i1_I, w_X5_i1_I, am_cp, am_u, h]
  · simp [w_i1_I, w_X4_i1_I, w_X6_i1_I, w_X0_i1_I, w_X3_i1_I, w_X5_i1_I, am_cp, am_u, h]
  · simp [w_i1_I, w_X4_i1_I, w_X6_i1_I, w_X0_i1_I, w_X3_i1_I, w_X5_i1_I, am_cp, am_u, h]
  · simp [w_i1_I, w_X4_i1_I, w_X6_i1_I, w_X0_i1_I, w_X3_i1_I, w_X5_i1_I, am_cp, am_u, h]
  · simp [w_i1_I, w_X4_i1_I, w_X6_i1_I, w_X0_i1_I, w_X3_i1_I, w_X5_i1_I, am_cp, am_u, h]
  · simp [w_i1_I, w_X4_i1_I, w_X6_i1_I, w_X0_i1_I, w_X3_i1_I, w_X5_i1_I, am_cp, am_u, h]
  · simp [w_i1_I, w_X4_i1_I, w_X6_i1_I, w_X0_i1_I, w_X3_i1_I, w_X5_i1_I, am_cp, am_u, h]
  · simp [w_i1_I, w_X4_i1_I, w_X6_i1_I, w_X0_i1_I, w_X3_i1_I, w_X5_i1_I, am_cp, am_u, h]
  · simp [w_i1_I, w_X4_i1_I, w_X6_i1_I, w_X0_i1_I, w_X3_i1_I, w_X5_i1_I, am_cp, am_u, h]
  · simp [w_i1_I, w_X4_i1_I, w_X6_i1_I, w_X0_i1_I, w_X3_i1_I, w_X5_i1_I, am_cp, am_u, h]
  · simp [w_i1_I, w_X4_i1_I, w_X6_i1_I, w_X0_i1_I, w_X3_i1_I, w_X5_i1_I, am_cp, am_u, h]
  · simp [w_i1_I, w_X4_i1_I, w_X6_i1_I, w_X0_i1_I, w_X3_i1_I, w_X5_i1_I, am_cp, am_u, h]
  · simp [w_i1_I, w_X4_i1_I, w_X6_i1_I, w_X0_i1_I, w_X3_i1_I, w_X5_i1_I, am_cp, am_u, h]
  · simp [w_i1_I, w_X4_i1_I, w_X6_i1_I, w_X0_i1_I, w_X3_i1_I, w_X5_i1_I, am_cp, am_u, h]
  · simp [w_i1_I, w_X4_i1_I, w_X6_i1_I, w_X0_i1_I, w_X3_i1_I, w_X5_i1_I, am_cp, am_u, h]
  · simp [w_i1_I, w_X4_i1_I, w_X6_i1_I, w_X0_i1_I, w_X3_i1_I, w_X5_i1_I, am_cp, am_u, h]
  · simp [w_i1_I, w_X4_i1_I, w_X6_i1_I, w_X0_i1_I, w_X3_i1_I, w_X5_i1_I, am_cp, am_u, h]
  · simp [w_i1_I, w_X4_i1_I, w_X6_i1_I, w_X0_i1_I, w_X3_i1_I, w_X5_i1_I, am_cp, am_u, h]
  · simp [w_i1_I, w_X4_i1_I, w_X6_i1_I, w_X0_i1_I, w_X3_i1_I, w_X5_i1_I, am_cp, am_u, h]
  · simp [w_i1_I, w_X4_i1_I, w_X6_i1_I, w_X0_i1_I, w_X3_i1_I, w_X5_i1_I, am_cp, am_u, h]
  · simp [w_i1_I, w_X4_i1_I, w_X6_i1_I, w_X0_i1_I, w_X3_i1_I, w_X5_i1_I, am_cp, am_u, h]
  · simp [w_i1_I, w_X4_i1_I, w_X6_i1_I, w_X0_i1_I, w_X3_i1_I, w_X5_i1_I, am_cp, am_u, h]
  · simp [w_i1_I, w_X4_i1_I, w_X6_i1_I, w_X0_i1_I, w_X3_i1_I, w_X5_i1_I, am_cp, am_u, h]
  · simp [w_i1_I, w_X4_i1_I, w_X6_i1_I, w_X0_i1_I, w_X3_i1_I, w_X5_i1_I, am_cp, am_u, h]
  · simp [w_i1_I, w_X4_i1_I, w_X6_i1_I, w_X0_i1_I, w_X3_i1_I, w_X5_i1_I, am_cp, am_u, h]
  · simp [w_i1_I, w_X4_i1_I, w_X6_i1_I, w_X0_i1_I, w_X3_i1_I, w_X5_i1_I, am_cp, am_u, h]
  · simp [w_i1_I, w_X4_i1_I, w_X6_i1_I, w_X0_i1_I, w_X3_i1_I, w_X5_i1_I, am_cp, am_u, h]
  · simp [w_i1_I, w_X4_i1_I, w_X6_i1_I, w_X0_i1_I, w_X3_i1_I, w_X5_i1_I, am_cp, am_u]
  · simp [w_i1_I, w_X4_i1_I, w_X6_i1_I, w_X0_i1_I, w_X3_i1_I, w_X5_i1_I, am_cp, am_u]
  · simp [w_i1_I, w_X4_i1_I, w_X6_i1_I, w_X0_i1_I, w_X3_i1_I, w_X5_i1_I, am_cp, am_u]
  · simp [w_i1_I, w_X4_i1_I, w_X6_i1_I, w_X0_i1_I, w_X3_i1_I, w_X5_i1_I, am_cp, am_u]
  · simp [w_i1_I, w_X4_i1_I, w_X6_i1_I, w_X0_i1_I, w_X3_i1_I, w_X5_i1_I, am_cp, am_u]
  · simp [w_i1_I, w_X4_i1_I, w_X6_i1_I, w_X0_i1_I, w_X3_i1_I, w_X5_i1_I, am_cp, am_u]
  · simp [w_i1_I, w_X4_i1_I, w_X6_i1_I, w_X0_i1_I, w_X3_i1_I, w_X5_i1_I, am_cp, am_u]
  · simp [w_i1_I, w_X4_i1_I, w_X6_i1_I, w_X0_i1_I, w_X3_i1_I, w_X5_i1_I, am_cp, am_u]
  · simp [w_i1_I, w_X4_i1_I, w_X6_i1_I, w_X0_i1_I, w_X3_i1_I, w_X5_i1_I, am_cp, am_u]
  · simp [w_i1_I, w_X4_i1_I, w_X6_i1_I, w_X0_i1_I, w_X3_i1_I, w_X5_i1_I, am_cp, am_u]
  · simp [w_i1_I, w_X4_i1_I, w_X6_i1_I, w_X0_i1_I, w_X3_i1_I, w_X5_i1_I, am_cp, am_u]
  · simp [w_i1_I, w_X4_i1_I, w_X6_i1_I, w_X0_i1_I, w_X3_i1_I, w_X5_i1_I, am_cp, am_u]
  · simp [w_i1_I, w_X4_i1_I, w_X6_i1_I, w_X0_i1_I, w_X3_i1_I, w_X5_i1_I, am_cp, am_u]
  · simp [w_i1_I, w_X4_i1_I, w_X6_i1_I, w_X0_i1_I, w_X3_i1_I, w_X5_i1_I, am_cp, am_u]
  · simp [w_i1_I, w_X4_i1_I, w_X6_i1_I, w_X0_i1_I, w_X3_i1_I, w_X5_i1_I, am_cp, am_u]
theorem w_i1_I_n {I : am_I} {a x : Nat} (h : a < 60 ∨ 109 < a) : w_i1_I I a x = I a x := by
  have n61 : a ≠ 61 := by omega
  have n62 : a ≠ 62 := by omega
  have n63 : a ≠ 63 := by omega
  have n64 : a ≠ 64 := by omega
  have n65 : a ≠ 65 := by omega
  have n66 : a ≠ 66 := by omega
  have n67 : a ≠ 67 := by omega
  have n69 : a ≠ 69 := by omega
  have n70 : a ≠ 70 := by omega
  have n71 : a ≠ 71 := by omega
  have n74 : a ≠ 74 := by omega
  have n75 : a ≠ 75 := by omega
  have n76 : a ≠ 76 := by omega
  have n77 : a ≠ 77 := by omega
  have n78 : a ≠ 78 := by omega
  have n79 : a ≠ 79 := by omega
  have n80 : a ≠ 80 := by omega
  have n81 : a ≠ 81 := by omega
  have n82 : a ≠ 82 := by omega
  have n83 : a ≠ 83 := by omega
  have n84 : a ≠ 84 := by omega
  have n85 : a ≠ 85 := by omega
  have n86 : a ≠ 86 := by omega
  have n89 : a ≠ 89 := by omega
  have n90 : a ≠ 90 := by omega
  have n91 : a ≠ 91 := by omega
  have n92 : a ≠ 92 := by omega
  have n93 : a ≠ 93 := by omega
  have n94 : a ≠ 94 := by omega
  have n95 : a ≠ 95 := by omega
  have n96 : a ≠ 96 := by omega
  have n98 : a ≠ 98 := by omega
  have n99 : a ≠ 99 := by omega
  have n100 : a ≠ 100 := by omega
  have n101 : a ≠ 101 := by omega
  have n102 : a ≠ 102 := by omega
  have n103 : a ≠ 103 := by omega
  simp [w_i1_I, w_X4_i1_I, w_X6_i1_I, w_X0_i1_I, w_X3_i1_I, w_X5_i1_I, am_cp, am_u, n61, n62, n63, n64, n65, n66, n67, n69, n70, n71, n74, n75, n76, n77, n78, n79, n80, n81, n82, n83, n84, n85, n86, n89, n90, n91, n92, n93, n94, n95, n96, n98, n99, n100, n101, n102, n103]
theorem w_i1_L_c {L : am_L} {p s : Nat} (h : x_wl p s) : w_i1_L L (p + 50) s = L (p) s := by
  rcases h with ⟨rfl, h⟩ | ⟨rfl, h⟩ | ⟨rfl, h⟩ | ⟨rfl, rfl⟩ | ⟨rfl, rfl⟩
  · simp [w_i1_L, w_X4_i1_L, w_X6_i1_L, w_X0_i1_L, w_X3_i1_L, w_X5_i1_L, am_cp, am_u, h]
  · simp [w_i1_L, w_X4_i1_L, w_X6_i1_L, w_X0_i1_L, w_X3_i1_L, w_X5_i1_L, am_cp, am_u, h]
  · simp [w_i1_L, w_X4_i1_L, w_X6_i1_L, w_X0_i1_L, w_X3_i1_L, w_X5_i1_L, am_cp, am_u, h]
  · simp [w_i1_L, w_X4_i1_L, w_X6_i1_L, w_X0_i1_L, w_X3_i1_L, w_X5_i1_L, am_cp, am_u]
  · simp [w_i1_L, w_X4_i1_L, w_X6_i1_L, w_X0_i1_L, w_X3_i1_L, w_X5_i1_L, am_cp, am_u]
theorem w_i1_L_n {L : am_L} {a x : Nat} (h : a < 60 ∨ 109 < a) : w_i1_L L a x = L a x := by
  have n61 : a ≠ 61 := by omega
  have n68 : a ≠ 68 := by omega
  have n72 : a ≠ 72 := by omega
  have n73 : a ≠ 73 := by omega
  simp [w_i1_L, w_X4_i1_L, w_X6_i1_L, w_X0_i1_L, w_X3_i1_L, w_X5_i1_L, am_cp, am_u, n61, n68, n72, n73]
theorem w_i2_I_c {I : am_I} {p s : Nat} (h : x_wi p s) : w_i2_I I (p + 100) s = I (p) s := by
  rcases h with ⟨rfl, h⟩ | ⟨rfl, h⟩ | ⟨rfl, h⟩ | ⟨rfl, h⟩ | ⟨rfl, h⟩ | ⟨rfl, h⟩ | ⟨rfl, h⟩ | ⟨rfl, h⟩ | ⟨rfl, h⟩ | ⟨rfl, h⟩ | ⟨rfl, h⟩ | ⟨rfl, h⟩ | ⟨rfl, h⟩ | ⟨rfl, h⟩ | ⟨rfl, h⟩ | ⟨rfl, h⟩ | ⟨rfl, h⟩ | ⟨rfl, h⟩ | ⟨rfl, h⟩ | ⟨rfl, h⟩ | ⟨rfl, h⟩ | ⟨rfl, h⟩ | ⟨rfl, h⟩ | ⟨rfl, h⟩ | ⟨rfl, h⟩ | ⟨rfl, h⟩ | ⟨rfl, h⟩ | ⟨rfl, h⟩ | ⟨rfl, h⟩ | ⟨rfl, h⟩ | ⟨rfl, h⟩ | ⟨rfl, h⟩ | ⟨rfl, rfl⟩ | ⟨rfl, rfl⟩ | ⟨rfl, rfl⟩ | ⟨rfl, rfl⟩ | ⟨rfl, rfl⟩ | ⟨rfl, rfl⟩ | ⟨rfl, rfl⟩ | ⟨rfl, rfl⟩ | ⟨rfl, rfl⟩ | ⟨rfl, rfl⟩ | ⟨rfl, rfl⟩ | ⟨rfl, rfl⟩ | ⟨rfl, rfl⟩ | ⟨rfl, rfl⟩ | ⟨rfl, rfl⟩
  · simp [w_i2_I, w_X4_i2_I, w_X6_i2_I, w_X0_i2_I, w_X3_i2_I, w_X5_i2_I, am_cp, am_u, h]
  · simp [w_i2_I, w_X4_i2_I, w_X6_i2_I, w_X0_i2_I, w_X3_i2_I, w_X5_i2_I, am_cp, am_u, h]
  · simp [w_i2_I, w_X4_i2_I, w_X6_i2_I, w_X0_i2_I, w_X3_i2_I, w_X5_i2_I, am_cp, am_u, h]
  · simp [w_i2_I, w_X4_i2_I, w_X6_i2_I, w_X0_i2_I, w_X3_i2_I, w_X5_i2_I, am_cp, am_u, h]
  · simp [w_i2_I, w_X4_i2_I, w_X6_i2_I, w_X0_i2_I, w_X3_i2_I, w_X5_i2_I, am_cp, am_u, h]
  · simp [w_i2_I, w_X4_i2_I, w_X6_i2_I, w_X0_i2_I, w_X3_i2_I, w_X5_i2_I, am_cp, am_u, h]
  · simp [w_i2_I, w_X4_i2_I, w_X6_i2_I, w_X0_i2_I, w_X3_i2_I, w_X5_i2_I, am_cp, am_u, h]
  · simp [w_i2_I, w_X4_i2_I, w_X6_i2_I, w_X0_i2_I, w_X3_i2_I, w_X5_i2_I, am_cp, am_u, h]
  · simp [w_i2_I, w_X4_i2_I, w_X6_i2_I, w_X0_i2_I, w_X3_i2_I, w_X5_i2_I, am_cp, am_u, h]
  · simp [w_i2_I, w_X4_i2_I, w_X6_i2_I, w_X0_i2_I, w_X3_i2_I, w_X5_i2_I, am_cp, am_u, h]
  · simp [w_i2_I, w_X4_i2_I, w_X6_i2_I, w_X0_i2_I, w_X3_i2_I, w_X5_i2_I, am_cp, am_u, h]
  · simp [w_i2_I, w_X4_i2_I, w_X6_i2_I, w_X0_i2_I, w_X3_i2_I, w_X5_i2_I, am_cp, am_u, h]
  · simp [w_i2_I, w_X4_i2_I, w_X6_i2_I, w_X0_i2_I, w_X3_i2_I, w_X5_i2_I, am_cp, am_u, h]
  · simp [w_i2_I, w_X4_i2_I, w_X6_i2_I, w_X0_i2_I, w_X3_i2_I, w_X5_i2_I, am_cp, am_u, h]
  · simp [w_i2_I, w_X4_i2_I, w_X6_i2_I, w_X0_i2_I, w_X3_i2_I, w_X5_i2_I, am_cp, am_u, h]
  · simp [w_i2_I, w_X4_i2_I, w_X6_i2_I, w_X0_i2_I, w_X3_i2_I, w_X5_i2_I, am_cp, am_u, h]
  · simp [w_i2_I, w_X4_i2_I, w_X6_i2_I, w_X0_i2_I, w_X3_i2_I, w_X5_i2_I, am_cp, am_u, h]
  · simp [w_i2_I, w_X4_i2_I, w_X6_i2_I, w_X0_i2_I, w_X3_i2_I, w_X5_i2_I, am_cp, am_u, h]
  · simp [w_i2_I, w_X4_i2_I, w_X6_i2_I, w_X0_i2_I, w_X3_i2_I, w_X5_i2_I, am_cp, am_u, h]
  · simp [w_i2_I, w_X4_i2_I, w_X6_i2_I, w_X0_i2_I, w_X3_i2_I, w_X5_i2_I, am_cp, am_u, h]
  · simp [w_i2_I, w_X4_i2_I, w_X6_i2_I, w_X0_i2_I, w_X3_i2_I, w_X5_i2_I, am_cp, am_u, h]
  · simp [w_i2_I, w_X4_i2_I, w_X6_i2_I, w_X0_i2_I, w_X3_i2_I, w_X5_i2_I, am_cp, am_u, h]
  · simp [w_i2_I, w_X4_i2_I, w_X6_i2_I, w_X0_i2_I, w_X3_i2_I, w_X5_i2_I, am_cp, am_u, h]
  · simp [w_i2_I, w_X4_i2_I, w_X6_i2_I, w_X0_i2_I, w_X3_i2_I, w_X5_i2_I, am_cp, am_u, h]
  · simp [w_i2_I, w_X4_i2_I, w_X6_i2_I, w_X0_i2_I, w_X3_i2_I, w_X5_i2_I, am_cp, am_u, h]
  · simp [w_i2_I, w_X4_i2_I, w_X6_i2_I, w_X0_i2_I, w_X3_i2_I, w_X5_i2_I, am_cp, am_u, h]
  · simp [w_i2_I, w_X4_i2_I, w_X6_i2_I, w_X0_i2_I, w_X3_i2_I, w_X5_i2_I, am_cp, am_u, h]
  · simp [w_i2_I, w_X4_i2_I, w_X6_i2_I, w_X0_i2_I, w_X3_i2_I, w_X5_i2_I, am_cp, am_u, h]
  · simp [w_i2_I, w_X4_i2_I, w_X6_i2_I, w_X0_i2_I, w_X3_i2_I, w_X5_i2_I, am_cp, am_u, h]
  · simp [w_i2_I, w_X4_i2_I, w_X6_i2_I, w_X0_i2_I, w_X3_i2_I, w_X5_i2_I, am_cp, am_u, h]
  · simp [w_i2_I, w_X4_i2_I, w_X6_i2_I, w_X0_i2_I, w_X3_i2_I, w_X5_i2_I, am_cp, am_u, h]
  · simp [w_i2_I, w_X4_i2_I, w_X6_i2_I, w_X0_i2_I, w_X3_i2_I, w_X5_i2_I, am_cp, am_u, h]
  · simp [w_i2_I, w_X4_i2_I, w_X6_i2_I, w_X0_i2_I, w_X3_i2_I, w_X5_i2_I, am_cp, am_u]
  · simp [w_i2_I, w_X4_i2_I, w_X6_i2_I, w_X0_i2_I, w_X3_i2_I, w_X5_i2_I, am_cp, am_u]
  · simp [w_i2_I, w_X4_i2_I, w_X6_i2_I, w_X0_i2_I, w_X3_i2_I, w_X5_i2_I, am_cp, am_u]
  · simp [w_i2_I, w_X4_i2_I, w_X6_i2_I, w_X0_i2_I, w_X3_i2_I, w_X5_i2_I, am_cp, am_u]
  · simp [w_i2_I, w_X4_i2_I, w_X6_i2_I, w_X0_i2_I, w_X3_i2_I, w_X5_i2_I, am_cp, am_u]
  · simp [w_i2_I, w_X4_i2_I, w_X6_i2_I, w_X0_i2_I, w_X3_i2_I, w_X5_i2_I, am_cp, am_u]
  · simp [w_i2_I, w_X4_i2_I, w_X6_i2_I, w_X0_i2_I, w_X3_i2_I, w_X5_i2_I, am_cp, am_u]
  · simp [w_i2_I, w_X4_i2_I, w_X6_i2_I, w_X0_i2_I, w_X3_i2_I, w_X5_i2_I, am_cp, am_u]
  · simp [w_i2_I, w_X4_i2_I, w_X6_i2_I, w_X0_i2_I, w_X3_i2_I, w_X5_i2_I, am_cp, am_u]
  · simp [w_i2_I, w_X4_i2_I, w_X6_i2_I, w_X0_i2_I, w_X3_i2_I, w_X5_i2_I, am_cp, am_u]
  · simp [w_i2_I, w_X4_i2_I, w_X6_i2_I, w_X0_i2_I, w_X3_i2_I, w_X5_i2_I, am_cp, am_u]
  · simp [w_i2_I, w_X4_i2_I, w_X6_i2_I, w_X0_i2_I, w_X3_i2_I, w_X5_i2_I, am_cp, am_u]
  · simp [w_i2_I, w_X4_i2_I, w_X6_i2_I, w_X0_i2_I, w_X3_i2_I, w_X5_i2_I, am_cp, am_u]
  · simp [w_i2_I, w_X4_i2_I, w_X6_i2_I, w_X0_i2_I, w_X3_i2_I, w_X5_i2_I, am_cp, am_u]
  · simp [w_i2_I, w_X4_i2_I, w_X6_i2_I, w_X0_i2_I, w_X3_i2_I, w_X5_i2_I, am_cp, am_u]
theorem w_i2_I_n {I : am_I} {a x : Nat} (h : a < 110 ∨ 159 < a) : w_i2_I I a x = I a x := by
  have n111 : a ≠ 111 := by omega
  have n112 : a ≠ 112 := by omega
  have n113 : a ≠ 113 := by omega
  have n114 : a ≠ 114 := by omega
  have n115 : a ≠ 115 := by omega
  have n116 : a ≠ 116 := by omega
  have n117 : a ≠ 117 := by omega
  have n119 : a ≠ 119 := by omega
  have n120 : a ≠ 120 := by omega
  have n121 : a ≠ 121 := by omega
  have n124 : a ≠ 124 := by omega
  have n125 : a ≠ 125 := by omega
  have n126 : a ≠ 126 := by omega
  have n127 : a ≠ 127 := by omega
  have n128 : a ≠ 128 := by omega
  have n129 : a ≠ 129 := by omega
  have n130 : a ≠ 130 := by omega
  have n131 : a ≠ 131 := by omega
  have n132 : a ≠ 132 := by omega
  have n133 : a ≠ 133 := by omega
  have n134 : a ≠ 134 := by omega
  have n135 : a ≠ 135 := by omega
  have n136 : a ≠ 136 := by omega
  have n139 : a ≠ 139 := by omega
  have n140 : a ≠ 140 := by omega
  have n141 : a ≠ 141 := by omega
  have n142 : a ≠ 142 := by omega
  have n143 : a ≠ 143 := by omega
  have n144 : a ≠ 144 := by omega
  have n145 : a ≠ 145 := by omega
  have n146 : a ≠ 146 := by omega
  have n148 : a ≠ 148 := by omega
  have n149 : a ≠ 149 := by omega
  have n150 : a ≠ 150 := by omega
  have n151 : a ≠ 151 := by omega
  have n152 : a ≠ 152 := by omega
  have n153 : a ≠ 153 := by omega
  simp [w_i2_I, w_X4_i2_I, w_X6_i2_I, w_X0_i2_I, w_X3_i2_I, w_X5_i2_I, am_cp, am_u, n111, n112, n113, n114, n115, n116, n117, n119, n120, n121, n124, n125, n126, n127, n128, n129, n130, n131, n132, n133, n134, n135, n136, n139, n140, n141, n142, n143, n144, n145, n146, n148, n149, n150, n151, n152, n153]
theorem w_i2_L_c {L : am_L} {p s : Nat} (h : x_wl p s) : w_i2_L L (p + 100) s = L (p) s := by
  rcases h with ⟨rfl, h⟩ | ⟨rfl, h⟩ | ⟨rfl, h⟩ | ⟨rfl, rfl⟩ | ⟨rfl, rfl⟩
  · simp [w_i2_L, w_X4_i2_L, w_X6_i2_L, w_X0_i2_L, w_X3_i2_L, w_X5_i2_L, am_cp, am_u, h]
  · simp [w_i2_L, w_X4_i2_L, w_X6_i2_L, w_X0_i2_L, w_X3_i2_L, w_X5_i2_L, am_cp, am_u, h]
  · simp [w_i2_L, w_X4_i2_L, w_X6_i2_L, w_X0_i2_L, w_X3_i2_L, w_X5_i2_L, am_cp, am_u, h]
  · simp [w_i2_L, w_X4_i2_L, w_X6_i2_L, w_X0_i2_L, w_X3_i2_L, w_X5_i2_L, am_cp, am_u]
  · simp [w_i2_L, w_X4_i2_L, w_X6_i2_L, w_X0_i2_L, w_X3_i2_L, w_X5_i2_L, am_cp, am_u]
theorem w_i2_L_n {L : am_L} {a x : Nat} (h : a < 110 ∨ 159 < a) : w_i2_L L a x = L a x := by
  have n111 : a ≠ 111 := by omega
  have n118 : a ≠ 118 := by omega
  have n122 : a ≠ 122 := by omega
  have n123 : a ≠ 123 := by omega
  simp [w_i2_L, w_X4_i2_L, w_X6_i2_L, w_X0_i2_L, w_X3_i2_L, w_X5_i2_L, am_cp, am_u, n111, n118, n122, n123]
theorem w_f1_I_c {I : am_I} {p s : Nat} (h : x_wi p s) : w_f1_I I (p) s = I (p + 50) s := by
  rcases h with ⟨rfl, h⟩ | ⟨rfl, h⟩ | ⟨rfl, h⟩ | ⟨rfl, h⟩ | ⟨rfl, h⟩ | ⟨rfl, h⟩ | ⟨rfl, h⟩ | ⟨rfl, h⟩ | ⟨rfl, h⟩ | ⟨rfl, h⟩ | ⟨rfl, h⟩ | ⟨rfl, h⟩ | ⟨rfl, h⟩ | ⟨rfl, h⟩ | ⟨rfl, h⟩ | ⟨rfl, h⟩ | ⟨rfl, h⟩ | ⟨rfl, h⟩ | ⟨rfl, h⟩ | ⟨rfl, h⟩ | ⟨rfl, h⟩ | ⟨rfl, h⟩ | ⟨rfl, h⟩ | ⟨rfl, h⟩ | ⟨rfl, h⟩ | ⟨rfl, h⟩ | ⟨rfl, h⟩ | ⟨rfl, h⟩ | ⟨rfl, h⟩ | ⟨rfl, h⟩ | ⟨rfl, h⟩ | ⟨rfl, h⟩ | ⟨rfl, rfl⟩ | ⟨rfl, rfl⟩ | ⟨rfl, rfl⟩ | ⟨rfl, rfl⟩ | ⟨rfl, rfl⟩ | ⟨rfl, rfl⟩ | ⟨rfl, rfl⟩ | ⟨rfl, rfl⟩ | ⟨rfl, rfl⟩ | ⟨rfl, rfl⟩ | ⟨rfl, rfl⟩ | ⟨rfl, rfl⟩ | ⟨rfl, rfl⟩ | ⟨rfl, rfl⟩ | ⟨rfl, rfl⟩
  · simp [w_f1_I, w_X4_f1_I, w_X6_f1_I, w_X0_f1_I, w_X3_f1_I, w_X5_f1_I, am_cp, am_u, h]
  · simp [w_f1_I, w_X4_f1_I, w_X6_f1_I, w_X0_f1_I, w_X3_f1_I, w_X5_f1_I, am_cp, am_u, h]
  · simp [w_f1_I, w_X4_f1_I, w_X6_f1_I, w_X0_f1_I, w_X3_f1_I, w_X5_f1_I, am_cp, am_u, h]
  · simp [w_f1_I, w_X4_f1_I, w_X6_f1_I, w_X0_f1_I, w_X3_f1_I, w_X5_f1_I, am_cp, am_u, h]
  · simp [w_f1_I, w_X4_f1_I, w_X6_f1_I, w_X0_f1_I, w_X3_f1_I, w_X5_f1_I, am_cp, am_u, h]
  · simp [w_f1_I, w_X4_f1_I, w_X6_f1_I, w_X0_f1_I, w_X3_f1_I, w_X5_f1_I, am_cp, am_u, h]
  · simp [w_f1_I, w_X4_f1_I, w_X6_f1_I, w_X0_f1_I, w_X3_f1_I, w_X5_f1_I, am_cp, am_u, h]
  · simp [w_f1_I, w_X4_f1_I, w_X6_f1_I, w_X0_f1_I, w_X3_f1_I, w_X5_f1_I, am_cp, am_u, h]
  · simp [w_f1_I, w_X4_f1_I, w_X6_f1_I, w_X0_f1_I, w_X3_f1_I, w_X5_f1_I, am_cp, am_u, h]
  · simp [w_f1_I, w_X4_f1_I, w_X6_f1_I, w_X0_f1_I, w_X3_f1_I, w_X5_f1_I, am_cp, am_u, h]
  · simp [w_f1_I, w_X4_f1_I, w_X6_f1_I, w_X0_f1_I, w_X3_f1_I, w_X5_f1_I, am_cp, am_u, h]
  · simp [w_f1_I, w_X4_f1_I, w_X6_f1_I, w_X0_f1_I, w_X3_f1_I, w_X5_f1_I, am_cp, am_u, h]
  · simp [w_f1_I, w_X4_f1_I, w_X6_f1_I, w_X0_f1_I, w_X3_f1_I, w_X5_f1_I, am_cp, am_u, h]
  · simp [w_f1_I, w_X4_f1_I, w_X6_f1_I, w_X0_f1_I, w_X3_f1_I, w_X5_f1_I, am_cp, am_u, h]
  · simp [w_f1_I, w_X4_f1_I, w_X6_f1_I, w_X0_f1_I, w_X3_f1_I, w_X5_f1_I, am_cp, am_u, h]
  · simp [w_f1_I, w_X4_f1_I, w_X6_f1_I, w_X0_f1_I, w_X3_f1_I, w_X5_f1_I, am_cp, am_u, h]
  · simp [w_f1_I, w_X4_f1_I, w_X6_f1_I, w_X0_f1_I, w_X3_f1_I, w_X5_f1_I, am_cp, am_u, h]
  · simp [w_f1_I, w_X4_f1_I, w_X6_f1_I, w_X0_f1_I, w_X3_f1_I, w_X5_f1_I, am_cp, am_u, h]
  · simp [w_f1_I, w_X4_f1_I, w_X6_f1_I, w_X0_f1_I, w_X3_f1_I, w_X5_f1_I, am_cp, am_u, h]
  · simp [w_f1_I, w_X4_f1_I, w_X6_f1_I, w_X0_f1_I, w_X3_f1_I, w_X5_f1_I, am_cp, am_u, h]
  · simp [w_f1_I, w_X4_f1_I, w_X6_f1_I, w_X0_f1_I, w_X3_f1_I, w_X5_f1_I, am_cp, am_u, h]
  · simp [w_f1_I, w_X4_f1_I, w_X6_f1_I, w_X0_f1_I, w_X3_f1_I, w_X5_f1_I, am_cp, am_u, h]
  · simp [w_f1_I, w_X4_f1_I, w_X6_f1_I, w_X0_f1_I, w_X3_f1_I, w_X5_f1_I, am_cp, am_u, h]
  · simp [w_f1_I, w_X4_f1_I, w_X6_f1_I, w_X0_f1_I, w_X3_f1_I, w_X5_f1_I, am_cp, am_u, h]
  · simp [w_f1_I, w_X4_f1_I, w_X6_f1_I, w_X0_f1_I, w_X3_f1_I, w_X5_f1_I, am_cp, am_u, h]
  · simp [w_f1_I, w_X4_f1_I, w_X6_f1_I, w_X0_f1_I, w_X3_f1_I, w_X5_f1_I, am_cp, am_u, h]
  · simp [w_f1_I, w_X4_f1_I, w_X6_f1_I, w_X0_f1_I, w_X3_f1_I, w_X5_f1_I, am_cp, am_u, h]
  · simp [w_f1_I, w_X4_f1_I, w_X6_f1_I, w_X0_f1_I, w_X3_f1_I, w_X5_f1_I, am_cp, am_u, h]
  · simp [w_f1_I, w_X4_f1_I, w_X6_f1_I, w_X0_f1_I, w_X3_f1_I, w_X5_f1_I, am_cp, am_u, h]
  · simp [w_f1_I, w_X4_f1_I, w_X6_f1_I, w_X0_f1_I, w_X3_f1_I, w_X5_f1_I, am_cp, am_u, h]
  · simp [w_f1_I, w_X4_f1_I, w_X6_f1_I, w_X0_f1_I, w_X3_f1_I, w_X5_f1_I, am_cp, am_u, h]
  · simp [w_f1_I, w_X4_f1_I, w_X6_f1_I, w_X0_f1_I, w_X3_f1_I, w_X5_f1_I, am_cp, am_u, h]
  · simp [w_f1_I, w_X4_f1_I, w_X6_f1_I, w_X0_f1_I, w_X3_f1_I, w_X5_f1_I, am_cp, am_u]
  · simp [w_f1_I, w_X4_f1_I, w_X6_f1_I, w_X0_f1_I, w_X3_f1_I, w_X5_f1_I, am_cp, am_u]
  · simp [w_f1_I, w_X4_f1_I, w_X6_f1_I, w_X0_f1_I, w_X3_f1_I, w_X5_f1_I, am_cp, am_u]
  · simp [w_f1_I, w_X4_f1_I, w_X6_f1_I, w_X0_f1_I, w_X3_f1_I, w_X5_f1_I, am_cp, am_u]
  · simp [w_f1_I, w_X4_f1_I, w_X6_f1_I, w_X0_f1_I, w_X3_f1_I, w_X5_f1_I, am_cp, am_u]
  · simp [w_f1_I, w_X4_f1_I, w_X6_f1_I, w_X0_f1_I, w_X3_f1_I, w_X5_f1_I, am_cp, am_u]
  · simp [w_f1_I, w_X4_f1_I, w_X6_f1_I, w_X0_f1_I, w_X3_f1_I, w_X5_f1_I, am_cp, am_u]
  · simp [w_f1_I, w_X4_f1_I, w_X6_f1_I, w_X0_f1_I, w_X3_f1_I, w_X5_f1_I, am_cp, am_u]
  · simp [w_f1_I, w_X4_f1_I, w_X6_f1_I, w_X0_f1_I, w_X3_f1_I, w_X5_f1_I, am_cp, am_u]
  · simp [w_f1_I, w_X4_f1_I, w_X6_f1_I, w_X0_f1_I, w_X3_f1_I, w_X5_f1_I, am_cp, am_u]
  · simp [w_f1_I, w_X4_f1_I, w_X6_f1_I, w_X0_f1_I, w_X3_f1_I, w_X5_f1_I, am_cp, am_u]
  · simp [w_f1_I, w_X4_f1_I, w_X6_f1_I, w_X0_f1_I, w_X3_f1_I, w_X5_f1_I, am_cp, am_u]
  · simp [w_f1_I, w_X4_f1_I, w_X6_f1_I, w_X0_f1_I, w_X3_f1_I, w_X5_f1_I, am_cp, am_u]
  · simp [w_f1_I, w_X4_f1_I, w_X6_f1_I, w_X0_f1_I, w_X3_f1_I, w_X5_f1_I, am_cp, am_u]
  · simp [w_f1_I, w_X4_f1_I, w_X6_f1_I, w_X0_f1_I, w_X3_f1_I, w_X5_f1_I, am_cp, am_u]
theorem w_f1_I_n {I : am_I} {a x : Nat} (h : a < 10 ∨ 59 < a) : w_f1_I I a x = I a x := by
  have n11 : a ≠ 11 := by omega
  have n12 : a ≠ 12 := by omega
  have n13 : a ≠ 13 := by omega
  have n14 : a ≠ 14 := by omega
  have n15 : a ≠ 15 := by omega
  have n16 : a ≠ 16 := by omega
  have n17 : a ≠ 17 := by omega
  have n19 : a ≠ 19 := by omega
  have n20 : a ≠ 20 := by omega
  have n21 : a ≠ 21 := by omega
  have n24 : a ≠ 24 := by omega
  have n25 : a ≠ 25 := by omega
  have n26 : a ≠ 26 := by omega
  have n27 : a ≠ 27 := by omega
  have n28 : a ≠ 28 := by omega
  have n29 : a ≠ 29 := by omega
  have n30 : a ≠ 30 := by omega
  have n31 : a ≠ 31 := by omega
  have n32 : a ≠ 32 := by omega
  have n33 : a ≠ 33 := by omega
  have n34 : a ≠ 34 := by omega
  have n35 : a ≠ 35 := by omega
  have n36 : a ≠ 36 := by omega
  have n39 : a ≠ 39 := by omega
  have n40 : a ≠ 40 := by omega
  have n41 : a ≠ 41 := by omega
  have n42 : a ≠ 42 := by omega
  have n43 : a ≠ 43 := by omega
  have n44 : a ≠ 44 := by omega
  have n45 : a ≠ 45 := by omega
  have n46 : a ≠ 46 := by omega
  have n48 : a ≠ 48 := by omega
  have n49 : a ≠ 49 := by omega
  have n50 : a ≠ 50 := by omega
  have n51 : a ≠ 51 := by omega
  have n52 : a ≠ 52 := by omega
  have n53 : a ≠ 53 := by omega
  simp [w_f1_I, w_X4_f1_I, w_X6_f1_I, w_X0_f1_I, w_X3_f1_I, w_X5_f1_I, am_cp, am_u, n11, n12, n13, n14, n15, n16, n17, n19, n20, n21, n24, n25, n26, n27, n28, n29, n30, n31, n32, n33, n34, n35, n36, n39, n40, n41, n42, n43, n44, n45, n46, n48, n49, n50, n51, n52, n53]
theorem w_f1_L_c {L : am_L} {p s : Nat} (h : x_wl p s) : w_f1_L L (p) s = L (p + 50) s := by
  rcases h with ⟨rfl, h⟩ | ⟨rfl, h⟩ | ⟨rfl, h⟩ | ⟨rfl, rfl⟩ | ⟨rfl, rfl⟩
  · simp [w_f1_L, w_X4_f1_L, w_X6_f1_L, w_X0_f1_L, w_X3_f1_L, w_X5_f1_L, am_cp, am_u, h]
  · simp [w_f1_L, w_X4_f1_L, w_X6_f1_L, w_X0_f1_L, w_X3_f1_L, w_X5_f1_L, am_cp, am_u, h]
  · simp [w_f1_L, w_X4_f1_L, w_X6_f1_L, w_X0_f1_L, w_X3_f1_L, w_X5_f1_L, am_cp, am_u, h]
  · simp [w_f1_L, w_X4_f1_L, w_X6_f1_L, w_X0_f1_L, w_X3_f1_L, w_X5_f1_L, am_cp, am_u]
  · simp [w_f1_L, w_X4_f1_L, w_X6_f1_L, w_X0_f1_L, w_X3_f1_L, w_X5_f1_L, am_cp, am_u]
theorem w_f1_L_n {L : am_L} {a x : Nat} (h : a < 10 ∨ 59 < a) : w_f1_L L a x = L a x := by
  have n11 : a ≠ 11 := by omega
  have n18 : a ≠ 18 := by omega
  have n22 : a ≠ 22 := by omega
  have n23 : a ≠ 23 := by omega
  simp [w_f1_L, w_X4_f1_L, w_X6_f1_L, w_X0_f1_L, w_X3_f1_L, w_X5_f1_L, am_cp, am_u, n11, n18, n22, n23]
theorem w_f2_I_c {I : am_I} {p s : Nat} (h : x_wi p s) : w_f2_I I (p) s = I (p + 100) s := by
  rcases h with ⟨rfl, h⟩ | ⟨rfl, h⟩ | ⟨rfl, h⟩ | ⟨rfl, h⟩ | ⟨rfl, h⟩ | ⟨rfl, h⟩ | ⟨rfl, h⟩ | ⟨rfl, h⟩ | ⟨rfl, h⟩ | ⟨rfl, h⟩ | ⟨rfl, h⟩ | ⟨rfl, h⟩ | ⟨rfl, h⟩ | ⟨rfl, h⟩ | ⟨rfl, h⟩ | ⟨rfl, h⟩ | ⟨rfl, h⟩ | ⟨rfl, h⟩ | ⟨rfl, h⟩ | ⟨rfl, h⟩ | ⟨rfl, h⟩ | ⟨rfl, h⟩ | ⟨rfl, h⟩ | ⟨rfl, h⟩ | ⟨rfl, h⟩ | ⟨rfl, h⟩ | ⟨rfl, h⟩ | ⟨rfl, h⟩ | ⟨rfl, h⟩ | ⟨rfl, h⟩ | ⟨rfl, h⟩ | ⟨rfl, h⟩ | ⟨rfl, rfl⟩ | ⟨rfl, rfl⟩ | ⟨rfl, rfl⟩ | ⟨rfl, rfl⟩ | ⟨rfl, rfl⟩ | ⟨rfl, rfl⟩ | ⟨rfl, rfl⟩ | ⟨rfl, rfl⟩ | ⟨rfl, rfl⟩ | ⟨rfl, rfl⟩ | ⟨rfl, rfl⟩ | ⟨rfl, rfl⟩ | ⟨rfl, rfl⟩ | ⟨rfl, rfl⟩ | ⟨rfl, rfl⟩
  · simp [w_f2_I, w_X4_f2_I, w_X6_f2_I, w_X0_f2_I, w_X3_f2_I, w_X5_f2_I, am_cp, am_u, h]
  · simp [w_f2_I, w_X4_f2_I, w_X6_f2_I, w_X0_f2_I, w_X3_f2_I, w_X5_f2_I, am_cp, am_u, h]
  · simp [w_f2_I, w_X4_f2_I, w_X6_f2_I, w_X0_f2_I, w_X3_f2_I, w_X5_f2_I, am_cp, am_u, h]
  · simp [w_f2_I, w_X4_f2_I, w_X6_f2_I, w_X0_f2_I, w_X3_f2_I, w_X5_f2_I, am_cp, am_u, h]
  · simp [w_f2_I, w_X4_f2_I, w_X6_f2_I, w_X0_f2_I, w_X3_f2_I, w_X5_f2_I, am_cp, am_u, h]
  · simp [w_f2_I, w_X4_f2_I, w_X6_f2_I, w_X0_f2_I, w_X3_f2_I, w_X5_f2_I, am_cp, am_u, h]
  · simp [w_f2_I, w_X4_f2_I, w_X6_f2_I, w_X0_f2_I, w_X3_f2_I, w_X5_f2_I, am_cp, am_u, h]
  · simp [w_f2_I, w_X4_f2_I, w_X6_f2_I, w_X0_f2_I, w_X3_f2_I, w_X5_f2_I, am_cp, am_u, h]
  · simp [w_f2_I, w_X4_f2_I, w_X6_f2_I, w_X0_f2_I, w_X3_f2_I, w_X5_f2_I, am_cp, am_u, h]
  · simp [w_f2_I, w_X4_f2_I, w_X6_f2_I, w_X0_f2_I, w_X3_f2_I, w_X5_f2_I, am_cp, am_u, h]
  · simp [w_f2_I, w_X4_f2_I, w_X6_f2_I, w_X0_f2_I, w_X3_f2_I, w_X5_f2_I, am_cp, am_u, h]
  · simp [w_f2_I, w_X4_f2_I, w_X6_f2_I, w_X0_f2_I, w_X3_f2_I, w_X5_f2_I, am_cp, am_u, h]
  · simp [w_f2_I, w_X4_f2_I, w_X6_f2_I, w_X0_f2_I, w_X3_f2_I, w_X5_f2_I, am_cp, am_u, h]
  · simp [w_f2_I, w_X4_f2_I, w_X6_f2_I, w_X0_f2_I, w_X3_f2_I, w_X5_f2_I, am_cp, am_u, h]
  · simp [w_f2_I, w_X4_f2_I, w_X6_f2_I, w_X0_f2_I, w_X3_f2_I, w_X5_f2_I, am_cp, am_u, h]
  · simp [w_f2_I, w_X4_f2_I, w_X6_f2_I, w_X0_f2_I, w_X3_f2_I, w_X5_f2_I, am_cp, am_u, h]
  · simp [w_f2_I, w_X4_f2_I, w_X6_f2_I, w_X0_f2_I, w_X3_f2_I, w_X5_f2_I, am_cp, am_u, h]
  · simp [w_f2_I, w_X4_f2_I, w_X6_f2_I, w_X0_f2_I, w_X3_f2_I, w_X5_f2_I, am_cp, am_u, h]
  · simp [w_f2_I, w_X4_f2_I, w_X6_f2_I, w_X0_f2_I, w_X3_f2_I, w_X5_f2_I, am_cp, am_u, h]
  · simp [w_f2_I, w_X4_f2_I, w_X6_f2_I, w_X0_f2_I, w_X3_f2_I, w_X5_f2_I, am_cp, am_u, h]
  · simp [w_f2_I, w_X4_f2_I, w_X6_f2_I, w_X0_f2_I, w_X3_f2_I, w_X5_f2_I, am_cp, am_u, h]
  · simp [w_f2_I, w_X4_f2_I, w_X6_f2_I, w_X0_f2_I, w_X3_f2_I, w_X5_f2_I, am_cp, am_u, h]
  · simp [w_f2_I, w_X4_f2_I, w_X6_f2_I, w_X0_f2_I, w_X3_f2_I, w_X5_f2_I, am_cp, am_u, h]
  · simp [w_f2_I, w_X4_f2_I, w_X6_f2_I, w_X0_f2_I, w_X3_f2_I, w_X5_f2_I, am_cp, am_u, h]
  · simp [w_f2_I, w_X4_f2_I, w_X6_f2_I, w_X0_f2_I, w_X3_f2_I, w_X5_f2_I, am_cp, am_u, h]
  · simp [w_f2_I, w_X4_f2_I, w_X6_f2_I, w_X0_f2_I, w_X3_f2_I, w_X5_f2_I, am_cp, am_u, h]
  · simp [w_f2_I, w_X4_f2_I, w_X6_f2_I, w_X0_f2_I, w_X3_f2_I, w_X5_f2_I, am_cp, am_u, h]
  · simp [w_f2_I, w_X4_f2_I, w_X6_f2_I, w_X0_f2_I, w_X3_f2_I, w_X5_f2_I, am_cp, am_u, h]
  · simp [w_f2_I, w_X4_f2_I, w_X6_f2_I, w_X0_f2_I, w_X3_f2_I, w_X5_f2_I, am_cp, am_u, h]
  · simp [w_f2_I, w_X4_f2_I, w_X6_f2_I, w_X0_f2_I, w_X3_f2_I, w_X5_f2_I, am_cp, am_u, h]
  · simp [w_f2_I, w_X4_f2_I, w_X6_f2_I, w_X0_f2_I, w_X3_f2_I, w_X5_f2_I, am_cp, am_u, h]
  · simp [w_f2_I, w_X4_f2_I, w_X6_f2_I, w_X0_f2_I, w_X3_f2_I, w_X5_f2_I, am_cp, am_u, h]
  · simp [w_f2_I, w_X4_f2_I, w_X6_f2_I, w_X0_f2_I, w_X3_f2_I, w_X5_f2_I, am_cp, am_u]
  · simp [w_f2_I, w_X4_f2_I, w_X6_f2_I, w_X0_f2_I, w_X3_f2_I, w_X5_f2_I, am_cp, am_u]
  · simp [w_f2_I, w_X4_f2_I, w_X6_f2_I, w_X0_f2_I, w_X3_f2_I, w_X5_f2_I, am_cp, am_u]
  · simp [w_f2_I, w_X4_f2_I, w_X6_f2_I, w_X0_f2_I, w_X3_f2_I, w_X5_f2_I, am_cp, am_u]
  · simp [w_f2_I, w_X4_f2_I, w_X6_f2_I, w_X0_f2_I, w_X3_f2_I, w_X5_f2_I, am_cp, am_u]
  · simp [w_f2_I, w_X4_f2_I, w_X6_f2_I, w_X0_f2_I, w_X3_f2_I, w_X5_f2_I, am_cp, am_u]
  · simp [w_f2_I, w_X4_f2_I, w_X6_f2_I, w_X0_f2_I, w_X3_f2_I, w_X5_f2_I, am_cp, am_u]
  · simp [w_f2_I, w_X4_f2_I, w_X6_f2_I, w_X0_f2_I, w_X3_f2_I, w_X5_f2_I, am_cp, am_u]
  · simp [w_f2_I, w_X4_f2_I, w_X6_f2_I, w_X0_f2_I, w_X3_f2_I, w_X5_f2_I, am_cp, am_u]
  · simp [w_f2_I, w_X4_f2_I, w_X6_f2_I, w_X0_f2_I, w_X3_f2_I, w_X5_f2_I, am_cp, am_u]
  · simp [w_f2_I, w_X4_f2_I, w_X6_f2_I, w_X0_f2_I, w_X3_f2_I, w_X5_f2_I, am_cp, am_u]
  · simp [w_f2_I, w_X4_f2_I, w_X6_f2_I, w_X0_f2_I, w_X3_f2_I, w_X5_f2_I, am_cp, am_u]
  · simp [w_f2_I, w_X4_f2_I, w_X6_f2_I, w_X0_f2_I, w_X3_f2_I, w_X5_f2_I, am_cp, am_u]
  · simp [w_f2_I, w_X4_f2_I, w_X6_f2_I, w_X0_f2_I, w_X3_f2_I, w_X5_f2_I, am_cp, am_u]
  · simp [w_f2_I, w_X4_f2_I, w_X6_f2_I, w_X0_f2_I, w_X3_f2_I, w_X5_f2_I, am_cp, am_u]
theorem w_f2_I_n {I : am_I} {a x : Nat} (h : a < 10 ∨ 59 < a) : w_f2_I I a x = I a x := by
  have n11 : a ≠ 11 := by omega
  have n12 : a ≠ 12 := by omega
  have n13 : a ≠ 13 := by omega
  have n14 : a ≠ 14 := by omega
  have n15 : a ≠ 15 := by omega
  have n16 : a ≠ 16 := by omega
  have n17 : a ≠ 17 := by omega
  have n19 : a ≠ 19 := by omega
  have n20 : a ≠ 20 := by omega
  have n21 : a ≠ 21 := by omega
  have n24 : a ≠ 24 := by omega
  have n25 : a ≠ 25 := by omega
  have n26 : a ≠ 26 := by omega
  have n27 : a ≠ 27 := by omega
  have n28 : a ≠ 28 := by omega
  have n29 : a ≠ 29 := by omega
  have n30 : a ≠ 30 := by omega
  have n31 : a ≠ 31 := by omega
  have n32 : a ≠ 32 := by omega
  have n33 : a ≠ 33 := by omega
  have n34 : a ≠ 34 := by omega
  have n35 : a ≠ 35 := by omega
  have n36 : a ≠ 36 := by omega
  have n39 : a ≠ 39 := by omega
  have n40 : a ≠ 40 := by omega
  have n41 : a ≠ 41 := by omega
  have n42 : a ≠ 42 := by omega
  have n43 : a ≠ 43 := by omega
  have n44 : a ≠ 44 := by omega
  have n45 : a ≠ 45 := by omega
  have n46 : a ≠ 46 := by omega
  have n48 : a ≠ 48 := by omega
  have n49 : a ≠ 49 := by omega
  have n50 : a ≠ 50 := by omega
  have n51 : a ≠ 51 := by omega
  have n52 : a ≠ 52 := by omega
  have n53 : a ≠ 53 := by omega
  simp [w_f2_I, w_X4_f2_I, w_X6_f2_I, w_X0_f2_I, w_X3_f2_I, w_X5_f2_I, am_cp, am_u, n11, n12, n13, n14, n15, n16, n17, n19, n20, n21, n24, n25, n26, n27, n28, n29, n30, n31, n32, n33, n34, n35, n36, n39, n40, n41, n42, n43, n44, n45, n46, n48, n49, n50, n51, n52, n53]
theorem w_f2_L_c {L : am_L} {p s : Nat} (h : x_wl p s) : w_f2_L L (p) s = L (p + 100) s := by
  rcases h with ⟨rfl, h⟩ | ⟨rfl, h⟩ | ⟨rfl, h⟩ | ⟨rfl, rfl⟩ | ⟨rfl, rfl⟩
  · simp [w_f2_L, w_X4_f2_L, w_X6_f2_L, w_X0_f2_L, w_X3_f2_L, w_X5_f2_L, am_cp, am_u, h]
  · simp [w_f2_L, w_X4_f2_L, w_X6_f2_L, w_X0_f2_L, w_X3_f2_L, w_X5_f2_L, am_cp, am_u, h]
  · simp [w_f2_L, w_X4_f2_L, w_X6_f2_L, w_X0_f2_L, w_X3_f2_L, w_X5_f2_L, am_cp, am_u, h]
  · simp [w_f2_L, w_X4_f2_L, w_X6_f2_L, w_X0_f2_L, w_X3_f2_L, w_X5_f2_L, am_cp, am_u]
  · simp [w_f2_L, w_X4_f2_L, w_X6_f2_L, w_X0_f2_L, w_X3_f2_L, w_X5_f2_L, am_cp, am_u]
theorem w_f2_L_n {L : am_L} {a x : Nat} (h : a < 10 ∨ 59 < a) : w_f2_L L a x = L a x := by
  have n11 : a ≠ 11 := by omega
  have n18 : a ≠ 18 := by omega
  have n22 : a ≠ 22 := by omega
  have n23 : a ≠ 23 := by omega
  simp [w_f2_L, w_X4_f2_L, w_X6_f2_L, w_X0_f2_L, w_X3_f2_L, w_X5_f2_L, am_cp, am_u, n11, n18, n22, n23]
