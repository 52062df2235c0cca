/-! the relation of the two sides: the cell that an entry of the reference's row mirrors -/
def x_ml : List (Nat × Nat) := [(11, 3), (11, 7), (11, 8), (12, 7), (13, 5), (15, 3), (12, 10), (13, 11), (15, 5), (11, 11), (11, 9), (11, 10), (11, 13), (11, 12), (13, 6), (13, 7), (14, 2)]
def x_at : List (Nat × Nat) := [(0, 3), (1, 3), (2, 3), (36, 3), (37, 3), (38, 3), (1056, 1), (1116, 1), (336, 4), (337, 4), (338, 4), (339, 4), (385, 4), (386, 4), (387, 4), (504, 4), (505, 4), (506, 4), (507, 4), (1016, 2), (1017, 2), (2000, 1), (2000, 1), (664, 1), (724, 4), (725, 4), (726, 4), (727, 4), (1032, 3), (1033, 3), (1034, 3), (2000, 1), (844, 1), (852, 1), (916, 3), (917, 3), (918, 3), (976, 1)]
def x_dec (e : Nat) : Nat × Nat :=
  if e < 36 then (16 + e % 3, e / 3) else if e < 336 then (19 + (e - 36) % 3, (e - 36) / 3) else if e < 384 then (24 + (e - 336) % 4, (e - 336) / 4)
  else if e < 504 then (27 + (e - 384) % 4, (e - 384) / 4) else if e < 664 then (31 + (e - 504) % 4, (e - 504) / 4) else if e < 724 then (39, e - 664)
  else if e < 844 then (40 + (e - 724) % 4, (e - 724) / 4) else if e < 852 then (48, e - 844) else if e < 916 then (49, e - 852) else if e < 976 then (50 + (e - 916) % 3, (e - 916) / 3)
  else if e < 1016 then (53, e - 976) else if e < 1032 then (35 + (e - 1016) % 2, (e - 1016) / 2) else if e < 1056 then (44 + (e - 1032) % 3, (e - 1032) / 3)
  else if e < 1116 then (22, e - 1056) else if e < 1176 then (23, e - 1116) else x_ml.getD (e - 1176) (0, 0)
def x_enc (p s : Nat) : Nat := if 16 ≤ p then (x_at.getD (p - 16) (2000, 1)).1 + (x_at.getD (p - 16) (2000, 1)).2 * s else 1176 + x_ml.findIdx (fun q => q == (p, s))
abbrev x_fl (e : Nat) : Prop := 384 ≤ e ∧ e < 504 ∧ (e - 384) % 4 = 0
abbrev x_lg (e : Nat) : Prop := (e < 36 ∧ e % 3 = 2) ∨ (1056 ≤ e ∧ e < 1176) ∨ e = 1185 ∨ e = 1189
def x_rd (I : am_I) (L : am_L) (e : Nat) : Int64 := if x_fl e then (if I 28 ((e - 384) / 4) = 0 then 0 else 1) else if x_lg e then L (x_dec e).1 (x_dec e).2 else (I (x_dec e).1 (x_dec e).2).toInt64
theorem x_allb : ((List.range 1193).all fun e => (decide (x_fl e) || x_enc (x_dec e).1 (x_dec e).2 == e) && (decide (x_fl e) || (decide (11 ≤ (x_dec e).1) && decide ((x_dec e).1 ≤ 53) && (x_dec e).1 != 37 && (x_dec e).1 != 38 && (x_dec e).1 != 47))) = true := by decide +kernel
theorem x_all (e : Nat) (he : e < 1193) (hf : ¬ x_fl e) : x_enc (x_dec e).1 (x_dec e).2 = e ∧ 11 ≤ (x_dec e).1 ∧ (x_dec e).1 ≤ 53 ∧ (x_dec e).1 ≠ 37 ∧ (x_dec e).1 ≠ 38 ∧ (x_dec e).1 ≠ 47 := by
  have h := List.all_eq_true.mp x_allb e (List.mem_range.mpr he)
  rw [decide_eq_false hf] at h
  simp only [Bool.false_or, Bool.and_eq_true, beq_iff_eq, decide_eq_true_eq, bne_iff_ne, ne_eq] at h
  exact ⟨h.1, h.2.1.1.1.1, h.2.1.1.1.2, h.2.1.1.2, h.2.1.2, h.2.2⟩
def x_R (I : am_I) (L : am_L) (N : Nat → Int64) : Prop := ∀ e, e < 1193 → N e = x_rd I L e
theorem xd_per_0 : ∀ k, k < 12 → x_dec (0 + 3 * k) = (16, k) ∧ ¬ x_fl (0 + 3 * k) ∧ ¬ x_lg (0 + 3 * k) ∧ 0 + 3 * k < 1193 := by decide +kernel
theorem xr_per_0 {I : am_I} {L : am_L} {k : Nat} (hk : k < 12) : x_rd I L (0 + 3 * k) = (I 16 k).toInt64 := by
  have h := xd_per_0 k hk
  rw [x_rd, if_neg h.2.1, if_neg h.2.2.1, h.1]
theorem xh_per_0 {I : am_I} {L : am_L} {N : Nat → Int64} (h : x_R I L N) {k : Nat} (hk : k < 12) : N (0 + 3 * k) = (I 16 k).toInt64 := (h _ (xd_per_0 k hk).2.2.2).trans (xr_per_0 hk)
theorem xe_per_0 : ∀ k, k < 12 → x_enc 16 k = 0 + 3 * k := by decide +kernel
theorem xd_per_1 : ∀ k, k < 12 → x_dec (1 + 3 * k) = (17, k) ∧ ¬ x_fl (1 + 3 * k) ∧ ¬ x_lg (1 + 3 * k) ∧ 1 + 3 * k < 1193 := by decide +kernel
theorem xr_per_1 {I : am_I} {L : am_L} {k : Nat} (hk : k < 12) : x_rd I L (1 + 3 * k) = (I 17 k).toInt64 := by
  have h := xd_per_1 k hk
  rw [x_rd, if_neg h.2.1, if_neg h.2.2.1, h.1]
theorem xh_per_1 {I : am_I} {L : am_L} {N : Nat → Int64} (h : x_R I L N) {k : Nat} (hk : k < 12) : N (1 + 3 * k) = (I 17 k).toInt64 := (h _ (xd_per_1 k hk).2.2.2).trans (xr_per_1 hk)
theorem xe_per_1 : ∀ k, k < 12 → x_enc 17 k = 1 + 3 * k := by decide +kernel
theorem xd_per_2 : ∀ k, k < 12 → x_dec (2 + 3 * k) = (18, k) ∧ ¬ x_fl (2 + 3 * k) ∧ x_lg (2 + 3 * k) ∧ 2 + 3 * k < 1193 := by decide +kernel
theorem xr_per_2 {I : am_I} {L : am_L} {k : Nat} (hk : k < 12) : x_rd I L (2 + 3 * k) = L 18 k := by
  have h := xd_per_2 k hk
  rw [x_rd, if_neg h.2.1, if_pos h.2.2.1, h.1]
theorem xh_per_2 {I : am_I} {L : am_L} {N : Nat → Int64} (h : x_R I L N) {k : Nat} (hk : k < 12) : N (2 + 3 * k) = L 18 k := (h _ (xd_per_2 k hk).2.2.2).trans (xr_per_2 hk)
theorem xe_per_2 : ∀ k, k < 12 → x_enc 18 k = 2 + 3 * k := by decide +kernel
theorem xd_row_0 : ∀ k, k < 100 → x_dec (36 + 3 * k) = (19, k) ∧ ¬ x_fl (36 + 3 * k) ∧ ¬ x_lg (36 + 3 * k) ∧ 36 + 3 * k < 1193 := by decide +kernel
theorem xr_row_0 {I : am_I} {L : am_L} {k : Nat} (hk : k < 100) : x_rd I L (36 + 3 * k) = (I 19 k).toInt64 := by
  have h := xd_row_0 k hk
  rw [x_rd, if_neg h.2.1, if_neg h.2.2.1, h.1]
theorem xh_row_0 {I : am_I} {L : am_L} {N : Nat → Int64} (h : x_R I L N) {k : Nat} (hk : k < 100) : N (36 + 3 * k) = (I 19 k).toInt64 := (h _ (xd_row_0 k hk).2.2.2).trans (xr_row_0 hk)
theorem xe_row_0 : ∀ k, k < 100 → x_enc 19 k = 36 + 3 * k := by decide +kernel
theorem xd_row_1 : ∀ k, k < 100 → x_dec (37 + 3 * k) = (20, k) ∧ ¬ x_fl (37 + 3 * k) ∧ ¬ x_lg (37 + 3 * k) ∧ 37 + 3 * k < 1193 := by decide +kernel
theorem xr_row_1 {I : am_I} {L : am_L} {k : Nat} (hk : k < 100) : x_rd I L (37 + 3 * k) = (I 20 k).toInt64 := by
  have h := xd_row_1 k hk
  rw [x_rd, if_neg h.2.1, if_neg h.2.2.1, h.1]
theorem xh_row_1 {I : am_I} {L : am_L} {N : Nat → Int64} (h : x_R I L N) {k : Nat} (hk : k < 100) : N (37 + 3 * k) = (I 20 k).toInt64 := (h _ (xd_row_1 k hk).2.2.2).trans (xr_row_1 hk)
theorem xe_row_1 : ∀ k, k < 100 → x_enc 20 k = 37 + 3 * k := by decide +kernel
theorem xd_row_2 : ∀ k, k < 100 → x_dec (38 + 3 * k) = (21, k) ∧ ¬ x_fl (38 + 3 * k) ∧ ¬ x_lg (38 + 3 * k) ∧ 38 + 3 * k < 1193 := by decide +kernel
theorem xr_row_2 {I : am_I} {L : am_L} {k : Nat} (hk : k < 100) : x_rd I L (38 + 3 * k) = (I 21 k).toInt64 := by
  have h := xd_row_2 k hk
  rw [x_rd, if_neg h.2.1, if_neg h.2.2.1, h.1]
theorem xh_row_2 {I : am_I} {L : am_L} {N : Nat → Int64} (h : x_R I L N) {k : Nat} (hk : k < 100) : N (38 + 3 * k) = (I 21 k).toInt64 := (h _ (xd_row_2 k hk).2.2.2).trans (xr_row_2 hk)
theorem xe_row_2 : ∀ k, k < 100 → x_enc 21 k = 38 + 3 * k := by decide +kernel
theorem xd_spn_0 : ∀ k, k < 12 → x_dec (336 + 4 * k) = (24, k) ∧ ¬ x_fl (336 + 4 * k) ∧ ¬ x_lg (336 + 4 * k) ∧ 336 + 4 * k < 1193 := by decide +kernel
theorem xr_spn_0 {I : am_I} {L : am_L} {k : Nat} (hk : k < 12) : x_rd I L (336 + 4 * k) = (I 24 k).toInt64 := by
  have h := xd_spn_0 k hk
  rw [x_rd, if_neg h.2.1, if_neg h.2.2.1, h.1]
theorem xh_spn_0 {I : am_I} {L : am_L} {N : Nat → Int64} (h : x_R I L N) {k : Nat} (hk : k < 12) : N (336 + 4 * k) = (I 24 k).toInt64 := (h _ (xd_spn_0 k hk).2.2.2).trans (xr_spn_0 hk)
theorem xe_spn_0 : ∀ k, k < 12 → x_enc 24 k = 336 + 4 * k := by decide +kernel
theorem xd_spn_1 : ∀ k, k < 12 → x_dec (337 + 4 * k) = (25, k) ∧ ¬ x_fl (337 + 4 * k) ∧ ¬ x_lg (337 + 4 * k) ∧ 337 + 4 * k < 1193 := by decide +kernel
theorem xr_spn_1 {I : am_I} {L : am_L} {k : Nat} (hk : k < 12) : x_rd I L (337 + 4 * k) = (I 25 k).toInt64 := by
  have h := xd_spn_1 k hk
  rw [x_rd, if_neg h.2.1, if_neg h.2.2.1, h.1]
theorem xh_spn_1 {I : am_I} {L : am_L} {N : Nat → Int64} (h : x_R I L N) {k : Nat} (hk : k < 12) : N (337 + 4 * k) = (I 25 k).toInt64 := (h _ (xd_spn_1 k hk).2.2.2).trans (xr_spn_1 hk)
theorem xe_spn_1 : ∀ k, k < 12 → x_enc 25 k = 337 + 4 * k := by decide +kernel
theorem xd_spn_2 : ∀ k, k < 12 → x_dec (338 + 4 * k) = (26, k) ∧ ¬ x_fl (338 + 4 * k) ∧ ¬ x_lg (338 + 4 * k) ∧ 338 + 4 * k < 1193 := by decide +kernel
theorem xr_spn_2 {I : am_I} {L : am_L} {k : Nat} (hk : k < 12) : x_rd I L (338 + 4 * k) = (I 26 k).toInt64 := by
  have h := xd_spn_2 k hk
  rw [x_rd, if_neg h.2.1, if_neg h.2.2.1, h.1]
theorem xh_spn_2 {I : am_I} {L : am_L} {N : Nat → Int64} (h : x_R I L N) {k : Nat} (hk : k < 12) : N (338 + 4 * k) = (I 26 k).toInt64 := (h _ (xd_spn_2 k hk).2.2.2).trans (xr_spn_2 hk)
theorem xe_spn_2 : ∀ k, k < 12 → x_enc 26 k = 338 + 4 * k := by decide +kernel
theorem xd_spn_3 : ∀ k, k < 12 → x_dec (339 + 4 * k) = (27, k) ∧ ¬ x_fl (339 + 4 * k) ∧ ¬ x_lg (339 + 4 * k) ∧ 339 + 4 * k < 1193 := by decide +kernel
theorem xr_spn_3 {I : am_I} {L : am_L} {k : Nat} (hk : k < 12) : x_rd I L (339 + 4 * k) = (I 27 k).toInt64 := by
  have h := xd_spn_3 k hk
  rw [x_rd, if_neg h.2.1, if_neg h.2.2.1, h.1]
theorem xh_spn_3 {I : am_I} {L : am_L} {N : Nat → Int64} (h : x_R I L N) {k : Nat} (hk : k < 12) : N (339 + 4 * k) = (I 27 k).toInt64 := (h _ (xd_spn_3 k hk).2.2.2).trans (xr_spn_3 hk)
theorem xe_spn_3 : ∀ k, k < 12 → x_enc 27 k = 339 + 4 * k := by decide +kernel
theorem xd_pap_1 : ∀ k, k < 30 → x_dec (385 + 4 * k) = (28, k) ∧ ¬ x_fl (385 + 4 * k) ∧ ¬ x_lg (385 + 4 * k) ∧ 385 + 4 * k < 1193 := by decide +kernel
theorem xr_pap_1 {I : am_I} {L : am_L} {k : Nat} (hk : k < 30) : x_rd I L (385 + 4 * k) = (I 28 k).toInt64 := by
  have h := xd_pap_1 k hk
  rw [x_rd, if_neg h.2.1, if_neg h.2.2.1, h.1]
theorem xh_pap_1 {I : am_I} {L : am_L} {N : Nat → Int64} (h : x_R I L N) {k : Nat} (hk : k < 30) : N (385 + 4 * k) = (I 28 k).toInt64 := (h _ (xd_pap_1 k hk).2.2.2).trans (xr_pap_1 hk)
theorem xe_pap_1 : ∀ k, k < 30 → x_enc 28 k = 385 + 4 * k := by decide +kernel
theorem xd_pap_2 : ∀ k, k < 30 → x_dec (386 + 4 * k) = (29, k) ∧ ¬ x_fl (386 + 4 * k) ∧ ¬ x_lg (386 + 4 * k) ∧ 386 + 4 * k < 1193 := by decide +kernel
theorem xr_pap_2 {I : am_I} {L : am_L} {k : Nat} (hk : k < 30) : x_rd I L (386 + 4 * k) = (I 29 k).toInt64 := by
  have h := xd_pap_2 k hk
  rw [x_rd, if_neg h.2.1, if_neg h.2.2.1, h.1]
theorem xh_pap_2 {I : am_I} {L : am_L} {N : Nat → Int64} (h : x_R I L N) {k : Nat} (hk : k < 30) : N (386 + 4 * k) = (I 29 k).toInt64 := (h _ (xd_pap_2 k hk).2.2.2).trans (xr_pap_2 hk)
theorem xe_pap_2 : ∀ k, k < 30 → x_enc 29 k = 386 + 4 * k := by decide +kernel
theorem xd_pap_3 : ∀ k, k < 30 → x_dec (387 + 4 * k) = (30, k) ∧ ¬ x_fl (387 + 4 * k) ∧ ¬ x_lg (387 + 4 * k) ∧ 387 + 4 * k < 1193 := by decide +kernel
theorem xr_pap_3 {I : am_I} {L : am_L} {k : Nat} (hk : k < 30) : x_rd I L (387 + 4 * k) = (I 30 k).toInt64 := by
  have h := xd_pap_3 k hk
  rw [x_rd, if_neg h.2.1, if_neg h.2.2.1, h.1]
theorem xh_pap_3 {I : am_I} {L : am_L} {N : Nat → Int64} (h : x_R I L N) {k : Nat} (hk : k < 30) : N (387 + 4 * k) = (I 30 k).toInt64 := (h _ (xd_pap_3 k hk).2.2.2).trans (xr_pap_3 hk)
theorem xe_pap_3 : ∀ k, k < 30 → x_enc 30 k = 387 + 4 * k := by decide +kernel
theorem xd_trd_0 : ∀ k, k < 40 → x_dec (504 + 4 * k) = (31, k) ∧ ¬ x_fl (504 + 4 * k) ∧ ¬ x_lg (504 + 4 * k) ∧ 504 + 4 * k < 1193 := by decide +kernel
theorem xr_trd_0 {I : am_I} {L : am_L} {k : Nat} (hk : k < 40) : x_rd I L (504 + 4 * k) = (I 31 k).toInt64 := by
  have h := xd_trd_0 k hk
  rw [x_rd, if_neg h.2.1, if_neg h.2.2.1, h.1]
theorem xh_trd_0 {I : am_I} {L : am_L} {N : Nat → Int64} (h : x_R I L N) {k : Nat} (hk : k < 40) : N (504 + 4 * k) = (I 31 k).toInt64 := (h _ (xd_trd_0 k hk).2.2.2).trans (xr_trd_0 hk)
theorem xe_trd_0 : ∀ k, k < 40 → x_enc 31 k = 504 + 4 * k := by decide +kernel
theorem xd_trd_1 : ∀ k, k < 40 → x_dec (505 + 4 * k) = (32, k) ∧ ¬ x_fl (505 + 4 * k) ∧ ¬ x_lg (505 + 4 * k) ∧ 505 + 4 * k < 1193 := by decide +kernel
theorem xr_trd_1 {I : am_I} {L : am_L} {k : Nat} (hk : k < 40) : x_rd I L (505 + 4 * k) = (I 32 k).toInt64 := by
  have h := xd_trd_1 k hk
  rw [x_rd, if_neg h.2.1, if_neg h.2.2.1, h.1]
theorem xh_trd_1 {I : am_I} {L : am_L} {N : Nat → Int64} (h : x_R I L N) {k : Nat} (hk : k < 40) : N (505 + 4 * k) = (I 32 k).toInt64 := (h _ (xd_trd_1 k hk).2.2.2).trans (xr_trd_1 hk)
theorem xe_trd_1 : ∀ k, k < 40 → x_enc 32 k = 505 + 4 * k := by decide +kernel
theorem xd_trd_2 : ∀ k, k < 40 → x_dec (506 + 4 * k) = (33, k) ∧ ¬ x_fl (506 + 4 * k) ∧ ¬ x_lg (506 + 4 * k) ∧ 506 + 4 * k < 1193 := by decide +kernel
theorem xr_trd_2 {I : am_I} {L : am_L} {k : Nat} (hk : k < 40) : x_rd I L (506 + 4 * k) = (I 33 k).toInt64 := by
  have h := xd_trd_2 k hk
  rw [x_rd, if_neg h.2.1, if_neg h.2.2.1, h.1]
theorem xh_trd_2 {I : am_I} {L : am_L} {N : Nat → Int64} (h : x_R I L N) {k : Nat} (hk : k < 40) : N (506 + 4 * k) = (I 33 k).toInt64 := (h _ (xd_trd_2 k hk).2.2.2).trans (xr_trd_2 hk)
theorem xe_trd_2 : ∀ k, k < 40 → x_enc 33 k = 506 + 4 * k := by decide +kernel
theorem xd_trd_3 : ∀ k, k < 40 → x_dec (507 + 4 * k) = (34, k) ∧ ¬ x_fl (507 + 4 * k) ∧ ¬ x_lg (507 + 4 * k) ∧ 507 + 4 * k < 1193 := by decide +kernel
theorem xr_trd_3 {I : am_I} {L : am_L} {k : Nat} (hk : k < 40) : x_rd I L (507 + 4 * k) = (I 34 k).toInt64 := by
  have h := xd_trd_3 k hk
  rw [x_rd, if_neg h.2.1, if_neg h.2.2.1, h.1]
theorem xh_trd_3 {I : am_I} {L : am_L} {N : Nat → Int64} (h : x_R I L N) {k : Nat} (hk : k < 40) : N (507 + 4 * k) = (I 34 k).toInt64 := (h _ (xd_trd_3 k hk).2.2.2).trans (xr_trd_3 hk)
theorem xe_trd_3 : ∀ k, k < 40 → x_enc 34 k = 507 + 4 * k := by decide +kernel
theorem xd_idx : ∀ k, k < 60 → x_dec (664 + k) = (39, k) ∧ ¬ x_fl (664 + k) ∧ ¬ x_lg (664 + k) ∧ 664 + k < 1193 := by decide +kernel
theorem xr_idx {I : am_I} {L : am_L} {k : Nat} (hk : k < 60) : x_rd I L (664 + k) = (I 39 k).toInt64 := by
  have h := xd_idx k hk
  rw [x_rd, if_neg h.2.1, if_neg h.2.2.1, h.1]
theorem xh_idx {I : am_I} {L : am_L} {N : Nat → Int64} (h : x_R I L N) {k : Nat} (hk : k < 60) : N (664 + k) = (I 39 k).toInt64 := (h _ (xd_idx k hk).2.2.2).trans (xr_idx hk)
theorem xe_idx : ∀ k, k < 60 → x_enc 39 k = 664 + k := by decide +kernel
theorem xd_gif_0 : ∀ k, k < 30 → x_dec (724 + 4 * k) = (40, k) ∧ ¬ x_fl (724 + 4 * k) ∧ ¬ x_lg (724 + 4 * k) ∧ 724 + 4 * k < 1193 := by decide +kernel
theorem xr_gif_0 {I : am_I} {L : am_L} {k : Nat} (hk : k < 30) : x_rd I L (724 + 4 * k) = (I 40 k).toInt64 := by
  have h := xd_gif_0 k hk
  rw [x_rd, if_neg h.2.1, if_neg h.2.2.1, h.1]
theorem xh_gif_0 {I : am_I} {L : am_L} {N : Nat → Int64} (h : x_R I L N) {k : Nat} (hk : k < 30) : N (724 + 4 * k) = (I 40 k).toInt64 := (h _ (xd_gif_0 k hk).2.2.2).trans (xr_gif_0 hk)
theorem xe_gif_0 : ∀ k, k < 30 → x_enc 40 k = 724 + 4 * k := by decide +kernel
theorem xd_gif_1 : ∀ k, k < 30 → x_dec (725 + 4 * k) = (41, k) ∧ ¬ x_fl (725 + 4 * k) ∧ ¬ x_lg (725 + 4 * k) ∧ 725 + 4 * k < 1193 := by decide +kernel
theorem xr_gif_1 {I : am_I} {L : am_L} {k : Nat} (hk : k < 30) : x_rd I L (725 + 4 * k) = (I 41 k).toInt64 := by
  have h := xd_gif_1 k hk
  rw [x_rd, if_neg h.2.1, if_neg h.2.2.1, h.1]
theorem xh_gif_1 {I : am_I} {L : am_L} {N : Nat → Int64} (h : x_R I L N) {k : Nat} (hk : k < 30) : N (725 + 4 * k) = (I 41 k).toInt64 := (h _ (xd_gif_1 k hk).2.2.2).trans (xr_gif_1 hk)
theorem xe_gif_1 : ∀ k, k < 30 → x_enc 41 k = 725 + 4 * k := by decide +kernel
theorem xd_gif_2 : ∀ k, k < 30 → x_dec (726 + 4 * k) = (42, k) ∧ ¬ x_fl (726 + 4 * k) ∧ ¬ x_lg (726 + 4 * k) ∧ 726 + 4 * k < 1193 := by decide +kernel
theorem xr_gif_2 {I : am_I} {L : am_L} {k : Nat} (hk : k < 30) : x_rd I L (726 + 4 * k) = (I 42 k).toInt64 := by
  have h := xd_gif_2 k hk
  rw [x_rd, if_neg h.2.1, if_neg h.2.2.1, h.1]
theorem xh_gif_2 {I : am_I} {L : am_L} {N : Nat → Int64} (h : x_R I L N) {k : Nat} (hk : k < 30) : N (726 + 4 * k) = (I 42 k).toInt64 := (h _ (xd_gif_2 k hk).2.2.2).trans (xr_gif_2 hk)
theorem xe_gif_2 : ∀ k, k < 30 → x_enc 42 k = 726 + 4 * k := by decide +kernel
theorem xd_gif_3 : ∀ k, k < 30 → x_dec (727 + 4 * k) = (43, k) ∧ ¬ x_fl (727 + 4 * k) ∧ ¬ x_lg (727 + 4 * k) ∧ 727 + 4 * k < 1193 := by decide +kernel
theorem xr_gif_3 {I : am_I} {L : am_L} {k : Nat} (hk : k < 30) : x_rd I L (727 + 4 * k) = (I 43 k).toInt64 := by
  have h := xd_gif_3 k hk
  rw [x_rd, if_neg h.2.1, if_neg h.2.2.1, h.1]
theorem xh_gif_3 {I : am_I} {L : am_L} {N : Nat → Int64} (h : x_R I L N) {k : Nat} (hk : k < 30) : N (727 + 4 * k) = (I 43 k).toInt64 := (h _ (xd_gif_3 k hk).2.2.2).trans (xr_gif_3 hk)
theorem xe_gif_3 : ∀ k, k < 30 → x_enc 43 k = 727 + 4 * k := by decide +kernel
theorem xd_coi : ∀ k, k < 8 → x_dec (844 + k) = (48, k) ∧ ¬ x_fl (844 + k) ∧ ¬ x_lg (844 + k) ∧ 844 + k < 1193 := by decide +kernel
theorem xr_coi {I : am_I} {L : am_L} {k : Nat} (hk : k < 8) : x_rd I L (844 + k) = (I 48 k).toInt64 := by
  have h := xd_coi k hk
  rw [x_rd, if_neg h.2.1, if_neg h.2.2.1, h.1]
theorem xh_coi {I : am_I} {L : am_L} {N : Nat → Int64} (h : x_R I L N) {k : Nat} (hk : k < 8) : N (844 + k) = (I 48 k).toInt64 := (h _ (xd_coi k hk).2.2.2).trans (xr_coi hk)
theorem xe_coi : ∀ k, k < 8 → x_enc 48 k = 844 + k := by decide +kernel
theorem xd_due : ∀ k, k < 64 → x_dec (852 + k) = (49, k) ∧ ¬ x_fl (852 + k) ∧ ¬ x_lg (852 + k) ∧ 852 + k < 1193 := by decide +kernel
theorem xr_due {I : am_I} {L : am_L} {k : Nat} (hk : k < 64) : x_rd I L (852 + k) = (I 49 k).toInt64 := by
  have h := xd_due k hk
  rw [x_rd, if_neg h.2.1, if_neg h.2.2.1, h.1]
theorem xh_due {I : am_I} {L : am_L} {N : Nat → Int64} (h : x_R I L N) {k : Nat} (hk : k < 64) : N (852 + k) = (I 49 k).toInt64 := (h _ (xd_due k hk).2.2.2).trans (xr_due hk)
theorem xe_due : ∀ k, k < 64 → x_enc 49 k = 852 + k := by decide +kernel
theorem xd_let_0 : ∀ k, k < 20 → x_dec (916 + 3 * k) = (50, k) ∧ ¬ x_fl (916 + 3 * k) ∧ ¬ x_lg (916 + 3 * k) ∧ 916 + 3 * k < 1193 := by decide +kernel
theorem xr_let_0 {I : am_I} {L : am_L} {k : Nat} (hk : k < 20) : x_rd I L (916 + 3 * k) = (I 50 k).toInt64 := by
  have h := xd_let_0 k hk
  rw [x_rd, if_neg h.2.1, if_neg h.2.2.1, h.1]
theorem xh_let_0 {I : am_I} {L : am_L} {N : Nat → Int64} (h : x_R I L N) {k : Nat} (hk : k < 20) : N (916 + 3 * k) = (I 50 k).toInt64 := (h _ (xd_let_0 k hk).2.2.2).trans (xr_let_0 hk)
theorem xe_let_0 : ∀ k, k < 20 → x_enc 50 k = 916 + 3 * k := by decide +kernel
theorem xd_let_1 : ∀ k, k < 20 → x_dec (917 + 3 * k) = (51, k) ∧ ¬ x_fl (917 + 3 * k) ∧ ¬ x_lg (917 + 3 * k) ∧ 917 + 3 * k < 1193 := by decide +kernel
theorem xr_let_1 {I : am_I} {L : am_L} {k : Nat} (hk : k < 20) : x_rd I L (917 + 3 * k) = (I 51 k).toInt64 := by
  have h := xd_let_1 k hk
  rw [x_rd, if_neg h.2.1, if_neg h.2.2.1, h.1]
theorem xh_let_1 {I : am_I} {L : am_L} {N : Nat → Int64} (h : x_R I L N) {k : Nat} (hk : k < 20) : N (917 + 3 * k) = (I 51 k).toInt64 := (h _ (xd_let_1 k hk).2.2.2).trans (xr_let_1 hk)
theorem xe_let_1 : ∀ k, k < 20 → x_enc 51 k = 917 + 3 * k := by decide +kernel
theorem xd_let_2 : ∀ k, k < 20 → x_dec (918 + 3 * k) = (52, k) ∧ ¬ x_fl (918 + 3 * k) ∧ ¬ x_lg (918 + 3 * k) ∧ 918 + 3 * k < 1193 := by decide +kernel
theorem xr_let_2 {I : am_I} {L : am_L} {k : Nat} (hk : k < 20) : x_rd I L (918 + 3 * k) = (I 52 k).toInt64 := by
  have h := xd_let_2 k hk
  rw [x_rd, if_neg h.2.1, if_neg h.2.2.1, h.1]
theorem xh_let_2 {I : am_I} {L : am_L} {N : Nat → Int64} (h : x_R I L N) {k : Nat} (hk : k < 20) : N (918 + 3 * k) = (I 52 k).toInt64 := (h _ (xd_let_2 k hk).2.2.2).trans (xr_let_2 hk)
theorem xe_let_2 : ∀ k, k < 20 → x_enc 52 k = 918 + 3 * k := by decide +kernel
theorem xd_rul : ∀ k, k < 40 → x_dec (976 + k) = (53, k) ∧ ¬ x_fl (976 + k) ∧ ¬ x_lg (976 + k) ∧ 976 + k < 1193 := by decide +kernel
theorem xr_rul {I : am_I} {L : am_L} {k : Nat} (hk : k < 40) : x_rd I L (976 + k) = (I 53 k).toInt64 := by
  have h := xd_rul k hk
  rw [x_rd, if_neg h.2.1, if_neg h.2.2.1, h.1]
theorem xh_rul {I : am_I} {L : am_L} {N : Nat → Int64} (h : x_R I L N) {k : Nat} (hk : k < 40) : N (976 + k) = (I 53 k).toInt64 := (h _ (xd_rul k hk).2.2.2).trans (xr_rul hk)
theorem xe_rul : ∀ k, k < 40 → x_enc 53 k = 976 + k := by decide +kernel
theorem xd_han_0 : ∀ k, k < 8 → x_dec (1016 + 2 * k) = (35, k) ∧ ¬ x_fl (1016 + 2 * k) ∧ ¬ x_lg (1016 + 2 * k) ∧ 1016 + 2 * k < 1193 := by decide +kernel
theorem xr_han_0 {I : am_I} {L : am_L} {k : Nat} (hk : k < 8) : x_rd I L (1016 + 2 * k) = (I 35 k).toInt64 := by
  have h := xd_han_0 k hk
  rw [x_rd, if_neg h.2.1, if_neg h.2.2.1, h.1]
theorem xh_han_0 {I : am_I} {L : am_L} {N : Nat → Int64} (h : x_R I L N) {k : Nat} (hk : k < 8) : N (1016 + 2 * k) = (I 35 k).toInt64 := (h _ (xd_han_0 k hk).2.2.2).trans (xr_han_0 hk)
theorem xe_han_0 : ∀ k, k < 8 → x_enc 35 k = 1016 + 2 * k := by decide +kernel
theorem xd_han_1 : ∀ k, k < 8 → x_dec (1017 + 2 * k) = (36, k) ∧ ¬ x_fl (1017 + 2 * k) ∧ ¬ x_lg (1017 + 2 * k) ∧ 1017 + 2 * k < 1193 := by decide +kernel
theorem xr_han_1 {I : am_I} {L : am_L} {k : Nat} (hk : k < 8) : x_rd I L (1017 + 2 * k) = (I 36 k).toInt64 := by
  have h := xd_han_1 k hk
  rw [x_rd, if_neg h.2.1, if_neg h.2.2.1, h.1]
theorem xh_han_1 {I : am_I} {L : am_L} {N : Nat → Int64} (h : x_R I L N) {k : Nat} (hk : k < 8) : N (1017 + 2 * k) = (I 36 k).toInt64 := (h _ (xd_han_1 k hk).2.2.2).trans (xr_han_1 hk)
theorem xe_han_1 : ∀ k, k < 8 → x_enc 36 k = 1017 + 2 * k := by decide +kernel
theorem xd_sui_0 : ∀ k, k < 8 → x_dec (1032 + 3 * k) = (44, k) ∧ ¬ x_fl (1032 + 3 * k) ∧ ¬ x_lg (1032 + 3 * k) ∧ 1032 + 3 * k < 1193 := by decide +kernel
theorem xr_sui_0 {I : am_I} {L : am_L} {k : Nat} (hk : k < 8) : x_rd I L (1032 + 3 * k) = (I 44 k).toInt64 := by
  have h := xd_sui_0 k hk
  rw [x_rd, if_neg h.2.1, if_neg h.2.2.1, h.1]
theorem xh_sui_0 {I : am_I} {L : am_L} {N : Nat → Int64} (h : x_R I L N) {k : Nat} (hk : k < 8) : N (1032 + 3 * k) = (I 44 k).toInt64 := (h _ (xd_sui_0 k hk).2.2.2).trans (xr_sui_0 hk)
theorem xe_sui_0 : ∀ k, k < 8 → x_enc 44 k = 1032 + 3 * k := by decide +kernel
theorem xd_sui_1 : ∀ k, k < 8 → x_dec (1033 + 3 * k) = (45, k) ∧ ¬ x_fl (1033 + 3 * k) ∧ ¬ x_lg (1033 + 3 * k) ∧ 1033 + 3 * k < 1193 := by decide +kernel
theorem xr_sui_1 {I : am_I} {L : am_L} {k : Nat} (hk : k < 8) : x_rd I L (1033 + 3 * k) = (I 45 k).toInt64 := by
  have h := xd_sui_1 k hk
  rw [x_rd, if_neg h.2.1, if_neg h.2.2.1, h.1]
theorem xh_sui_1 {I : am_I} {L : am_L} {N : Nat → Int64} (h : x_R I L N) {k : Nat} (hk : k < 8) : N (1033 + 3 * k) = (I 45 k).toInt64 := (h _ (xd_sui_1 k hk).2.2.2).trans (xr_sui_1 hk)
theorem xe_sui_1 : ∀ k, k < 8 → x_enc 45 k = 1033 + 3 * k := by decide +kernel
theorem xd_sui_2 : ∀ k, k < 8 → x_dec (1034 + 3 * k) = (46, k) ∧ ¬ x_fl (1034 + 3 * k) ∧ ¬ x_lg (1034 + 3 * k) ∧ 1034 + 3 * k < 1193 := by decide +kernel
theorem xr_sui_2 {I : am_I} {L : am_L} {k : Nat} (hk : k < 8) : x_rd I L (1034 + 3 * k) = (I 46 k).toInt64 := by
  have h := xd_sui_2 k hk
  rw [x_rd, if_neg h.2.1, if_neg h.2.2.1, h.1]
theorem xh_sui_2 {I : am_I} {L : am_L} {N : Nat → Int64} (h : x_R I L N) {k : Nat} (hk : k < 8) : N (1034 + 3 * k) = (I 46 k).toInt64 := (h _ (xd_sui_2 k hk).2.2.2).trans (xr_sui_2 hk)
theorem xe_sui_2 : ∀ k, k < 8 → x_enc 46 k = 1034 + 3 * k := by decide +kernel
theorem xd_cns : ∀ k, k < 60 → x_dec (1056 + k) = (22, k) ∧ ¬ x_fl (1056 + k) ∧ x_lg (1056 + k) ∧ 1056 + k < 1193 := by decide +kernel
theorem xr_cns {I : am_I} {L : am_L} {k : Nat} (hk : k < 60) : x_rd I L (1056 + k) = L 22 k := by
  have h := xd_cns k hk
  rw [x_rd, if_neg h.2.1, if_pos h.2.2.1, h.1]
theorem xh_cns {I : am_I} {L : am_L} {N : Nat → Int64} (h : x_R I L N) {k : Nat} (hk : k < 60) : N (1056 + k) = L 22 k := (h _ (xd_cns k hk).2.2.2).trans (xr_cns hk)
theorem xe_cns : ∀ k, k < 60 → x_enc 22 k = 1056 + k := by decide +kernel
theorem xd_shs : ∀ k, k < 60 → x_dec (1116 + k) = (23, k) ∧ ¬ x_fl (1116 + k) ∧ x_lg (1116 + k) ∧ 1116 + k < 1193 := by decide +kernel
theorem xr_shs {I : am_I} {L : am_L} {k : Nat} (hk : k < 60) : x_rd I L (1116 + k) = L 23 k := by
  have h := xd_shs k hk
  rw [x_rd, if_neg h.2.1, if_pos h.2.2.1, h.1]
theorem xh_shs {I : am_I} {L : am_L} {N : Nat → Int64} (h : x_R I L N) {k : Nat} (hk : k < 60) : N (1116 + k) = L 23 k := (h _ (xd_shs k hk).2.2.2).trans (xr_shs hk)
theorem xe_shs : ∀ k, k < 60 → x_enc 23 k = 1116 + k := by decide +kernel
theorem xr_pap_0 {I : am_I} {L : am_L} {k : Nat} (hk : k < 30) : x_rd I L (384 + 4 * k) = if I 28 k = 0 then 0 else 1 := by
  rw [x_rd, if_pos ⟨by omega, by omega, by omega⟩, show (384 + 4 * k - 384) / 4 = k by omega]
theorem xh_pap_0 {I : am_I} {L : am_L} {N : Nat → Int64} (h : x_R I L N) {k : Nat} (hk : k < 30) : N (384 + 4 * k) = if I 28 k = 0 then 0 else 1 := (h _ (by omega)).trans (xr_pap_0 hk)
theorem xr_np {I : am_I} {L : am_L} : x_rd I L 1176 = (I 11 3).toInt64 := by rw [x_rd, if_neg (by decide), if_neg (by decide)]; rfl
theorem xh_np {I : am_I} {L : am_L} {N : Nat → Int64} (h : x_R I L N) : N 1176 = (I 11 3).toInt64 := (h _ (by decide)).trans xr_np
theorem xr_rows {I : am_I} {L : am_L} : x_rd I L 1177 = (I 11 7).toInt64 := by rw [x_rd, if_neg (by decide), if_neg (by decide)]; rfl
theorem xh_rows {I : am_I} {L : am_L} {N : Nat → Int64} (h : x_R I L N) : N 1177 = (I 11 7).toInt64 := (h _ (by decide)).trans xr_rows
theorem xr_now {I : am_I} {L : am_L} : x_rd I L 1178 = (I 11 8).toInt64 := by rw [x_rd, if_neg (by decide), if_neg (by decide)]; rfl
theorem xh_now {I : am_I} {L : am_L} {N : Nat → Int64} (h : x_R I L N) : N 1178 = (I 11 8).toInt64 := (h _ (by decide)).trans xr_now
theorem xr_nt {I : am_I} {L : am_L} : x_rd I L 1179 = (I 12 7).toInt64 := by rw [x_rd, if_neg (by decide), if_neg (by decide)]; rfl
theorem xh_nt {I : am_I} {L : am_L} {N : Nat → Int64} (h : x_R I L N) : N 1179 = (I 12 7).toInt64 := (h _ (by decide)).trans xr_nt
theorem xr_ng {I : am_I} {L : am_L} : x_rd I L 1180 = (I 13 5).toInt64 := by rw [x_rd, if_neg (by decide), if_neg (by decide)]; rfl
theorem xh_ng {I : am_I} {L : am_L} {N : Nat → Int64} (h : x_R I L N) : N 1180 = (I 13 5).toInt64 := (h _ (by decide)).trans xr_ng
theorem xr_nl {I : am_I} {L : am_L} : x_rd I L 1181 = (I 15 3).toInt64 := by rw [x_rd, if_neg (by decide), if_neg (by decide)]; rfl
theorem xh_nl {I : am_I} {L : am_L} {N : Nat → Int64} (h : x_R I L N) : N 1181 = (I 15 3).toInt64 := (h _ (by decide)).trans xr_nl
theorem xr_nh {I : am_I} {L : am_L} : x_rd I L 1182 = (I 12 10).toInt64 := by rw [x_rd, if_neg (by decide), if_neg (by decide)]; rfl
theorem xh_nh {I : am_I} {L : am_L} {N : Nat → Int64} (h : x_R I L N) : N 1182 = (I 12 10).toInt64 := (h _ (by decide)).trans xr_nh
theorem xr_ns {I : am_I} {L : am_L} : x_rd I L 1183 = (I 13 11).toInt64 := by rw [x_rd, if_neg (by decide), if_neg (by decide)]; rfl
theorem xh_ns {I : am_I} {L : am_L} {N : Nat → Int64} (h : x_R I L N) : N 1183 = (I 13 11).toInt64 := (h _ (by decide)).trans xr_ns
theorem xr_nc {I : am_I} {L : am_L} : x_rd I L 1184 = (I 15 5).toInt64 := by rw [x_rd, if_neg (by decide), if_neg (by decide)]; rfl
theorem xh_nc {I : am_I} {L : am_L} {N : Nat → Int64} (h : x_R I L N) : N 1184 = (I 15 5).toInt64 := (h _ (by decide)).trans xr_nc
theorem xr_acc {I : am_I} {L : am_L} : x_rd I L 1185 = L 11 11 := by rw [x_rd, if_neg (by decide), if_pos (by decide)]; rfl
theorem xh_acc {I : am_I} {L : am_L} {N : Nat → Int64} (h : x_R I L N) : N 1185 = L 11 11 := (h _ (by decide)).trans xr_acc
theorem xr_fee {I : am_I} {L : am_L} : x_rd I L 1186 = (I 11 9).toInt64 := by rw [x_rd, if_neg (by decide), if_neg (by decide)]; rfl
theorem xh_fee {I : am_I} {L : am_L} {N : Nat → Int64} (h : x_R I L N) : N 1186 = (I 11 9).toInt64 := (h _ (by decide)).trans xr_fee
theorem xr_rate {I : am_I} {L : am_L} : x_rd I L 1187 = (I 11 10).toInt64 := by rw [x_rd, if_neg (by decide), if_neg (by decide)]; rfl
theorem xh_rate {I : am_I} {L : am_L} {N : Nat → Int64} (h : x_R I L N) : N 1187 = (I 11 10).toInt64 := (h _ (by decide)).trans xr_rate
theorem xr_fell {I : am_I} {L : am_L} : x_rd I L 1188 = (I 11 13).toInt64 := by rw [x_rd, if_neg (by decide), if_neg (by decide)]; rfl
theorem xh_fell {I : am_I} {L : am_L} {N : Nat → Int64} (h : x_R I L N) : N 1188 = (I 11 13).toInt64 := (h _ (by decide)).trans xr_fell
theorem xr_fees {I : am_I} {L : am_L} : x_rd I L 1189 = L 11 12 := by rw [x_rd, if_neg (by decide), if_pos (by decide)]; rfl
theorem xh_fees {I : am_I} {L : am_L} {N : Nat → Int64} (h : x_R I L N) : N 1189 = L 11 12 := (h _ (by decide)).trans xr_fees
theorem xr_good {I : am_I} {L : am_L} : x_rd I L 1190 = (I 13 6).toInt64 := by rw [x_rd, if_neg (by decide), if_neg (by decide)]; rfl
theorem xh_good {I : am_I} {L : am_L} {N : Nat → Int64} (h : x_R I L N) : N 1190 = (I 13 6).toInt64 := (h _ (by decide)).trans xr_good
theorem xr_bad {I : am_I} {L : am_L} : x_rd I L 1191 = (I 13 7).toInt64 := by rw [x_rd, if_neg (by decide), if_neg (by decide)]; rfl
theorem xh_bad {I : am_I} {L : am_L} {N : Nat → Int64} (h : x_R I L N) : N 1191 = (I 13 7).toInt64 := (h _ (by decide)).trans xr_bad
theorem xr_str {I : am_I} {L : am_L} : x_rd I L 1192 = (I 14 2).toInt64 := by rw [x_rd, if_neg (by decide), if_neg (by decide)]; rfl
theorem xh_str {I : am_I} {L : am_L} {N : Nat → Int64} (h : x_R I L N) : N 1192 = (I 14 2).toInt64 := (h _ (by decide)).trans xr_str
/-- writing: all entries but E stay, and so do their cells -/
theorem x_upd {I I' : am_I} {L L' : am_L} {N N' : Nat → Int64} (h : x_R I L N) (E : List Nat) (hN : ∀ e, e ∉ E → N' e = N e)
    (hI : ∀ p s, 11 ≤ p → p ≤ 53 → p ≠ 37 → p ≠ 38 → p ≠ 47 → x_enc p s ∉ E → I' p s = I p s) (hL : ∀ p s, 11 ≤ p → p ≤ 53 → p ≠ 37 → p ≠ 38 → p ≠ 47 → x_enc p s ∉ E → L' p s = L p s)
    (hf : ∀ d, d < 30 → 385 + 4 * d ∈ E → 384 + 4 * d ∈ E) (hE : ∀ e, e ∈ E → e < 1193 → N' e = x_rd I' L' e) : x_R I' L' N' := by
  intro e he
  by_cases hm : e ∈ E
  · exact hE e hm he
  rw [hN e hm, h e he, x_rd, x_rd]
  by_cases hfl : x_fl e
  · rw [if_pos hfl, if_pos hfl]
    have hd : e = 384 + 4 * ((e - 384) / 4) := by have := hfl.2.2; have := hfl.1; omega
    have hd2 : (e - 384) / 4 < 30 := by have := hfl.2.1; omega
    have := hI 28 ((e - 384) / 4) (by decide) (by decide) (by decide) (by decide) (by decide) (fun q => hm (by rw [hd]; exact hf _ hd2 (by rw [← xe_pap_1 _ hd2]; exact q)))
    rw [this]
  · have ha := x_all e he hfl
    have hq : x_enc (x_dec e).1 (x_dec e).2 ∉ E := by rw [ha.1]; exact hm
    rw [if_neg hfl, if_neg hfl, hI _ _ ha.2.1 ha.2.2.1 ha.2.2.2.1 ha.2.2.2.2.1 ha.2.2.2.2.2 hq, hL _ _ ha.2.1 ha.2.2.1 ha.2.2.2.1 ha.2.2.2.2.1 ha.2.2.2.2.2 hq]
/-- nothing of the world has changed -/
def x_wq (I : am_I) (L : am_L) (I' : am_I) (L' : am_L) : Prop := ∀ a x, 11 ≤ a → a ≤ 53 → a ≠ 37 → a ≠ 38 → a ≠ 47 → I' a x = I a x ∧ L' a x = L a x
theorem x_R_c {I I' : am_I} {L L' : am_L} {N N' : Nat → Int64} (h : x_R I L N) (hw : x_wq I L I' L') (hN : ∀ e, e < 1193 → N' e = N e) : x_R I' L' N' := by
  intro e he
  rw [hN e he, h e he, x_rd, x_rd]
  by_cases hfl : x_fl e
  · rw [if_pos hfl, if_pos hfl, (hw 28 _ (by decide) (by decide) (by decide) (by decide) (by decide)).1]
  · have ha := x_all e he hfl
    rw [if_neg hfl, if_neg hfl, (hw _ _ ha.2.1 ha.2.2.1 ha.2.2.2.1 ha.2.2.2.2.1 ha.2.2.2.2.2).1, (hw _ _ ha.2.1 ha.2.2.1 ha.2.2.2.1 ha.2.2.2.2.1 ha.2.2.2.2.2).2]
/-! ranges -/
def x_cap : Nat → Nat
  | 0 => 1000000
  | w + 1 => x_cap w + (x_cap w / 20 + 1)
def x_led (I : am_I) (L : am_L) (np n w : Nat) : Prop := I 11 3 = nI np ∧ np ≤ 12 ∧ I 11 7 = nI n ∧ n ≤ 100 ∧ I 11 8 = nI w ∧ w < 60 ∧ (0 ≤ I 11 10 ∧ I 11 10 ≤ 50) ∧
  (∀ r, r < n → ∃ p m, p < np ∧ m < 60 ∧ I 19 r = nI p ∧ I 20 r = nI m ∧ (-1000000 ≤ I 21 r ∧ I 21 r ≤ 1000000)) ∧ (∀ p, p < 12 → 0 ≤ (L 18 p).toInt ∧ (L 18 p).toInt ≤ ((n * x_cap w : Nat) : Int)) ∧ (∀ p, p < 12 → I 17 p = 0 ∨ I 17 p = 1)
def x_pap (I : am_I) (nt nh : Nat) : Prop := I 12 7 = nI nt ∧ nt ≤ 40 ∧ I 12 10 = nI nh ∧ nh ≤ 8 ∧ ∀ t, t < nt → ∃ d f, d < 30 ∧ f < 4 ∧ I 31 t = nI d ∧ I 34 t = nI f
def x_cla (I : am_I) (np ng ns : Nat) : Prop := I 13 5 = nI ng ∧ ng ≤ 30 ∧ I 13 11 = nI ns ∧ ns ≤ 8 ∧ (∀ m, m < 60 → 1 ≤ I 39 m ∧ I 39 m ≤ 1000) ∧ (∀ g, g < ng → ∃ p q, p < np ∧ q < np ∧ I 40 g = nI p ∧ I 41 g = nI q) ∧
  (∀ s, s < ns → (1 ≤ I 44 s ∧ I 44 s ≤ 100000) ∧ (0 ≤ I 45 s ∧ I 45 s ≤ 100000) ∧ (1 ≤ I 46 s ∧ I 46 s ≤ 24))
def x_hou (I : am_I) : Prop := (∀ h, h < 8 → 0 ≤ I 48 h ∧ I 48 h ≤ 1000000) ∧ (∀ i, i < 64 → 0 ≤ I 49 i ∧ I 49 i ≤ 10000) ∧ (I 14 2 = 0 ∨ I 14 2 = 1) ∧ ∀ i, i < 12 → (0 ≤ I 24 i ∧ I 24 i ≤ 1000000) ∧ (0 ≤ I 25 i ∧ I 25 i ≤ 1000000) ∧ (0 ≤ I 26 i ∧ I 26 i ≤ 1000000) ∧ (0 ≤ I 27 i ∧ I 27 i ≤ 1000000)
def x_let (I : am_I) (nl nc : Nat) : Prop := I 15 3 = nI nl ∧ nl ≤ 20 ∧ I 15 5 = nI nc ∧ nc ≤ 40 ∧ ∀ k, k < nc → 0 ≤ I 53 k ∧ I 53 k ≤ 127
def x_ok (I : am_I) (L : am_L) : Prop := ∃ np n w nt nh ng ns nl nc, x_led I L np n w ∧ x_pap I nt nh ∧ x_cla I np ng ns ∧ x_hou I ∧ x_let I nl nc
theorem x_ok_c {I I' : am_I} {L L' : am_L} (h : x_ok I L) (hw : x_wq I L I' L') : x_ok I' L' := by
  have e11 : I' 11 = I 11 := funext fun x => (hw 11 x (by decide) (by decide) (by decide) (by decide) (by decide)).1
  have e12 : I' 12 = I 12 := funext fun x => (hw 12 x (by decide) (by decide) (by decide) (by decide) (by decide)).1
  have e13 : I' 13 = I 13 := funext fun x => (hw 13 x (by decide) (by decide) (by decide) (by decide) (by decide)).1
  have e14 : I' 14 = I 14 := funext fun x => (hw 14 x (by decide) (by decide) (by decide) (by decide) (by decide)).1
  have e15 : I' 15 = I 15 := funext fun x => (hw 15 x (by decide) (by decide) (by decide) (by decide) (by decide)).1
  have e16 : I' 16 = I 16 := funext fun x => (hw 16 x (by decide) (by decide) (by decide) (by decide) (by decide)).1
  have e17 : I' 17 = I 17 := funext fun x => (hw 17 x (by decide) (by decide) (by decide) (by decide) (by decide)).1
  have e19 : I' 19 = I 19 := funext fun x => (hw 19 x (by decide) (by decide) (by decide) (by decide) (by decide)).1
  have e20 : I' 20 = I 20 := funext fun x => (hw 20 x (by decide) (by decide) (by decide) (by decide) (by decide)).1
  have e21 : I' 21 = I 21 := funext fun x => (hw 21 x (by decide) (by decide) (by decide) (by decide) (by decide)).1
  have e24 : I' 24 = I 24 := funext fun x => (hw 24 x (by decide) (by decide) (by decide) (by decide) (by decide)).1
  have e25 : I' 25 = I 25 := funext fun x => (hw 25 x (by decide) (by decide) (by decide) (by decide) (by decide)).1
  have e26 : I' 26 = I 26 := funext fun x => (hw 26 x (by decide) (by decide) (by decide) (by decide) (by decide)).1
  have e27 : I' 27 = I 27 := funext fun x => (hw 27 x (by decide) (by decide) (by decide) (by decide) (by decide)).1
  have e31 : I' 31 = I 31 := funext fun x => (hw 31 x (by decide) (by decide) (by decide) (by decide) (by decide)).1
  have e34 : I' 34 = I 34 := funext fun x => (hw 34 x (by decide) (by decide) (by decide) (by decide) (by decide)).1
  have e39 : I' 39 = I 39 := funext fun x => (hw 39 x (by decide) (by decide) (by decide) (by decide) (by decide)).1
  have e40 : I' 40 = I 40 := funext fun x => (hw 40 x (by decide) (by decide) (by decide) (by decide) (by decide)).1
  have e41 : I' 41 = I 41 := funext fun x => (hw 41 x (by decide) (by decide) (by decide) (by decide) (by decide)).1
  have e44 : I' 44 = I 44 := funext fun x => (hw 44 x (by decide) (by decide) (by decide) (by decide) (by decide)).1
  have e45 : I' 45 = I 45 := funext fun x => (hw 45 x (by decide) (by decide) (by decide) (by decide) (by decide)).1
  have e46 : I' 46 = I 46 := funext fun x => (hw 46 x (by decide) (by decide) (by decide) (by decide) (by decide)).1
  have e48 : I' 48 = I 48 := funext fun x => (hw 48 x (by decide) (by decide) (by decide) (by decide) (by decide)).1
  have e49 : I' 49 = I 49 := funext fun x => (hw 49 x (by decide) (by decide) (by decide) (by decide) (by decide)).1
  have e53 : I' 53 = I 53 := funext fun x => (hw 53 x (by decide) (by decide) (by decide) (by decide) (by decide)).1
  have f18 : L' 18 = L 18 := funext fun x => (hw 18 x (by decide) (by decide) (by decide) (by decide) (by decide)).2
  rw [x_ok] at h ⊢
  simp only [x_led, x_pap, x_cla, x_hou, x_let, f18, e11, e12, e13, e14, e15, e16, e17, e19, e20, e21, e24, e25, e26, e27, e31, e34, e39, e40, e41, e44, e45, e46, e48, e49, e53] at h ⊢
  exact h
/-- a world that lies b places further on -/
def x_V {α : Type} (I : Nat → Nat → α) (b : Nat) : Nat → Nat → α := fun a x => I (a + b) x
def x_img (xc : Nat → Int32) (I : am_I) (L : am_L) (i : Nat) : Prop := I 193 i = xc i ∧ (I 193 i = 1 → x_R (x_V I (50 * (i + 1))) (x_V L (50 * (i + 1))) (fun e => L 192 (1200 * i + e)) ∧ x_ok (x_V I (50 * (i + 1))) (x_V L (50 * (i + 1))))
def x_rec (I : am_I) : Prop := ∃ nr, nr ≤ 100 ∧ I 2 4 = nI nr ∧ I 190 20 = nI nr ∧ (∀ r, r < nr → I 202 (3 * r) = I 3 r ∧ I 202 (3 * r + 1) = I 4 r ∧ I 202 (3 * r + 2) = I 5 r) ∧ (nr = 0 → I 2 5 = 5 ∧ I 2 6 = 7) ∧ (¬ nr = 0 → I 2 5 = I 190 21 ∧ I 2 6 = I 190 22)
def x_fra (L : am_L) : Prop := L 191 1193 = L 7 0 ∧ L 191 1194 = L 7 1
def x_nms (L : am_L) : Prop := ∀ x, x < 7 → L 185 x = L 201 x
def x_cac (I : am_I) (L : am_L) : Prop := (c_cachea I L ∧ c_cacheb I L) ∧ I 164 0 = 0 ∧ I 174 0 = 1
/-- xc: which images there are -/
def x_Inv (xc : Nat → Int32) (I : am_I) (L : am_L) : Prop := x_R I L (L 191) ∧ x_fra L ∧ x_ok I L ∧ (x_img xc I L 0 ∧ x_img xc I L 1) ∧ x_rec I ∧ x_cac I L ∧ x_nms L
/-- what the two sides do in between: only cells that no answer hangs on -/
def x_sm (I : am_I) (L : am_L) (I' : am_I) (L' : am_L) : Prop := (∀ a x, a ≠ 6 → a ≠ 37 → a ≠ 38 → (a < 184 ∨ 186 < a) → a ≠ 200 → (a ≠ 190 ∨ 20 ≤ x) → I' a x = I a x) ∧ ∀ a x, a ≠ 47 → a ≠ 160 → a ≠ 161 → a ≠ 162 → a ≠ 190 → (a < 194 ∨ 199 < a) → L' a x = L a x
