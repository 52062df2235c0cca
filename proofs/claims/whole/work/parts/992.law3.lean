/-! the law's cases image and from -/
/-- the world of the run: which images there are, what is still free -/
def la_W (xc : Nat → Int32) (g : am_G) (R : am_R) : Prop := g.1.Nodup ∧ am_st g.1 R ∧ ((xc 0 = 0 ∧ R 1 0 = none ∧ ct_F (fun x => x = 60 ∨ nF_60 x) g.1 R) ∨ (xc 0 = 1 ∧ R 1 0 = some 60 ∧ am_st1 g.1 R)) ∧ ((xc 1 = 0 ∧ R 1 1 = none ∧ ct_F (fun x => x = 110 ∨ nF_110 x) g.1 R) ∨ (xc 1 = 1 ∧ R 1 1 = some 110 ∧ am_st2 g.1 R)) ∧ g.2.1 + (if xc 0 = 0 then 44 else 0) + (if xc 1 = 0 then 44 else 0) ≤ 1000 ∧ g.2.2 + (if xc 0 = 0 then 1298 else 0) + (if xc 1 = 0 then 1298 else 0) ≤ 100000
def la_G (g : am_G) (h : am_H) : Prop := ∃ (xc : Nat → Int32) (I : am_I) (L : am_L) (R : am_R), h = (I, L, R) ∧ x_Inv xc I L ∧ la_W xc g R
theorem la_i01 {a : Int32} (h : (0 : Int32) ≤ a ∧ a ≤ 1) : a = nI 0 ∨ a = nI 1 := by
  have h1 := Int32.le_iff_toInt_le.mp h.1
  have h2 := Int32.le_iff_toInt_le.mp h.2
  have z0 : (0 : Int32).toInt = 0 := by decide
  have z1 : (1 : Int32).toInt = 1 := by decide
  rw [z0] at h1
  rw [z1] at h2
  rcases (show a.toInt = 0 ∨ a.toInt = 1 by omega) with e | e
  · exact Or.inl (Int32.toInt_inj.mp (by rw [e]; decide))
  · exact Or.inr (Int32.toInt_inj.mp (by rw [e]; decide))
theorem x_st_same {xc : Nat → Int32} {i : Nat} (h : xc i = 1) : x_st xc i = xc := by
  funext j
  by_cases e : j = i
  · rw [e, h]; exact if_pos rfl
  · exact if_neg e
theorem la_W_new1 {xc : Nat → Int32} {g : am_G} {R R' : am_R} {al' : List Nat} (hW : la_W xc g R) (h0 : xc 0 = 0) (st : am_st1 al' R') (im : am_im 60 0 (fun x => x = 60 ∨ nF_60 x) g.1 R al' R') : la_W (x_st xc 0) (al', g.2.1 + 44, g.2.2 + 1298) R' := by
  obtain ⟨w1, w2, w3, w4, w5, w6⟩ := hW
  have ej : x_st xc 0 1 = xc 1 := if_neg (by decide)
  have ei : x_st xc 0 0 = 1 := if_pos rfl
  refine ⟨im.1, st_keep im am_ba am_sr (by decide +kernel) w2, Or.inr ⟨if_pos rfl, im.2.2.1, st⟩, ?_, ?_, ?_⟩
  · rw [ej]
    rcases w4 with ⟨q1, q2, q3⟩ | ⟨q1, q2, q3⟩
    · refine Or.inl ⟨q1, (im.2.2.2.1 1 1 (Or.inr (by decide)) (by decide)).trans q2, fun x hx => ⟨fun q => ?_, fun a k e => ?_⟩⟩
      · rcases (im.2.1 x).mp q with q | q
        · exact (q3 x hx).1 q
        · simp only [nF_60, nF_110] at hx q; omega
      · rcases im.2.2.2.2 a k x e with q | q | q
        · exact (q3 x hx).2 a k q
        · simp only [nF_60, nF_110] at hx q; omega
        · exact (q3 x hx).1 q
    · exact Or.inr ⟨q1, (im.2.2.2.1 1 1 (Or.inr (by decide)) (by decide)).trans q2, st_keep im am_ba2 am_sr2 (by decide +kernel) q3⟩
  · rw [h0] at w5
    rw [ej, ei, if_neg (show ¬ ((1 : Int32) = 0) by decide)]
    simp only [if_true] at w5
    show g.2.1 + 44 + _ + _ ≤ 1000
    omega
  · rw [h0] at w6
    rw [ej, ei, if_neg (show ¬ ((1 : Int32) = 0) by decide)]
    simp only [if_true] at w6
    show g.2.2 + 1298 + _ + _ ≤ 100000
    omega
theorem la_W_new2 {xc : Nat → Int32} {g : am_G} {R R' : am_R} {al' : List Nat} (hW : la_W xc g R) (h0 : xc 1 = 0) (st : am_st2 al' R') (im : am_im 110 1 (fun x => x = 110 ∨ nF_110 x) g.1 R al' R') : la_W (x_st xc 1) (al', g.2.1 + 44, g.2.2 + 1298) R' := by
  obtain ⟨w1, w2, w3, w4, w5, w6⟩ := hW
  have ej : x_st xc 1 0 = xc 0 := if_neg (by decide)
  have ei : x_st xc 1 1 = 1 := if_pos rfl
  refine ⟨im.1, st_keep im am_ba am_sr (by decide +kernel) w2, ?_, Or.inr ⟨if_pos rfl, im.2.2.1, st⟩, ?_, ?_⟩
  · rw [ej]
    rcases w3 with ⟨q1, q2, q3⟩ | ⟨q1, q2, q3⟩
    · refine Or.inl ⟨q1, (im.2.2.2.1 1 0 (Or.inr (by decide)) (by decide)).trans q2, fun x hx => ⟨fun q => ?_, fun a k e => ?_⟩⟩
      · rcases (im.2.1 x).mp q with q | q
        · exact (q3 x hx).1 q
        · simp only [nF_60, nF_110] at hx q; omega
      · rcases im.2.2.2.2 a k x e with q | q | q
        · exact (q3 x hx).2 a k q
        · simp only [nF_60, nF_110] at hx q; omega
        · exact (q3 x hx).1 q
    · exact Or.inr ⟨q1, (im.2.2.2.1 1 0 (Or.inr (by decide)) (by decide)).trans q2, st_keep im am_ba1 am_sr1 (by decide +kernel) q3⟩
  · rw [h0] at w5
    rw [ej, ei, if_neg (show ¬ ((1 : Int32) = 0) by decide)]
    simp only [if_true] at w5
    show g.2.1 + 44 + _ + _ ≤ 1000
    omega
  · rw [h0] at w6
    rw [ej, ei, if_neg (show ¬ ((1 : Int32) = 0) by decide)]
    simp only [if_true] at w6
    show g.2.2 + 1298 + _ + _ ≤ 100000
    omega
section LI
variable {xs : Nat → Int32} {Lx n : Nat} {g : am_G} {xc : Nat → Int32} {I : am_I} {L : am_L} {R : am_R}
theorem dl_42 : am_dcs code [(1618, .aload_n 1, 1), (1619, .aload_n 0, 1), (1620, .iload_n 3, 1), (1621, .iconst 1, 1), (1622, .iadd, 1), (1623, .iaload, 1), (1624, .invokevirtual 193, 3), (1627, .aload_n 2, 1), (1628, .aload_n 0, 1), (1629, .iload_n 3, 1), (1630, .iconst 1, 1), (1631, .iadd, 1), (1632, .iaload, 1), (1633, .invokevirtual 196, 3), (1636, .if_icmp .eq 65, 3), (1639, .iconst 0, 1), (1640, .ireturn, 1)] = true := by decide +kernel
theorem la_tail_42 (hn : n + 6 ≤ Lx) (hL : Lx ≤ 3072) {v : Int32} {I1 : am_I} {L1 : am_L} (hq : x_Q xc M_X12_image 1 [.ref 190, .int (xs (n + 1))] (some (.int v)) I1 L1) (hW : la_W xc g R) (kk : ∀ g' h', la_G g' h' → la_OK xs Lx g' h' 1701 (la_l n) []) : la_OK xs Lx g (I1, L1, R) 1627 (la_l n) [.int v] := by
  have hS := hW.2.1
  have hc : g.2.1 ≤ 600000 := by have := hW.2.2.2.2.1; omega
  have hs : g.2.2 ≤ 7302250 := by have := hW.2.2.2.2.2; omega
  exact (show la_OK xs Lx g (I1, L1, _) _ (la_l n) [.int v] from la_aload_n 2 rfl rfl (dg dl_42 7 rfl) <| la_arg (j := 1) hn hL (by decide) (by decide) (dg dl_42 8 rfl) (dg dl_42 9 rfl) (dg dl_42 10 rfl) (dg dl_42 11 rfl) (dg dl_42 12 rfl) <| la_invK (as := [.int (xs (n + 1))]) (show am_K M_X12_image _ _ I1 L1 _ from hq) hS cw_X12_image (tb_7 (i := 152) (by decide +kernel)) ins_X12_image sel_X12_image cls_12 rfl ly_190 (ba_190 hS) rfl (Nat.le_of_ble_eq_true rfl) hc hs (Nat.le_of_ble_eq_true rfl) (dg dl_42 13 rfl) (fun r2 I2 L2 hq2 _ => by
      obtain ⟨rfl, h2⟩ := hq2
      exact (show la_OK xs Lx g (I2, L2, _) _ (la_l n) [.int v, .int v] from la_icmp_eq (tgt := 1701) rfl (dg dl_42 14 rfl) (fun _ => kk _ _ ⟨xc, I2, L2, R, rfl, h2, hW⟩) (fun q => absurd rfl q))))
set_option maxHeartbeats 2000000 in
theorem la_case_42 (hn : n + 6 ≤ Lx) (hL : Lx ≤ 3072) (h : x_Inv xc I L) (hW : la_W xc g R) (kk : ∀ g' h', la_G g' h' → la_OK xs Lx g' h' 1701 (la_l n) []) : la_OK xs Lx g (I, L, R) 1618 (la_l n) [] := by
  have hS := hW.2.1
  have hc : g.2.1 ≤ 600000 := by have := hW.2.2.2.2.1; omega
  have hs : g.2.2 ≤ 7302250 := by have := hW.2.2.2.2.2; omega
  by_cases ha : (0 : Int32) ≤ xs (n + 1) ∧ xs (n + 1) ≤ 1
  · rcases la_i01 ha with e | e
    · rcases hW.2.2.1 with ⟨q1, q2, q3⟩ | ⟨q1, q2, q3⟩
      · have hM : am_C M_X11_image 3 44 1298 (fun x => ¬ (fun x => x = 60 ∨ nF_60 x) x) g.1 [.ref 0, .int (xs (n + 1))] (I, L, R) (fun r h' al' => ∃ (I' : am_I) (L' : am_L) (R' : am_R), h' = (I', L', R') ∧ x_Q (x_st xc 0) M_X12_image 1 [.ref 190, .int (xs (n + 1))] r I' L' ∧ am_sh (some .int) r ∧ am_st1 al' R' ∧ am_im 60 0 (fun x => x = 60 ∨ nF_60 x) g.1 R al' R') := by
          rw [e]; exact x_image_n1 h hS hW.1 q2 q3
        have w5 := hW.2.2.2.2.1
        have w6 := hW.2.2.2.2.2
        rw [q1] at w5 w6
        simp only [if_true] at w5 w6
        exact la_aload_n 1 rfl rfl (dg dl_42 0 rfl) <| la_arg (j := 1) hn hL (by decide) (by decide) (dg dl_42 1 rfl) (dg dl_42 2 rfl) (dg dl_42 3 rfl) (dg dl_42 4 rfl) (dg dl_42 5 rfl) <| la_invV (as := [.int (xs (n + 1))]) hM cw_X11_image (tb_5 (i := 108) (by decide +kernel)) ins_X11_image sel_X11_image cls_11 rfl ly_0 (ba_0 hS) rfl (Nat.le_of_ble_eq_true rfl) (by omega) (by omega) (Nat.le_of_ble_eq_true rfl) ⟨by simp, by simp⟩ (by simp) (dg dl_42 6 rfl) (fun r h1 al1 hq => by
          obtain ⟨I1, L1, R1, rfl, hq, hsh, st, im⟩ := hq
          obtain ⟨v, rfl⟩ := hsh.1 rfl
          exact la_tail_42 hn hL hq (la_W_new1 hW q1 st im) kk)
      · have hK : am_KS am_s1x M_X11_image 3 [.ref 0, .int (xs (n + 1))] I L (x_Q xc M_X12_image 1 [.ref 190, .int (xs (n + 1))]) := by
          rw [e]
          have := x_image_1 h
          rw [x_st_same q1] at this
          exact this
        exact la_aload_n 1 rfl rfl (dg dl_42 0 rfl) <| la_arg (j := 1) hn hL (by decide) (by decide) (dg dl_42 1 rfl) (dg dl_42 2 rfl) (dg dl_42 3 rfl) (dg dl_42 4 rfl) (dg dl_42 5 rfl) <| la_invK (as := [.int (xs (n + 1))]) hK ⟨⟨hS, q3⟩, q2⟩ cw_X11_image (tb_5 (i := 108) (by decide +kernel)) ins_X11_image sel_X11_image cls_11 rfl ly_0 (ba_0 hS) rfl (Nat.le_of_ble_eq_true rfl) hc hs (Nat.le_of_ble_eq_true rfl) (dg dl_42 6 rfl) (fun r I1 L1 hq hsh => by
          obtain ⟨v, rfl⟩ := hsh.1 rfl
          exact la_tail_42 hn hL hq hW kk)
    · rcases hW.2.2.2.1 with ⟨q1, q2, q3⟩ | ⟨q1, q2, q3⟩
      · have hM : am_C M_X11_image 3 44 1298 (fun x => ¬ (fun x => x = 110 ∨ nF_110 x) x) g.1 [.ref 0, .int (xs (n + 1))] (I, L, R) (fun r h' al' => ∃ (I' : am_I) (L' : am_L) (R' : am_R), h' = (I', L', R') ∧ x_Q (x_st xc 1) M_X12_image 1 [.ref 190, .int (xs (n + 1))] r I' L' ∧ am_sh (some .int) r ∧ am_st2 al' R' ∧ am_im 110 1 (fun x => x = 110 ∨ nF_110 x) g.1 R al' R') := by
          rw [e]; exact x_image_n2 h hS hW.1 q2 q3
        have w5 := hW.2.2.2.2.1
        have w6 := hW.2.2.2.2.2
        rw [q1] at w5 w6
        simp only [if_true] at w5 w6
        exact la_aload_n 1 rfl rfl (dg dl_42 0 rfl) <| la_arg (j := 1) hn hL (by decide) (by decide) (dg dl_42 1 rfl) (dg dl_42 2 rfl) (dg dl_42 3 rfl) (dg dl_42 4 rfl) (dg dl_42 5 rfl) <| la_invV (as := [.int (xs (n + 1))]) hM cw_X11_image (tb_5 (i := 108) (by decide +kernel)) ins_X11_image sel_X11_image cls_11 rfl ly_0 (ba_0 hS) rfl (Nat.le_of_ble_eq_true rfl) (by omega) (by omega) (Nat.le_of_ble_eq_true rfl) ⟨by simp, by simp⟩ (by simp) (dg dl_42 6 rfl) (fun r h1 al1 hq => by
          obtain ⟨I1, L1, R1, rfl, hq, hsh, st, im⟩ := hq
          obtain ⟨v, rfl⟩ := hsh.1 rfl
          exact la_tail_42 hn hL hq (la_W_new2 hW q1 st im) kk)
      · have hK : am_KS am_s2x M_X11_image 3 [.ref 0, .int (xs (n + 1))] I L (x_Q xc M_X12_image 1 [.ref 190, .int (xs (n + 1))]) := by
          rw [e]
          have := x_image_2 h
          rw [x_st_same q1] at this
          exact this
        exact la_aload_n 1 rfl rfl (dg dl_42 0 rfl) <| la_arg (j := 1) hn hL (by decide) (by decide) (dg dl_42 1 rfl) (dg dl_42 2 rfl) (dg dl_42 3 rfl) (dg dl_42 4 rfl) (dg dl_42 5 rfl) <| la_invK (as := [.int (xs (n + 1))]) hK ⟨⟨hS, q3⟩, q2⟩ cw_X11_image (tb_5 (i := 108) (by decide +kernel)) ins_X11_image sel_X11_image cls_11 rfl ly_0 (ba_0 hS) rfl (Nat.le_of_ble_eq_true rfl) hc hs (Nat.le_of_ble_eq_true rfl) (dg dl_42 6 rfl) (fun r I1 L1 hq hsh => by
          obtain ⟨v, rfl⟩ := hsh.1 rfl
          exact la_tail_42 hn hL hq hW kk)
  · exact la_aload_n 1 rfl rfl (dg dl_42 0 rfl) <| la_arg (j := 1) hn hL (by decide) (by decide) (dg dl_42 1 rfl) (dg dl_42 2 rfl) (dg dl_42 3 rfl) (dg dl_42 4 rfl) (dg dl_42 5 rfl) <| la_invK (as := [.int (xs (n + 1))]) (x_image_r (S := am_st) (fun _ _ q => q) h ha) hS cw_X11_image (tb_5 (i := 108) (by decide +kernel)) ins_X11_image sel_X11_image cls_11 rfl ly_0 (ba_0 hS) rfl (Nat.le_of_ble_eq_true rfl) hc hs (Nat.le_of_ble_eq_true rfl) (dg dl_42 6 rfl) (fun r I1 L1 hq hsh => by
      obtain ⟨v, rfl⟩ := hsh.1 rfl
      exact la_tail_42 hn hL hq hW kk)
theorem dl_43 : am_dcs code [(1641, .aload_n 1, 1), (1642, .aload_n 0, 1), (1643, .iload_n 3, 1), (1644, .iconst 1, 1), (1645, .iadd, 1), (1646, .iaload, 1), (1647, .invokevirtual 197, 3), (1650, .aload_n 2, 1), (1651, .aload_n 0, 1), (1652, .iload_n 3, 1), (1653, .iconst 1, 1), (1654, .iadd, 1), (1655, .iaload, 1), (1656, .invokevirtual 200, 3), (1659, .if_icmp .eq 42, 3), (1662, .iconst 0, 1), (1663, .ireturn, 1)] = true := by decide +kernel
theorem la_tail_43 (hn : n + 6 ≤ Lx) (hL : Lx ≤ 3072) {v : Int32} {I1 : am_I} {L1 : am_L} (hq : x_Q xc M_X12_from 1 [.ref 190, .int (xs (n + 1))] (some (.int v)) I1 L1) (hW : la_W xc g R) (kk : ∀ g' h', la_G g' h' → la_OK xs Lx g' h' 1701 (la_l n) []) : la_OK xs Lx g (I1, L1, R) 1650 (la_l n) [.int v] := by
  have hS := hW.2.1
  have hc : g.2.1 ≤ 600000 := by have := hW.2.2.2.2.1; omega
  have hs : g.2.2 ≤ 7302250 := by have := hW.2.2.2.2.2; omega
  exact (show la_OK xs Lx g (I1, L1, _) _ (la_l n) [.int v] from la_aload_n 2 rfl rfl (dg dl_43 7 rfl) <| la_arg (j := 1) hn hL (by decide) (by decide) (dg dl_43 8 rfl) (dg dl_43 9 rfl) (dg dl_43 10 rfl) (dg dl_43 11 rfl) (dg dl_43 12 rfl) <| la_invK (as := [.int (xs (n + 1))]) (show am_K M_X12_from _ _ I1 L1 _ from hq) hS cw_X12_from (tb_7 (i := 156) (by decide +kernel)) ins_X12_from sel_X12_from cls_12 rfl ly_190 (ba_190 hS) rfl (Nat.le_of_ble_eq_true rfl) hc hs (Nat.le_of_ble_eq_true rfl) (dg dl_43 13 rfl) (fun r2 I2 L2 hq2 _ => by
      obtain ⟨rfl, h2⟩ := hq2
      exact (show la_OK xs Lx g (I2, L2, _) _ (la_l n) [.int v, .int v] from la_icmp_eq (tgt := 1701) rfl (dg dl_43 14 rfl) (fun _ => kk _ _ ⟨xc, I2, L2, R, rfl, h2, hW⟩) (fun q => absurd rfl q))))
set_option maxHeartbeats 2000000 in
theorem la_case_43 (hn : n + 6 ≤ Lx) (hL : Lx ≤ 3072) (h : x_Inv xc I L) (hW : la_W xc g R) (kk : ∀ g' h', la_G g' h' → la_OK xs Lx g' h' 1701 (la_l n) []) : la_OK xs Lx g (I, L, R) 1641 (la_l n) [] := by
  have hS := hW.2.1
  have hc : g.2.1 ≤ 600000 := by have := hW.2.2.2.2.1; omega
  have hs : g.2.2 ≤ 7302250 := by have := hW.2.2.2.2.2; omega
  by_cases ha : (0 : Int32) ≤ xs (n + 1) ∧ xs (n + 1) ≤ 1
  · rcases la_i01 ha with e | e
    · rcases hW.2.2.1 with ⟨q1, q2, q3⟩ | ⟨q1, q2, q3⟩
      · have hK : am_KS (fun al R => am_st al R ∧ R 1 0 = none) M_X11_from 3 [.ref 0, .int (xs (n + 1))] I L (x_Q xc M_X12_from 1 [.ref 190, .int (xs (n + 1))]) := by
          rw [e]; exact x_from_0 (fun al R q => q.1) (by decide) (fun al R q => q.2) h (h.2.2.2.1.1.1.trans q1)
        exact la_aload_n 1 rfl rfl (dg dl_43 0 rfl) <| la_arg (j := 1) hn hL (by decide) (by decide) (dg dl_43 1 rfl) (dg dl_43 2 rfl) (dg dl_43 3 rfl) (dg dl_43 4 rfl) (dg dl_43 5 rfl) <| la_invK (as := [.int (xs (n + 1))]) hK ⟨hS, q2⟩ cw_X11_from (tb_5 (i := 141) (by decide +kernel)) ins_X11_from sel_X11_from cls_11 rfl ly_0 (ba_0 hS) rfl (Nat.le_of_ble_eq_true rfl) hc hs (Nat.le_of_ble_eq_true rfl) (dg dl_43 6 rfl) (fun r I1 L1 hq hsh => by
          obtain ⟨v, rfl⟩ := hsh.1 rfl
          exact la_tail_43 hn hL hq hW kk)
      · have hK : am_KS am_s1x M_X11_from 3 [.ref 0, .int (xs (n + 1))] I L (x_Q xc M_X12_from 1 [.ref 190, .int (xs (n + 1))]) := by
          rw [e]; exact x_from_1 h (h.2.2.2.1.1.1.trans q1)
        exact la_aload_n 1 rfl rfl (dg dl_43 0 rfl) <| la_arg (j := 1) hn hL (by decide) (by decide) (dg dl_43 1 rfl) (dg dl_43 2 rfl) (dg dl_43 3 rfl) (dg dl_43 4 rfl) (dg dl_43 5 rfl) <| la_invK (as := [.int (xs (n + 1))]) hK ⟨⟨hS, q3⟩, q2⟩ cw_X11_from (tb_5 (i := 141) (by decide +kernel)) ins_X11_from sel_X11_from cls_11 rfl ly_0 (ba_0 hS) rfl (Nat.le_of_ble_eq_true rfl) hc hs (Nat.le_of_ble_eq_true rfl) (dg dl_43 6 rfl) (fun r I1 L1 hq hsh => by
          obtain ⟨v, rfl⟩ := hsh.1 rfl
          exact la_tail_43 hn hL hq hW kk)
    · rcases hW.2.2.2.1 with ⟨q1, q2, q3⟩ | ⟨q1, q2, q3⟩
      · have hK : am_KS (fun al R => am_st al R ∧ R 1 1 = none) M_X11_from 3 [.ref 0, .int (xs (n + 1))] I L (x_Q xc M_X12_from 1 [.ref 190, .int (xs (n + 1))]) := by
          rw [e]; exact x_from_0 (fun al R q => q.1) (by decide) (fun al R q => q.2) h (h.2.2.2.1.2.1.trans q1)
        exact la_aload_n 1 rfl rfl (dg dl_43 0 rfl) <| la_arg (j := 1) hn hL (by decide) (by decide) (dg dl_43 1 rfl) (dg dl_43 2 rfl) (dg dl_43 3 rfl) (dg dl_43 4 rfl) (dg dl_43 5 rfl) <| la_invK (as := [.int (xs (n + 1))]) hK ⟨hS, q2⟩ cw_X11_from (tb_5 (i := 141) (by decide +kernel)) ins_X11_from sel_X11_from cls_11 rfl ly_0 (ba_0 hS) rfl (Nat.le_of_ble_eq_true rfl) hc hs (Nat.le_of_ble_eq_true rfl) (dg dl_43 6 rfl) (fun r I1 L1 hq hsh => by
          obtain ⟨v, rfl⟩ := hsh.1 rfl
          exact la_tail_43 hn hL hq hW kk)
      · have hK : am_KS am_s2x M_X11_from 3 [.ref 0, .int (xs (n + 1))] I L (x_Q xc M_X12_from 1 [.ref 190, .int (xs (n + 1))]) := by
          rw [e]; exact x_from_2 h (h.2.2.2.1.2.1.trans q1)
        exact la_aload_n 1 rfl rfl (dg dl_43 0 rfl) <| la_arg (j := 1) hn hL (by decide) (by decide) (dg dl_43 1 rfl) (dg dl_43 2 rfl) (dg dl_43 3 rfl) (dg dl_43 4 rfl) (dg dl_43 5 rfl) <| la_invK (as := [.int (xs (n + 1))]) hK ⟨⟨hS, q3⟩, q2⟩ cw_X11_from (tb_5 (i := 141) (by decide +kernel)) ins_X11_from sel_X11_from cls_11 rfl ly_0 (ba_0 hS) rfl (Nat.le_of_ble_eq_true rfl) hc hs (Nat.le_of_ble_eq_true rfl) (dg dl_43 6 rfl) (fun r I1 L1 hq hsh => by
          obtain ⟨v, rfl⟩ := hsh.1 rfl
          exact la_tail_43 hn hL hq hW kk)
  · exact la_aload_n 1 rfl rfl (dg dl_43 0 rfl) <| la_arg (j := 1) hn hL (by decide) (by decide) (dg dl_43 1 rfl) (dg dl_43 2 rfl) (dg dl_43 3 rfl) (dg dl_43 4 rfl) (dg dl_43 5 rfl) <| la_invK (as := [.int (xs (n + 1))]) (x_from_r (S := am_st) (fun _ _ q => q) h ha) hS cw_X11_from (tb_5 (i := 141) (by decide +kernel)) ins_X11_from sel_X11_from cls_11 rfl ly_0 (ba_0 hS) rfl (Nat.le_of_ble_eq_true rfl) hc hs (Nat.le_of_ble_eq_true rfl) (dg dl_43 6 rfl) (fun r I1 L1 hq hsh => by
      obtain ⟨v, rfl⟩ := hsh.1 rfl
      exact la_tail_43 hn hL hq hW kk)
end LI
