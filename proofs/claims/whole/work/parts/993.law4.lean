/-! the law's switch and loop -/
theorem dl_sw : am_dcs code [(33, .tableswitch 1668 0 45 #[199, 248, 281, 314, 347, 370, 394, 418, 481, 504, 557, 610, 633, 646, 699, 762, 786, 819, 853, 897, 920, 953, 1006, 1039, 1073, 1106, 1149, 1188, 1221, 1254, 1297, 1320, 1333, 1346, 1360, 1384, 1417, 1440, 1483, 1516, 1529, 1562, 1585, 1608, 1631, 1654], 199)] = true := by decide +kernel
theorem dl_hd : am_dcs code [(18, .iload_n 3, 1), (19, .aload_n 0, 1), (20, .arraylength, 1), (21, .bipush 6, 2), (23, .isub, 1), (24, .if_icmp .gt 1683, 3), (27, .aload_n 0, 1), (28, .iload_n 3, 1), (29, .iaload, 1), (30, .bipush 63, 2), (32, .iand, 1), (1701, .iinc 3 6, 3), (1704, .goto (-1686), 3), (1707, .iconst 1, 1), (1708, .ireturn, 1)] = true := by decide +kernel
def la_tg : List Nat := [232, 281, 314, 347, 380, 403, 427, 451, 514, 537, 590, 643, 666, 679, 732, 795, 819, 852, 886, 930, 953, 986, 1039, 1072, 1106, 1139, 1182, 1221, 1254, 1287, 1330, 1353, 1366, 1379, 1393, 1417, 1450, 1473, 1516, 1549, 1562, 1595, 1618, 1641, 1664, 1687]
def la_of : Array Int := #[199, 248, 281, 314, 347, 370, 394, 418, 481, 504, 557, 610, 633, 646, 699, 762, 786, 819, 853, 897, 920, 953, 1006, 1039, 1073, 1106, 1149, 1188, 1221, 1254, 1297, 1320, 1333, 1346, 1360, 1384, 1417, 1440, 1483, 1516, 1529, 1562, 1585, 1608, 1631, 1654]
theorem la_ot : ∀ k, k < 46 → la_of[k]? = some ((la_tg.getD k 0 : Int) - 33) := by decide +kernel
section LS
variable {xs : Nat → Int32} {Lx n : Nat} {g : am_G} {h : am_H} {l : List (Nat × Value)}
theorem la_switch {v : Int32} (kin : ∀ k, k < 46 → la_OK xs Lx g h (la_tg.getD k 0) l []) (kout : la_OK xs Lx g h 1701 l []) : la_OK xs Lx g h 33 l [.int v] := by
  have dsw : decode code 33 = .ok (.tableswitch 1668 0 45 la_of, 199) := dg dl_sw 0 rfl
  by_cases h1 : v.toInt < 0
  · exact la_tableOut (tgt := 1701) (Or.inl h1) rfl dsw kout
  · by_cases h2 : 45 < v.toInt
    · exact la_tableOut (tgt := 1701) (Or.inr h2) rfl dsw kout
    · obtain ⟨k, hk, e⟩ : ∃ k, k < 46 ∧ (v.toInt - 0).toNat = k := ⟨_, by omega, rfl⟩
      exact la_tableIn (tgt := la_tg.getD k 0) h1 h2 (by rw [e]; exact la_ot k hk) (by omega) dsw (kin k hk)
theorem la_cases {xc : Nat → Int32} {I : am_I} {L : am_L} {R : am_R} (hn : n + 6 ≤ Lx) (hL : Lx ≤ 3072) (h : x_Inv xc I L) (hW : la_W xc g R) (kk : ∀ g' h', la_G g' h' → la_OK xs Lx g' h' 1701 (la_l n) []) : ∀ k, k < 46 → la_OK xs Lx g (I, L, R) (la_tg.getD k 0) (la_l n) [] := by
  have hS := hW.2.1
  have hc : g.2.1 ≤ 600000 := by have := hW.2.2.2.2.1; omega
  have hs : g.2.2 ≤ 7302250 := by have := hW.2.2.2.2.2; omega
  have k2 : ∀ I' L', x_Inv xc I' L' → la_OK xs Lx g (I', L', R) 1701 (la_l n) [] := fun I' L' h' => kk _ _ ⟨xc, I', L', R, rfl, h', hW⟩
  intro k hk
  match k, hk with
  | 0, _ => exact la_case_0 hn hL hc hs h hS k2
  | 1, _ => exact la_case_1 hn hL hc hs h hS k2
  | 2, _ => exact la_case_2 hn hL hc hs h hS k2
  | 3, _ => exact la_case_3 hn hL hc hs h hS k2
  | 4, _ => exact la_case_4 hn hL hc hs h hS k2
  | 5, _ => exact la_case_5 hn hL hc hs h hS k2
  | 6, _ => exact la_case_6 hn hL hc hs h hS k2
  | 7, _ => exact la_case_7 hn hL hc hs h hS k2
  | 8, _ => exact la_case_8 hn hL hc hs h hS k2
  | 9, _ => exact la_case_9 hn hL hc hs h hS k2
  | 10, _ => exact la_case_10 hn hL hc hs h hS k2
  | 11, _ => exact la_case_11 hn hL hc hs h hS k2
  | 12, _ => exact la_case_12 hn hL hc hs h hS k2
  | 13, _ => exact la_case_13 hn hL hc hs h hS k2
  | 14, _ => exact la_case_14 hn hL hc hs h hS k2
  | 15, _ => exact la_case_15 hn hL hc hs h hS k2
  | 16, _ => exact la_case_16 hn hL hc hs h hS k2
  | 17, _ => exact la_case_17 hn hL hc hs h hS k2
  | 18, _ => exact la_case_18 hn hL hc hs h hS k2
  | 19, _ => exact la_case_19 hn hL hc hs h hS k2
  | 20, _ => exact la_case_20 hn hL hc hs h hS k2
  | 21, _ => exact la_case_21 hn hL hc hs h hS k2
  | 22, _ => exact la_case_22 hn hL hc hs h hS k2
  | 23, _ => exact la_case_23 hn hL hc hs h hS k2
  | 24, _ => exact la_case_24 hn hL hc hs h hS k2
  | 25, _ => exact la_case_25 hn hL hc hs h hS k2
  | 26, _ => exact la_case_26 hn hL hc hs h hS k2
  | 27, _ => exact la_case_27 hn hL hc hs h hS k2
  | 28, _ => exact la_case_28 hn hL hc hs h hS k2
  | 29, _ => exact la_case_29 hn hL hc hs h hS k2
  | 30, _ => exact la_case_30 hn hL hc hs h hS k2
  | 31, _ => exact la_case_31 hn hL hc hs h hS k2
  | 32, _ => exact la_case_32 hn hL hc hs h hS k2
  | 33, _ => exact la_case_33 hn hL hc hs h hS k2
  | 34, _ => exact la_case_34 hn hL hc hs h hS k2
  | 35, _ => exact la_case_35 hn hL hc hs h hS k2
  | 36, _ => exact la_case_36 hn hL hc hs h hS k2
  | 37, _ => exact la_case_37 hn hL hc hs h hS k2
  | 38, _ => exact la_case_38 hn hL hc hs h hS k2
  | 39, _ => exact la_case_39 hn hL hc hs h hS k2
  | 40, _ => exact la_case_40 hn hL hc hs h hS k2
  | 41, _ => exact la_case_41 hn hL hc hs h hS k2
  | 42, _ => exact la_case_42 hn hL h hW kk
  | 43, _ => exact la_case_43 hn hL h hW kk
  | 44, _ => exact la_case_44 hn hL hc hs h hS k2
  | 45, _ => exact la_case_45 hn hL hc hs h hS k2
  | k + 46, hk => exact absurd hk (by omega)
theorem la_cond (hL : Lx ≤ 3072) (hn : n ≤ 3078) (c : ¬ (nI Lx - 6 < nI n)) : n + 6 ≤ Lx := by
  by_cases q : n + 6 ≤ Lx
  · exact q
  · exfalso
    apply c
    by_cases r : 6 ≤ Lx
    · have e : nI Lx - 6 = nI (Lx - 6) := by
        have h1 : nI (Lx - 6) + nI 6 = nI Lx := by rw [nI_add, Nat.sub_add_cancel r]
        rw [← h1, show (6 : Int32) = nI 6 from by decide]
        exact Int32.add_sub_cancel _ _
      rw [e]; exact nI_lt (by omega) (by omega)
    · have h1 : ∀ k, k < 6 → nI k - 6 < 0 := by decide
      exact Int32.lt_of_lt_of_le (h1 Lx (by omega)) (nI_pos' (by omega))
theorem la_loop (hL : Lx ≤ 3072) : ∀ (m n : Nat) (g : am_G) (h : am_H), n ≤ 3078 → Lx < n + m → la_G g h → la_OK xs Lx g h 18 (la_l n) [] := by
  have body : ∀ (n : Nat) (g : am_G) (h : am_H), n ≤ 3078 → la_G g h → (n + 6 ≤ Lx → la_OK xs Lx g h 27 (la_l n) []) → la_OK xs Lx g h 18 (la_l n) [] := by
    intro n g h hn hG k
    obtain ⟨xc, I, L, R, -, -, hW⟩ := hG
    have hc : g.2.1 ≤ 600000 := by have := hW.2.2.2.2.1; omega
    have hs : g.2.2 ≤ 7302250 := by have := hW.2.2.2.2.2; omega
    exact la_iload_n 3 rfl rfl (dg dl_hd 0 rfl) <| la_aload_n 0 rfl rfl (dg dl_hd 1 rfl) <| la_slen (dg dl_hd 2 rfl) <| la_bipush kb_6 (dg dl_hd 3 rfl) <| la_isub (dg dl_hd 4 rfl) <| la_icmp_gt (tgt := 1707) rfl (dg dl_hd 5 rfl) (fun _ => la_iconst ki_1 (dg dl_hd 13 rfl) <| la_ret1 hc hs (dg dl_hd 14 rfl)) (fun c => k (la_cond hL hn c))
  intro m
  induction m with
  | zero => exact fun n g h hn hm hG => body n g h hn hG (fun q => absurd q (by omega))
  | succ m ih =>
    intro n g h hn hm hG
    refine body n g h hn hG (fun q => ?_)
    obtain ⟨xc, I, L, R, rfl, hI, hW⟩ := hG
    have kk : ∀ g' h', la_G g' h' → la_OK xs Lx g' h' 1701 (la_l n) [] := fun g' h' hG' => by
      have e : nI n + Int32.ofInt 6 = nI (n + 6) := by rw [show Int32.ofInt 6 = nI 6 from by decide, nI_add]
      refine la_iinc (l' := [(3, .int (nI (n + 6))), (0, .ref 901), (1, .ref 0), (2, .ref 190)]) 3 rfl e (by decide) rfl (dg dl_hd 11 rfl) <| la_goto (tgt := 18) rfl (dg dl_hd 12 rfl) <| la_sub [1, 2, 3, 0] rfl ?_
      exact ih (n + 6) g' h' (by omega) (by omega) hG'
    have hc := hW.2.2.2.2.1
    refine la_aload_n 0 rfl rfl (dg dl_hd 6 rfl) <| la_iload_n 3 rfl rfl (dg dl_hd 7 rfl) <| la_sld (am_vI (by omega) (by omega)) (dg dl_hd 8 rfl) <| la_bipush kb_63 (dg dl_hd 9 rfl) <| la_iand (dg dl_hd 10 rfl) <| la_switch (la_cases q hL hI hW kk) ?_
    exact kk _ _ ⟨xc, I, L, R, rfl, hI, hW⟩
end LS
