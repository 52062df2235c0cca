/-! the rule reader: the unit's contract, by fuel -/
theorem k_unit {n : Nat} {I : am_I} {L : am_L} (hn : I 184 2 = nI n) (hn1 : n ≤ 40) (hT : ∀ k, k < n → 0 ≤ I 186 k ∧ I 186 k ≤ 127) : ∀ k, q_H M_X7_unit (8 + 7 * k) n k (q_unit (I 186) n (L 185) k) I L := by
  intro k
  induction k with
  | zero =>
    intro a s g
    have g1 : s.1 ≤ n := g.1.1
    have g2 : n < s.1 + 0 := g.1.2.1
    omega
  | succ k ih =>
    intro a s g
    obtain ⟨⟨g1, g2, g3⟩, ga⟩ := g
    have hs := q_s_le (I 186) g1
    have hss := q_s_s (T := I 186) g1
    generalize hr : q_unit (I 186) n (L 185) (k + 1) s = r
    rw [q_unit] at hr
    dsimp only at hr
    generalize hQ : am_qf (some (.long r.1)) (q_J I r.2) L = Q
    have fin : ∀ v t, (v, t) = r → Q (some (.long v)) (q_J I t) L := fun v t e => by rw [← hQ, ← e]; exact ⟨rfl, rfl, rfl⟩
    refine bm_intro (by decide +kernel) (Nat.le_of_ble_eq_true rfl) (show B_X7_unit_0 (8 + 7 * (k + 1)) _ _ _ _ from s_X7_unit_0 (by omega) ⟨_, am_qf_i (k_X7_next hn hn1 g1), fun v5 I3 L4 e => ?_⟩)
    obtain ⟨q1, q2, q3⟩ := e
    rw [q1, q2, q3]
    refine ⟨fun c0 => ?_, fun c0 => ⟨fun ha => ⟨fun nd => ⟨fun nb => ?_, fun cb => ?_⟩, fun cd => ?_⟩, fun ha => absurd ?_ ha⟩⟩
    · rw [if_pos c0] at hr
      refine ⟨_, am_qf_l k_X7_refuse, fun v I7 L8 e => ?_⟩
      obtain ⟨q1, q2, q3⟩ := e
      rw [q1, q2, q3]
      exact fin _ _ hr
    · rw [if_neg c0, if_neg nd, if_neg nb] at hr
      have hlt := q_c_lt c0
      have e2 := q_tp_le (T := I 186) (c := 33) (f := s.2.2) hs.2 (by decide)
      refine ⟨_, am_qf_i (k_takes (s := (q_s (I 186) n s.1, s.2)) hn hn1 hs.2), fun v I7 L8 e => ?_⟩
      obtain ⟨q1, q2, q3⟩ := e
      rw [q1, q2, q3]
      refine ⟨fun h33 => ?_, fun h33 => ?_⟩
      · rw [if_neg (fun h => h h33)] at hr
        have m2 : q_mv (I 186) n 33 (q_s (I 186) n s.1, s.2) = (q_s (I 186) n s.1, s.2) := by rw [q_mv, q_tp_nh g1 h33]
        rw [m2] at hr ⊢
        have e4 := q_tp_le (T := I 186) (c := 45) (f := s.2.2) hs.2 (by decide)
        refine ⟨_, am_qf_i (k_takes (s := (q_s (I 186) n s.1, s.2)) hn hn1 hs.2), fun v I7 L8 e => ?_⟩
        obtain ⟨q1, q2, q3⟩ := e
        rw [q1, q2, q3]
        refine ⟨fun h45 => ⟨?_, ?_⟩, fun h45 => ?_⟩
        · have hc : q_c (I 186) n (q_s (I 186) n s.1) = I 186 (q_s (I 186) n s.1) := if_pos hlt
          rw [hc]
          exact hT _ hlt
        · rw [if_neg (fun h => h h45)] at hr
          refine ⟨fun hneg => ?_, fun hneg => ?_⟩
          · rw [if_pos hneg] at hr
            refine ⟨_, am_qf_l k_X7_refuse, fun v I7 L8 e => ?_⟩
            obtain ⟨q1, q2, q3⟩ := e
            rw [q1, q2, q3]
            exact fin _ _ hr
          · rw [if_neg hneg] at hr
            rcases z_nm (q_c (I 186) n (q_s (I 186) n s.1)) with hnm | ⟨x, hx, hnm⟩
            · exact absurd (by rw [hnm]; decide) hneg
            · refine ⟨fun _ => ⟨by rw [hnm]; exact am_vI hx (by decide), ?_⟩, fun h7 => absurd (by rw [hnm, show (7 : Int32) = nI 7 by decide]; exact nI_lt hx (by omega)) h7⟩
              have u2 : ∀ t : q_S, am_u (q_J I t) 184 3 (q_J I t 184 3 + 1) = q_J I (t.1 + 1, t.2.1, t.2.2) := fun t => by
                rw [q_J, q_I_2, ← nI_succ, q_I_u2]; rfl
              rw [u2]
              exact fin _ _ hr
        · rw [if_pos h45] at hr
          have h0 := e4.2.2 h45
          have ih' := ih (a + 1) (q_mv (I 186) n 45 (q_s (I 186) n s.1, s.2)) ⟨⟨e4.2.1, by show n < q_tp (I 186) n 45 (q_s (I 186) n s.1) s.2.2 + k; omega, g3⟩, by show a + 1 ≤ q_tp (I 186) n 45 (q_s (I 186) n s.1) s.2.2; omega⟩
          rw [nI_succ] at ih'
          refine ⟨8 + 7 * k, by omega, _, am_qf_l ih', fun v I7 L8 e => ?_⟩
          obtain ⟨q1, q2, q3⟩ := e
          rw [q1, q2, q3]
          exact fin _ _ hr
      · rw [if_pos h33] at hr
        have h0 := e2.2.2 h33
        have ih' := ih (a + 1) (q_mv (I 186) n 33 (q_s (I 186) n s.1, s.2)) ⟨⟨e2.2.1, by show n < q_tp (I 186) n 33 (q_s (I 186) n s.1) s.2.2 + k; omega, g3⟩, by show a + 1 ≤ q_tp (I 186) n 33 (q_s (I 186) n s.1) s.2.2; omega⟩
        rw [nI_succ] at ih'
        refine ⟨8 + 7 * k, by omega, _, am_qf_l ih', fun v I7 L8 e => ?_⟩
        obtain ⟨q1, q2, q3⟩ := e
        rw [q1, q2, q3]
        refine ⟨fun hv => ⟨_, am_qf_l k_truth0, fun v I7 L8 e => ?_⟩, fun hv => ⟨_, am_qf_l k_truth1, fun v I7 L8 e => ?_⟩⟩
        · obtain ⟨q1, q2, q3⟩ := e
          rw [q1, q2, q3]
          rw [if_neg hv] at hr
          exact fin _ _ hr
        · obtain ⟨q1, q2, q3⟩ := e
          rw [q1, q2, q3]
          rw [if_pos hv] at hr
          exact fin _ _ hr
    · rw [if_neg c0, if_neg nd, if_pos cb] at hr
      have hlt := q_c_lt c0
      have hu := q_ok_unit (T := I 186) (n := n) (N := L 185) k
      have H := k_any hn hn1 (by omega) (q_ok_all (q_ok_held (q_ok_add (q_ok_mul hu)))) (k_all hn hn1 (by omega) (q_ok_held (q_ok_add (q_ok_mul hu))) (k_held hn hn1 (by omega) (q_ok_add (q_ok_mul hu)) (k_add hn hn1 (by omega) (q_ok_mul hu) (k_mul hn hn1 (by omega) hu ih))))
      refine ⟨8 + 7 * k + 1 + 1 + 1 + 1 + 1 + 1, by omega, _, am_qf_l (k_inBrackets (s := (q_s (I 186) n s.1, s.2)) hn hn1 (by omega) (q_ok_lev hu) H hlt (by show n < q_s (I 186) n s.1 + (k + 1); omega) g3 (by show a ≤ q_s (I 186) n s.1; omega)), fun v I7 L8 e => ?_⟩
      obtain ⟨q1, q2, q3⟩ := e
      rw [q1, q2, q3]
      exact fin _ _ hr
    · rw [if_neg c0, if_pos cd] at hr
      refine ⟨_, am_qf_l (k_X7_number hn hn1 hs.2), fun v I7 L8 e => ?_⟩
      obtain ⟨q1, q2, q3⟩ := e
      rw [q1, q2, q3]
      exact fin _ _ hr
    · rw [show (40 : Int32) = nI 40 by decide]
      exact Int32.not_lt.mp (nI_nlt (by omega) (by omega))
theorem k_anyTop {n : Nat} {I : am_I} {L : am_L} (hn : I 184 2 = nI n) (hn1 : n ≤ 40) (hT : ∀ k, k < n → 0 ≤ I 186 k ∧ I 186 k ≤ 127) : am_K M_X7_anyHolds 300 [.ref 184, .int 0] (q_I I 0 0 (-1)) L (am_qf (some (.long (z_val (I 186) n (L 185)).1)) (q_J I (z_val (I 186) n (L 185)).2) L) := by
  have hu := q_ok_unit (T := I 186) (n := n) (N := L 185) 41
  have H := k_any hn hn1 (by omega) (q_ok_all (q_ok_held (q_ok_add (q_ok_mul hu)))) (k_all hn hn1 (by omega) (q_ok_held (q_ok_add (q_ok_mul hu))) (k_held hn hn1 (by omega) (q_ok_add (q_ok_mul hu)) (k_add hn hn1 (by omega) (q_ok_mul hu) (k_mul hn hn1 (by omega) hu (k_unit (L := L) hn hn1 hT 41)))))
  exact H 0 (0, 0, -1) ⟨⟨Nat.zero_le _, by show n < 0 + 41; omega, by decide⟩, Nat.le_refl _⟩
