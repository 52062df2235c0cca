/-! the rule reader: comparisons, brackets -/
theorem k_held {n k d : Nat} {u : q_P} {I : am_I} {L : am_L} (hn : I 184 2 = nI n) (hn1 : n ≤ 40) (hd : 7 ≤ d) (hu : q_ok n k u) (H : q_H M_X7_added d n k u I L) : q_H M_X7_held (d + 1) n k (q_held (I 186) n u) I L := by
  intro a s g
  generalize hQ : am_qf (some (.long (q_held (I 186) n u s).1)) (q_J I (q_held (I 186) n u s).2) L = Q
  have fin : ∀ v t, q_held (I 186) n u s = (v, t) → Q (some (.long v)) (q_J I t) L := fun v t e => by rw [← hQ, e]; exact ⟨rfl, rfl, rfl⟩
  have g0 := q_G2_ok hu g
  have g1 := q_G2_mv (T := I 186) (c := 60) g0 (by decide)
  have g2 := q_G2_mv (T := I 186) (c := 62) g1 (by decide)
  have g3 := q_G2_mv (T := I 186) (c := 61) g2 (by decide)
  refine bm_intro (by decide +kernel) (Nat.le_of_ble_eq_true rfl) (show B_X7_held_0 (d + 1) _ _ _ _ from s_X7_held_0 (by omega) ⟨d, Nat.le_refl _, _, am_qf_l (H a _ g), fun v1 I7 L8 e1 => ?_⟩)
  obtain ⟨q1, q2, q3⟩ := e1
  rw [q1, q2, q3]
  refine ⟨_, am_qf_i (k_takes hn hn1 g0.1.1), fun v1 I7 L8 e1 => ?_⟩
  obtain ⟨q1, q2, q3⟩ := e1
  rw [q1, q2, q3]
  refine ⟨fun c1 => ⟨_, am_qf_i (k_takes hn hn1 g1.1.1), fun v1 I7 L8 e1 => ?_⟩, fun c1 => ⟨d, Nat.le_refl _, _, am_qf_l (H a _ g1), fun v1 I7 L8 e1 => ?_⟩⟩
  · obtain ⟨q1, q2, q3⟩ := e1
    rw [q1, q2, q3]
    refine ⟨fun c2 => ⟨_, am_qf_i (k_takes hn hn1 g2.1.1), fun v1 I7 L8 e1 => ?_⟩, fun c2 => ⟨d, Nat.le_refl _, _, am_qf_l (H a _ g2), fun v1 I7 L8 e1 => ?_⟩⟩
    · obtain ⟨q1, q2, q3⟩ := e1
      rw [q1, q2, q3]
      refine ⟨fun c3 => ?_, fun c3 => ⟨d, Nat.le_refl _, _, am_qf_l (H a _ g3), fun v1 I7 L8 e1 => ?_⟩⟩
      · exact fin _ _ (by rw [q_held, if_pos c1, if_pos c2, if_pos c3])
      · obtain ⟨q1, q2, q3⟩ := e1
        rw [q1, q2, q3]
        refine ⟨fun c4 => ⟨_, am_qf_l k_truth0, fun v1 I7 L8 e1 => ?_⟩, fun c4 => ⟨_, am_qf_l k_truth1, fun v1 I7 L8 e1 => ?_⟩⟩
        · obtain ⟨q1, q2, q3⟩ := e1
          rw [q1, q2, q3]
          exact fin _ _ (by rw [q_held, if_pos c1, if_pos c2, if_neg c3, if_neg c4])
        · obtain ⟨q1, q2, q3⟩ := e1
          rw [q1, q2, q3]
          exact fin _ _ (by rw [q_held, if_pos c1, if_pos c2, if_neg c3, if_pos c4])
    · obtain ⟨q1, q2, q3⟩ := e1
      rw [q1, q2, q3]
      refine ⟨fun c4 => ⟨_, am_qf_l k_truth0, fun v1 I7 L8 e1 => ?_⟩, fun c4 => ⟨_, am_qf_l k_truth1, fun v1 I7 L8 e1 => ?_⟩⟩
      · obtain ⟨q1, q2, q3⟩ := e1
        rw [q1, q2, q3]
        exact fin _ _ (by rw [q_held, if_pos c1, if_neg c2, if_pos c4])
      · obtain ⟨q1, q2, q3⟩ := e1
        rw [q1, q2, q3]
        exact fin _ _ (by rw [q_held, if_pos c1, if_neg c2, if_neg c4])
  · obtain ⟨q1, q2, q3⟩ := e1
    rw [q1, q2, q3]
    refine ⟨fun c4 => ⟨_, am_qf_l k_truth0, fun v1 I7 L8 e1 => ?_⟩, fun c4 => ⟨_, am_qf_l k_truth1, fun v1 I7 L8 e1 => ?_⟩⟩
    · obtain ⟨q1, q2, q3⟩ := e1
      rw [q1, q2, q3]
      exact fin _ _ (by rw [q_held, if_neg c1, if_pos c4])
    · obtain ⟨q1, q2, q3⟩ := e1
      rw [q1, q2, q3]
      exact fin _ _ (by rw [q_held, if_neg c1, if_neg c4])
/-- in brackets, from the place of the bracket -/
def q_in (T : Nat → Int32) (n : Nat) (u : q_P) : q_P := fun s =>
  if s.2.1 < 8 then
    ((u (s.1 + 1, s.2.1 + 1, s.2.2)).1,
      ((q_mv T n 41 (u (s.1 + 1, s.2.1 + 1, s.2.2)).2).1, s.2.1,
        if q_hit T n 41 (u (s.1 + 1, s.2.1 + 1, s.2.2)).2 = 0 then q_rf 1 (q_mv T n 41 (u (s.1 + 1, s.2.1 + 1, s.2.2)).2).1 (q_mv T n 41 (u (s.1 + 1, s.2.1 + 1, s.2.2)).2).2.2 else (q_mv T n 41 (u (s.1 + 1, s.2.1 + 1, s.2.2)).2).2.2))
  else (0, (s.1, s.2.1, q_rf 3 s.1 s.2.2))
theorem k_inBrackets {n k d : Nat} {u : q_P} {I : am_I} {L : am_L} (hn : I 184 2 = nI n) (hn1 : n ≤ 40) (hd : 7 ≤ d) (hu : q_ok n k u) (H : q_H M_X7_anyHolds d n k u I L) {a : Nat} {s : q_S} (hs1 : s.1 < n) (hs2 : n < s.1 + (k + 1)) (hs3 : s.2.1 ≤ 8) (ha : a ≤ s.1) : am_K M_X7_inBrackets (d + 1) [.ref 184, .int (nI a)] (q_J I s) L (am_qf (some (.long (q_in (I 186) n u s).1)) (q_J I (q_in (I 186) n u s).2) L) := by
  generalize hQ : am_qf (some (.long (q_in (I 186) n u s).1)) (q_J I (q_in (I 186) n u s).2) L = Q
  have fin : ∀ v t, q_in (I 186) n u s = (v, t) → Q (some (.long v)) (q_J I t) L := fun v t e => by rw [← hQ, e]; exact ⟨rfl, rfl, rfl⟩
  have j2 : ∀ t : q_S, q_J I t 184 3 = nI t.1 := fun t => q_I_2 _ _ _ _
  have j3 : ∀ t : q_S, q_J I t 184 4 = nI t.2.1 := fun t => q_I_3 _ _ _ _
  have u2 : ∀ (t : q_S) (q : Nat), am_u (q_J I t) 184 3 (nI q) = q_J I (q, t.2.1, t.2.2) := fun t q => q_I_u2 _ _ _ _ _
  have u3 : ∀ (t : q_S) (q : Nat), am_u (q_J I t) 184 4 (nI q) = q_J I (t.1, q, t.2.2) := fun t q => q_I_u3 _ _ _ _ _
  have sub1 : ∀ o : Nat, nI (o + 1) - 1 = nI o := fun o => by rw [nI_succ, Int32.add_sub_cancel]
  refine bm_intro (by decide +kernel) (Nat.le_of_ble_eq_true rfl) (show B_X7_inBrackets_0 (d + 1) _ _ _ _ from s_X7_inBrackets_0 (by omega) ⟨fun c1 => ?_, fun c1 => ?_⟩)
  · rw [j3] at c1
    have c2 : s.2.1 < 8 := by
      by_cases h : s.2.1 < 8
      · exact h
      · exact absurd c1 (nI_nlt (b := 8) (by omega) (by omega))
    have g : q_G2 n k (a + 1) (s.1 + 1, s.2.1 + 1, s.2.2) := ⟨⟨hs1, by show n < s.1 + 1 + k; omega, by show s.2.1 + 1 ≤ 8; omega⟩, by show a + 1 ≤ s.1 + 1; omega⟩
    have h0 := hu _ g.1
    have hin : q_in (I 186) n u s = ((u (s.1 + 1, s.2.1 + 1, s.2.2)).1, ((q_mv (I 186) n 41 (u (s.1 + 1, s.2.1 + 1, s.2.2)).2).1, s.2.1, if q_hit (I 186) n 41 (u (s.1 + 1, s.2.1 + 1, s.2.2)).2 = 0 then q_rf 1 (q_mv (I 186) n 41 (u (s.1 + 1, s.2.1 + 1, s.2.2)).2).1 (q_mv (I 186) n 41 (u (s.1 + 1, s.2.1 + 1, s.2.2)).2).2.2 else (q_mv (I 186) n 41 (u (s.1 + 1, s.2.1 + 1, s.2.2)).2).2.2)) := by rw [q_in, if_pos c2]
    rw [hin] at fin
    rw [j3, ← nI_succ a, ← nI_succ s.2.1, j2, ← nI_succ s.1, u3, u2]
    refine ⟨d, Nat.le_refl _, _, am_qf_l (H (a + 1) _ g), fun v1 I7 L8 e1 => ?_⟩
    obtain ⟨q1, q2, q3⟩ := e1
    rw [q1, q2, q3]
    have g0 := q_G2_ok hu g
    generalize hr : u (s.1 + 1, s.2.1 + 1, s.2.2) = r at *
    obtain ⟨rv, rp, ro, rf⟩ := r
    have hro : ro = s.2.1 + 1 := h0.2.2
    subst hro
    refine ⟨_, am_qf_i (k_takes hn hn1 g0.1.1), fun v1 I7 L8 e1 => ?_⟩
    obtain ⟨q1, q2, q3⟩ := e1
    rw [q1, q2, q3]
    refine ⟨fun c3 => ?_, fun c3 => ⟨_, am_qf_l k_X7_refuse, fun v1 I7 L8 e1 => ?_⟩⟩
    · rw [j3, show (q_mv (I 186) n 41 (rp, s.2.1 + 1, rf)).2.1 = s.2.1 + 1 from rfl, sub1, u3]
      exact fin _ _ (by rw [if_neg c3])
    · obtain ⟨q1, q2, q3⟩ := e1
      rw [q2, q3, q_I_3, show (q_mv (I 186) n 41 (rp, s.2.1 + 1, rf)).2.1 = s.2.1 + 1 from rfl, sub1, q_I_u3]
      exact fin _ _ (by rw [if_pos c3])
  · rw [j3] at c1
    have c2 : ¬ s.2.1 < 8 := fun h => c1 (nI_lt (b := 8) h (by omega))
    refine ⟨_, am_qf_l k_X7_refuse, fun v1 I7 L8 e1 => ?_⟩
    obtain ⟨q1, q2, q3⟩ := e1
    rw [q1, q2, q3]
    exact fin _ _ (by rw [q_in, if_neg c2])
