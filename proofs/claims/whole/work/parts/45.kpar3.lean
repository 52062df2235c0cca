/-! the rule reader: the contracts of the levels -/
theorem k_add {n k d : Nat} {u : q_P} {I : am_I} {L : am_L} (hn : I 184 2 = nI n) (hn1 : n ≤ 40) (hd : 7 ≤ d) (hu : q_ok n k u) (H : q_H M_X7_multiplied d n k u I L) : q_H M_X7_added (d + 1) n k (q_add (I 186) n u) I L := by
  intro a s g
  generalize hQ : am_qf (some (.long (q_add (I 186) n u s).1)) (q_J I (q_add (I 186) n u s).2) L = Q
  have key : ∀ m, m ≤ 40 → ∀ v t, q_G2 n k a t → q_add (I 186) n u s = q_lp2 (I 186) n 43 (· + ·) 45 (· - ·) u (40 - m) v t → B_X7_added_9 (d + 1) Q (q_J I t) L (nI a) v (nI m) := by
    refine am_down (fun v t gt e => ?_) (fun m hm ih v t gt e => ?_)
    · refine s_X7_added_9 (by omega) ⟨fun _ => ?_, fun c => absurd (by decide) c⟩
      rw [← hQ, e]
      exact ⟨rfl, rfl, rfl⟩
    · rw [show 40 - m = (40 - (m + 1)) + 1 by omega, q_lp2] at e
      refine s_X7_added_9 (by omega) ⟨fun c => absurd c (nI_ge (b := 40) hm (by omega)), fun _ => ⟨_, am_qf_i (k_takes hn hn1 gt.1.1), fun v1 I7 L8 e1 => ?_⟩⟩
      obtain ⟨q1, q2, q3⟩ := e1
      rw [q1, q2, q3]
      have g1 := q_G2_mv (T := I 186) (c := 43) gt (by decide)
      refine ⟨fun c1 => ⟨_, am_qf_i (k_takes hn hn1 g1.1.1), fun v1 I7 L8 e1 => ?_⟩, fun c1 => ⟨d, Nat.le_refl _, _, am_qf_l (H a _ g1), fun v1 I7 L8 e1 => ?_⟩⟩
      · rw [if_pos c1] at e
        obtain ⟨q1, q2, q3⟩ := e1
        rw [q1, q2, q3]
        have g2 := q_G2_mv (T := I 186) (c := 45) g1 (by decide)
        refine ⟨fun c2 => ?_, fun c2 => ⟨d, Nat.le_refl _, _, am_qf_l (H a _ g2), fun v1 I7 L8 e1 => ?_⟩⟩
        · rw [if_pos c2] at e
          rw [← hQ, e]
          exact ⟨rfl, rfl, rfl⟩
        · rw [if_neg c2] at e
          obtain ⟨q1, q2, q3⟩ := e1
          rw [q1, q2, q3, ← nI_succ]
          exact ih _ _ (q_G2_ok hu g2) e
      · rw [if_neg c1] at e
        obtain ⟨q1, q2, q3⟩ := e1
        rw [q1, q2, q3, ← nI_succ]
        exact ih _ _ (q_G2_ok hu g1) e
  refine bm_intro (by decide +kernel) (Nat.le_of_ble_eq_true rfl) (show B_X7_added_0 (d + 1) _ _ _ _ from s_X7_added_0 (by omega) ⟨d, Nat.le_refl _, _, am_qf_l (H a _ g), fun v1 I7 L8 e1 => ?_⟩)
  obtain ⟨q1, q2, q3⟩ := e1
  rw [q1, q2, q3]
  exact key 0 (Nat.zero_le _) _ _ (q_G2_ok hu g) rfl
theorem k_all {n k d : Nat} {u : q_P} {I : am_I} {L : am_L} (hn : I 184 2 = nI n) (hn1 : n ≤ 40) (hd : 7 ≤ d) (hu : q_ok n k u) (H : q_H M_X7_held d n k u I L) : q_H M_X7_allHold (d + 1) n k (q_all (I 186) n u) I L := by
  intro a s g
  generalize hQ : am_qf (some (.long (q_all (I 186) n u s).1)) (q_J I (q_all (I 186) n u s).2) L = Q
  have key : ∀ m, m ≤ 40 → ∀ v t, q_G2 n k a t → q_all (I 186) n u s = q_lp1 (I 186) n 38 q_and u (40 - m) v t → B_X7_allHold_9 (d + 1) Q (q_J I t) L (nI a) v (nI m) := by
    refine am_down (fun v t gt e => ?_) (fun m hm ih v t gt e => ?_)
    · refine s_X7_allHold_9 (by omega) ⟨fun _ => ?_, fun c => absurd (by decide) c⟩
      rw [← hQ, e]
      exact ⟨rfl, rfl, rfl⟩
    · rw [show 40 - m = (40 - (m + 1)) + 1 by omega, q_lp1] at e
      refine s_X7_allHold_9 (by omega) ⟨fun c => absurd c (nI_ge (b := 40) hm (by omega)), fun _ => ⟨_, am_qf_i (k_takes hn hn1 gt.1.1), fun v1 I7 L8 e1 => ?_⟩⟩
      obtain ⟨q1, q2, q3⟩ := e1
      rw [q1, q2, q3]
      have g1 := q_G2_mv (T := I 186) (c := 38) gt (by decide)
      refine ⟨fun c1 => ?_, fun c1 => ⟨d, Nat.le_refl _, _, am_qf_l (H a _ g1), fun v1 I7 L8 e1 => ?_⟩⟩
      · rw [if_pos c1] at e
        rw [← hQ, e]
        exact ⟨rfl, rfl, rfl⟩
      · rw [if_neg c1, q_and] at e
        obtain ⟨q1, q2, q3⟩ := e1
        rw [q1, q2, q3]
        refine ⟨fun c2 => ⟨_, am_qf_l k_truth0, fun v1 I7 L8 e1 => ?_⟩, fun c2 => ⟨fun c3 => ⟨_, am_qf_l k_truth0, fun v1 I7 L8 e1 => ?_⟩, fun c3 => ⟨_, am_qf_l k_truth1, fun v1 I7 L8 e1 => ?_⟩⟩⟩
        · rw [if_pos c2] at e
          obtain ⟨q1, q2, q3⟩ := e1
          rw [q1, q2, q3, ← nI_succ]
          exact ih _ _ (q_G2_ok hu g1) e
        · rw [if_neg c2, if_pos c3] at e
          obtain ⟨q1, q2, q3⟩ := e1
          rw [q1, q2, q3, ← nI_succ]
          exact ih _ _ (q_G2_ok hu g1) e
        · rw [if_neg c2, if_neg c3] at e
          obtain ⟨q1, q2, q3⟩ := e1
          rw [q1, q2, q3, ← nI_succ]
          exact ih _ _ (q_G2_ok hu g1) e
  refine bm_intro (by decide +kernel) (Nat.le_of_ble_eq_true rfl) (show B_X7_allHold_0 (d + 1) _ _ _ _ from s_X7_allHold_0 (by omega) ⟨d, Nat.le_refl _, _, am_qf_l (H a _ g), fun v1 I7 L8 e1 => ?_⟩)
  obtain ⟨q1, q2, q3⟩ := e1
  rw [q1, q2, q3]
  exact key 0 (Nat.zero_le _) _ _ (q_G2_ok hu g) rfl
theorem k_any {n k d : Nat} {u : q_P} {I : am_I} {L : am_L} (hn : I 184 2 = nI n) (hn1 : n ≤ 40) (hd : 7 ≤ d) (hu : q_ok n k u) (H : q_H M_X7_allHold d n k u I L) : q_H M_X7_anyHolds (d + 1) n k (q_any (I 186) n u) I L := by
  intro a s g
  generalize hQ : am_qf (some (.long (q_any (I 186) n u s).1)) (q_J I (q_any (I 186) n u s).2) L = Q
  have key : ∀ m, m ≤ 40 → ∀ v t, q_G2 n k a t → q_any (I 186) n u s = q_lp1 (I 186) n 124 q_or u (40 - m) v t → B_X7_anyHolds_9 (d + 1) Q (q_J I t) L (nI a) v (nI m) := by
    refine am_down (fun v t gt e => ?_) (fun m hm ih v t gt e => ?_)
    · refine s_X7_anyHolds_9 (by omega) ⟨fun _ => ?_, fun c => absurd (by decide) c⟩
      rw [← hQ, e]
      exact ⟨rfl, rfl, rfl⟩
    · rw [show 40 - m = (40 - (m + 1)) + 1 by omega, q_lp1] at e
      refine s_X7_anyHolds_9 (by omega) ⟨fun c => absurd c (nI_ge (b := 40) hm (by omega)), fun _ => ⟨_, am_qf_i (k_takes hn hn1 gt.1.1), fun v1 I7 L8 e1 => ?_⟩⟩
      obtain ⟨q1, q2, q3⟩ := e1
      rw [q1, q2, q3]
      have g1 := q_G2_mv (T := I 186) (c := 124) gt (by decide)
      refine ⟨fun c1 => ?_, fun c1 => ⟨d, Nat.le_refl _, _, am_qf_l (H a _ g1), fun v1 I7 L8 e1 => ?_⟩⟩
      · rw [if_pos c1] at e
        rw [← hQ, e]
        exact ⟨rfl, rfl, rfl⟩
      · rw [if_neg c1, q_or] at e
        obtain ⟨q1, q2, q3⟩ := e1
        rw [q1, q2, q3]
        refine ⟨fun c2 => ⟨_, am_qf_l k_truth1, fun v1 I7 L8 e1 => ?_⟩, fun c2 => ⟨fun c3 => ⟨_, am_qf_l k_truth0, fun v1 I7 L8 e1 => ?_⟩, fun c3 => ⟨_, am_qf_l k_truth1, fun v1 I7 L8 e1 => ?_⟩⟩⟩
        · rw [if_pos c2] at e
          obtain ⟨q1, q2, q3⟩ := e1
          rw [q1, q2, q3, ← nI_succ]
          exact ih _ _ (q_G2_ok hu g1) e
        · rw [if_neg (fun h => h c2), if_pos c3] at e
          obtain ⟨q1, q2, q3⟩ := e1
          rw [q1, q2, q3, ← nI_succ]
          exact ih _ _ (q_G2_ok hu g1) e
        · rw [if_neg (fun h => h c2), if_neg c3] at e
          obtain ⟨q1, q2, q3⟩ := e1
          rw [q1, q2, q3, ← nI_succ]
          exact ih _ _ (q_G2_ok hu g1) e
  refine bm_intro (by decide +kernel) (Nat.le_of_ble_eq_true rfl) (show B_X7_anyHolds_0 (d + 1) _ _ _ _ from s_X7_anyHolds_0 (by omega) ⟨d, Nat.le_refl _, _, am_qf_l (H a _ g), fun v1 I7 L8 e1 => ?_⟩)
  obtain ⟨q1, q2, q3⟩ := e1
  rw [q1, q2, q3]
  exact key 0 (Nat.zero_le _) _ _ (q_G2_ok hu g) rfl
