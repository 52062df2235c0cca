/-! the rule reader's levels -/
abbrev q_S := Nat × Nat × Int32
abbrev q_P := q_S → Int64 × q_S
def q_J (I : am_I) (s : q_S) : am_I := q_I I s.1 s.2.1 s.2.2
def q_hit (T : Nat → Int32) (n : Nat) (c : Int32) (s : q_S) : Int32 := q_tb T n c s.1 s.2.2
def q_mv (T : Nat → Int32) (n : Nat) (c : Int32) (s : q_S) : q_S := (q_tp T n c s.1 s.2.2, s.2)
theorem k_takes {n : Nat} {s : q_S} {c : Int32} {I : am_I} {L : am_L} (hn : I 184 2 = nI n) (hn1 : n ≤ 40) (hp : s.1 ≤ n) : am_K M_X7_takes 1 [.ref 184, .int c] (q_J I s) L (am_qf (some (.int (q_hit (I 186) n c s))) (q_J I (q_mv (I 186) n c s)) L) := k_X7_takes hn hn1 hp
/-- states of the text's rest, with fuel k -/
def q_G (n k : Nat) (s : q_S) : Prop := s.1 ≤ n ∧ n < s.1 + k ∧ s.2.1 ≤ 8
def q_ok (n k : Nat) (u : q_P) : Prop := ∀ s, q_G n k s → s.1 ≤ (u s).2.1 ∧ (u s).2.1 ≤ n ∧ (u s).2.2.1 = s.2.1
theorem q_G_ok {n k : Nat} {u : q_P} (h : q_ok n k u) {s : q_S} (g : q_G n k s) : q_G n k (u s).2 := by
  have := h s g
  have g2 := g
  rw [q_G] at g2 ⊢
  omega
theorem q_mv_le {T : Nat → Int32} {n : Nat} {c : Int32} {s : q_S} (h : s.1 ≤ n) (hc : ¬ c = -1) : s.1 ≤ (q_mv T n c s).1 ∧ (q_mv T n c s).1 ≤ n ∧ (q_mv T n c s).2 = s.2 := ⟨(q_tp_le h hc).1, (q_tp_le h hc).2.1, rfl⟩
theorem q_G_mv {T : Nat → Int32} {n k : Nat} {c : Int32} {s : q_S} (g : q_G n k s) (hc : ¬ c = -1) : q_G n k (q_mv T n c s) := by
  obtain ⟨g1, g2, g3⟩ := g
  have h := q_mv_le (T := T) g1 hc
  refine ⟨h.2.1, by omega, by rw [h.2.2]; exact g3⟩
/-- .. where depth is no deeper than the place -/
def q_G2 (n k a : Nat) (s : q_S) : Prop := q_G n k s ∧ a ≤ s.1
theorem q_G2_ok {n k a : Nat} {u : q_P} (h : q_ok n k u) {s : q_S} (g : q_G2 n k a s) : q_G2 n k a (u s).2 := ⟨q_G_ok h g.1, Nat.le_trans g.2 (h s g.1).1⟩
theorem q_G2_mv {T : Nat → Int32} {n k a : Nat} {c : Int32} {s : q_S} (g : q_G2 n k a s) (hc : ¬ c = -1) : q_G2 n k a (q_mv T n c s) := ⟨q_G_mv g.1 hc, Nat.le_trans g.2 (q_mv_le g.1.1 hc).1⟩
def q_H (M : am_M) (d n k : Nat) (u : q_P) (I : am_I) (L : am_L) : Prop := ∀ a s, q_G2 n k a s → am_K M d [.ref 184, .int (nI a)] (q_J I s) L (am_qf (some (.long (u s).1)) (q_J I (u s).2) L)
theorem k_truth0 {I : am_I} {L : am_L} : am_K M_X7_truth 0 [.int 0] I L (am_qf (some (.long 0)) I L) := k_X7_truth (Pp := False) (dp := instDecidableFalse)
theorem k_truth1 {I : am_I} {L : am_L} : am_K M_X7_truth 0 [.int 1] I L (am_qf (some (.long 1)) I L) := k_X7_truth (Pp := True) (dp := instDecidableTrue)
def q_lp2 (T : Nat → Int32) (n : Nat) (c1 : Int32) (op1 : Int64 → Int64 → Int64) (c2 : Int32) (op2 : Int64 → Int64 → Int64) (u : q_P) : Nat → Int64 → q_S → Int64 × q_S
  | 0, v, s => (v, s)
  | m + 1, v, s =>
    if q_hit T n c1 s = 0 then
      (if q_hit T n c2 (q_mv T n c1 s) = 0 then (v, q_mv T n c2 (q_mv T n c1 s))
      else q_lp2 T n c1 op1 c2 op2 u m (op2 v (u (q_mv T n c2 (q_mv T n c1 s))).1) (u (q_mv T n c2 (q_mv T n c1 s))).2)
    else q_lp2 T n c1 op1 c2 op2 u m (op1 v (u (q_mv T n c1 s)).1) (u (q_mv T n c1 s)).2
def q_lp1 (T : Nat → Int32) (n : Nat) (c1 : Int32) (op1 : Int64 → Int64 → Int64) (u : q_P) : Nat → Int64 → q_S → Int64 × q_S
  | 0, v, s => (v, s)
  | m + 1, v, s =>
    if q_hit T n c1 s = 0 then (v, q_mv T n c1 s)
    else q_lp1 T n c1 op1 u m (op1 v (u (q_mv T n c1 s)).1) (u (q_mv T n c1 s)).2
theorem q_lp2_ok {T : Nat → Int32} {n k : Nat} {c1 c2 : Int32} {op1 op2 : Int64 → Int64 → Int64} {u : q_P} (hc1 : ¬ c1 = -1) (hc2 : ¬ c2 = -1) (h : q_ok n k u) : ∀ m v s, q_G n k s → s.1 ≤ (q_lp2 T n c1 op1 c2 op2 u m v s).2.1 ∧ (q_lp2 T n c1 op1 c2 op2 u m v s).2.1 ≤ n ∧ (q_lp2 T n c1 op1 c2 op2 u m v s).2.2.1 = s.2.1 := by
  intro m
  induction m with
  | zero => intro v s g; exact ⟨Nat.le_refl _, g.1, rfl⟩
  | succ m ih =>
    intro v s g
    have g1 := q_G_mv (T := T) g hc1
    have g2 := q_G_mv (T := T) g1 hc2
    have e1 := q_mv_le (T := T) g.1 hc1
    have e2 := q_mv_le (T := T) g1.1 hc2
    have f1 := h _ g1
    have f2 := h _ g2
    have i1 := ih (op1 v (u (q_mv T n c1 s)).1) _ (q_G_ok h g1)
    have i2 := ih (op2 v (u (q_mv T n c2 (q_mv T n c1 s))).1) _ (q_G_ok h g2)
    rw [q_lp2]
    split
    · split
      · exact ⟨Nat.le_trans e1.1 e2.1, e2.2.1, by rw [e2.2.2, e1.2.2]⟩
      · exact ⟨by omega, i2.2.1, by rw [i2.2.2, f2.2.2, e2.2.2, e1.2.2]⟩
    · exact ⟨by omega, i1.2.1, by rw [i1.2.2, f1.2.2, e1.2.2]⟩
theorem q_lp1_ok {T : Nat → Int32} {n k : Nat} {c1 : Int32} {op1 : Int64 → Int64 → Int64} {u : q_P} (hc1 : ¬ c1 = -1) (h : q_ok n k u) : ∀ m v s, q_G n k s → s.1 ≤ (q_lp1 T n c1 op1 u m v s).2.1 ∧ (q_lp1 T n c1 op1 u m v s).2.1 ≤ n ∧ (q_lp1 T n c1 op1 u m v s).2.2.1 = s.2.1 := by
  intro m
  induction m with
  | zero => intro v s g; exact ⟨Nat.le_refl _, g.1, rfl⟩
  | succ m ih =>
    intro v s g
    have g1 := q_G_mv (T := T) g hc1
    have e1 := q_mv_le (T := T) g.1 hc1
    have f1 := h _ g1
    have i1 := ih (op1 v (u (q_mv T n c1 s)).1) _ (q_G_ok h g1)
    rw [q_lp1]
    split
    · exact ⟨e1.1, e1.2.1, by rw [e1.2.2]⟩
    · exact ⟨by omega, i1.2.1, by rw [i1.2.2, f1.2.2, e1.2.2]⟩
def q_mul (T : Nat → Int32) (n : Nat) (u : q_P) : q_P := fun s => q_lp2 T n 42 (· * ·) 47 am_cut u 40 (u s).1 (u s).2
def q_add (T : Nat → Int32) (n : Nat) (u : q_P) : q_P := fun s => q_lp2 T n 43 (· + ·) 45 (· - ·) u 40 (u s).1 (u s).2
def q_and (v w : Int64) : Int64 := if v = 0 then 0 else if w = 0 then 0 else 1
def q_or (v w : Int64) : Int64 := if ¬ v = 0 then 1 else if w = 0 then 0 else 1
def q_all (T : Nat → Int32) (n : Nat) (u : q_P) : q_P := fun s => q_lp1 T n 38 q_and u 40 (u s).1 (u s).2
def q_any (T : Nat → Int32) (n : Nat) (u : q_P) : q_P := fun s => q_lp1 T n 124 q_or u 40 (u s).1 (u s).2
def q_held (T : Nat → Int32) (n : Nat) (u : q_P) : q_P := fun s =>
  if q_hit T n 60 (u s).2 = 0 then
    (if q_hit T n 62 (q_mv T n 60 (u s).2) = 0 then
      (if q_hit T n 61 (q_mv T n 62 (q_mv T n 60 (u s).2)) = 0 then ((u s).1, q_mv T n 61 (q_mv T n 62 (q_mv T n 60 (u s).2)))
      else (if (u s).1 = (u (q_mv T n 61 (q_mv T n 62 (q_mv T n 60 (u s).2)))).1 then 1 else 0, (u (q_mv T n 61 (q_mv T n 62 (q_mv T n 60 (u s).2)))).2))
    else (if (u s).1 ≤ (u (q_mv T n 62 (q_mv T n 60 (u s).2))).1 then 0 else 1, (u (q_mv T n 62 (q_mv T n 60 (u s).2))).2))
  else (if (u (q_mv T n 60 (u s).2)).1 ≤ (u s).1 then 0 else 1, (u (q_mv T n 60 (u s).2)).2)
theorem q_ok_mul {T : Nat → Int32} {n k : Nat} {u : q_P} (h : q_ok n k u) : q_ok n k (q_mul T n u) := fun s g => by
  have h1 := h s g
  have h2 := q_lp2_ok (T := T) (c1 := 42) (c2 := 47) (op1 := (· * ·)) (op2 := am_cut) (by decide) (by decide) h 40 (u s).1 _ (q_G_ok h g)
  exact ⟨by rw [q_mul]; omega, h2.2.1, h2.2.2.trans h1.2.2⟩
theorem q_ok_add {T : Nat → Int32} {n k : Nat} {u : q_P} (h : q_ok n k u) : q_ok n k (q_add T n u) := fun s g => by
  have h1 := h s g
  have h2 := q_lp2_ok (T := T) (c1 := 43) (c2 := 45) (op1 := (· + ·)) (op2 := (· - ·)) (by decide) (by decide) h 40 (u s).1 _ (q_G_ok h g)
  exact ⟨by rw [q_add]; omega, h2.2.1, h2.2.2.trans h1.2.2⟩
theorem q_ok_all {T : Nat → Int32} {n k : Nat} {u : q_P} (h : q_ok n k u) : q_ok n k (q_all T n u) := fun s g => by
  have h1 := h s g
  have h2 := q_lp1_ok (T := T) (c1 := 38) (op1 := q_and) (by decide) h 40 (u s).1 _ (q_G_ok h g)
  exact ⟨by rw [q_all]; omega, h2.2.1, h2.2.2.trans h1.2.2⟩
theorem q_ok_any {T : Nat → Int32} {n k : Nat} {u : q_P} (h : q_ok n k u) : q_ok n k (q_any T n u) := fun s g => by
  have h1 := h s g
  have h2 := q_lp1_ok (T := T) (c1 := 124) (op1 := q_or) (by decide) h 40 (u s).1 _ (q_G_ok h g)
  exact ⟨by rw [q_any]; omega, h2.2.1, h2.2.2.trans h1.2.2⟩
theorem q_ok_held {T : Nat → Int32} {n k : Nat} {u : q_P} (h : q_ok n k u) : q_ok n k (q_held T n u) := fun s g => by
  have h1 := h s g
  have g0 := q_G_ok h g
  have g1 := q_G_mv (T := T) (c := 60) g0 (by decide)
  have g2 := q_G_mv (T := T) (c := 62) g1 (by decide)
  have g3 := q_G_mv (T := T) (c := 61) g2 (by decide)
  have e1 := q_mv_le (T := T) (c := 60) g0.1 (by decide)
  have e2 := q_mv_le (T := T) (c := 62) g1.1 (by decide)
  have e3 := q_mv_le (T := T) (c := 61) g2.1 (by decide)
  have f1 := h _ g1
  have f2 := h _ g2
  have f3 := h _ g3
  rw [q_held]
  split
  · split
    · split
      · exact ⟨Nat.le_trans (Nat.le_trans (Nat.le_trans h1.1 e1.1) e2.1) e3.1, e3.2.1, by rw [e3.2.2, e2.2.2, e1.2.2, h1.2.2]⟩
      · exact ⟨Nat.le_trans (Nat.le_trans (Nat.le_trans (Nat.le_trans h1.1 e1.1) e2.1) e3.1) f3.1, f3.2.1, by rw [f3.2.2, e3.2.2, e2.2.2, e1.2.2, h1.2.2]⟩
    · exact ⟨Nat.le_trans (Nat.le_trans (Nat.le_trans h1.1 e1.1) e2.1) f2.1, f2.2.1, by rw [f2.2.2, e2.2.2, e1.2.2, h1.2.2]⟩
  · exact ⟨Nat.le_trans (Nat.le_trans h1.1 e1.1) f1.1, f1.2.1, by rw [f1.2.2, e1.2.2, h1.2.2]⟩
theorem k_mul {n k d : Nat} {u : q_P} {I : am_I} {L : am_L} (hn : I 184 2 = nI n) (hn1 : n ≤ 40) (hd : 7 ≤ d) (hu : q_ok n k u) (H : q_H M_X7_unit d n k u I L) : q_H M_X7_multiplied (d + 1) n k (q_mul (I 186) n u) I L := by
  intro a s g
  generalize hQ : am_qf (some (.long (q_mul (I 186) n u s).1)) (q_J I (q_mul (I 186) n u s).2) L = Q
  have key : ∀ m, m ≤ 40 → ∀ v t, q_G2 n k a t → q_mul (I 186) n u s = q_lp2 (I 186) n 42 (· * ·) 47 am_cut u (40 - m) v t → B_X7_multiplied_9 (d + 1) Q (q_J I t) L (nI a) v (nI m) := by
    refine am_down (fun v t gt e => ?_) (fun m hm ih v t gt e => ?_)
    · refine s_X7_multiplied_9 (by omega) ⟨fun _ => ?_, fun c => absurd (by decide) c⟩
      rw [← hQ, e]
      exact ⟨rfl, rfl, rfl⟩
    · rw [show 40 - m = (40 - (m + 1)) + 1 by omega, q_lp2] at e
      refine s_X7_multiplied_9 (by omega) ⟨fun c => absurd c (nI_ge (b := 40) hm (by omega)), fun _ => ⟨_, am_qf_i (k_takes hn hn1 gt.1.1), fun v1 I7 L8 e1 => ?_⟩⟩
      obtain ⟨q1, q2, q3⟩ := e1
      rw [q1, q2, q3]
      have g1 := q_G2_mv (T := I 186) (c := 42) gt (by decide)
      refine ⟨fun c1 => ⟨_, am_qf_i (k_takes hn hn1 g1.1.1), fun v1 I7 L8 e1 => ?_⟩, fun c1 => ⟨d, Nat.le_refl _, _, am_qf_l (H a _ g1), fun v1 I7 L8 e1 => ?_⟩⟩
      · rw [if_pos c1] at e
        obtain ⟨q1, q2, q3⟩ := e1
        rw [q1, q2, q3]
        have g2 := q_G2_mv (T := I 186) (c := 47) g1 (by decide)
        refine ⟨fun c2 => ?_, fun c2 => ⟨d, Nat.le_refl _, _, am_qf_l (H a _ g2), fun v1 I7 L8 e1 => ?_⟩⟩
        · rw [if_pos c2] at e
          rw [← hQ, e]
          exact ⟨rfl, rfl, rfl⟩
        · rw [if_neg c2] at e
          obtain ⟨q1, q2, q3⟩ := e1
          rw [q1, q2, q3, ← nI_succ]
          exact ih _ _ (q_G2_ok hu g2) e
      · rw [if_neg c1] at e
        obtain ⟨q1, q2, q3⟩ := e1
        rw [q1, q2, q3, ← nI_succ]
        exact ih _ _ (q_G2_ok hu g1) e
  refine bm_intro (by decide +kernel) (Nat.le_of_ble_eq_true rfl) (show B_X7_multiplied_0 (d + 1) _ _ _ _ from s_X7_multiplied_0 (by omega) ⟨d, Nat.le_refl _, _, am_qf_l (H a _ g), fun v1 I7 L8 e1 => ?_⟩)
  obtain ⟨q1, q2, q3⟩ := e1
  rw [q1, q2, q3]
  exact key 0 (Nat.zero_le _) _ _ (q_G2_ok hu g) rfl
