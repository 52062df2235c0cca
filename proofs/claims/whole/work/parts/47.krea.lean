/-! the reference's reader: the small methods -/
def r_I (I : am_I) (p : Nat) (f : Int32) (v s : Nat) (A : Nat → Int32) : am_I := am_ro (am_ro I 190 (am_f (am_f (am_f (am_f (I 190) 11 (nI p)) 12 f) 14 (nI v)) 16 (nI s))) 200 A
theorem r_I_11 (I : am_I) (p : Nat) (f : Int32) (v s : Nat) (A : Nat → Int32) : r_I I p f v s A 190 11 = nI p := by
  rw [r_I, am_ro_ne _ _ (by decide), am_ro_at, am_f_ne _ _ (by decide), am_f_ne _ _ (by decide), am_f_ne _ _ (by decide), am_f_eq]
theorem r_I_12 (I : am_I) (p : Nat) (f : Int32) (v s : Nat) (A : Nat → Int32) : r_I I p f v s A 190 12 = f := by
  rw [r_I, am_ro_ne _ _ (by decide), am_ro_at, am_f_ne _ _ (by decide), am_f_ne _ _ (by decide), am_f_eq]
theorem r_I_14 (I : am_I) (p : Nat) (f : Int32) (v s : Nat) (A : Nat → Int32) : r_I I p f v s A 190 14 = nI v := by
  rw [r_I, am_ro_ne _ _ (by decide), am_ro_at, am_f_ne _ _ (by decide), am_f_eq]
theorem r_I_16 (I : am_I) (p : Nat) (f : Int32) (v s : Nat) (A : Nat → Int32) : r_I I p f v s A 190 16 = nI s := by
  rw [r_I, am_ro_ne _ _ (by decide), am_ro_at, am_f_eq]
theorem r_I_200 (I : am_I) (p : Nat) (f : Int32) (v s : Nat) (A : Nat → Int32) : r_I I p f v s A 200 = A := by rw [r_I, am_ro_at]
theorem r_I_u11 (I : am_I) (p : Nat) (f : Int32) (v s : Nat) (A : Nat → Int32) (q : Nat) : am_u (r_I I p f v s A) 190 11 (nI q) = r_I I q f v s A := by
  rw [r_I, am_ro_un _ _ _ _ (by decide), am_ro_u, am_f_c _ _ _ (show 16 ≠ 11 by decide), am_f_c _ _ _ (show 14 ≠ 11 by decide), am_f_c _ _ _ (show 12 ≠ 11 by decide), am_f_f, r_I]
theorem r_I_u12 (I : am_I) (p : Nat) (f : Int32) (v s : Nat) (A : Nat → Int32) (g : Int32) : am_u (r_I I p f v s A) 190 12 g = r_I I p g v s A := by
  rw [r_I, am_ro_un _ _ _ _ (by decide), am_ro_u, am_f_c _ _ _ (show 16 ≠ 12 by decide), am_f_c _ _ _ (show 14 ≠ 12 by decide), am_f_f, r_I]
theorem r_I_u14 (I : am_I) (p : Nat) (f : Int32) (v s : Nat) (A : Nat → Int32) (q : Nat) : am_u (r_I I p f v s A) 190 14 (nI q) = r_I I p f q s A := by
  rw [r_I, am_ro_un _ _ _ _ (by decide), am_ro_u, am_f_c _ _ _ (show 16 ≠ 14 by decide), am_f_f, r_I]
theorem r_I_u16 (I : am_I) (p : Nat) (f : Int32) (v s : Nat) (A : Nat → Int32) (q : Nat) : am_u (r_I I p f v s A) 190 16 (nI q) = r_I I p f v q A := by
  rw [r_I, am_ro_un _ _ _ _ (by decide), am_ro_u, am_f_f, r_I]
theorem r_I_u200 (I : am_I) (p : Nat) (f : Int32) (v s : Nat) (A : Nat → Int32) (k : Nat) (c : Int32) : am_u (r_I I p f v s A) 200 k c = r_I I p f v s (am_f A k c) := by rw [r_I, am_ro_u, r_I]
theorem r_I_start (I : am_I) : am_u (am_u (am_u (am_u I 190 11 0) 190 12 (-1)) 190 14 0) 190 16 0 = r_I I 0 (-1) 0 0 (I 200) := by
  have h : r_I I 0 (-1) 0 0 (I 200) = am_ro I 190 (am_f (am_f (am_f (am_f (I 190) 11 (nI 0)) 12 (-1)) 14 (nI 0)) 16 (nI 0)) := by
    rw [r_I, show I 200 = am_ro I 190 (am_f (am_f (am_f (am_f (I 190) 11 (nI 0)) 12 (-1)) 14 (nI 0)) 16 (nI 0)) 200 from (am_ro_ne _ _ (by decide)).symm, am_ro_self]
  rw [h, am_u_ro, am_u_ro, am_u_ro, am_u_ro]
  simp only [am_ro_rr, am_ro_at]
  rfl
def r_rk (c : Int32) : Int32 := if c = 38 then 2 else if c = 42 then 5 else if c = 43 then 4 else if c = 45 then 4 else if c = 47 then 5 else if c = 60 then 3 else if c = 61 then 3 else if c = 62 then 3 else if c = 124 then 1 else 0
theorem k_X12_rank {c : Int32} {I : am_I} {L : am_L} : am_K M_X12_rank 0 [.int c] I L (am_qf (some (.int (r_rk c))) I L) := by
  generalize hQ : am_qf (some (.int (r_rk c))) I L = Q
  have fin : ∀ v, r_rk c = v → Q (some (.int v)) I L := fun v h => by rw [← hQ, h]; exact ⟨rfl, rfl, rfl⟩
  refine bm_intro (by decide +kernel) (Nat.le_of_ble_eq_true rfl) (show B_X12_rank_0 _ _ _ _ from s_X12_rank_0 ⟨fun c0 => fin _ (by rw [r_rk, if_pos c0]), fun c0 => ⟨fun c1 => fin _ (by rw [r_rk, if_neg c0, if_pos c1]), fun c1 => ⟨fun c2 => fin _ (by rw [r_rk, if_neg c0, if_neg c1, if_pos c2]), fun c2 => ⟨fun c3 => fin _ (by rw [r_rk, if_neg c0, if_neg c1, if_neg c2, if_pos c3]), fun c3 => ⟨fun c4 => fin _ (by rw [r_rk, if_neg c0, if_neg c1, if_neg c2, if_neg c3, if_pos c4]), fun c4 => ⟨fun c5 => fin _ (by rw [r_rk, if_neg c0, if_neg c1, if_neg c2, if_neg c3, if_neg c4, if_pos c5]), fun c5 => ⟨fun c6 => fin _ (by rw [r_rk, if_neg c0, if_neg c1, if_neg c2, if_neg c3, if_neg c4, if_neg c5, if_pos c6]), fun c6 => ⟨fun c7 => fin _ (by rw [r_rk, if_neg c0, if_neg c1, if_neg c2, if_neg c3, if_neg c4, if_neg c5, if_neg c6, if_pos c7]), fun c7 => ⟨fun c8 => fin _ (by rw [r_rk, if_neg c0, if_neg c1, if_neg c2, if_neg c3, if_neg c4, if_neg c5, if_neg c6, if_neg c7, if_pos c8]), fun c8 => fin _ (by rw [r_rk, if_neg c0, if_neg c1, if_neg c2, if_neg c3, if_neg c4, if_neg c5, if_neg c6, if_neg c7, if_neg c8])⟩⟩⟩⟩⟩⟩⟩⟩⟩)
def r_nm (c : Int32) : Int32 := if ¬ c = 99 then (if ¬ c = 115 then (if ¬ c = 105 then (if ¬ c = 111 then (if ¬ c = 113 then (if ¬ c = 114 then (if ¬ c = 109 then -1 else 6) else 5) else 4) else 3) else 2) else 1) else 0
theorem k_X12_nameOf {c : Int32} {I : am_I} {L : am_L} : am_K M_X12_nameOf 0 [.int c] I L (am_qf (some (.int (r_nm c))) I L) := by
  generalize hQ : am_qf (some (.int (r_nm c))) I L = Q
  have fin : ∀ v, r_nm c = v → Q (some (.int v)) I L := fun v h => by rw [← hQ, h]; exact ⟨rfl, rfl, rfl⟩
  have ng : ∀ {x : Int32}, c = x → ¬ ¬ c = x := fun h q => q h
  refine bm_intro (by decide +kernel) (Nat.le_of_ble_eq_true rfl) (show B_X12_nameOf_0 _ _ _ _ from s_X12_nameOf_0 ⟨fun c0 => ⟨fun c1 => ⟨fun c2 => ⟨fun c3 => ⟨fun c4 => ⟨fun c5 => ⟨fun c6 => ?_, fun c6 => ?_⟩, fun c5 => ?_⟩, fun c4 => ?_⟩, fun c3 => ?_⟩, fun c2 => ?_⟩, fun c1 => ?_⟩, fun c0 => ?_⟩)
  · exact fin _ (by rw [r_nm, if_pos c0, if_pos c1, if_pos c2, if_pos c3, if_pos c4, if_pos c5, if_pos c6])
  · exact fin _ (by rw [r_nm, if_pos c0, if_pos c1, if_pos c2, if_pos c3, if_pos c4, if_pos c5, if_neg (ng c6)])
  · exact fin _ (by rw [r_nm, if_pos c0, if_pos c1, if_pos c2, if_pos c3, if_pos c4, if_neg (ng c5)])
  · exact fin _ (by rw [r_nm, if_pos c0, if_pos c1, if_pos c2, if_pos c3, if_neg (ng c4)])
  · exact fin _ (by rw [r_nm, if_pos c0, if_pos c1, if_pos c2, if_neg (ng c3)])
  · exact fin _ (by rw [r_nm, if_pos c0, if_pos c1, if_neg (ng c2)])
  · exact fin _ (by rw [r_nm, if_pos c0, if_neg (ng c1)])
  · exact fin _ (by rw [r_nm, if_neg (ng c0)])
/-- the row's text is T -/
def r_T (L : am_L) (T : Nat → Int32) (n : Nat) : Prop := n ≤ 40 ∧ Int64.toInt32 (L 191 1184) = nI n ∧ ∀ k, k < n → L 191 (976 + k) = (T k).toInt64
theorem r_lit {x y : Int32} (h : x.toInt64 = y.toInt64) : x = y := by rw [← am_l2i_id x, h, am_l2i_id]
theorem k_X12_ahead {T : Nat → Int32} {n p v s : Nat} {f : Int32} {A : Nat → Int32} {I : am_I} {L : am_L} (hT : r_T L T n) (hp : p ≤ n) : am_K M_X12_ahead 1 [.ref 190] (r_I I p f v s A) L (am_qf (some (.int (q_c T n (q_s T n p)))) (r_I I (q_s T n p) f v s A) L) := by
  obtain ⟨hn1, hn, ht⟩ := hT
  have key : ∀ p, p ≤ n → B_X12_ahead_0 (am_qf (some (.int (q_c T n (q_s T n p)))) (r_I I (q_s T n p) f v s A) L) (r_I I p f v s A) L := by
    refine am_down ?_ (fun p hp ih => ?_)
    · rw [q_s_end (Nat.le_refl _), q_c, if_neg (Nat.lt_irrefl _)]
      refine s_X12_ahead_0 ⟨fun _ => ⟨fun _ => ⟨rfl, rfl, rfl⟩, fun c => absurd ?_ c⟩, fun c => absurd ?_ c⟩ <;>
      · rw [hn, r_I_11]; exact Int32.le_refl _
    · have hge : ¬ nI n ≤ nI p := nI_ge hp (by omega)
      refine s_X12_ahead_0 ⟨fun c => absurd c (by rw [hn, r_I_11]; exact hge), fun _ => ?_⟩
      rw [r_I_11, hn, i_rul (by omega), ht p hp]
      refine ⟨v_rul (by omega), fun c2 => ⟨fun c => absurd c hge, fun _ => ⟨v_rul (by omega), ?_⟩⟩, fun c2 => ?_⟩
      · have c3 : ¬ T p = 32 := fun h => c2 (by rw [h]; decide)
        rw [q_s_nb hp c3, q_c, if_pos hp, am_l2i_id]
        exact ⟨rfl, rfl, rfl⟩
      · have c3 : T p = 32 := r_lit (y := 32) c2
        rw [← nI_succ, r_I_u11, q_s_b hp c3]
        exact ih
  exact bm_intro (by decide +kernel) (Nat.le_of_ble_eq_true rfl) (show B_X12_ahead_0 _ _ _ from key p hp)
