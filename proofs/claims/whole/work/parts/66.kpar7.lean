/-! the rule readers: what they find does not hang on the names; valueRead, faultOf, learn, reads, fault, bound -/
def z_ind (u u' : q_P) : Prop := ∀ s, (u s).2 = (u' s).2
theorem z_ind_lp2 {T : Nat → Int32} {n : Nat} {c1 c2 : Int32} {op1 op2 : Int64 → Int64 → Int64} {u u' : q_P} (h : z_ind u u') : ∀ m v v' s, (q_lp2 T n c1 op1 c2 op2 u m v s).2 = (q_lp2 T n c1 op1 c2 op2 u' m v' s).2 := by
  intro m
  induction m with
  | zero => intro v v' s; rfl
  | succ m ih =>
    intro v v' s
    rw [q_lp2, q_lp2]
    split
    · split
      · rfl
      · rw [h]; exact ih _ _ _
    · rw [h]; exact ih _ _ _
theorem z_ind_lp1 {T : Nat → Int32} {n : Nat} {c1 : Int32} {op1 : Int64 → Int64 → Int64} {u u' : q_P} (h : z_ind u u') : ∀ m v v' s, (q_lp1 T n c1 op1 u m v s).2 = (q_lp1 T n c1 op1 u' m v' s).2 := by
  intro m
  induction m with
  | zero => intro v v' s; rfl
  | succ m ih =>
    intro v v' s
    rw [q_lp1, q_lp1]
    split
    · rfl
    · rw [h]; exact ih _ _ _
theorem z_ind_held {T : Nat → Int32} {n : Nat} {w w' : q_P} (h2 : z_ind w w') : z_ind (q_held T n w) (q_held T n w') := fun s => by
  rw [q_held, q_held, h2 s]
  split
  · split
    · split
      · rfl
      · exact h2 _
    · exact h2 _
  · exact h2 _
theorem z_ind_mul {T : Nat → Int32} {n : Nat} {u u' : q_P} (h : z_ind u u') : z_ind (q_mul T n u) (q_mul T n u') := fun s => by rw [q_mul, q_mul, h]; exact z_ind_lp2 h _ _ _ _
theorem z_ind_add {T : Nat → Int32} {n : Nat} {u u' : q_P} (h : z_ind u u') : z_ind (q_add T n u) (q_add T n u') := fun s => by rw [q_add, q_add, h]; exact z_ind_lp2 h _ _ _ _
theorem z_ind_all {T : Nat → Int32} {n : Nat} {u u' : q_P} (h : z_ind u u') : z_ind (q_all T n u) (q_all T n u') := fun s => by rw [q_all, q_all, h]; exact z_ind_lp1 h _ _ _ _
theorem z_ind_any {T : Nat → Int32} {n : Nat} {u u' : q_P} (h : z_ind u u') : z_ind (q_any T n u) (q_any T n u') := fun s => by rw [q_any, q_any, h]; exact z_ind_lp1 h _ _ _ _
theorem z_ind_lev {T : Nat → Int32} {n : Nat} {u u' : q_P} (h : z_ind u u') : z_ind (q_lev T n u) (q_lev T n u') := z_ind_any (z_ind_all (z_ind_held (z_ind_add (z_ind_mul h))))
theorem z_ind_unit {T : Nat → Int32} {n : Nat} (N N' : Nat → Int64) : ∀ k, z_ind (q_unit T n N k) (q_unit T n N' k) := by
  intro k
  induction k with
  | zero => intro s; rfl
  | succ k ih =>
    intro s
    have hl := z_ind_lev (T := T) (n := n) ih
    rw [q_unit, q_unit]
    dsimp only
    split
    · rfl
    · split
      · rfl
      · split
        · rw [q_in, q_in]
          dsimp only
          split
          · rw [hl]
          · rfl
        · split
          · exact ih _
          · split
            · exact ih _
            · split
              · rfl
              · rfl
theorem z_flt_ind {T : Nat → Int32} {n : Nat} (N N' : Nat → Int64) : z_flt T n N = z_flt T n N' := by
  have h := z_ind_lev (T := T) (n := n) (z_ind_unit (T := T) (n := n) N N' 41) (0, 0, -1)
  rw [z_flt, z_flt, z_val, z_val, h]
theorem k_X7_valueRead {n : Nat} {I : am_I} {L : am_L} (hn : I 184 2 = nI n) (hn1 : n ≤ 40) (hT : ∀ k, k < n → 0 ≤ I 186 k ∧ I 186 k ≤ 127) : am_K M_X7_valueRead 321 [.ref 184] I L (am_qf (some (.long (z_val (I 186) n (L 185)).1)) (q_I I (q_s (I 186) n (z_val (I 186) n (L 185)).2.1) (z_val (I 186) n (L 185)).2.2.1 (z_flt (I 186) n (L 185))) L) := by
  have hok := q_ok_lev (T := I 186) (q_ok_unit (T := I 186) (n := n) (N := L 185) 41) (0, 0, -1) ⟨Nat.zero_le _, by show n < 0 + 41; omega, by decide⟩
  have kt := k_anyTop (L := L) hn hn1 hT
  rw [z_flt]
  rw [z_val] at *
  generalize hw : q_lev (I 186) n (q_unit (I 186) n (L 185) 41) (0, 0, -1) = w at *
  obtain ⟨v, p2, o2, f2⟩ := w
  have hp3 : p2 ≤ n := hok.2.1
  dsimp only at kt ⊢
  refine bm_intro (by decide +kernel) (Nat.le_of_ble_eq_true rfl) (show B_X7_valueRead_0 _ _ _ from s_X7_valueRead_0 ⟨300, by decide, _, am_qf_l (by rw [q_I_start]; exact kt), fun v5 I3 L4 e => ?_⟩)
  obtain ⟨q1, q2, q3⟩ := e
  rw [q1, q2, q3]
  refine ⟨_, am_qf_i (k_X7_next (p := p2) (o := o2) (f := f2) hn hn1 hp3), fun v5 I3 L4 e => ?_⟩
  obtain ⟨q1, q2, q3⟩ := e
  rw [q1, q2, q3]
  refine ⟨fun h => ?_, fun h => ⟨_, am_qf_l k_X7_refuse, fun v5 I3 L4 e => ?_⟩⟩
  · rw [if_pos h]; exact ⟨rfl, rfl, rfl⟩
  · obtain ⟨q1, q2, q3⟩ := e
    rw [q2, q3, if_neg h]; exact ⟨rfl, rfl, rfl⟩
/-- behind the taking of a text: its row, its length -/
def f_tk (I : am_I) (n : Nat) : am_I := am_u (am_cp I 186 53 40) 184 2 (nI n)
theorem f_tk_n (I : am_I) (n : Nat) : f_tk I n 184 2 = nI n := am_u_eq _ _ _ _
theorem f_tk_T (I : am_I) {n k : Nat} (h : k < 40) : f_tk I n 186 k = I 53 k := by
  rw [f_tk, am_u_ne _ (Or.inl (by decide)), am_cp, if_pos rfl, if_pos h]
theorem f_tk_ne (I : am_I) (n : Nat) {a x : Nat} (h1 : a ≠ 184) (h2 : a ≠ 186) : f_tk I n a x = I a x := by
  rw [f_tk, am_u_ne _ (Or.inl h1), am_cp_ne _ h2]
theorem k_X7_faultOf {n : Nat} {I : am_I} {L : am_L} (hn : I 15 5 = nI n) (hn1 : n ≤ 40) (hT : ∀ k, k < n → 0 ≤ I 53 k ∧ I 53 k ≤ 127) : am_K M_X7_faultOf 322 [.ref 184, .ref 15] I L (am_qf (some (.int (z_flt (f_tk I n 186) n (L 185)))) (q_I (f_tk I n) (q_s (f_tk I n 186) n (z_val (f_tk I n 186) n (L 185)).2.1) (z_val (f_tk I n 186) n (L 185)).2.2.1 (z_flt (f_tk I n 186) n (L 185))) L) := by
  have e0 : am_u (am_cp I 186 53 40) 184 2 (I 15 5) = f_tk I n := by rw [hn, f_tk]
  refine bm_intro (by decide +kernel) (Nat.le_of_ble_eq_true rfl) (show B_X7_faultOf_0 _ _ _ from s_X7_faultOf_0 ⟨_, am_qf_l (by rw [e0]; exact k_X7_valueRead (f_tk_n I n) hn1 (fun k hk => by rw [f_tk_T I (by omega)]; exact hT k hk)), fun v5 I3 L4 e => ?_⟩)
  obtain ⟨q1, q2, q3⟩ := e
  rw [q2, q3]
  exact ⟨by rw [q_I_4], rfl, rfl⟩
/-- the fund's names of a month -/
def f_nm (I : am_I) (L : am_L) (n nl m : Nat) : Nat → Int64 := fun x =>
  if x = 0 then L 22 m else if x = 1 then L 23 m else if x = 2 then am_sum (f_ina I (nI m) (nI m)) n else if x = 3 then am_sum (f_outa I (nI m) (nI m)) n
  else if x = 4 then (am_it (f_ask I (nI m)) 0 nl).toInt64 else if x = 5 then (am_it (f_rea I (nI m)) 0 nl).toInt64 else if x = 6 then (nI m).toInt64 else L 185 x
theorem f_nm_chain {I : am_I} {L : am_L} {n nl m : Nat} {N : Nat → Int64} (hN : ∀ x, 7 ≤ x → N x = L 185 x) : am_f (am_f (am_f (am_f (am_f (am_f (am_f N 0 (L 22 m)) 1 (L 23 m)) 2 (am_sum (f_ina I (nI m) (nI m)) n)) 3 (am_sum (f_outa I (nI m) (nI m)) n)) 4 (am_it (f_ask I (nI m)) 0 nl).toInt64) 5 (am_it (f_rea I (nI m)) 0 nl).toInt64) 6 (nI m).toInt64 = f_nm I L n nl m := by
  funext x
  simp only [am_f, f_nm]
  by_cases h6 : x = 6
  · subst h6; simp
  by_cases h5 : x = 5
  · subst h5; simp
  by_cases h4 : x = 4
  · subst h4; simp
  by_cases h3 : x = 3
  · subst h3; simp
  by_cases h2 : x = 2
  · subst h2; simp
  by_cases h1 : x = 1
  · subst h1; simp
  by_cases h0 : x = 0
  · subst h0; simp
  rw [if_neg h6, if_neg h5, if_neg h4, if_neg h3, if_neg h2, if_neg h1, if_neg h0, if_neg h0, if_neg h1, if_neg h2, if_neg h3, if_neg h4, if_neg h5, if_neg h6]
  exact hN x (by omega)
theorem k_X7_learn {n nl m : Nat} {I : am_I} {L L0 : am_L} (hn : I 11 7 = nI n) (hn1 : n ≤ 100) (hl : I 15 3 = nI nl) (hl1 : nl ≤ 20) (hm : m < 60) (hN : ∀ x, 7 ≤ x → L 185 x = L0 185 x) (h22 : L 22 = L0 22) (h23 : L 23 = L0 23) : am_K M_X7_learn 1 [.ref 184, .ref 11, .ref 15, .int (nI m)] I L (am_qf none I (am_ro L 185 (f_nm I L0 n nl m))) := by
  have hv : vp_in (nI m) 60 := am_vI hm (by decide)
  refine bm_intro (by decide +kernel) (Nat.le_of_ble_eq_true rfl) (show B_X7_learn_0 _ _ _ _ from s_X7_learn_0 ⟨hv, hv, _, am_qf_l (k_X4_inOfAll hn hn1), fun v I5 L6 e => ?_⟩)
  obtain ⟨q1, q2, q3⟩ := e
  rw [q1, q2, q3]
  refine ⟨_, am_qf_l (k_X4_outOfAll hn hn1), fun v I5 L6 e => ?_⟩
  obtain ⟨q1, q2, q3⟩ := e
  rw [q1, q2, q3]
  refine ⟨_, am_qf_i (k_X5_askedBy hl hl1), fun v I5 L6 e => ?_⟩
  obtain ⟨q1, q2, q3⟩ := e
  rw [q1, q2, q3]
  refine ⟨_, am_qf_i (k_X5_readBy hl hl1), fun v I5 L6 e => ?_⟩
  obtain ⟨q1, q2, q3⟩ := e
  rw [q1, q2, q3]
  refine ⟨rfl, rfl, ?_⟩
  rw [nI_clamp (by omega), am_u_ro L 185, am_ro_u, am_ro_u, am_ro_u, am_ro_u, am_ro_u, am_ro_u, ← f_nm_chain (N := L 185) hN, h22, h23]
/-- what the reference's reader changes -/
def r_X (I : am_I) (L : am_L) (I' : am_I) (L' : am_L) : Prop := (∀ a x, a ≠ 200 → (a ≠ 190 ∨ 17 ≤ x) → I' a x = I a x) ∧ ∀ a x, a ≠ 199 → a ≠ 190 → L' a x = L a x
theorem r_X_I (I : am_I) (L W : am_L) (p : Nat) (f : Int32) (v s : Nat) (A : Nat → Int32) {L' : am_L} (h : ∀ a x, a ≠ 199 → a ≠ 190 → L' a x = L a x) : r_X I L (r_I I p f v s A) L' := by
  refine ⟨fun a x h1 h2 => ?_, h⟩
  rw [r_I, am_ro_ne _ _ h1]
  by_cases h3 : a = 190
  · subst h3
    have h4 : 17 ≤ x := h2.resolve_left (fun q => q rfl)
    rw [am_ro_at, am_f_ne _ _ (by omega), am_f_ne _ _ (by omega), am_f_ne _ _ (by omega), am_f_ne _ _ (by omega)]
  · rw [am_ro_ne _ _ h3]
theorem r_X_L {L : am_L} {W : Nat → Int64} {t : Int64} : ∀ a x, a ≠ 199 → a ≠ 190 → am_u (am_ro L 199 W) 190 18 t a x = L a x := fun a x h1 h2 => by
  rw [am_u_ne _ (Or.inl h2), am_ro_ne _ _ h1]
theorem k_X12_reads {T : Nat → Int32} {n : Nat} {N : Nat → Int64} {I : am_I} {L : am_L} (hT : r_T L T n) (hN : ∀ x, x < 7 → N x = L 201 x) : am_K M_X12_reads 2 [.ref 190] I L (am_qi fun v I' L' => r_X I L I' L' ∧ I' 190 12 = z_flt T n N ∧ (z_flt T n N = -1 → v = 1 ∧ L' 190 18 = (z_val T n N).1) ∧ (¬ z_flt T n N = -1 → v = 0 ∧ L' 190 18 = 0)) := by
  refine bm_intro (by decide +kernel) (Nat.le_of_ble_eq_true rfl) (show B_X12_reads_0 _ _ _ from s_X12_reads_0 ?_)
  rw [r_I_start]
  have k := z_top (Q := am_qi fun v I' L' => r_X I L I' L' ∧ I' 190 12 = z_flt T n N ∧ (z_flt T n N = -1 → v = 1 ∧ L' 190 18 = (z_val T n N).1) ∧ (¬ z_flt T n N = -1 → v = 0 ∧ L' 190 18 = 0)) (I := I) hT hN (fun hf p v s A W => ⟨0, rfl, r_X_I I L L p _ v s A r_X_L, r_I_12 _ _ _ _ _ _, fun h => absurd h hf, fun _ => ⟨rfl, am_u_eq _ _ _ _⟩⟩) (fun hf p v s A W hW => ⟨1, rfl, r_X_I I L L p _ v s A r_X_L, by rw [r_I_12, hf], fun _ => ⟨rfl, by rw [am_u_eq, hW]⟩, fun h => absurd hf h⟩)
  have k2 := k (I 200) (L 199) trivial trivial
  rw [am_ro_self] at k2
  exact k2
theorem k_X12_fault {T : Nat → Int32} {n : Nat} {N : Nat → Int64} {I : am_I} {L : am_L} (hT : r_T L T n) (hN : ∀ x, x < 7 → N x = L 201 x) : am_K M_X12_fault 3 [.ref 190] I L (am_qi fun v I' L' => r_X I L I' L' ∧ v = z_flt T n N) := by
  refine bm_intro (by decide +kernel) (Nat.le_of_ble_eq_true rfl) (show B_X12_fault_0 _ _ _ from s_X12_fault_0 ⟨_, k_X12_reads hT hN, fun v I3 L4 e => ⟨_, rfl, e.1, e.2.1⟩⟩)
