/-! the rule reader: the unit, by fuel -/
def q_lev (T : Nat → Int32) (n : Nat) (u : q_P) : q_P := q_any T n (q_all T n (q_held T n (q_add T n (q_mul T n u))))
def q_unit (T : Nat → Int32) (n : Nat) (N : Nat → Int64) : Nat → q_P
  | 0 => fun s => (0, s)
  | k + 1 => fun s =>
    let p := q_s T n s.1
    let c := q_c T n p
    let s1 : q_S := (p, s.2)
    let s2 := q_mv T n 33 s1
    let s3 := q_mv T n 45 s2
    if c = -1 then (0, (p, s.2.1, q_rf 1 p s.2.2))
    else if 48 ≤ c ∧ c ≤ 57 then (q_num T n p, (q_np T n p, s.2.1, q_nf T n p s.2.2))
    else if c = 40 then q_in T n (q_lev T n (q_unit T n N k)) s1
    else if ¬ q_hit T n 33 s1 = 0 then (if (q_unit T n N k s2).1 = 0 then 1 else 0, (q_unit T n N k s2).2)
    else if ¬ q_hit T n 45 s2 = 0 then (-(q_unit T n N k s3).1, (q_unit T n N k s3).2)
    else if r_nm c < 0 then (0, (s3.1, s.2.1, q_rf 1 s3.1 s.2.2))
    else (N (r_nm c).toNatClampNeg, (s3.1 + 1, s.2.1, s.2.2))
theorem q_ok_lev {T : Nat → Int32} {n k : Nat} {u : q_P} (h : q_ok n k u) : q_ok n k (q_lev T n u) := q_ok_any (q_ok_all (q_ok_held (q_ok_add (q_ok_mul h))))
theorem q_s_s {T : Nat → Int32} {n p : Nat} (h : p ≤ n) : q_s T n (q_s T n p) = q_s T n p := by
  have key : ∀ p, p ≤ n → q_s T n (q_s T n p) = q_s T n p := by
    refine am_down ?_ (fun p hp ih => ?_)
    · rw [q_s_end (Nat.le_refl n), q_s_end (Nat.le_refl n)]
    · by_cases hb : T p = 32
      · rw [q_s_b hp hb]; exact ih
      · rw [q_s_nb hp hb, q_s_nb hp hb]
  exact key p h
theorem q_np_le {T : Nat → Int32} {n p : Nat} (h : p ≤ n) : p ≤ q_np T n p ∧ q_np T n p ≤ n := by
  have := q_e_le T h
  rw [q_np]; split
  · exact this
  · exact ⟨Nat.le_refl _, h⟩
theorem q_tp_nh {T : Nat → Int32} {n p : Nat} {c f : Int32} (h : p ≤ n) (hh : q_tb T n c (q_s T n p) f = 0) : q_tp T n c (q_s T n p) f = q_s T n p := by
  rw [q_tb] at hh
  rw [q_tp]
  split
  · rfl
  · rename_i h1
    rw [if_neg h1] at hh
    split
    · rename_i h2
      rw [if_pos h2] at hh
      exact absurd hh (by decide)
    · exact q_s_s h
theorem q_ok_in {T : Nat → Int32} {n k : Nat} {u : q_P} (h : q_ok n k u) {s : q_S} (g1 : s.1 < n) (g2 : n < s.1 + (k + 1)) (g3 : s.2.1 ≤ 8) : s.1 ≤ (q_in T n u s).2.1 ∧ (q_in T n u s).2.1 ≤ n ∧ (q_in T n u s).2.2.1 = s.2.1 := by
  rw [q_in]
  split
  · rename_i h8
    have g : q_G n k (s.1 + 1, s.2.1 + 1, s.2.2) := ⟨g1, by show n < s.1 + 1 + k; omega, by show s.2.1 + 1 ≤ 8; omega⟩
    have h0 := h _ g
    have g0 := q_G_ok h g
    have e := q_mv_le (T := T) (c := 41) g0.1 (by decide)
    exact ⟨Nat.le_trans (Nat.le_succ _) (Nat.le_trans h0.1 e.1), e.2.1, rfl⟩
  · exact ⟨Nat.le_refl _, Nat.le_of_lt g1, rfl⟩
theorem q_c_lt {T : Nat → Int32} {n p : Nat} (h : ¬ q_c T n p = -1) : p < n := by
  by_cases hp : p < n
  · exact hp
  · exact absurd (if_neg hp) h
theorem q_ok_unit {T : Nat → Int32} {n : Nat} {N : Nat → Int64} : ∀ k, q_ok n k (q_unit T n N k) := by
  intro k
  induction k with
  | zero => intro s g; exact absurd g.2.1 (by have := g.1; omega)
  | succ k ih =>
    intro s g
    obtain ⟨g1, g2, g3⟩ := g
    have hs := q_s_le T g1
    rw [q_unit]
    dsimp only
    split
    · exact ⟨hs.1, hs.2, rfl⟩
    · rename_i c0
      have hlt := q_c_lt c0
      have e2 := q_tp_le (T := T) (c := 33) (f := s.2.2) hs.2 (by decide)
      split
      · have := q_np_le (T := T) hs.2
        exact ⟨Nat.le_trans hs.1 this.1, this.2, rfl⟩
      · split
        · have := q_ok_in (T := T) (q_ok_lev (T := T) ih) (s := (q_s T n s.1, s.2)) hlt (by show n < q_s T n s.1 + (k + 1); omega) g3
          exact ⟨Nat.le_trans hs.1 this.1, this.2.1, this.2.2⟩
        · split
          · rename_i h33
            have e3 := e2.2.2 h33
            have h0 := ih (q_mv T n 33 (q_s T n s.1, s.2)) ⟨e2.2.1, by show n < q_tp T n 33 (q_s T n s.1) s.2.2 + k; omega, g3⟩
            exact ⟨Nat.le_trans (Nat.le_trans hs.1 e2.1) h0.1, h0.2.1, h0.2.2⟩
          · rename_i h33
            have h33' : q_tb T n 33 (q_s T n s.1) s.2.2 = 0 := Classical.byContradiction h33
            have m2 : q_mv T n 33 (q_s T n s.1, s.2) = (q_s T n s.1, s.2) := by rw [q_mv, q_tp_nh g1 h33']
            have e4 := q_tp_le (T := T) (c := 45) (f := s.2.2) hs.2 (by decide)
            rw [m2]
            split
            · rename_i h45
              have e5 := e4.2.2 h45
              have h0 := ih (q_mv T n 45 (q_s T n s.1, s.2)) ⟨e4.2.1, by show n < q_tp T n 45 (q_s T n s.1) s.2.2 + k; omega, g3⟩
              exact ⟨Nat.le_trans (Nat.le_trans hs.1 e4.1) h0.1, h0.2.1, h0.2.2⟩
            · rename_i h45
              have h45' : q_tb T n 45 (q_s T n s.1) s.2.2 = 0 := Classical.byContradiction h45
              have m3 : q_mv T n 45 (q_s T n s.1, s.2) = (q_s T n s.1, s.2) := by rw [q_mv, q_tp_nh g1 h45']
              rw [m3]
              split
              · exact ⟨hs.1, hs.2, rfl⟩
              · exact ⟨Nat.le_trans hs.1 (Nat.le_succ _), hlt, rfl⟩
