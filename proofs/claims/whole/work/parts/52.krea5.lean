/-! the reference's reader: its steps, on lists -/
def r_C (Q : am_S) (I : am_I) (L : am_L) (p : Nat) (f : Int32) (S : List Int32) (V : List Int64) (o : Nat) (w : Int32) : Prop := ∀ A W, r_sta A S → r_sta W V → B_X12_reads_26 Q (r_I I p f V.length S.length A) (am_ro L 199 W) (nI o) w 1
/-- a fault has been found -/
theorem r_C_f {Q : am_S} {I : am_I} {L : am_L} {p : Nat} {f : Int32} {S : List Int32} {V : List Int64} {o : Nat} {w : Int32} (hf : ¬ f = -1) (h : ∀ p v s A W, Q (some (.int 0)) (r_I I p f v s A) (am_u (am_ro L 199 W) 190 18 0)) : r_C Q I L p f S V o w := fun A W _ _ => by
  refine s_X12_reads_26 ⟨fun c => absurd c (by decide), fun _ => ⟨fun _ => ⟨fun _ => ⟨fun _ => h _ _ _ _ _, fun c => absurd c ?_⟩, fun c => absurd c ?_⟩, fun c => absurd c ?_⟩⟩ <;>
  · rw [r_I_12]; exact hf
theorem r_T_ro {L : am_L} {T : Nat → Int32} {n : Nat} (h : r_T L T n) (W : Nat → Int64) : r_T (am_ro L 199 W) T n := by
  rw [r_T, am_ro_ne L W (show 191 ≠ 199 by decide)]; exact h
theorem r_sd_sta {A : Nat → Int32} : ∀ {S : List Int32}, r_sta A S → ∀ v : Int64, r_sta A (r_sd S v).1 := by
  intro S
  induction S with
  | nil => intro h v; exact h
  | cons c S ih =>
    intro h v
    rw [r_sd]
    split
    · exact h
    · exact ih h.2 _
/-- a number comes -/
theorem r_C_num {Q : am_S} {I : am_I} {L : am_L} {T : Nat → Int32} {n p : Nat} {S : List Int32} {V : List Int64} {o : Nat} (hT : r_T L T n) (hp : p ≤ n) (hd : 48 ≤ q_c T n (q_s T n p) ∧ q_c T n (q_s T n p) ≤ 57) (hV : V.length < 64) (hS : S.length ≤ 128)
    (h : r_C Q I L (r_np T n (q_s T n p)) (r_nf T n (q_s T n p) (-1)) (r_sd S (q_num T n (q_s T n p))).1 ((r_sd S (q_num T n (q_s T n p))).2 :: V) o 0) : r_C Q I L p (-1) S V o 1 := fun A W hA hW => by
  have hs := q_s_le T hp
  refine s_X12_reads_26 ⟨fun c => absurd c (by decide), fun _ => ⟨fun c => absurd (r_I_12 _ _ _ _ _ _) c, fun _ => ⟨_, am_qf_i (k_X12_ahead (r_T_ro hT W) hp), fun v I7 L8 e => ?_⟩⟩⟩
  obtain ⟨q1, q2, q3⟩ := e
  rw [q1, q2, q3]
  refine ⟨fun c => absurd c (by decide), fun _ => ⟨fun c => absurd hd c, fun _ => ⟨_, am_qf_l (k_X12_digits (r_T_ro hT W) hs.2), fun v I7 L8 e => ?_⟩⟩⟩
  obtain ⟨q1, q2, q3⟩ := e
  rw [q1, q2, q3]
  refine ⟨_, k_X12_stands hA hW hV hS, fun I7 L8 e => ?_⟩
  obtain ⟨W2, e1, e2, e3⟩ := e
  rw [e1, e2]
  exact h A W2 (r_sd_sta hA _) e3
