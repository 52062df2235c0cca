/-! the reference's reader: works, worksDown, stands, digits -/
def r_op (c : Int32) (a b : Int64) : Int64 := if c = 38 then q_and a b else if c = 42 then a * b else if c = 43 then a + b else if c = 45 then a - b else if c = 60 then (if b ≤ a then 0 else 1) else if c = 61 then (if a = b then 1 else 0) else if c = 62 then (if a ≤ b then 0 else 1) else if c = 124 then q_or a b else am_cut a b
theorem k_X12_works {p v s : Nat} {f : Int32} {A : Nat → Int32} {I : am_I} {L : am_L} (hv : v + 2 ≤ 64) (hs : s + 1 ≤ 128) : am_K M_X12_works 0 [.ref 190] (r_I I p f (v + 2) (s + 1) A) L (am_qf none (r_I I p f (v + 1) s A) (am_u L 199 v (r_op (A s) (L 199 v) (L 199 (v + 1))))) := by
  generalize hQ : am_qf none (r_I I p f (v + 1) s A) (am_u L 199 v (r_op (A s) (L 199 v) (L 199 (v + 1)))) = Q
  have v1 : nI (v + 2) - 1 = nI (v + 1) := by rw [nI_succ (v + 1), Int32.add_sub_cancel]
  have v2 : nI (v + 1) - 1 = nI v := by rw [nI_succ v, Int32.add_sub_cancel]
  have s1 : nI (s + 1) - 1 = nI s := by rw [nI_succ s, Int32.add_sub_cancel]
  have hx2 : vp_in (nI v) 64 := am_vI (by omega) (by decide)
  have fin : ∀ x, r_op (A s) (L 199 v) (L 199 (v + 1)) = x → vp_in (nI v) 64 ∧ Q none (r_I I p f (v + 1) s A) (am_u L 199 v x) := fun x h => by rw [← hQ, h]; exact ⟨hx2, rfl, rfl, rfl⟩
  refine bm_intro (by decide +kernel) (Nat.le_of_ble_eq_true rfl) (show B_X12_works_0 _ _ _ from s_X12_works_0 ?_)
  simp only [r_I_14, r_I_16, r_I_200, v1, v2, s1, r_I_u16, r_I_u14]
  rw [nI_clamp (n := v) (by omega), nI_clamp (n := v + 1) (by omega), nI_clamp (n := s) (by omega)]
  generalize A s = c at fin ⊢
  generalize L 199 v = a at fin ⊢
  generalize L 199 (v + 1) = b at fin ⊢
  refine ⟨hx2, am_vI (by omega) (by decide), am_vI (by omega) (by decide), fun c0 => ⟨fun d0 => ?_, fun d0 => ⟨fun d1 => ?_, fun d1 => ?_⟩⟩, fun c0 => ⟨fun c1 => ?_, fun c1 => ⟨fun c2 => ?_, fun c2 => ⟨fun c3 => ?_, fun c3 => ⟨fun c4 => ⟨fun d0 => ?_, fun d0 => ?_⟩, fun c4 => ⟨fun c5 => ⟨fun d0 => ?_, fun d0 => ?_⟩, fun c5 => ⟨fun c6 => ⟨fun d0 => ?_, fun d0 => ?_⟩, fun c6 => ⟨fun c7 => ⟨fun d0 => ?_, fun d0 => ⟨fun d1 => ?_, fun d1 => ?_⟩⟩, fun c7 => ⟨fun d0 => ⟨d0, ?_⟩, fun d0 => ?_⟩⟩⟩⟩⟩⟩⟩⟩⟩
  · exact fin _ (by rw [r_op, if_pos c0, q_and, if_pos d0])
  · exact fin _ (by rw [r_op, if_pos c0, q_and, if_neg d0, if_pos d1])
  · exact fin _ (by rw [r_op, if_pos c0, q_and, if_neg d0, if_neg d1])
  · exact fin _ (by rw [r_op, if_neg c0, if_pos c1])
  · exact fin _ (by rw [r_op, if_neg c0, if_neg c1, if_pos c2])
  · exact fin _ (by rw [r_op, if_neg c0, if_neg c1, if_neg c2, if_pos c3])
  · exact fin _ (by rw [r_op, if_neg c0, if_neg c1, if_neg c2, if_neg c3, if_pos c4, if_pos d0])
  · exact fin _ (by rw [r_op, if_neg c0, if_neg c1, if_neg c2, if_neg c3, if_pos c4, if_neg d0])
  · exact fin _ (by rw [r_op, if_neg c0, if_neg c1, if_neg c2, if_neg c3, if_neg c4, if_pos c5, if_neg d0])
  · exact fin _ (by rw [r_op, if_neg c0, if_neg c1, if_neg c2, if_neg c3, if_neg c4, if_pos c5, if_pos d0])
  · exact fin _ (by rw [r_op, if_neg c0, if_neg c1, if_neg c2, if_neg c3, if_neg c4, if_neg c5, if_pos c6, if_pos d0])
  · exact fin _ (by rw [r_op, if_neg c0, if_neg c1, if_neg c2, if_neg c3, if_neg c4, if_neg c5, if_pos c6, if_neg d0])
  · exact fin _ (by rw [r_op, if_neg c0, if_neg c1, if_neg c2, if_neg c3, if_neg c4, if_neg c5, if_neg c6, if_pos c7, q_or, if_pos d0])
  · exact fin _ (by rw [r_op, if_neg c0, if_neg c1, if_neg c2, if_neg c3, if_neg c4, if_neg c5, if_neg c6, if_pos c7, q_or, if_neg (fun q : ¬ a = 0 => q d0), if_pos d1])
  · exact fin _ (by rw [r_op, if_neg c0, if_neg c1, if_neg c2, if_neg c3, if_neg c4, if_neg c5, if_neg c6, if_pos c7, q_or, if_neg (fun q : ¬ a = 0 => q d0), if_neg d1])
  · exact fin _ (by rw [r_op, if_neg c0, if_neg c1, if_neg c2, if_neg c3, if_neg c4, if_neg c5, if_neg c6, if_neg c7, am_cut, if_neg d0])
  · exact fin _ (by rw [r_op, if_neg c0, if_neg c1, if_neg c2, if_neg c3, if_neg c4, if_neg c5, if_neg c6, if_neg c7, am_cut, if_pos d0])
/-- what a row's first cells are, the top first -/
def r_sta {α : Type} (A : Nat → α) : List α → Prop
  | [] => True
  | x :: l => A l.length = x ∧ r_sta A l
theorem r_sta_f {α : Type} {A : Nat → α} {k : Nat} {x : α} : ∀ {l : List α}, l.length ≤ k → (r_sta (am_f A k x) l ↔ r_sta A l) := by
  intro l
  induction l with
  | nil => intro _; exact Iff.rfl
  | cons y l ih =>
    intro h
    have h' : l.length + 1 ≤ k := h
    rw [r_sta, r_sta, ih (by omega), am_f_ne _ _ (by omega)]
/-- worksDown on lists -/
def r_wd (least : Int32) : List Int32 → List Int64 → List Int32 × List Int64
  | c :: S, b :: a :: V => if c < 1000 ∧ least ≤ r_rk c then r_wd least S (r_op c a b :: V) else (c :: S, b :: a :: V)
  | S, V => (S, V)
