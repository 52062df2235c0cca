theorem c_8s {k : Nat} (hk : k < 8) : (nI k).toNatClampNeg = k ∧ vp_in (nI k) 8 := ⟨nI_clamp (by omega), am_vI (k := k) (n := 8) hk (by decide)⟩
theorem c_nb {x : Int32} (h : x = 0 ∨ x = 1) : narrow .boolean (.int x) = .int x := by rcases h with rfl | rfl <;> decide
theorem c_step_congr {o c c' p p' : Nat → Int64} {h : Nat} (hc : c h = c' h) (hp : ∀ k, k < 8 → p k = p' k) : c_step o c p h = c_step o c' p' h := by
  have e : am_sum (fun k => c_sh o p k h) 8 = am_sum (fun k => c_sh o p' k h) 8 := am_sum_congr _ fun k hk => by rw [c_sh, c_sh, hp k hk]
  rw [c_step, c_step, e, hc]

/-- a round: what each pays next, then who pays otherwise hands it on; 1: something changed -/
theorem k_X1_changesInRounda {I : am_I} {L : am_L} {p c : Nat → Int64} (h0 : c_oka I L p) (hc : ∀ h, h < 8 → L 165 h = c h) : am_K M_X1_changesInRound 2 [.ref 164] I L (am_qi fun v I1 L1 => I1 = I ∧ c_oka I L1 (c_nx (c_oa I) c p 8) ∧ c_fra L L1 ∧ ((v = 0 ∧ ∀ h, h < 8 → c_step (c_oa I) c p h = p h) ∨ (v = 1 ∧ ¬ ∀ h, h < 8 → c_step (c_oa I) c p h = p h))) := by
  generalize hQ : (am_qi fun v I1 L1 => I1 = I ∧ c_oka I L1 (c_nx (c_oa I) c p 8) ∧ c_fra L L1 ∧ ((v = 0 ∧ ∀ h, h < 8 → c_step (c_oa I) c p h = p h) ∨ (v = 1 ∧ ¬ ∀ h, h < 8 → c_step (c_oa I) c p h = p h))) = Q
  have two : ∀ k, k ≤ 8 → ∀ v L2, c_oka I L2 (c_nx (c_oa I) c p k) → c_fra L L2 → (∀ h, h < 8 → L2 169 h = c_step (c_oa I) c p h) → ((v = 0 ∧ ∀ h, h < k → c_step (c_oa I) c p h = p h) ∨ (v = 1 ∧ ¬ ∀ h, h < 8 → c_step (c_oa I) c p h = p h)) → B_X1_changesInRounda_46 Q I L2 v (nI k) := by
    refine am_down (fun v L2 h1 h2 h3 h4 => ?_) (fun k hk ih v L2 h1 h2 h3 h4 => ?_)
    · refine s_X1_changesInRounda_46 ⟨fun _ => ⟨c_nb (h4.imp And.left And.left), ?_⟩, fun c1 => absurd c_8e c1⟩
      rw [← hQ]; exact ⟨v, rfl, rfl, h1, h2, h4⟩
    · obtain ⟨hck, hvk⟩ := c_8s hk
      rw [nI_succ] at ih
      refine s_X1_changesInRounda_46 ⟨fun c1 => absurd c1 (c_8 hk), fun _ => ⟨hvk, hvk, fun c2 => ⟨hvk, hvk, ?_⟩, fun c2 => ?_⟩⟩
      · rw [hck] at c2 ⊢
        rw [h3 k hk, h1.2.2.1 k hk] at c2
        have c2' : ¬ c_step (c_oa I) c p k = p k := by
          intro e; apply c2; rw [e]; simp [c_nx]
        rw [h3 k hk]
        have hG : c_G 164 (am_u L2 171 k (c_step (c_oa I) c p k)) := by
          intro t ht
          rw [am_u_ne _ (Or.inl (by decide)), h1.1 t ht]
          exact am_sum_congr _ fun j _ => by rw [am_u_ne _ (Or.inl (by decide))]
        refine ⟨_, k_X1_handOna hk hG, fun I4 L4 e => ?_⟩
        obtain ⟨rfl, e⟩ := e
        refine ih 1 L4 (c_seta hk h1 e c_nx_eq (fun j hj => c_nx_ne hj)) (fun a x ha => ?_) (fun h hh => ?_) (Or.inr ⟨rfl, fun h => c2' (h k hk)⟩)
        · have n1 : a ≠ 168 := by omega
          have n2 : a ≠ 170 := by omega
          have n3 : a ≠ 171 := by omega
          rw [e.2.1 a x n1 n2, am_u_ne _ (Or.inl n3), h2 a x ha]
        · rw [e.2.1 169 h (by decide) (by decide), am_u_ne _ (Or.inl (by decide)), h3 h hh]
      · rw [hck] at c2
        rw [h3 k hk, h1.2.2.1 k hk] at c2
        have c2' : c_step (c_oa I) c p k = p k := by
          rw [c2]; simp [c_nx]
        refine ih v L2 (by rw [c_nx_s c2']; exact h1) h2 h3 (h4.imp_left fun q => ⟨q.1, fun h hh => ?_⟩)
        rcases Nat.lt_or_eq_of_le (Nat.le_of_lt_succ hh) with e | e
        · exact q.2 h e
        · subst e; exact c2'
  have one : ∀ k, k ≤ 8 → ∀ L2, c_oka I L2 p → c_fra L L2 → (∀ h, h < 8 → L2 165 h = c h) → (∀ h, h < k → L2 169 h = c_step (c_oa I) c p h) → B_X1_changesInRounda_4 Q I L2 0 (nI k) := by
    refine am_down (fun L2 h1 h2 h3 h4 => ?_) (fun k hk ih L2 h1 h2 h3 h4 => ?_)
    · exact s_X1_changesInRounda_4 ⟨fun _ => two 0 (Nat.zero_le _) 0 L2 (by rw [c_nx_0]; exact h1) h2 h4 (Or.inl ⟨rfl, fun h hh => absurd hh (Nat.not_lt_zero _)⟩), fun c1 => absurd c_8e c1⟩
    · obtain ⟨hck, hvk⟩ := c_8s hk
      rw [nI_succ] at ih
      refine s_X1_changesInRounda_4 ⟨fun c1 => absurd c1 (c_8 hk), fun _ => ⟨hvk, hvk, hvk, hvk, ?_⟩⟩
      rw [hck]
      have e : (if L2 165 k + L2 168 k < L2 167 k then L2 165 k + L2 168 k else L2 167 k) = c_step (c_oa I) c p k := by
        rw [c_step, h3 k hk, h1.2.1 k hk, h1.1 k hk, show am_sum (fun j => L2 (164 + 6) (j * 8 + k)) 8 = am_sum (fun j => c_sh (c_oa I) p j k) 8 from am_sum_congr _ fun j hj => h1.2.2.2 j k hj hk]
      rw [e]
      obtain ⟨g1, g2, g3, g4⟩ := h1
      refine ih _ ⟨fun t ht => ?_, fun h hh => ?_, fun h hh => ?_, fun j t hj ht => ?_⟩ (fun a x ha => ?_) (fun h hh => ?_) (fun h hh => ?_)
      · rw [am_u_ne _ (Or.inl (by decide)), g1 t ht]
        exact am_sum_congr _ fun j _ => by rw [am_u_ne _ (Or.inl (by decide))]
      · rw [am_u_ne _ (Or.inl (by decide)), g2 h hh]
      · rw [am_u_ne _ (Or.inl (by decide)), g3 h hh]
      · rw [am_u_ne _ (Or.inl (by decide)), g4 j t hj ht]
      · have n1 : a ≠ 169 := by omega
        rw [am_u_ne _ (Or.inl n1), h2 a x ha]
      · rw [am_u_ne _ (Or.inl (by decide)), h3 h hh]
      · by_cases e2 : h = k
        · subst e2; rw [am_u_eq]
        · rw [am_u_ne _ (Or.inr e2)]; exact h4 h (by omega)
  exact bm_intro (by decide +kernel) (Nat.le_of_ble_eq_true rfl) (show B_X1_changesInRounda_0 _ _ _ from s_X1_changesInRounda_0 (one 0 (Nat.zero_le _) L h0 (fun _ _ _ => rfl) hc (fun h hh => absurd hh (Nat.not_lt_zero _))))
def c_fla (p : Nat → Int64) (o : Nat → Int64) (h : Nat) (b : Int32) : Int32 := if c_D o h ≤ p h then b else b ||| (1 <<< (nI h &&& 31))
theorem k_X1_fallena {I : am_I} {L : am_L} {p : Nat → Int64} (h0 : c_oka I L p) : am_K M_X1_fallen 0 [.ref 164] I L (am_qf (some (.int (am_it (c_fla p (c_oa I)) 0 8))) I L) := by
  have key : ∀ k, k ≤ 8 → B_X1_fallena_4 (am_qf (some (.int (am_it (c_fla p (c_oa I)) 0 8))) I L) I L (am_it (c_fla p (c_oa I)) 0 k) (nI k) := by
    refine am_down ?_ (fun k hk ih => ?_)
    · exact s_X1_fallena_4 ⟨fun _ => ⟨rfl, rfl, rfl⟩, fun c1 => absurd c_8e c1⟩
    · obtain ⟨hck, hvk⟩ := c_8s hk
      have e1 : am_it (c_fla p (c_oa I)) 0 (k + 1) = c_fla p (c_oa I) k (am_it (c_fla p (c_oa I)) 0 k) := rfl
      rw [e1, nI_succ] at ih
      refine s_X1_fallena_4 ⟨fun c1 => absurd c1 (c_8 hk), fun _ => ⟨hvk, hvk, fun c2 => ?_, fun c2 => ?_⟩⟩
      · rw [hck, h0.2.1 k hk, h0.2.2.1 k hk] at c2
        have e2 : ∀ X, c_fla p (c_oa I) k X = X := fun X => if_pos c2
        rw [e2] at ih; exact ih
      · rw [hck, h0.2.1 k hk, h0.2.2.1 k hk] at c2
        have e2 : ∀ X, c_fla p (c_oa I) k X = X ||| (1 <<< (nI k &&& 31)) := fun X => if_neg c2
        rw [e2] at ih; exact ih
  exact bm_intro (by decide +kernel) (Nat.le_of_ble_eq_true rfl) (show B_X1_fallena_0 _ _ _ from s_X1_fallena_0 (key 0 (Nat.zero_le _)))

/-- a round: what each pays next, then who pays otherwise hands it on; 1: something changed -/
theorem k_X1_changesInRoundb {I : am_I} {L : am_L} {p c : Nat → Int64} (h0 : c_okb I L p) (hc : ∀ h, h < 8 → L 175 h = c h) : am_K M_X1_changesInRound 2 [.ref 174] I L (am_qi fun v I1 L1 => I1 = I ∧ c_okb I L1 (c_nx (c_ob I) c p 8) ∧ c_frb L L1 ∧ ((v = 0 ∧ ∀ h, h < 8 → c_step (c_ob I) c p h = p h) ∨ (v = 1 ∧ ¬ ∀ h, h < 8 → c_step (c_ob I) c p h = p h))) := by
  generalize hQ : (am_qi fun v I1 L1 => I1 = I ∧ c_okb I L1 (c_nx (c_ob I) c p 8) ∧ c_frb L L1 ∧ ((v = 0 ∧ ∀ h, h < 8 → c_step (c_ob I) c p h = p h) ∨ (v = 1 ∧ ¬ ∀ h, h < 8 → c_step (c_ob I) c p h = p h))) = Q
  have two : ∀ k, k ≤ 8 → ∀ v L2, c_okb I L2 (c_nx (c_ob I) c p k) → c_frb L L2 → (∀ h, h < 8 → L2 179 h = c_step (c_ob I) c p h) → ((v = 0 ∧ ∀ h, h < k → c_step (c_ob I) c p h = p h) ∨ (v = 1 ∧ ¬ ∀ h, h < 8 → c_step (c_ob I) c p h = p h)) → B_X1_changesInRoundb_46 Q I L2 v (nI k) := by
    refine am_down (fun v L2 h1 h2 h3 h4 => ?_) (fun k hk ih v L2 h1 h2 h3 h4 => ?_)
    · refine s_X1_changesInRoundb_46 ⟨fun _ => ⟨c_nb (h4.imp And.left And.left), ?_⟩, fun c1 => absurd c_8e c1⟩
      rw [← hQ]; exact ⟨v, rfl, rfl, h1, h2, h4⟩
    · obtain ⟨hck, hvk⟩ := c_8s hk
      rw [nI_succ] at ih
      refine s_X1_changesInRoundb_46 ⟨fun c1 => absurd c1 (c_8 hk), fun _ => ⟨hvk, hvk, fun c2 => ⟨hvk, hvk, ?_⟩, fun c2 => ?_⟩⟩
      · rw [hck] at c2 ⊢
        rw [h3 k hk, h1.2.2.1 k hk] at c2
        have c2' : ¬ c_step (c_ob I) c p k = p k := by
          intro e; apply c2; rw [e]; simp [c_nx]
        rw [h3 k hk]
        have hG : c_G 174 (am_u L2 181 k (c_step (c_ob I) c p k)) := by
          intro t ht
          rw [am_u_ne _ (Or.inl (by decide)), h1.1 t ht]
          exact am_sum_congr _ fun j _ => by rw [am_u_ne _ (Or.inl (by decide))]
        refine ⟨_, k_X1_handOnb hk hG, fun I4 L4 e => ?_⟩
        obtain ⟨rfl, e⟩ := e
        refine ih 1 L4 (c_setb hk h1 e c_nx_eq (fun j hj => c_nx_ne hj)) (fun a x ha => ?_) (fun h hh => ?_) (Or.inr ⟨rfl, fun h => c2' (h k hk)⟩)
        · have n1 : a ≠ 178 := by omega
          have n2 : a ≠ 180 := by omega
          have n3 : a ≠ 181 := by omega
          rw [e.2.1 a x n1 n2, am_u_ne _ (Or.inl n3), h2 a x ha]
        · rw [e.2.1 179 h (by decide) (by decide), am_u_ne _ (Or.inl (by decide)), h3 h hh]
      · rw [hck] at c2
        rw [h3 k hk, h1.2.2.1 k hk] at c2
        have c2' : c_step (c_ob I) c p k = p k := by
          rw [c2]; simp [c_nx]
        refine ih v L2 (by rw [c_nx_s c2']; exact h1) h2 h3 (h4.imp_left fun q => ⟨q.1, fun h hh => ?_⟩)
        rcases Nat.lt_or_eq_of_le (Nat.le_of_lt_succ hh) with e | e
        · exact q.2 h e
        · subst e; exact c2'
  have one : ∀ k, k ≤ 8 → ∀ L2, c_okb I L2 p → c_frb L L2 → (∀ h, h < 8 → L2 175 h = c h) → (∀ h, h < k → L2 179 h = c_step (c_ob I) c p h) → B_X1_changesInRoundb_4 Q I L2 0 (nI k) := by
    refine am_down (fun L2 h1 h2 h3 h4 => ?_) (fun k hk ih L2 h1 h2 h3 h4 => ?_)
    · exact s_X1_changesInRoundb_4 ⟨fun _ => two 0 (Nat.zero_le _) 0 L2 (by rw [c_nx_0]; exact h1) h2 h4 (Or.inl ⟨rfl, fun h hh => absurd hh (Nat.not_lt_zero _)⟩), fun c1 => absurd c_8e c1⟩
    · obtain ⟨hck, hvk⟩ := c_8s hk
      rw [nI_succ] at ih
      refine s_X1_changesInRoundb_4 ⟨fun c1 => absurd c1 (c_8 hk), fun _ => ⟨hvk, hvk, hvk, hvk, ?_⟩⟩
      rw [hck]
      have e : (if L2 175 k + L2 178 k < L2 177 k then L2 175 k + L2 178 k else L2 177 k) = c_step (c_ob I) c p k := by
        rw [c_step, h3 k hk, h1.2.1 k hk, h1.1 k hk, show am_sum (fun j => L2 (174 + 6) (j * 8 + k)) 8 = am_sum (fun j => c_sh (c_ob I) p j k) 8 from am_sum_congr _ fun j hj => h1.2.2.2 j k hj hk]
      rw [e]
      obtain ⟨g1, g2, g3, g4⟩ := h1
      refine ih _ ⟨fun t ht => ?_, fun h hh => ?_, fun h hh => ?_, fun j t hj ht => ?_⟩ (fun a x ha => ?_) (fun h hh => ?_) (fun h hh => ?_)
      · rw [am_u_ne _ (Or.inl (by decide)), g1 t ht]
        exact am_sum_congr _ fun j _ => by rw [am_u_ne _ (Or.inl (by decide))]
      · rw [am_u_ne _ (Or.inl (by decide)), g2 h hh]
      · rw [am_u_ne _ (Or.inl (by decide)), g3 h hh]
      · rw [am_u_ne _ (Or.inl (by decide)), g4 j t hj ht]
      · have n1 : a ≠ 179 := by omega
        rw [am_u_ne _ (Or.inl n1), h2 a x ha]
      · rw [am_u_ne _ (Or.inl (by decide)), h3 h hh]
      · by_cases e2 : h = k
        · subst e2; rw [am_u_eq]
        · rw [am_u_ne _ (Or.inr e2)]; exact h4 h (by omega)
  exact bm_intro (by decide +kernel) (Nat.le_of_ble_eq_true rfl) (show B_X1_changesInRoundb_0 _ _ _ from s_X1_changesInRoundb_0 (one 0 (Nat.zero_le _) L h0 (fun _ _ _ => rfl) hc (fun h hh => absurd hh (Nat.not_lt_zero _))))
def c_flb (p : Nat → Int64) (o : Nat → Int64) (h : Nat) (b : Int32) : Int32 := if c_D o h ≤ p h then b else b ||| (1 <<< (nI h &&& 31))
theorem k_X1_fallenb {I : am_I} {L : am_L} {p : Nat → Int64} (h0 : c_okb I L p) : am_K M_X1_fallen 0 [.ref 174] I L (am_qf (some (.int (am_it (c_flb p (c_ob I)) 0 8))) I L) := by
  have key : ∀ k, k ≤ 8 → B_X1_fallenb_4 (am_qf (some (.int (am_it (c_flb p (c_ob I)) 0 8))) I L) I L (am_it (c_flb p (c_ob I)) 0 k) (nI k) := by
    refine am_down ?_ (fun k hk ih => ?_)
    · exact s_X1_fallenb_4 ⟨fun _ => ⟨rfl, rfl, rfl⟩, fun c1 => absurd c_8e c1⟩
    · obtain ⟨hck, hvk⟩ := c_8s hk
      have e1 : am_it (c_flb p (c_ob I)) 0 (k + 1) = c_flb p (c_ob I) k (am_it (c_flb p (c_ob I)) 0 k) := rfl
      rw [e1, nI_succ] at ih
      refine s_X1_fallenb_4 ⟨fun c1 => absurd c1 (c_8 hk), fun _ => ⟨hvk, hvk, fun c2 => ?_, fun c2 => ?_⟩⟩
      · rw [hck, h0.2.1 k hk, h0.2.2.1 k hk] at c2
        have e2 : ∀ X, c_flb p (c_ob I) k X = X := fun X => if_pos c2
        rw [e2] at ih; exact ih
      · rw [hck, h0.2.1 k hk, h0.2.2.1 k hk] at c2
        have e2 : ∀ X, c_flb p (c_ob I) k X = X ||| (1 <<< (nI k &&& 31)) := fun X => if_neg c2
        rw [e2] at ih; exact ih
  exact bm_intro (by decide +kernel) (Nat.le_of_ble_eq_true rfl) (show B_X1_fallenb_0 _ _ _ from s_X1_fallenb_0 (key 0 (Nat.zero_le _)))
