theorem am_u_self {α : Type} (f : Nat → Nat → α) (k j : Nat) : am_u f k j (f k j) = f := by
  funext a b
  by_cases h1 : a = k
  · subst h1
    by_cases h2 : b = j
    · subst h2; simp [am_u]
    · simp [am_u, h2]
  · simp [am_u, h1]
theorem c_64 {k : Nat} (hk : k < 64) : (nI k).toNatClampNeg = k ∧ vp_in (nI k) 64 ∧ ¬ (64 : Int32) ≤ nI k := ⟨nI_clamp (by omega), am_vI (k := k) (n := 64) hk (by decide), by rw [show (64 : Int32) = nI 64 by decide]; exact nI_ge hk (by omega)⟩
theorem c_1m : (1000000 : Int32) = nI 1000000 := by decide

theorem k_X1_learna {n np : Nat} {I : am_I} {L : am_L} (hn : I 11 7 = nI n) (hn1 : n ≤ 100) (hp : I 11 3 = nI np) (hp1 : np ≤ 12) : am_K M_X1_learn 4 [.ref 164, .ref 10] I L (am_qi fun v I1 L1 => (∀ h, h < 8 → L1 165 h = f_coins I n np h) ∧ (∀ a x, a ≠ 165 → L1 a x = L a x) ∧ (∀ i, i < 64 → I1 166 i = I 49 i) ∧ (∀ a x, a ≠ 166 → I1 a x = I a x) ∧ ((v = 0 ∧ I1 = I ∧ L1 = L) ∨ v = 1)) := by
  generalize hQ : (am_qi fun v I1 L1 => (∀ h, h < 8 → L1 165 h = f_coins I n np h) ∧ (∀ a x, a ≠ 165 → L1 a x = L a x) ∧ (∀ i, i < 64 → I1 166 i = I 49 i) ∧ (∀ a x, a ≠ 166 → I1 a x = I a x) ∧ ((v = 0 ∧ I1 = I ∧ L1 = L) ∨ v = 1)) = Q
  have two : ∀ k, k ≤ 64 → ∀ v I2 L2, (∀ h, h < 8 → L2 165 h = f_coins I n np h) → (∀ a x, a ≠ 165 → L2 a x = L a x) → (∀ i, i < k → I2 166 i = I 49 i) → (∀ a x, a ≠ 166 → I2 a x = I a x) → ((v = 0 ∧ I2 = I ∧ L2 = L) ∨ v = 1) → B_X1_learna_54 Q I2 L2 v (nI k) := by
    refine am_down (fun v I2 L2 h1 h2 h3 h4 h5 => ?_) (fun k hk ih v I2 L2 h1 h2 h3 h4 h5 => ?_)
    · refine s_X1_learna_54 ⟨fun _ => ⟨c_nb (h5.imp And.left id), ?_⟩, fun c1 => absurd (by decide) c1⟩
      rw [← hQ]; exact ⟨v, rfl, h1, h2, h3, h4, h5⟩
    · obtain ⟨hck, hvk, h64⟩ := c_64 hk
      have st : ∀ v', (v' = 0 ∧ I2 166 k = I 49 k ∧ I2 = I ∧ L2 = L) ∨ v' = 1 → B_X1_learna_54 Q (am_u I2 166 k (I 49 k)) L2 v' (nI (k + 1)) := by
        intro v' hv'
        refine ih v' _ L2 h1 h2 (fun i hi => ?_) (fun a x ha => ?_) ?_
        · by_cases e : i = k
          · subst e; rw [am_u_eq]
          · rw [am_u_ne _ (Or.inr e)]; exact h3 i (by omega)
        · rw [am_u_ne _ (Or.inl ha), h4 a x ha]
        · rcases hv' with ⟨e1, e2, e3, e4⟩ | e
          · refine Or.inl ⟨e1, ?_, e4⟩
            rw [← e2, am_u_self, e3]
          · exact Or.inr e
      rw [nI_succ] at st
      refine s_X1_learna_54 ⟨fun c1 => absurd c1 h64, fun _ => ⟨hvk, hvk, fun c2 => ⟨hvk, hvk, ?_⟩, fun c2 => ⟨hvk, hvk, ?_⟩⟩⟩
      · rw [hck] at c2 ⊢
        rw [h4 49 k (by decide)] at c2 ⊢
        exact st v (h5.imp_left fun q => ⟨q.1, c2, q.2.1, q.2.2⟩)
      · rw [hck, h4 49 k (by decide)]
        exact st 1 (Or.inr rfl)
  have one : ∀ k, k ≤ 8 → ∀ v L2, (∀ h, h < k → L2 165 h = f_coins I n np h) → (∀ a x, a ≠ 165 → L2 a x = L a x) → ((v = 0 ∧ L2 = L) ∨ v = 1) → B_X1_learna_4 Q I L2 v (nI k) := by
    refine am_down (fun v L2 h1 h2 h5 => ?_) (fun k hk ih v L2 h1 h2 h5 => ?_)
    · exact s_X1_learna_4 ⟨fun _ => two 0 (Nat.zero_le _) v I L2 h1 h2 (fun i hi => absurd hi (Nat.not_lt_zero _)) (fun _ _ _ => rfl) (h5.imp_left fun q => ⟨q.1, rfl, q.2⟩), fun c1 => absurd c_8e c1⟩
    · obtain ⟨hck, hvk⟩ := c_8s hk
      have st : ∀ v', (v' = 0 ∧ L2 165 k = f_coins I n np k ∧ L2 = L) ∨ v' = 1 → B_X1_learna_4 Q I (am_u L2 165 k (f_coins I n np k)) v' (nI (k + 1)) := by
        intro v' hv'
        refine ih v' _ (fun i hi => ?_) (fun a x ha => ?_) ?_
        · by_cases e : i = k
          · subst e; rw [am_u_eq]
          · rw [am_u_ne _ (Or.inr e)]; exact h1 i (by omega)
        · rw [am_u_ne _ (Or.inl ha), h2 a x ha]
        · rcases hv' with ⟨e1, e2, e4⟩ | e
          · refine Or.inl ⟨e1, ?_⟩
            rw [← e2, am_u_self, e4]
          · exact Or.inr e
      rw [nI_succ] at st
      refine s_X1_learna_4 ⟨fun c1 => absurd c1 (c_8 hk), fun _ => ⟨_, am_qf_l (k_X3_coinsOf hn hn1 hp hp1 hk), fun v9 I7 L8 e => ?_⟩⟩
      obtain ⟨e1, e2, e3⟩ := e
      subst e1; subst e2; subst e3
      refine ⟨hvk, fun c2 => ⟨hvk, ?_⟩, fun c2 => ⟨hvk, ?_⟩⟩
      · rw [hck] at c2 ⊢
        exact st v (h5.imp_left fun q => ⟨q.1, c2, q.2⟩)
      · rw [hck]
        exact st 1 (Or.inr rfl)
  exact bm_intro (by decide +kernel) (Nat.le_of_ble_eq_true rfl) (show B_X1_learna_0 _ _ _ from s_X1_learna_0 (one 0 (Nat.zero_le _) 0 L (fun h hh => absurd hh (Nat.not_lt_zero _)) (fun _ _ _ => rfl) (Or.inl ⟨rfl, rfl⟩)))
/-- what is stored is what the stored COINS and DUES give -/
def c_cachea (I : am_I) (L : am_L) : Prop := c_oka I L (c_run (c_oa I) (L 165) 1000000 (c_p0a I) 0).1 ∧ I 164 8 = (c_run (c_oa I) (L 165) 1000000 (c_p0a I) 0).2
def c_set_posta (I : am_I) (L : am_L) (n np : Nat) (I1 : am_I) (L1 : am_L) : Prop := (∀ h, h < 8 → L1 165 h = f_coins I n np h) ∧ (∀ i, i < 64 → I1 166 i = I 49 i) ∧ c_cachea I1 L1 ∧ (∀ a x, (a < 165 ∨ 171 < a) → L1 a x = L a x) ∧ ∀ a x, a ≠ 166 → (a ≠ 164 ∨ x ≠ 8) → I1 a x = I a x
theorem k_X1_settlea {n np : Nat} {I : am_I} {L : am_L} (hn : I 11 7 = nI n) (hn1 : n ≤ 100) (hp : I 11 3 = nI np) (hp1 : np ≤ 12) (hcc : c_cachea I L) : am_K M_X1_settle 5 [.ref 164, .ref 10] I L (am_qv fun I1 L1 => c_set_posta I L n np I1 L1) := by
  refine bm_intro (by decide +kernel) (Nat.le_of_ble_eq_true rfl) (show B_X1_settlea_0 _ _ _ from s_X1_settlea_0 ⟨_, k_X1_learna hn hn1 hp hp1, fun v I3 L4 e => ?_⟩)
  obtain ⟨e1, e2, e3, e4, e5⟩ := e
  refine ⟨fun c1 => ⟨_, k_X1_begina, fun I5 L6 e => ?_⟩, fun c1 => ?_⟩
  · obtain ⟨rfl, b1, b2⟩ := e
    have hC6 : L6 165 = L4 165 := funext fun x => b2 165 x (Or.inl (by decide))
    generalize hR : c_run (c_oa I5) (L4 165) 1000000 (c_p0a I5) 0 = R
    have key : ∀ k, k ≤ 1000000 → ∀ I7 L7 p cnt, c_oka I7 L7 p → I7 166 = I5 166 → I7 164 8 = cnt → (∀ a x, (a ≠ 164 ∨ x ≠ 8) → I7 a x = I5 a x) → c_fra L6 L7 → c_run (c_oa I5) (L4 165) (1000000 - k) p cnt = R → B_X1_settlea_20 (am_qv fun I1 L1 => c_set_posta I L n np I1 L1) I7 L7 (nI k) := by
      have fin : ∀ I7 L7 p cnt, c_oka I7 L7 p → I7 166 = I5 166 → I7 164 8 = cnt → (∀ a x, (a ≠ 164 ∨ x ≠ 8) → I7 a x = I5 a x) → c_fra L6 L7 → (p, cnt) = R → c_set_posta I L n np I7 L7 := by
        intro I7 L7 p cnt q1 q2 q3 q4 q5 q6
        have hW : c_oa I7 = c_oa I5 := by funext i; rw [c_oa, c_oa, q2]
        have hC7 : L7 165 = L4 165 := (funext fun x => q5 165 x (Or.inl (by decide))).trans hC6
        have h00 : c_p0a I7 = c_p0a I5 := by funext h; rw [c_p0a, c_p0a, hW, q4 164 0 (Or.inr (by decide))]
        refine ⟨fun h hh => by rw [hC7]; exact e1 h hh, fun i hi => by rw [q2]; exact e3 i hi, ?_, fun a x ha => ?_, fun a x h1 h2 => ?_⟩
        · rw [c_cachea, hW, hC7, h00, hR, ← q6]; exact ⟨q1, q3⟩
        · rw [q5 a x (by omega), b2 a x (by omega), e2 a x (by omega)]
        · rw [q4 a x h2, e4 a x h1]
      refine am_down (fun I7 L7 p cnt q1 q2 q3 q4 q5 q6 => ?_) (fun k hk ih I7 L7 p cnt q1 q2 q3 q4 q5 q6 => ?_)
      · exact s_X1_settlea_20 ⟨fun _ => ⟨rfl, fin I7 L7 p cnt q1 q2 q3 q4 q5 q6⟩, fun c2 => absurd (by rw [c_1m]; exact Int32.le_refl _) c2⟩
      · have hW : c_oa I7 = c_oa I5 := by funext i; rw [c_oa, c_oa, q2]
        have hC7 : L7 165 = L4 165 := (funext fun x => q5 165 x (Or.inl (by decide))).trans hC6
        refine s_X1_settlea_20 ⟨fun c2 => absurd c2 (by rw [c_1m]; exact nI_ge hk (by omega)), fun _ => ⟨_, k_X1_changesInRounda q1 (c := L4 165) (fun h _ => congrFun hC7 h), fun v9 I8 L9 e => ?_⟩⟩
        obtain ⟨rfl, d1, d2, d3⟩ := e
        rw [hW] at d1 d3
        rw [show 1000000 - k = (1000000 - (k + 1)) + 1 by omega, c_run] at q6
        refine ⟨fun c2 => ?_, fun c2 => ?_⟩
        · rcases d3 with ⟨-, d3⟩ | ⟨d3, -⟩
          · rw [if_pos d3] at q6
            have hnx : c_nx (c_oa I5) (L4 165) p 8 = p := by
              have : ∀ m, m ≤ 8 → c_nx (c_oa I5) (L4 165) p m = p := by
                intro m
                induction m with
                | zero => intro _; exact c_nx_0 _ _ _
                | succ m ih => intro h; rw [c_nx_s (d3 m (by omega)), ih (by omega)]
              exact this 8 (Nat.le_refl _)
            rw [hnx] at d1
            exact ⟨rfl, fin I8 L9 p cnt d1 q2 q3 q4 (fun a x ha => by rw [d2 a x ha, q5 a x ha]) q6⟩
          · rw [d3] at c2; exact absurd c2 (by decide)
        · rcases d3 with ⟨d3, -⟩ | ⟨-, d3⟩
          · exact absurd d3 c2
          · rw [if_neg d3] at q6
            rw [← nI_succ]
            refine ih _ L9 _ (cnt + 1) ?_ ?_ (by rw [am_u_eq, q3]) (fun a x ha => by rw [am_u_ne _ ha, q4 a x ha]) (fun a x ha => by rw [d2 a x ha, q5 a x ha]) q6
            · have hW2 : c_oa (am_u I8 164 8 (I8 164 8 + 1)) = c_oa I8 := by funext i; rw [c_oa, c_oa, am_u_ne _ (Or.inl (by decide))]
              rw [c_oka, hW2]; exact d1
            · funext i; rw [am_u_ne _ (Or.inl (by decide)), q2]
    have hW2 : c_oa (am_u I5 164 8 0) = c_oa I5 := by funext i; rw [c_oa, c_oa, am_u_ne _ (Or.inl (by decide))]
    exact key 0 (Nat.zero_le _) _ L6 _ 0 (by rw [c_oka, hW2]; exact b1) (funext fun i => am_u_ne _ (Or.inl (by decide))) (am_u_eq _ _ _ _) (fun a x ha => am_u_ne _ ha) (fun _ _ _ => rfl) hR
  · rcases e5 with ⟨-, e5, e6⟩ | e5
    · subst e5; subst e6
      exact ⟨rfl, e1, e3, hcc, fun _ _ _ => rfl, fun _ _ _ _ => rfl⟩
    · rw [e5] at c1; exact absurd c1 (by decide)

theorem k_X1_learnb {n np : Nat} {I : am_I} {L : am_L} (hn : I 11 7 = nI n) (hn1 : n ≤ 100) (hp : I 11 3 = nI np) (hp1 : np ≤ 12) : am_K M_X1_learn 4 [.ref 174, .ref 10] I L (am_qi fun v I1 L1 => (∀ h, h < 8 → L1 175 h = f_coins I n np h) ∧ (∀ a x, a ≠ 175 → L1 a x = L a x) ∧ (∀ i, i < 64 → I1 176 i = I 49 i) ∧ (∀ a x, a ≠ 176 → I1 a x = I a x) ∧ ((v = 0 ∧ I1 = I ∧ L1 = L) ∨ v = 1)) := by
  generalize hQ : (am_qi fun v I1 L1 => (∀ h, h < 8 → L1 175 h = f_coins I n np h) ∧ (∀ a x, a ≠ 175 → L1 a x = L a x) ∧ (∀ i, i < 64 → I1 176 i = I 49 i) ∧ (∀ a x, a ≠ 176 → I1 a x = I a x) ∧ ((v = 0 ∧ I1 = I ∧ L1 = L) ∨ v = 1)) = Q
  have two : ∀ k, k ≤ 64 → ∀ v I2 L2, (∀ h, h < 8 → L2 175 h = f_coins I n np h) → (∀ a x, a ≠ 175 → L2 a x = L a x) → (∀ i, i < k → I2 176 i = I 49 i) → (∀ a x, a ≠ 176 → I2 a x = I a x) → ((v = 0 ∧ I2 = I ∧ L2 = L) ∨ v = 1) → B_X1_learnb_54 Q I2 L2 v (nI k) := by
    refine am_down (fun v I2 L2 h1 h2 h3 h4 h5 => ?_) (fun k hk ih v I2 L2 h1 h2 h3 h4 h5 => ?_)
    · refine s_X1_learnb_54 ⟨fun _ => ⟨c_nb (h5.imp And.left id), ?_⟩, fun c1 => absurd (by decide) c1⟩
      rw [← hQ]; exact ⟨v, rfl, h1, h2, h3, h4, h5⟩
    · obtain ⟨hck, hvk, h64⟩ := c_64 hk
      have st : ∀ v', (v' = 0 ∧ I2 176 k = I 49 k ∧ I2 = I ∧ L2 = L) ∨ v' = 1 → B_X1_learnb_54 Q (am_u I2 176 k (I 49 k)) L2 v' (nI (k + 1)) := by
        intro v' hv'
        refine ih v' _ L2 h1 h2 (fun i hi => ?_) (fun a x ha => ?_) ?_
        · by_cases e : i = k
          · subst e; rw [am_u_eq]
          · rw [am_u_ne _ (Or.inr e)]; exact h3 i (by omega)
        · rw [am_u_ne _ (Or.inl ha), h4 a x ha]
        · rcases hv' with ⟨e1, e2, e3, e4⟩ | e
          · refine Or.inl ⟨e1, ?_, e4⟩
            rw [← e2, am_u_self, e3]
          · exact Or.inr e
      rw [nI_succ] at st
      refine s_X1_learnb_54 ⟨fun c1 => absurd c1 h64, fun _ => ⟨hvk, hvk, fun c2 => ⟨hvk, hvk, ?_⟩, fun c2 => ⟨hvk, hvk, ?_⟩⟩⟩
      · rw [hck] at c2 ⊢
        rw [h4 49 k (by decide)] at c2 ⊢
        exact st v (h5.imp_left fun q => ⟨q.1, c2, q.2.1, q.2.2⟩)
      · rw [hck, h4 49 k (by decide)]
        exact st 1 (Or.inr rfl)
  have one : ∀ k, k ≤ 8 → ∀ v L2, (∀ h, h < k → L2 175 h = f_coins I n np h) → (∀ a x, a ≠ 175 → L2 a x = L a x) → ((v = 0 ∧ L2 = L) ∨ v = 1) → B_X1_learnb_4 Q I L2 v (nI k) := by
    refine am_down (fun v L2 h1 h2 h5 => ?_) (fun k hk ih v L2 h1 h2 h5 => ?_)
    · exact s_X1_learnb_4 ⟨fun _ => two 0 (Nat.zero_le _) v I L2 h1 h2 (fun i hi => absurd hi (Nat.not_lt_zero _)) (fun _ _ _ => rfl) (h5.imp_left fun q => ⟨q.1, rfl, q.2⟩), fun c1 => absurd c_8e c1⟩
    · obtain ⟨hck, hvk⟩ := c_8s hk
      have st : ∀ v', (v' = 0 ∧ L2 175 k = f_coins I n np k ∧ L2 = L) ∨ v' = 1 → B_X1_learnb_4 Q I (am_u L2 175 k (f_coins I n np k)) v' (nI (k + 1)) := by
        intro v' hv'
        refine ih v' _ (fun i hi => ?_) (fun a x ha => ?_) ?_
        · by_cases e : i = k
          · subst e; rw [am_u_eq]
          · rw [am_u_ne _ (Or.inr e)]; exact h1 i (by omega)
        · rw [am_u_ne _ (Or.inl ha), h2 a x ha]
        · rcases hv' with ⟨e1, e2, e4⟩ | e
          · refine Or.inl ⟨e1, ?_⟩
            rw [← e2, am_u_self, e4]
          · exact Or.inr e
      rw [nI_succ] at st
      refine s_X1_learnb_4 ⟨fun c1 => absurd c1 (c_8 hk), fun _ => ⟨_, am_qf_l (k_X3_coinsOf hn hn1 hp hp1 hk), fun v9 I7 L8 e => ?_⟩⟩
      obtain ⟨e1, e2, e3⟩ := e
      subst e1; subst e2; subst e3
      refine ⟨hvk, fun c2 => ⟨hvk, ?_⟩, fun c2 => ⟨hvk, ?_⟩⟩
      · rw [hck] at c2 ⊢
        exact st v (h5.imp_left fun q => ⟨q.1, c2, q.2⟩)
      · rw [hck]
        exact st 1 (Or.inr rfl)
  exact bm_intro (by decide +kernel) (Nat.le_of_ble_eq_true rfl) (show B_X1_learnb_0 _ _ _ from s_X1_learnb_0 (one 0 (Nat.zero_le _) 0 L (fun h hh => absurd hh (Nat.not_lt_zero _)) (fun _ _ _ => rfl) (Or.inl ⟨rfl, rfl⟩)))
/-- what is stored is what the stored COINS and DUES give -/
def c_cacheb (I : am_I) (L : am_L) : Prop := c_okb I L (c_run (c_ob I) (L 175) 1000000 (c_p0b I) 0).1 ∧ I 174 8 = (c_run (c_ob I) (L 175) 1000000 (c_p0b I) 0).2
def c_set_postb (I : am_I) (L : am_L) (n np : Nat) (I1 : am_I) (L1 : am_L) : Prop := (∀ h, h < 8 → L1 175 h = f_coins I n np h) ∧ (∀ i, i < 64 → I1 176 i = I 49 i) ∧ c_cacheb I1 L1 ∧ (∀ a x, (a < 175 ∨ 181 < a) → L1 a x = L a x) ∧ ∀ a x, a ≠ 176 → (a ≠ 174 ∨ x ≠ 8) → I1 a x = I a x
theorem k_X1_settleb {n np : Nat} {I : am_I} {L : am_L} (hn : I 11 7 = nI n) (hn1 : n ≤ 100) (hp : I 11 3 = nI np) (hp1 : np ≤ 12) (hcc : c_cacheb I L) : am_K M_X1_settle 5 [.ref 174, .ref 10] I L (am_qv fun I1 L1 => c_set_postb I L n np I1 L1) := by
  refine bm_intro (by decide +kernel) (Nat.le_of_ble_eq_true rfl) (show B_X1_settleb_0 _ _ _ from s_X1_settleb_0 ⟨_, k_X1_learnb hn hn1 hp hp1, fun v I3 L4 e => ?_⟩)
  obtain ⟨e1, e2, e3, e4, e5⟩ := e
  refine ⟨fun c1 => ⟨_, k_X1_beginb, fun I5 L6 e => ?_⟩, fun c1 => ?_⟩
  · obtain ⟨rfl, b1, b2⟩ := e
    have hC6 : L6 175 = L4 175 := funext fun x => b2 175 x (Or.inl (by decide))
    generalize hR : c_run (c_ob I5) (L4 175) 1000000 (c_p0b I5) 0 = R
    have key : ∀ k, k ≤ 1000000 → ∀ I7 L7 p cnt, c_okb I7 L7 p → I7 176 = I5 176 → I7 174 8 = cnt → (∀ a x, (a ≠ 174 ∨ x ≠ 8) → I7 a x = I5 a x) → c_frb L6 L7 → c_run (c_ob I5) (L4 175) (1000000 - k) p cnt = R → B_X1_settleb_20 (am_qv fun I1 L1 => c_set_postb I L n np I1 L1) I7 L7 (nI k) := by
      have fin : ∀ I7 L7 p cnt, c_okb I7 L7 p → I7 176 = I5 176 → I7 174 8 = cnt → (∀ a x, (a ≠ 174 ∨ x ≠ 8) → I7 a x = I5 a x) → c_frb L6 L7 → (p, cnt) = R → c_set_postb I L n np I7 L7 := by
        intro I7 L7 p cnt q1 q2 q3 q4 q5 q6
        have hW : c_ob I7 = c_ob I5 := by funext i; rw [c_ob, c_ob, q2]
        have hC7 : L7 175 = L4 175 := (funext fun x => q5 175 x (Or.inl (by decide))).trans hC6
        have h00 : c_p0b I7 = c_p0b I5 := by funext h; rw [c_p0b, c_p0b, hW, q4 174 0 (Or.inr (by decide))]
        refine ⟨fun h hh => by rw [hC7]; exact e1 h hh, fun i hi => by rw [q2]; exact e3 i hi, ?_, fun a x ha => ?_, fun a x h1 h2 => ?_⟩
        · rw [c_cacheb, hW, hC7, h00, hR, ← q6]; exact ⟨q1, q3⟩
        · rw [q5 a x (by omega), b2 a x (by omega), e2 a x (by omega)]
        · rw [q4 a x h2, e4 a x h1]
      refine am_down (fun I7 L7 p cnt q1 q2 q3 q4 q5 q6 => ?_) (fun k hk ih I7 L7 p cnt q1 q2 q3 q4 q5 q6 => ?_)
      · exact s_X1_settleb_20 ⟨fun _ => ⟨rfl, fin I7 L7 p cnt q1 q2 q3 q4 q5 q6⟩, fun c2 => absurd (by rw [c_1m]; exact Int32.le_refl _) c2⟩
      · have hW : c_ob I7 = c_ob I5 := by funext i; rw [c_ob, c_ob, q2]
        have hC7 : L7 175 = L4 175 := (funext fun x => q5 175 x (Or.inl (by decide))).trans hC6
        refine s_X1_settleb_20 ⟨fun c2 => absurd c2 (by rw [c_1m]; exact nI_ge hk (by omega)), fun _ => ⟨_, k_X1_changesInRoundb q1 (c := L4 175) (fun h _ => congrFun hC7 h), fun v9 I8 L9 e => ?_⟩⟩
        obtain ⟨rfl, d1, d2, d3⟩ := e
        rw [hW] at d1 d3
        rw [show 1000000 - k = (1000000 - (k + 1)) + 1 by omega, c_run] at q6
        refine ⟨fun c2 => ?_, fun c2 => ?_⟩
        · rcases d3 with ⟨-, d3⟩ | ⟨d3, -⟩
          · rw [if_pos d3] at q6
            have hnx : c_nx (c_ob I5) (L4 175) p 8 = p := by
              have : ∀ m, m ≤ 8 → c_nx (c_ob I5) (L4 175) p m = p := by
                intro m
                induction m with
                | zero => intro _; exact c_nx_0 _ _ _
                | succ m ih => intro h; rw [c_nx_s (d3 m (by omega)), ih (by omega)]
              exact this 8 (Nat.le_refl _)
            rw [hnx] at d1
            exact ⟨rfl, fin I8 L9 p cnt d1 q2 q3 q4 (fun a x ha => by rw [d2 a x ha, q5 a x ha]) q6⟩
          · rw [d3] at c2; exact absurd c2 (by decide)
        · rcases d3 with ⟨d3, -⟩ | ⟨-, d3⟩
          · exact absurd d3 c2
          · rw [if_neg d3] at q6
            rw [← nI_succ]
            refine ih _ L9 _ (cnt + 1) ?_ ?_ (by rw [am_u_eq, q3]) (fun a x ha => by rw [am_u_ne _ ha, q4 a x ha]) (fun a x ha => by rw [d2 a x ha, q5 a x ha]) q6
            · have hW2 : c_ob (am_u I8 174 8 (I8 174 8 + 1)) = c_ob I8 := by funext i; rw [c_ob, c_ob, am_u_ne _ (Or.inl (by decide))]
              rw [c_okb, hW2]; exact d1
            · funext i; rw [am_u_ne _ (Or.inl (by decide)), q2]
    have hW2 : c_ob (am_u I5 174 8 0) = c_ob I5 := by funext i; rw [c_ob, c_ob, am_u_ne _ (Or.inl (by decide))]
    exact key 0 (Nat.zero_le _) _ L6 _ 0 (by rw [c_okb, hW2]; exact b1) (funext fun i => am_u_ne _ (Or.inl (by decide))) (am_u_eq _ _ _ _) (fun a x ha => am_u_ne _ ha) (fun _ _ _ => rfl) hR
  · rcases e5 with ⟨-, e5, e6⟩ | e5
    · subst e5; subst e6
      exact ⟨rfl, e1, e3, hcc, fun _ _ _ => rfl, fun _ _ _ _ => rfl⟩
    · rw [e5] at c1; exact absurd c1 (by decide)
