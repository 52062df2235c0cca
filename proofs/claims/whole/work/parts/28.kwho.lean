/-! whose hands, the fund's side; bits -/
def f_bit (I : am_I) (t h : Nat) : Prop := ((I 35 h >>> (I 31 t &&& 31)) &&& 1 = 1) ∧ ((I 36 h >>> (I 34 t &&& 31)) &&& 1 = 1)
def f_may (I : am_I) (t h : Nat) (c : Int32) : Int32 := if (I 35 h >>> (I 31 t &&& 31)) &&& 1 = 1 then (if (I 36 h >>> (I 34 t &&& 31)) &&& 1 = 1 then c ||| (1 <<< (nI h &&& 31)) else c) else c
def f_cp (I : am_I) (nh n k : Nat) : am_I := fun a b => if a = 38 then (if b < k then (if f_wrong I b = 0 then 0 else 1) else I 38 b) else if a = 37 then (if b < k then am_it (f_may I b) 0 nh else I 37 b) else I a b
theorem f_cp_0 (I : am_I) (nh n : Nat) : f_cp I nh n 0 = I := by
  funext a b
  by_cases h1 : a = 38
  · simp [f_cp, h1]
  · by_cases h2 : a = 37
    · simp [f_cp, h2]
    · simp [f_cp, h1, h2]
theorem f_cp_n (I : am_I) (nh n k : Nat) {a b : Nat} (h1 : a ≠ 38) (h2 : a ≠ 37) : f_cp I nh n k a b = I a b := by simp [f_cp, h1, h2]
theorem f_cp_s (I : am_I) (nh n k : Nat) : am_u (am_u (f_cp I nh n k) 38 k (if f_wrong I k = 0 then 0 else 1)) 37 k (am_it (f_may I k) 0 nh) = f_cp I nh n (k + 1) := by
  funext a b
  by_cases h1 : a = 38
  · subst h1
    by_cases hb : b = k
    · subst hb; simp [am_u, f_cp]
    · by_cases h3 : b < k
      · simp [am_u, f_cp, hb, h3, Nat.lt_succ_of_lt h3]
      · have h4 : ¬ b < k + 1 := by omega
        simp [am_u, f_cp, hb, h3, h4]
  · by_cases h2 : a = 37
    · subst h2
      by_cases hb : b = k
      · subst hb; simp [am_u, f_cp]
      · by_cases h3 : b < k
        · simp [am_u, f_cp, hb, h3, Nat.lt_succ_of_lt h3]
        · have h4 : ¬ b < k + 1 := by omega
          simp [am_u, f_cp, hb, h3, h4]
    · simp [am_u, f_cp, h1, h2]
/-- what is wrong depends on the days and the trades alone -/
theorem f_wrong_congr {I J : am_I} (h : ∀ a b, a ≠ 38 → a ≠ 37 → J a b = I a b) (t : Nat) : f_wrong J t = f_wrong I t := by
  have e : ∀ d, am_sum (f_told J d) (t + 1) = am_sum (f_told I d) (t + 1) := fun d => am_sum_congr _ fun k _ => by
    simp only [f_told, h 31 k (by decide) (by decide), h 33 k (by decide) (by decide)]
  simp only [f_wrong, f_out4, e, h 31 t (by decide) (by decide), h 28 _ (by decide) (by decide), h 29 _ (by decide) (by decide), h 30 _ (by decide) (by decide), h 32 t (by decide) (by decide)]
theorem k_X6_lookWhoCould {n nh : Nat} {I : am_I} {L : am_L} (hn : I 12 7 = nI n) (hn1 : n ≤ 40) (hh : I 12 10 = nI nh) (hh1 : nh ≤ 8) (hd : ∀ t, t < n → vp_in (I 31 t) 30) : am_K M_X6_lookWhoCould 1 [.ref 12] I L (am_qf none (f_cp I nh n n) L) := by
  have key : ∀ k, k ≤ n → B_X6_lookWhoCould_2 (am_qf none (f_cp I nh n n) L) (f_cp I nh n k) L (nI k) := by
    refine am_down ?_ (fun k hk ih => ?_)
    · exact s_X6_lookWhoCould_2 ⟨fun _ => ⟨rfl, rfl, rfl⟩, fun c1 => absurd (by rw [f_cp_n _ _ _ _ (by decide) (by decide), hn]; exact Int32.le_refl _) c1⟩
    · have hc : (nI k).toNatClampNeg = k := nI_clamp (by omega)
      have hv := am_vI (k := k) (n := 40) (by omega) (by decide)
      have hw : f_wrong (f_cp I nh n k) k = f_wrong I k := f_wrong_congr (fun a b h1 h2 => f_cp_n _ _ _ _ h1 h2) k
      have key2 : ∀ (w : Int32), (if f_wrong I k = 0 then 0 else 1) = w → ∀ j, j ≤ nh → B_X6_lookWhoCould_38 (am_qf none (f_cp I nh n n) L) (am_u (am_u (f_cp I nh n k) 38 k w) 37 k (am_it (f_may I k) 0 j)) L (nI k) (nI j) := by
        intro w hw2
        refine am_down ?_ (fun j hj ih2 => ?_)
        · refine s_X6_lookWhoCould_38 ⟨fun _ => ?_, fun c1 => absurd (by rw [am_u_ne _ (Or.inl (by decide)), am_u_ne _ (Or.inl (by decide)), f_cp_n _ _ _ _ (by decide) (by decide), hh]; exact Int32.le_refl _) c1⟩
          rw [← hw2, f_cp_s, ← nI_succ]; exact ih
        · have hcj : (nI j).toNatClampNeg = j := nI_clamp (by omega)
          have hvj := am_vI (k := j) (n := 8) (by omega) (by decide)
          have r0 : ∀ a b, a ≠ 37 → a ≠ 38 → am_u (am_u (f_cp I nh n k) 38 k w) 37 k (am_it (f_may I k) 0 j) a b = I a b := fun a b h1 h2 => by rw [am_u_ne _ (Or.inl h1), am_u_ne _ (Or.inl h2), f_cp_n _ _ _ _ h2 h1]
          have r1 : am_u (am_u (f_cp I nh n k) 38 k w) 37 k (am_it (f_may I k) 0 j) 37 k = am_it (f_may I k) 0 j := am_u_eq _ _ _ _
          have uu : ∀ x y, am_u (am_u (am_u (f_cp I nh n k) 38 k w) 37 k x) 37 k y = am_u (am_u (f_cp I nh n k) 38 k w) 37 k y := fun x y => by
            funext a b
            by_cases h1 : a = 37
            · by_cases h2 : b = k
              · simp [am_u, h1, h2]
              · simp [am_u, h1, h2]
            · simp [am_u, h1]
          have e1 : am_it (f_may I k) 0 (j + 1) = f_may I k j (am_it (f_may I k) 0 j) := rfl
          rw [e1, f_may, nI_succ] at ih2
          refine s_X6_lookWhoCould_38 ⟨fun c1 => absurd c1 (by rw [r0 _ _ (by decide) (by decide), hh]; exact nI_ge hj (by omega)), fun _ => ⟨hvj, hv, fun c2 => ⟨fun _ => ?_, fun c3 => absurd rfl c3⟩, fun c2 => ⟨hvj, hv, fun c3 => ⟨fun _ => ?_, fun c4 => absurd rfl c4⟩, fun c3 => ⟨fun c4 => absurd c4 (by decide), fun _ => ⟨hv, hv, ?_⟩⟩⟩⟩⟩
          · rw [hc, hcj, r0 _ _ (by decide) (by decide), r0 _ _ (by decide) (by decide)] at c2
            rw [if_neg c2] at ih2; exact ih2
          · rw [hc, hcj, r0 _ _ (by decide) (by decide), r0 _ _ (by decide) (by decide)] at c2 c3
            rw [if_pos c2, if_neg c3] at ih2; exact ih2
          · rw [hc, hcj, r0 _ _ (by decide) (by decide), r0 _ _ (by decide) (by decide)] at c2 c3
            rw [if_pos c2, if_pos c3] at ih2
            rw [hc, r1, uu]; exact ih2
      refine s_X6_lookWhoCould_2 ⟨fun c1 => absurd c1 (by rw [f_cp_n _ _ _ _ (by decide) (by decide), hn]; exact nI_ge hk (by omega)), fun _ => ⟨_, am_qf_i (k_X6_wrongOf (by omega) (by rw [f_cp_n _ _ _ _ (by decide) (by decide)]; exact hd k hk)), fun v I7 L8 e => ?_⟩⟩
      obtain ⟨e1, e2, e3⟩ := e
      subst e2; subst e3
      rw [hw] at e1
      subst e1
      refine ⟨fun c2 => ⟨⟨hv, by decide⟩, hv, ?_⟩, fun c2 => ⟨⟨hv, by decide⟩, hv, ?_⟩⟩
      · rw [hc]; exact key2 0 (if_pos c2) 0 (Nat.zero_le _)
      · rw [hc]; exact key2 1 (if_neg c2) 0 (Nat.zero_le _)
  have k0 := key 0 (Nat.zero_le _)
  rw [f_cp_0] at k0
  exact bm_intro (by decide +kernel) (Nat.le_of_ble_eq_true rfl) (show B_X6_lookWhoCould_0 _ _ _ from s_X6_lookWhoCould_0 k0)
def f_all (I : am_I) (s : Int32) (n : Nat) : Prop := ∀ t, t < n → I 38 t = 0 ∨ ¬ I 37 t &&& s = 0
theorem k_X6_printsAll {s : Int32} {n : Nat} {I : am_I} {L : am_L} (hn : I 12 7 = nI n) (hn1 : n ≤ 40) : am_K M_X6_printsAll 0 [.ref 12, .int s] I L (am_qi fun v I1 L1 => I1 = I ∧ L1 = L ∧ (f_all I s n ∧ v = 1 ∨ ¬ f_all I s n ∧ v = 0)) := by
  have key : ∀ k, k ≤ n → (∀ t, t < k → I 38 t = 0 ∨ ¬ I 37 t &&& s = 0) → B_X6_printsAll_2 (am_qi fun v I1 L1 => I1 = I ∧ L1 = L ∧ (f_all I s n ∧ v = 1 ∨ ¬ f_all I s n ∧ v = 0)) I L s (nI k) := by
    refine am_down (fun ha => ?_) (fun k hk ih ha => ?_)
    · exact s_X6_printsAll_2 ⟨fun _ => ⟨1, rfl, rfl, rfl, Or.inl ⟨ha, rfl⟩⟩, fun c1 => absurd (by rw [hn]; exact Int32.le_refl _) c1⟩
    · have hc : (nI k).toNatClampNeg = k := nI_clamp (by omega)
      have hv := am_vI (k := k) (n := 40) (by omega) (by decide)
      rw [nI_succ] at ih
      have hstep : (I 38 k = 0 ∨ ¬ I 37 k &&& s = 0) → ∀ t, t < k + 1 → I 38 t = 0 ∨ ¬ I 37 t &&& s = 0 := fun h t ht => by
        rcases Nat.lt_or_eq_of_le (Nat.le_of_lt_succ ht) with h1 | h1
        · exact ha t h1
        · subst h1; exact h
      refine s_X6_printsAll_2 ⟨fun c1 => absurd c1 (by rw [hn]; exact nI_ge hk (by omega)), fun _ => ⟨hv, fun c2 => ?_, fun c2 => ⟨hv, fun c3 => ?_, fun c3 => ?_⟩⟩⟩
      · rw [hc] at c2; exact ih (hstep (Or.inl c2))
      · rw [hc] at c3; exact ih (hstep (Or.inr c3))
      · rw [hc] at c2 c3; exact ⟨0, rfl, rfl, rfl, Or.inr ⟨fun h => (h k hk).elim c2 (fun h => h c3), rfl⟩⟩
  exact bm_intro (by decide +kernel) (Nat.le_of_ble_eq_true rfl) (show B_X6_printsAll_0 _ _ _ _ from s_X6_printsAll_0 (key 0 (Nat.zero_le _) (fun t ht => absurd ht (Nat.not_lt_zero _))))
