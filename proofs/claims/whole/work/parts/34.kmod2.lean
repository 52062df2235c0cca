/-! the reference: hands, suits, the record -/
def g_bit (x y : Int64) : Prop := (x >>> (Int32.toInt64 (Int64.toInt32 y) &&& 63)) &&& 1 = 1
def g_may (L : am_L) (t h : Nat) (c : Int32) : Int32 := if (L 191 (1016 + 2 * h) >>> (Int32.toInt64 (Int64.toInt32 (L 191 (504 + 4 * t))) &&& 63)) &&& 1 = 1 then (if (L 191 (1017 + 2 * h) >>> (Int32.toInt64 (Int64.toInt32 (L 191 (507 + 4 * t))) &&& 63)) &&& 1 = 1 then c ||| (1 <<< (nI h &&& 31)) else c ||| 0) else c ||| 0
theorem k_X12_mayHave {t n : Nat} {I : am_I} {L : am_L} (hn : Int64.toInt32 (L 191 1182) = nI n) (hn1 : n ≤ 8) (ht : t < 40) : am_K M_X12_mayHave 1 [.ref 190, .int (nI t)] I L (am_qf (some (.int (am_it (g_may L t) 0 n))) I L) := by
  have key : ∀ k, k ≤ n → B_X12_mayHave_4 (am_qf (some (.int (am_it (g_may L t) 0 n))) I L) I L (nI t) (am_it (g_may L t) 0 k) (nI k) := by
    refine am_down ?_ (fun k hk ih => ?_)
    · exact s_X12_mayHave_4 ⟨fun _ => ⟨rfl, rfl, rfl⟩, fun c1 => absurd (by rw [hn]; exact Int32.le_refl _) c1⟩
    · have hk1 : k < 8 := by omega
      have e1 : am_it (g_may L t) 0 (k + 1) = g_may L t k (am_it (g_may L t) 0 k) := rfl
      rw [e1, g_may, nI_succ] at ih
      refine s_X12_mayHave_4 ⟨fun c1 => absurd c1 (by rw [hn]; exact nI_ge hk (by omega)), fun _ => ⟨v_han_0 hk1, v_trd_0 ht, fun c2 => ⟨fun _ => ?_, fun c3 => absurd rfl c3⟩, fun c2 => ⟨v_han_1 hk1, v_trd_3 ht, fun c3 => ⟨fun _ => ?_, fun c4 => absurd rfl c4⟩, fun c3 => ⟨fun c4 => absurd c4 (by decide), fun _ => ?_⟩⟩⟩⟩
      · rw [i_han_0 hk1, i_trd_0 ht] at c2
        rw [if_neg c2] at ih; exact ih
      · rw [i_han_0 hk1, i_trd_0 ht] at c2
        rw [i_han_1 hk1, i_trd_3 ht] at c3
        rw [if_pos c2, if_neg c3] at ih; exact ih
      · rw [i_han_0 hk1, i_trd_0 ht] at c2
        rw [i_han_1 hk1, i_trd_3 ht] at c3
        rw [if_pos c2, if_pos c3] at ih; exact ih
  exact bm_intro (by decide +kernel) (Nat.le_of_ble_eq_true rfl) (show B_X12_mayHave_0 _ _ _ _ from s_X12_mayHave_0 (key 0 (Nat.zero_le _)))
def g_sz (x : Int32) (k : Nat) (c : Int32) : Int32 := c + ((x >>> (nI k &&& 31)) &&& 1)
theorem k_X12_size {x : Int32} {I : am_I} {L : am_L} : am_K M_X12_size 0 [.int x] I L (am_qf (some (.int (am_it (g_sz x) 0 10))) I L) := by
  generalize hQ : am_qf (some (.int (am_it (g_sz x) 0 10))) I L = Q
  have key : ∀ k, k ≤ 10 → B_X12_size_4 Q I L x (am_it (g_sz x) 0 k) (nI k) := by
    refine am_down ?_ (fun k hk ih => ?_)
    · exact s_X12_size_4 ⟨fun _ => by rw [← hQ]; exact ⟨rfl, rfl, rfl⟩, fun c1 => absurd (by decide) c1⟩
    · rw [nI_succ] at ih
      exact s_X12_size_4 ⟨fun c1 => absurd c1 (by rw [show (10 : Int32) = nI 10 by decide]; exact nI_ge hk (by omega)), fun _ => ih⟩
  exact bm_intro (by decide +kernel) (Nat.le_of_ble_eq_true rfl) (show B_X12_size_0 _ _ _ _ from s_X12_size_0 (key 0 (Nat.zero_le _)))
def g_all (L : am_L) (s : Int32) (nh n : Nat) : Prop := ∀ t, t < n → g_wrong L t = 0 ∨ ¬ am_it (g_may L t) 0 nh &&& s = 0
theorem k_X12_doesHave {s : Int32} {n nh : Nat} {I : am_I} {L : am_L} (hn : Int64.toInt32 (L 191 1179) = nI n) (hn1 : n ≤ 40) (hh : Int64.toInt32 (L 191 1182) = nI nh) (hh1 : nh ≤ 8) (hd : ∀ t, t < n → ∃ d, d < 30 ∧ Int64.toInt32 (L 191 (504 + 4 * t)) = nI d) : am_K M_X12_doesHave 2 [.ref 190, .int s] I L (am_qi fun v I1 L1 => I1 = I ∧ L1 = L ∧ (g_all L s nh n ∧ v = 1 ∨ ¬ g_all L s nh n ∧ v = 0)) := by
  generalize hQ : (am_qi fun v I1 L1 => I1 = I ∧ L1 = L ∧ (g_all L s nh n ∧ v = 1 ∨ ¬ g_all L s nh n ∧ v = 0)) = Q
  have key : ∀ k, k ≤ n → ∀ v, ((∀ t, t < k → g_wrong L t = 0 ∨ ¬ am_it (g_may L t) 0 nh &&& s = 0) ∧ v = 1 ∨ ¬ g_all L s nh n ∧ v = 0) → B_X12_doesHave_4 Q I L s v (nI k) := by
    refine am_down (fun v hv => ?_) (fun k hk ih v hv => ?_)
    · exact s_X12_doesHave_4 ⟨fun _ => ⟨c_nb (hv.elim (fun q => Or.inr q.2) (fun q => Or.inl q.2)), by rw [← hQ]; exact ⟨v, rfl, rfl, rfl, hv⟩⟩, fun c1 => absurd (by rw [hn]; exact Int32.le_refl _) c1⟩
    · rw [nI_succ] at ih
      obtain ⟨d, hd1, hd2⟩ := hd k hk
      refine s_X12_doesHave_4 ⟨fun c1 => absurd c1 (by rw [hn]; exact nI_ge hk (by omega)), fun _ => ⟨fun c2 => ?_, fun c2 => ⟨_, am_qf_i (k_X12_wrongOf (by omega) hd2 hd1), fun v2 I2 L2 e => ?_⟩⟩⟩
      · rcases hv with ⟨-, hv⟩ | hv
        · rw [hv] at c2; exact absurd c2 (by decide)
        · exact ih 0 (Or.inr ⟨hv.1, rfl⟩)
      · obtain ⟨e1, e2, e3⟩ := e
        subst e1; subst e2; subst e3
        rcases hv with ⟨hv, -⟩ | ⟨-, hv⟩
        · have hstep : (g_wrong L2 k = 0 ∨ ¬ am_it (g_may L2 k) 0 nh &&& s = 0) → ∀ t, t < k + 1 → g_wrong L2 t = 0 ∨ ¬ am_it (g_may L2 t) 0 nh &&& s = 0 := fun h t ht => by
            rcases Nat.lt_or_eq_of_le (Nat.le_of_lt_succ ht) with h1 | h1
            · exact hv t h1
            · subst h1; exact h
          refine ⟨fun c3 => ih 1 (Or.inl ⟨hstep (Or.inl c3), rfl⟩), fun c3 => ⟨_, am_qf_i (k_X12_mayHave hh hh1 (by omega)), fun v3 I3 L3 e => ?_⟩⟩
          obtain ⟨e1, e2, e3⟩ := e
          subst e1; subst e2; subst e3
          exact ⟨fun c4 => ih 0 (Or.inr ⟨fun h => (h k hk).elim c3 (fun h => h c4), rfl⟩), fun c4 => ih 1 (Or.inl ⟨hstep (Or.inr c4), rfl⟩)⟩
        · exact absurd hv c2
  exact bm_intro (by decide +kernel) (Nat.le_of_ble_eq_true rfl) (show B_X12_doesHave_0 _ _ _ _ from s_X12_doesHave_0 (key 0 (Nat.zero_le _) 1 (Or.inl ⟨fun t ht => absurd ht (Nat.not_lt_zero _), rfl⟩)))
def g_se (I : am_I) (b : Int32) (k : Nat) (s : Int32) : Int32 := b * s + I 202 k
theorem k_X12_sealOf {s b : Int32} {n : Nat} {I : am_I} {L : am_L} (hn : I 190 20 = nI n) (hn1 : n ≤ 100) : am_K M_X12_sealOf 0 [.ref 190, .int s, .int b] I L (am_qf (some (.int (am_it (g_se I b) s (3 * n)))) I L) := by
  have h3 : (3 : Int32) * I 190 20 = nI (3 * n) := by rw [hn, nq_3, nI_qm]
  have key : ∀ k, k ≤ 3 * n → B_X12_sealOf_5 (am_qf (some (.int (am_it (g_se I b) s (3 * n)))) I L) I L b (am_it (g_se I b) s k) (nI k) := by
    refine am_down ?_ (fun k hk ih => ?_)
    · exact s_X12_sealOf_5 ⟨fun _ => ⟨rfl, rfl, rfl⟩, fun c1 => absurd (by rw [h3]; exact Int32.le_refl _) c1⟩
    · have hc : (nI k).toNatClampNeg = k := nI_clamp (by omega)
      have hv := am_vI (k := k) (n := 300) (by omega) (by decide)
      exact s_X12_sealOf_5 ⟨fun c1 => absurd c1 (by rw [h3]; exact nI_ge hk (by omega)), fun _ => ⟨hv, by rw [hc, ← nI_succ]; exact ih⟩⟩
  exact bm_intro (by decide +kernel) (Nat.le_of_ble_eq_true rfl) (show B_X12_sealOf_0 _ _ _ _ _ from s_X12_sealOf_0 (key 0 (Nat.zero_le _)))
def g_rec (I : am_I) (L : am_L) (k : Nat) : am_I := fun a b => if a = 202 then (if b < k then Int64.toInt32 (L 191 (36 + b)) else I 202 b) else I a b
theorem g_rec_0 (I : am_I) (L : am_L) : g_rec I L 0 = I := by
  funext a b
  by_cases h1 : a = 202
  · simp [g_rec, h1]
  · simp [g_rec, h1]
theorem g_rec_n (I : am_I) (L : am_L) (k : Nat) {a b : Nat} (h : a ≠ 202) : g_rec I L k a b = I a b := by simp [g_rec, h]
theorem g_rec_s (I : am_I) (L : am_L) (k : Nat) : am_u (g_rec I L k) 202 k (Int64.toInt32 (L 191 (36 + k))) = g_rec I L (k + 1) := by
  funext a b
  by_cases h1 : a = 202
  · subst h1
    by_cases hb : b = k
    · subst hb; simp [am_u, g_rec]
    · by_cases h3 : b < k
      · simp [am_u, g_rec, hb, h3, Nat.lt_succ_of_lt h3]
      · have h4 : ¬ b < k + 1 := by omega
        simp [am_u, g_rec, hb, h3, h4]
  · simp [am_u, g_rec, h1]
def g_kept (I : am_I) (L : am_L) (n : Nat) : am_I := g_rec (am_u I 190 20 (nI n)) L (3 * n)
def g_keep (I : am_I) (L : am_L) (n : Nat) : am_I := am_u (am_u (g_kept I L n) 190 21 (am_it (g_se (g_kept I L n) 31) 5 (3 * n))) 190 22 (am_it (g_se (am_u (g_kept I L n) 190 21 (am_it (g_se (g_kept I L n) 31) 5 (3 * n))) 33) 7 (3 * n))
theorem k_X12_keep {n : Nat} {I : am_I} {L : am_L} (hn : Int64.toInt32 (L 191 1177) = nI n) (hn1 : n ≤ 100) : am_K M_X12_keep 1 [.ref 190] I L (am_qf (some (.int (nI n))) (g_keep I L n) L) := by
  have h20 : ∀ k, g_rec (am_u I 190 20 (nI n)) L k 190 20 = nI n := fun k => by rw [g_rec_n _ _ _ (by decide), am_u_eq]
  have h3 : ∀ k, (3 : Int32) * g_rec (am_u I 190 20 (nI n)) L k 190 20 = nI (3 * n) := fun k => by rw [h20, nq_3, nI_qm]
  have key : ∀ k, k ≤ 3 * n → B_X12_keep_11 (am_qf (some (.int (nI n))) (g_keep I L n) L) (g_rec (am_u I 190 20 (nI n)) L k) L (nI k) := by
    refine am_down ?_ (fun k hk ih => ?_)
    · refine s_X12_keep_11 ⟨fun _ => ⟨_, am_qf_i (k_X12_sealOf (h20 _) hn1), fun v I3 L3 e => ?_⟩, fun c1 => absurd (by rw [h3]; exact Int32.le_refl _) c1⟩
      obtain ⟨e1, e2, e3⟩ := e
      subst e1; subst e2; subst e3
      refine ⟨_, am_qf_i (k_X12_sealOf (by rw [am_u_ne _ (Or.inr (by decide))]; exact h20 _) hn1), fun v I3 L3 e => ?_⟩
      obtain ⟨e1, e2, e3⟩ := e
      subst e1; subst e2; subst e3
      refine ⟨?_, rfl, rfl⟩
      rw [am_u_ne _ (Or.inr (by decide)), h20]
    · have hc : (nI k).toNatClampNeg = k := nI_clamp (by omega)
      have hv := am_vI (k := k) (n := 300) (by omega) (by decide)
      have hx : ((36 : Int32) + nI k).toNatClampNeg = 36 + k := am_cx (by simp only [nq_36, nI_qa]) (by omega)
      refine s_X12_keep_11 ⟨fun c1 => absurd c1 (by rw [h3]; exact nI_ge hk (by omega)), fun _ => ⟨am_vx (m := 36 + k) (by simp only [nq_36, nI_qa]) (by omega) (by decide), hv, ?_⟩⟩
      rw [hc, hx, g_rec_s, ← nI_succ]; exact ih
  have k0 := key 0 (Nat.zero_le _)
  rw [g_rec_0] at k0
  refine bm_intro (by decide +kernel) (Nat.le_of_ble_eq_true rfl) (show B_X12_keep_0 _ _ _ from s_X12_keep_0 ?_)
  rw [hn]; exact k0
