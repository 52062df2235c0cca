/-! payments that agree -/
def c_D (o : Nat → Int64) (h : Nat) : Int64 := am_sum (fun t => o (h * 8 + t)) 8
def c_sh (o p : Nat → Int64) (k t : Nat) : Int64 := am_cut (p k * o (k * 8 + t)) (c_D o k)
def c_step (o c p : Nat → Int64) (h : Nat) : Int64 := if c h + am_sum (fun k => c_sh o p k h) 8 < c_D o h then c h + am_sum (fun k => c_sh o p k h) 8 else c_D o h
theorem c_sum_upd {f g : Nat → Int64} {h : Nat} : ∀ n, h < n → (∀ k, k ≠ h → g k = f k) → am_sum g n = am_sum f n + (g h - f h) := by
  intro n
  induction n with
  | zero => intro h1; omega
  | succ n ih =>
    intro h1 h2
    rw [am_sum, am_sum]
    by_cases h3 : h = n
    · subst h3
      have e : am_sum g h = am_sum f h := am_sum_congr _ fun k hk => h2 k (by omega)
      rw [e]; grind
    · rw [ih (by omega) h2, h2 n (fun e => h3 e.symm)]; grind
/-- what each gets is the sum of the shares -/
def c_G (b : Nat) (L : am_L) : Prop := ∀ t, t < 8 → L (b + 4) t = am_sum (fun k => L (b + 6) (k * 8 + t)) 8
def c_fill (L : am_L) (p n : Nat) (x : Int64) : am_L := fun a b => if a = p then (if b < n then x else L p b) else L a b
theorem c_fill_s (L : am_L) (p n : Nat) (x : Int64) : am_u (c_fill L p n x) p n x = c_fill L p (n + 1) x := by
  funext a b
  by_cases h1 : a = p
  · subst h1
    by_cases hb : b = n
    · subst hb; simp [am_u, c_fill]
    · by_cases h3 : b < n
      · simp [am_u, c_fill, hb, h3, Nat.lt_succ_of_lt h3]
      · have h4 : ¬ b < n + 1 := by omega
        simp [am_u, c_fill, hb, h3, h4]
  · simp [am_u, c_fill, h1]
theorem c_fill_0 (L : am_L) (p : Nat) (x : Int64) : c_fill L p 0 x = L := by
  funext a b
  by_cases h1 : a = p
  · simp [c_fill, h1]
  · simp [c_fill, h1]
theorem c_ix {k t : Nat} (hk : k < 8) (ht : t < 8) : ((nI k * (8 : Int32)) + nI t).toNatClampNeg = k * 8 + t := am_cx (by simp only [nq_8, nI_qm, nI_qa]) (by omega)
theorem c_vx {k t : Nat} (hk : k < 8) (ht : t < 8) : vp_in ((nI k * (8 : Int32)) + nI t) 64 := am_vx (m := k * 8 + t) (by simp only [nq_8, nI_qm, nI_qa]) (by omega) (by decide)
theorem c_8 {k : Nat} (hk : k < 8) : ¬ (8 : Int32) ≤ nI k := by rw [nq_8]; exact nI_ge hk (by omega)

theorem k_fill_168 {x : Int64} {I : am_I} {L : am_L} : am_K M_J7_fill_d0a16 0 [.ref 168, .long x] I L (am_qf none I (c_fill L 168 8 x)) := by
  have key : ∀ k, k ≤ 8 → B_J7_fill_d0a16_168_6 (am_qf none I (c_fill L 168 8 x)) I (c_fill L 168 k x) x (nI k) (8 : Int32) := by
    refine am_down ?_ (fun k hk ih => ?_)
    · exact s_J7_fill_d0a16_168_6 ⟨fun _ => ⟨rfl, rfl, rfl⟩, fun c1 => absurd (by decide) c1⟩
    · have hc : (nI k).toNatClampNeg = k := nI_clamp (by omega)
      have hv := am_vI (k := k) (n := 8) hk (by decide)
      refine s_J7_fill_d0a16_168_6 ⟨fun c1 => absurd c1 (by rw [show (8 : Int32) = nI 8 by decide]; exact nI_ge hk (by omega)), fun _ => ⟨hv, ?_⟩⟩
      rw [hc, c_fill_s, ← nI_succ]; exact ih
  have k0 := key 0 (Nat.zero_le _)
  rw [c_fill_0] at k0
  exact bm_intro (by decide +kernel) (Nat.le_of_ble_eq_true rfl) (show B_J7_fill_d0a16_168_0 _ _ _ _ from s_J7_fill_d0a16_168_0 k0)

theorem k_fill_170 {x : Int64} {I : am_I} {L : am_L} : am_K M_J7_fill_d0a16 0 [.ref 170, .long x] I L (am_qf none I (c_fill L 170 64 x)) := by
  have key : ∀ k, k ≤ 64 → B_J7_fill_d0a16_170_6 (am_qf none I (c_fill L 170 64 x)) I (c_fill L 170 k x) x (nI k) (64 : Int32) := by
    refine am_down ?_ (fun k hk ih => ?_)
    · exact s_J7_fill_d0a16_170_6 ⟨fun _ => ⟨rfl, rfl, rfl⟩, fun c1 => absurd (by decide) c1⟩
    · have hc : (nI k).toNatClampNeg = k := nI_clamp (by omega)
      have hv := am_vI (k := k) (n := 64) hk (by decide)
      refine s_J7_fill_d0a16_170_6 ⟨fun c1 => absurd c1 (by rw [show (64 : Int32) = nI 64 by decide]; exact nI_ge hk (by omega)), fun _ => ⟨hv, ?_⟩⟩
      rw [hc, c_fill_s, ← nI_succ]; exact ih
  have k0 := key 0 (Nat.zero_le _)
  rw [c_fill_0] at k0
  exact bm_intro (by decide +kernel) (Nat.le_of_ble_eq_true rfl) (show B_J7_fill_d0a16_170_0 _ _ _ _ from s_J7_fill_d0a16_170_0 k0)

theorem k_fill_178 {x : Int64} {I : am_I} {L : am_L} : am_K M_J7_fill_d0a16 0 [.ref 178, .long x] I L (am_qf none I (c_fill L 178 8 x)) := by
  have key : ∀ k, k ≤ 8 → B_J7_fill_d0a16_178_6 (am_qf none I (c_fill L 178 8 x)) I (c_fill L 178 k x) x (nI k) (8 : Int32) := by
    refine am_down ?_ (fun k hk ih => ?_)
    · exact s_J7_fill_d0a16_178_6 ⟨fun _ => ⟨rfl, rfl, rfl⟩, fun c1 => absurd (by decide) c1⟩
    · have hc : (nI k).toNatClampNeg = k := nI_clamp (by omega)
      have hv := am_vI (k := k) (n := 8) hk (by decide)
      refine s_J7_fill_d0a16_178_6 ⟨fun c1 => absurd c1 (by rw [show (8 : Int32) = nI 8 by decide]; exact nI_ge hk (by omega)), fun _ => ⟨hv, ?_⟩⟩
      rw [hc, c_fill_s, ← nI_succ]; exact ih
  have k0 := key 0 (Nat.zero_le _)
  rw [c_fill_0] at k0
  exact bm_intro (by decide +kernel) (Nat.le_of_ble_eq_true rfl) (show B_J7_fill_d0a16_178_0 _ _ _ _ from s_J7_fill_d0a16_178_0 k0)

theorem k_fill_180 {x : Int64} {I : am_I} {L : am_L} : am_K M_J7_fill_d0a16 0 [.ref 180, .long x] I L (am_qf none I (c_fill L 180 64 x)) := by
  have key : ∀ k, k ≤ 64 → B_J7_fill_d0a16_180_6 (am_qf none I (c_fill L 180 64 x)) I (c_fill L 180 k x) x (nI k) (64 : Int32) := by
    refine am_down ?_ (fun k hk ih => ?_)
    · exact s_J7_fill_d0a16_180_6 ⟨fun _ => ⟨rfl, rfl, rfl⟩, fun c1 => absurd (by decide) c1⟩
    · have hc : (nI k).toNatClampNeg = k := nI_clamp (by omega)
      have hv := am_vI (k := k) (n := 64) hk (by decide)
      refine s_J7_fill_d0a16_180_6 ⟨fun c1 => absurd c1 (by rw [show (64 : Int32) = nI 64 by decide]; exact nI_ge hk (by omega)), fun _ => ⟨hv, ?_⟩⟩
      rw [hc, c_fill_s, ← nI_succ]; exact ih
  have k0 := key 0 (Nat.zero_le _)
  rw [c_fill_0] at k0
  exact bm_intro (by decide +kernel) (Nat.le_of_ble_eq_true rfl) (show B_J7_fill_d0a16_180_0 _ _ _ _ from s_J7_fill_d0a16_180_0 k0)

/-- a house's payment is handed on: its row of shares -/
def c_handa (I : am_I) (L L1 : am_L) (h n : Nat) : Prop := c_G 164 L1 ∧ (∀ a x, a ≠ 168 → a ≠ 170 → L1 a x = L a x) ∧ ∀ i, i < 64 → L1 170 i = if h * 8 ≤ i ∧ i < h * 8 + n then am_cut (L 171 h * (I 166 i).toInt64) (L 167 h) else L 170 i
theorem k_X1_handOna {h : Nat} {I : am_I} {L : am_L} (hh : h < 8) (hG : c_G 164 L) : am_K M_X1_handOn 1 [.ref 164, .int (nI h)] I L (am_qv fun I1 L1 => I1 = I ∧ c_handa I L L1 h 8) := by
  have hch : (nI h).toNatClampNeg = h := nI_clamp (by omega)
  have hvh := am_vI (k := h) (n := 8) hh (by decide)
  have key : ∀ t, t ≤ 8 → ∀ L2, c_handa I L L2 h t → B_X1_handOna_2 (am_qv fun I1 L1 => I1 = I ∧ c_handa I L L1 h 8) I L2 (nI h) (nI t) := by
    refine am_down (fun L2 h2 => ?_) (fun t ht ih L2 h2 => ?_)
    · exact s_X1_handOna_2 ⟨fun _ => ⟨rfl, rfl, h2⟩, fun c1 => absurd (by decide) c1⟩
    · have hct : (nI t).toNatClampNeg = t := nI_clamp (by omega)
      have hvt := am_vI (k := t) (n := 8) ht (by decide)
      have hix := c_ix hh ht
      have hvx := c_vx hh ht
      refine s_X1_handOna_2 ⟨fun c1 => absurd c1 (c_8 ht), fun _ => ⟨hvh, hvx, hvh, hvt, hvx, hvt, hvx, ?_⟩⟩
      rw [hch, hct, hix, ← nI_succ]
      obtain ⟨g1, g2, g3⟩ := h2
      rw [g2 167 _ (by decide) (by decide), g2 171 _ (by decide) (by decide)]
      refine ih _ ⟨fun t2 ht2 => ?_, fun a x h1 h2 => ?_, fun i hi => ?_⟩
      · by_cases e : t2 = t
        · subst e
          rw [am_u_ne _ (Or.inl (by decide)), am_u_eq, g1 t2 ht2]
          rw [c_sum_upd (f := fun k => L2 170 (k * 8 + t2)) (g := fun k => am_u (am_u L2 168 t2 _) 170 (h * 8 + t2) _ 170 (k * 8 + t2)) (h := h) 8 hh (fun k hk => by rw [am_u_ne _ (Or.inr (by omega)), am_u_ne _ (Or.inl (by decide))])]
          rw [am_u_eq]
        · rw [am_u_ne _ (Or.inl (by decide)), am_u_ne _ (Or.inr e), g1 t2 ht2]
          exact am_sum_congr _ fun k _ => by rw [am_u_ne _ (Or.inr (by omega)), am_u_ne _ (Or.inl (by decide))]
      · rw [am_u_ne _ (Or.inl h2), am_u_ne _ (Or.inl h1), g2 a x h1 h2]
      · by_cases e : i = h * 8 + t
        · subst e
          rw [am_u_eq, if_pos (show h * 8 ≤ h * 8 + t ∧ h * 8 + t < h * 8 + (t + 1) by omega)]
          rfl
        · rw [am_u_ne _ (Or.inr e), am_u_ne _ (Or.inl (by decide)), g3 i hi]
          by_cases e2 : h * 8 ≤ i ∧ i < h * 8 + t
          · rw [if_pos e2, if_pos (by omega)]
          · rw [if_neg e2, if_neg (by omega)]
  exact bm_intro (by decide +kernel) (Nat.le_of_ble_eq_true rfl) (show B_X1_handOna_0 _ _ _ _ from s_X1_handOna_0 (key 0 (Nat.zero_le _) L ⟨hG, fun _ _ _ _ => rfl, fun i _ => by rw [if_neg (by omega)]⟩))

/-- a house's payment is handed on: its row of shares -/
def c_handb (I : am_I) (L L1 : am_L) (h n : Nat) : Prop := c_G 174 L1 ∧ (∀ a x, a ≠ 178 → a ≠ 180 → L1 a x = L a x) ∧ ∀ i, i < 64 → L1 180 i = if h * 8 ≤ i ∧ i < h * 8 + n then am_cut (L 181 h * (I 176 i).toInt64) (L 177 h) else L 180 i
theorem k_X1_handOnb {h : Nat} {I : am_I} {L : am_L} (hh : h < 8) (hG : c_G 174 L) : am_K M_X1_handOn 1 [.ref 174, .int (nI h)] I L (am_qv fun I1 L1 => I1 = I ∧ c_handb I L L1 h 8) := by
  have hch : (nI h).toNatClampNeg = h := nI_clamp (by omega)
  have hvh := am_vI (k := h) (n := 8) hh (by decide)
  have key : ∀ t, t ≤ 8 → ∀ L2, c_handb I L L2 h t → B_X1_handOnb_2 (am_qv fun I1 L1 => I1 = I ∧ c_handb I L L1 h 8) I L2 (nI h) (nI t) := by
    refine am_down (fun L2 h2 => ?_) (fun t ht ih L2 h2 => ?_)
    · exact s_X1_handOnb_2 ⟨fun _ => ⟨rfl, rfl, h2⟩, fun c1 => absurd (by decide) c1⟩
    · have hct : (nI t).toNatClampNeg = t := nI_clamp (by omega)
      have hvt := am_vI (k := t) (n := 8) ht (by decide)
      have hix := c_ix hh ht
      have hvx := c_vx hh ht
      refine s_X1_handOnb_2 ⟨fun c1 => absurd c1 (c_8 ht), fun _ => ⟨hvh, hvx, hvh, hvt, hvx, hvt, hvx, ?_⟩⟩
      rw [hch, hct, hix, ← nI_succ]
      obtain ⟨g1, g2, g3⟩ := h2
      rw [g2 177 _ (by decide) (by decide), g2 181 _ (by decide) (by decide)]
      refine ih _ ⟨fun t2 ht2 => ?_, fun a x h1 h2 => ?_, fun i hi => ?_⟩
      · by_cases e : t2 = t
        · subst e
          rw [am_u_ne _ (Or.inl (by decide)), am_u_eq, g1 t2 ht2]
          rw [c_sum_upd (f := fun k => L2 180 (k * 8 + t2)) (g := fun k => am_u (am_u L2 178 t2 _) 180 (h * 8 + t2) _ 180 (k * 8 + t2)) (h := h) 8 hh (fun k hk => by rw [am_u_ne _ (Or.inr (by omega)), am_u_ne _ (Or.inl (by decide))])]
          rw [am_u_eq]
        · rw [am_u_ne _ (Or.inl (by decide)), am_u_ne _ (Or.inr e), g1 t2 ht2]
          exact am_sum_congr _ fun k _ => by rw [am_u_ne _ (Or.inr (by omega)), am_u_ne _ (Or.inl (by decide))]
      · rw [am_u_ne _ (Or.inl h2), am_u_ne _ (Or.inl h1), g2 a x h1 h2]
      · by_cases e : i = h * 8 + t
        · subst e
          rw [am_u_eq, if_pos (show h * 8 ≤ h * 8 + t ∧ h * 8 + t < h * 8 + (t + 1) by omega)]
          rfl
        · rw [am_u_ne _ (Or.inr e), am_u_ne _ (Or.inl (by decide)), g3 i hi]
          by_cases e2 : h * 8 ≤ i ∧ i < h * 8 + t
          · rw [if_pos e2, if_pos (by omega)]
          · rw [if_neg e2, if_neg (by omega)]
  exact bm_intro (by decide +kernel) (Nat.le_of_ble_eq_true rfl) (show B_X1_handOnb_0 _ _ _ _ from s_X1_handOnb_0 (key 0 (Nat.zero_le _) L ⟨hG, fun _ _ _ _ => rfl, fun i _ => by rw [if_neg (by omega)]⟩))
