theorem c_8e : (8 : Int32) ≤ nI 8 := by decide
def c_nx (o c p : Nat → Int64) (k : Nat) : Nat → Int64 := fun j => if j < k then c_step o c p j else p j
theorem c_nx_0 (o c p : Nat → Int64) : c_nx o c p 0 = p := by funext j; simp [c_nx]
theorem c_nx_s {o c p : Nat → Int64} {k : Nat} (h : c_step o c p k = p k) : c_nx o c p (k + 1) = c_nx o c p k := by
  funext j
  by_cases h1 : j = k
  · subst h1; simp [c_nx, h]
  · by_cases h2 : j < k
    · simp [c_nx, h2, Nat.lt_succ_of_lt h2]
    · have h3 : ¬ j < k + 1 := by omega
      simp [c_nx, h2, h3]
theorem c_nx_ne {o c p : Nat → Int64} {k j : Nat} (h : j ≠ k) : c_nx o c p (k + 1) j = c_nx o c p k j := by
  by_cases h2 : j < k
  · simp [c_nx, h2, Nat.lt_succ_of_lt h2]
  · have h3 : ¬ j < k + 1 := by omega
    simp [c_nx, h2, h3]
theorem c_nx_eq {o c p : Nat → Int64} {k : Nat} : c_nx o c p (k + 1) k = c_step o c p k := by simp [c_nx]
def c_run (o c : Nat → Int64) : Nat → (Nat → Int64) → Int32 → (Nat → Int64) × Int32
  | 0, p, n => (p, n)
  | m + 1, p, n => if ∀ h, h < 8 → c_step o c p h = p h then (p, n) else c_run o c m (c_nx o c p 8) (n + 1)
theorem c_row {k j t : Nat} (ht : t < 8) (hj : j ≠ k) : ¬ (k * 8 ≤ j * 8 + t ∧ j * 8 + t < k * 8 + 8) := by omega

def c_oa (I : am_I) : Nat → Int64 := fun i => (I 166 i).toInt64
/-- the stored numbers are those of the payments p -/
def c_oka (I : am_I) (L : am_L) (p : Nat → Int64) : Prop := c_G 164 L ∧ (∀ h, h < 8 → L 167 h = c_D (c_oa I) h) ∧ (∀ h, h < 8 → L 171 h = p h) ∧ ∀ k t, k < 8 → t < 8 → L 170 (k * 8 + t) = c_sh (c_oa I) p k t
def c_fra (L L1 : am_L) : Prop := ∀ a x, (a < 167 ∨ 171 < a) → L1 a x = L a x
theorem c_sh_eqa {I : am_I} {p q : Nat → Int64} {k t : Nat} (h : p k = q k) : c_sh (c_oa I) p k t = c_sh (c_oa I) q k t := by rw [c_sh, c_sh, h]
/-- one house's payment becomes v, and is handed on -/
theorem c_seta {I : am_I} {L L1 : am_L} {p q : Nat → Int64} {k : Nat} {v : Int64} (hk : k < 8) (h : c_oka I L p) (hh : c_handa I (am_u L 171 k v) L1 k 8) (hq : q k = v) (hqn : ∀ j, j ≠ k → q j = p j) : c_oka I L1 q := by
  obtain ⟨h1, h2, h3, h4⟩ := h
  obtain ⟨g1, g2, g3⟩ := hh
  refine ⟨g1, fun j hj => ?_, fun j hj => ?_, fun j t hj ht => ?_⟩
  · rw [g2 167 j (by decide) (by decide), am_u_ne _ (Or.inl (by decide)), h2 j hj]
  · rw [g2 171 j (by decide) (by decide)]
    by_cases e : j = k
    · subst e; rw [am_u_eq, hq]
    · rw [am_u_ne _ (Or.inr e), h3 j hj, hqn j e]
  · rw [g3 (j * 8 + t) (by omega)]
    by_cases e : j = k
    · subst e
      rw [if_pos (by omega), am_u_eq, am_u_ne _ (Or.inl (by decide)), h2 j hj, c_sh, hq]; rfl
    · rw [if_neg (c_row ht e), am_u_ne _ (Or.inl (by decide)), h4 j t hj ht]
      exact c_sh_eqa (hqn j e).symm
def c_p0a (I : am_I) : Nat → Int64 := fun h => if I 164 0 = 0 then 0 else c_D (c_oa I) h
/-- rows below k stand, the others are empty -/
def c_bga (I : am_I) (L0 L : am_L) (k : Nat) : Prop := c_G 164 L ∧ (∀ h, h < k → L 167 h = c_D (c_oa I) h ∧ L 171 h = c_p0a I h) ∧ (∀ j t, j < 8 → t < 8 → L 170 (j * 8 + t) = if j < k then c_sh (c_oa I) (c_p0a I) j t else 0) ∧ c_fra L0 L
theorem k_X1_begina {I : am_I} {L : am_L} : am_K M_X1_begin 2 [.ref 164] I L (am_qv fun I1 L1 => I1 = I ∧ c_oka I L1 (c_p0a I) ∧ c_fra L L1) := by
  have key : ∀ k, k ≤ 8 → ∀ L2, c_bga I L L2 k → B_X1_begina_18 (am_qv fun I1 L1 => I1 = I ∧ c_oka I L1 (c_p0a I) ∧ c_fra L L1) I L2 (nI k) := by
    refine am_down (fun L2 h2 => ?_) (fun k hk ih L2 h2 => ?_)
    · obtain ⟨g1, g2, g3, g4⟩ := h2
      exact s_X1_begina_18 ⟨fun _ => ⟨rfl, rfl, ⟨g1, fun h hh => (g2 h hh).1, fun h hh => (g2 h hh).2, fun j t hj ht => by rw [g3 j t hj ht, if_pos hj]⟩, g4⟩, fun c1 => absurd c_8e c1⟩
    · obtain ⟨g1, g2, g3, g4⟩ := h2
      have hck : (nI k).toNatClampNeg = k := nI_clamp (by omega)
      have hvk := am_vI (k := k) (n := 8) hk (by decide)
      have key2 : ∀ t, t ≤ 8 → B_X1_begina_33 (am_qv fun I1 L1 => I1 = I ∧ c_oka I L1 (c_p0a I) ∧ c_fra L L1) I (am_u L2 167 k (am_sum (fun t => c_oa I (k * 8 + t)) t)) (nI k) (nI t) := by
        have fin : ∀ (v : Int64) (L4 : am_L), v = c_p0a I k → c_handa I (am_u (am_u L2 167 k (c_D (c_oa I) k)) 171 k v) L4 k 8 → c_bga I L L4 (k + 1) := by
          intro v L4 hv hh
          obtain ⟨e1, e2, e3⟩ := hh
          refine ⟨e1, fun h hh => ⟨?_, ?_⟩, fun j t hj ht => ?_, fun a x ha => ?_⟩
          · rw [e2 167 h (by decide) (by decide), am_u_ne _ (Or.inl (by decide))]
            by_cases e : h = k
            · subst e; rw [am_u_eq]
            · rw [am_u_ne _ (Or.inr e)]; exact (g2 h (by omega)).1
          · rw [e2 171 h (by decide) (by decide)]
            by_cases e : h = k
            · subst e; rw [am_u_eq, hv]
            · rw [am_u_ne _ (Or.inr e), am_u_ne _ (Or.inl (by decide))]; exact (g2 h (by omega)).2
          · rw [e3 (j * 8 + t) (by omega)]
            by_cases e : j = k
            · subst e
              rw [if_pos (by omega), if_pos (by omega), am_u_eq, am_u_ne _ (Or.inl (by decide)), am_u_eq, hv]; rfl
            · rw [if_neg (c_row ht e), am_u_ne _ (Or.inl (by decide)), am_u_ne _ (Or.inl (by decide)), g3 j t hj ht]
              by_cases e2 : j < k
              · rw [if_pos e2, if_pos (by omega)]
              · rw [if_neg e2, if_neg (by omega)]
          · have n1 : a ≠ 168 := by omega
            have n2 : a ≠ 170 := by omega
            have n3 : a ≠ 171 := by omega
            have n4 : a ≠ 167 := by omega
            rw [e2 a x n1 n2, am_u_ne _ (Or.inl n3), am_u_ne _ (Or.inl n4), g4 a x ha]
        have gG : ∀ v, c_G 164 (am_u (am_u L2 167 k (c_D (c_oa I) k)) 171 k v) := by
          intro v t ht
          rw [am_u_ne _ (Or.inl (by decide)), am_u_ne _ (Or.inl (by decide)), g1 t ht]
          exact am_sum_congr _ fun j _ => by rw [am_u_ne _ (Or.inl (by decide)), am_u_ne _ (Or.inl (by decide))]
        refine am_down ?_ (fun t ht ih2 => ?_)
        · refine s_X1_begina_33 ⟨fun _ => ⟨fun c2 => ⟨hvk, ?_⟩, fun c2 => ⟨hvk, hvk, ?_⟩⟩, fun c1 => absurd c_8e c1⟩
          · rw [hck]
            refine ⟨_, k_X1_handOna hk (gG 0), fun I4 L4 e => ?_⟩
            obtain ⟨rfl, e⟩ := e
            rw [← nI_succ]
            exact ih _ (fin 0 _ (by rw [c_p0a, if_pos c2]) e)
          · rw [hck, am_u_eq]
            refine ⟨_, k_X1_handOna hk (gG _), fun I4 L4 e => ?_⟩
            obtain ⟨rfl, e⟩ := e
            rw [← nI_succ]
            exact ih _ (fin _ _ (by rw [c_p0a, if_neg c2]; rfl) e)
        · have hct : (nI t).toNatClampNeg = t := nI_clamp (by omega)
          refine s_X1_begina_33 ⟨fun c1 => absurd c1 (c_8 ht), fun _ => ⟨hvk, c_vx hk ht, hvk, ?_⟩⟩
          rw [hck, c_ix hk ht, am_u_eq, ← nI_succ]
          have uu : ∀ x y, am_u (am_u L2 167 k x) 167 k y = am_u L2 167 k y := fun x y => by
            funext a b
            by_cases h1 : a = 167
            · by_cases h2 : b = k
              · simp [am_u, h1, h2]
              · simp [am_u, h1, h2]
            · simp [am_u, h1]
          rw [uu]; exact ih2
      refine s_X1_begina_18 ⟨fun c1 => absurd c1 (c_8 hk), fun _ => ⟨hvk, ?_⟩⟩
      rw [hck]; exact key2 0 (Nat.zero_le _)
  refine bm_intro (by decide +kernel) (Nat.le_of_ble_eq_true rfl) (show B_X1_begina_0 _ _ _ from s_X1_begina_0 ⟨_, am_qf_v k_fill_168, fun I3 L3 e => ?_⟩)
  obtain ⟨e1, e2⟩ := e
  subst e1; subst e2
  refine ⟨_, am_qf_v k_fill_170, fun I3 L3 e => ?_⟩
  obtain ⟨e1, e2⟩ := e
  subst e1; subst e2
  refine key 0 (Nat.zero_le _) _ ⟨fun t ht => ?_, fun h hh => absurd hh (Nat.not_lt_zero _), fun j t hj ht => ?_, fun a x ha => ?_⟩
  · have e0 : ∀ n, am_sum (fun _ => (0 : Int64)) n = 0 := fun n => by
      induction n with
      | zero => rfl
      | succ n ih => rw [am_sum, ih]; rfl
    have e1 : am_sum (fun k => c_fill (c_fill L 168 8 0) 170 64 0 (164 + 6) (k * 8 + t)) 8 = am_sum (fun _ => (0 : Int64)) 8 := am_sum_congr _ fun k hk => by
      have h3 : k * 8 + t < 64 := by omega
      simp [c_fill, h3]
    rw [e1, e0]
    simp [c_fill, ht]
  · have h3 : j * 8 + t < 64 := by omega
    simp [c_fill, h3]
  · have n1 : a ≠ 168 := by omega
    have n2 : a ≠ 170 := by omega
    simp [c_fill, n1, n2]

def c_ob (I : am_I) : Nat → Int64 := fun i => (I 176 i).toInt64
/-- the stored numbers are those of the payments p -/
def c_okb (I : am_I) (L : am_L) (p : Nat → Int64) : Prop := c_G 174 L ∧ (∀ h, h < 8 → L 177 h = c_D (c_ob I) h) ∧ (∀ h, h < 8 → L 181 h = p h) ∧ ∀ k t, k < 8 → t < 8 → L 180 (k * 8 + t) = c_sh (c_ob I) p k t
def c_frb (L L1 : am_L) : Prop := ∀ a x, (a < 177 ∨ 181 < a) → L1 a x = L a x
theorem c_sh_eqb {I : am_I} {p q : Nat → Int64} {k t : Nat} (h : p k = q k) : c_sh (c_ob I) p k t = c_sh (c_ob I) q k t := by rw [c_sh, c_sh, h]
/-- one house's payment becomes v, and is handed on -/
theorem c_setb {I : am_I} {L L1 : am_L} {p q : Nat → Int64} {k : Nat} {v : Int64} (hk : k < 8) (h : c_okb I L p) (hh : c_handb I (am_u L 181 k v) L1 k 8) (hq : q k = v) (hqn : ∀ j, j ≠ k → q j = p j) : c_okb I L1 q := by
  obtain ⟨h1, h2, h3, h4⟩ := h
  obtain ⟨g1, g2, g3⟩ := hh
  refine ⟨g1, fun j hj => ?_, fun j hj => ?_, fun j t hj ht => ?_⟩
  · rw [g2 177 j (by decide) (by decide), am_u_ne _ (Or.inl (by decide)), h2 j hj]
  · rw [g2 181 j (by decide) (by decide)]
    by_cases e : j = k
    · subst e; rw [am_u_eq, hq]
    · rw [am_u_ne _ (Or.inr e), h3 j hj, hqn j e]
  · rw [g3 (j * 8 + t) (by omega)]
    by_cases e : j = k
    · subst e
      rw [if_pos (by omega), am_u_eq, am_u_ne _ (Or.inl (by decide)), h2 j hj, c_sh, hq]; rfl
    · rw [if_neg (c_row ht e), am_u_ne _ (Or.inl (by decide)), h4 j t hj ht]
      exact c_sh_eqb (hqn j e).symm
def c_p0b (I : am_I) : Nat → Int64 := fun h => if I 174 0 = 0 then 0 else c_D (c_ob I) h
/-- rows below k stand, the others are empty -/
def c_bgb (I : am_I) (L0 L : am_L) (k : Nat) : Prop := c_G 174 L ∧ (∀ h, h < k → L 177 h = c_D (c_ob I) h ∧ L 181 h = c_p0b I h) ∧ (∀ j t, j < 8 → t < 8 → L 180 (j * 8 + t) = if j < k then c_sh (c_ob I) (c_p0b I) j t else 0) ∧ c_frb L0 L
theorem k_X1_beginb {I : am_I} {L : am_L} : am_K M_X1_begin 2 [.ref 174] I L (am_qv fun I1 L1 => I1 = I ∧ c_okb I L1 (c_p0b I) ∧ c_frb L L1) := by
  have key : ∀ k, k ≤ 8 → ∀ L2, c_bgb I L L2 k → B_X1_beginb_18 (am_qv fun I1 L1 => I1 = I ∧ c_okb I L1 (c_p0b I) ∧ c_frb L L1) I L2 (nI k) := by
    refine am_down (fun L2 h2 => ?_) (fun k hk ih L2 h2 => ?_)
    · obtain ⟨g1, g2, g3, g4⟩ := h2
      exact s_X1_beginb_18 ⟨fun _ => ⟨rfl, rfl, ⟨g1, fun h hh => (g2 h hh).1, fun h hh => (g2 h hh).2, fun j t hj ht => by rw [g3 j t hj ht, if_pos hj]⟩, g4⟩, fun c1 => absurd c_8e c1⟩
    · obtain ⟨g1, g2, g3, g4⟩ := h2
      have hck : (nI k).toNatClampNeg = k := nI_clamp (by omega)
      have hvk := am_vI (k := k) (n := 8) hk (by decide)
      have key2 : ∀ t, t ≤ 8 → B_X1_beginb_33 (am_qv fun I1 L1 => I1 = I ∧ c_okb I L1 (c_p0b I) ∧ c_frb L L1) I (am_u L2 177 k (am_sum (fun t => c_ob I (k * 8 + t)) t)) (nI k) (nI t) := by
        have fin : ∀ (v : Int64) (L4 : am_L), v = c_p0b I k → c_handb I (am_u (am_u L2 177 k (c_D (c_ob I) k)) 181 k v) L4 k 8 → c_bgb I L L4 (k + 1) := by
          intro v L4 hv hh
          obtain ⟨e1, e2, e3⟩ := hh
          refine ⟨e1, fun h hh => ⟨?_, ?_⟩, fun j t hj ht => ?_, fun a x ha => ?_⟩
          · rw [e2 177 h (by decide) (by decide), am_u_ne _ (Or.inl (by decide))]
            by_cases e : h = k
            · subst e; rw [am_u_eq]
            · rw [am_u_ne _ (Or.inr e)]; exact (g2 h (by omega)).1
          · rw [e2 181 h (by decide) (by decide)]
            by_cases e : h = k
            · subst e; rw [am_u_eq, hv]
            · rw [am_u_ne _ (Or.inr e), am_u_ne _ (Or.inl (by decide))]; exact (g2 h (by omega)).2
          · rw [e3 (j * 8 + t) (by omega)]
            by_cases e : j = k
            · subst e
              rw [if_pos (by omega), if_pos (by omega), am_u_eq, am_u_ne _ (Or.inl (by decide)), am_u_eq, hv]; rfl
            · rw [if_neg (c_row ht e), am_u_ne _ (Or.inl (by decide)), am_u_ne _ (Or.inl (by decide)), g3 j t hj ht]
              by_cases e2 : j < k
              · rw [if_pos e2, if_pos (by omega)]
              · rw [if_neg e2, if_neg (by omega)]
          · have n1 : a ≠ 178 := by omega
            have n2 : a ≠ 180 := by omega
            have n3 : a ≠ 181 := by omega
            have n4 : a ≠ 177 := by omega
            rw [e2 a x n1 n2, am_u_ne _ (Or.inl n3), am_u_ne _ (Or.inl n4), g4 a x ha]
        have gG : ∀ v, c_G 174 (am_u (am_u L2 177 k (c_D (c_ob I) k)) 181 k v) := by
          intro v t ht
          rw [am_u_ne _ (Or.inl (by decide)), am_u_ne _ (Or.inl (by decide)), g1 t ht]
          exact am_sum_congr _ fun j _ => by rw [am_u_ne _ (Or.inl (by decide)), am_u_ne _ (Or.inl (by decide))]
        refine am_down ?_ (fun t ht ih2 => ?_)
        · refine s_X1_beginb_33 ⟨fun _ => ⟨fun c2 => ⟨hvk, ?_⟩, fun c2 => ⟨hvk, hvk, ?_⟩⟩, fun c1 => absurd c_8e c1⟩
          · rw [hck]
            refine ⟨_, k_X1_handOnb hk (gG 0), fun I4 L4 e => ?_⟩
            obtain ⟨rfl, e⟩ := e
            rw [← nI_succ]
            exact ih _ (fin 0 _ (by rw [c_p0b, if_pos c2]) e)
          · rw [hck, am_u_eq]
            refine ⟨_, k_X1_handOnb hk (gG _), fun I4 L4 e => ?_⟩
            obtain ⟨rfl, e⟩ := e
            rw [← nI_succ]
            exact ih _ (fin _ _ (by rw [c_p0b, if_neg c2]; rfl) e)
        · have hct : (nI t).toNatClampNeg = t := nI_clamp (by omega)
          refine s_X1_beginb_33 ⟨fun c1 => absurd c1 (c_8 ht), fun _ => ⟨hvk, c_vx hk ht, hvk, ?_⟩⟩
          rw [hck, c_ix hk ht, am_u_eq, ← nI_succ]
          have uu : ∀ x y, am_u (am_u L2 177 k x) 177 k y = am_u L2 177 k y := fun x y => by
            funext a b
            by_cases h1 : a = 177
            · by_cases h2 : b = k
              · simp [am_u, h1, h2]
              · simp [am_u, h1, h2]
            · simp [am_u, h1]
          rw [uu]; exact ih2
      refine s_X1_beginb_18 ⟨fun c1 => absurd c1 (c_8 hk), fun _ => ⟨hvk, ?_⟩⟩
      rw [hck]; exact key2 0 (Nat.zero_le _)
  refine bm_intro (by decide +kernel) (Nat.le_of_ble_eq_true rfl) (show B_X1_beginb_0 _ _ _ from s_X1_beginb_0 ⟨_, am_qf_v k_fill_178, fun I3 L3 e => ?_⟩)
  obtain ⟨e1, e2⟩ := e
  subst e1; subst e2
  refine ⟨_, am_qf_v k_fill_180, fun I3 L3 e => ?_⟩
  obtain ⟨e1, e2⟩ := e
  subst e1; subst e2
  refine key 0 (Nat.zero_le _) _ ⟨fun t ht => ?_, fun h hh => absurd hh (Nat.not_lt_zero _), fun j t hj ht => ?_, fun a x ha => ?_⟩
  · have e0 : ∀ n, am_sum (fun _ => (0 : Int64)) n = 0 := fun n => by
      induction n with
      | zero => rfl
      | succ n ih => rw [am_sum, ih]; rfl
    have e1 : am_sum (fun k => c_fill (c_fill L 178 8 0) 180 64 0 (174 + 6) (k * 8 + t)) 8 = am_sum (fun _ => (0 : Int64)) 8 := am_sum_congr _ fun k hk => by
      have h3 : k * 8 + t < 64 := by omega
      simp [c_fill, h3]
    rw [e1, e0]
    simp [c_fill, ht]
  · have h3 : j * 8 + t < 64 := by omega
    simp [c_fill, h3]
  · have n1 : a ≠ 178 := by omega
    have n2 : a ≠ 180 := by omega
    simp [c_fill, n1, n2]
