/-! the two readers agree: the levels -/
theorem z_res_go {Q : am_S} {I : am_I} {L : am_L} {T : Nat → Int32} {n : Nat} {l : Int32} {S : List Int32} {V : List Int64} {o : Nat} {r : Int64 × q_S} {C D : Prop} (h : z_res Q I L T n l S V o r C) (hd : C → D) : z_res Q I L T n l S V o r D := ⟨fun a b => hd (h.1 a b), fun a b => hd (h.2 a b)⟩
theorem z_mul {Q : am_S} {I : am_I} {L : am_L} {T : Nat → Int32} {n k : Nat} {u : q_P} (hT : r_T L T n) (hu : q_ok n k u) (hs : z_sim Q I L T n 6 k u) : z_sim Q I L T n 5 k (q_mul T n u) := by
  intro p o S V g hcl hlen hnb
  have hn40 := hT.1
  have hok := hu _ g
  have inner := hs p o S V g (z_cl_le (by decide) hcl) hlen hnb
  rw [q_mul]
  generalize hw : u (p, o, -1) = w at *
  obtain ⟨v, p2, o2, f2⟩ := w
  have ho' : o2 = o := hok.2.2
  have hp2 : p ≤ p2 := hok.1
  have hp3 : p2 ≤ n := hok.2.1
  subst ho'
  by_cases hf : f2 = -1
  · subst hf
    have lp := z_lp2 hT hu hs (l := 5) (c1 := 42) (c2 := 47) (op1 := (· * ·)) (op2 := am_cut) (by decide) (by decide) (by decide) (by decide) (by decide) (by decide) (by decide) (by decide) (by
      intro c h
      rw [r_rk] at h ⊢
      repeat' split at h
      all_goals first | (left; assumption) | (right; left; assumption) | exact absurd h (by decide)) (by funext a b; rfl) (by funext a b; rfl) (by decide) (by decide) hcl hnb 40 v p2 ⟨hp3, by show n < p2 + k; have g2 : n < p + k := g.2.1; omega, g.2.2⟩ (by omega)
    have wd : ∀ S' V', r_wd 6 S' V' = (S, v :: V) → r_wd 5 S' V' = (S, v :: V) := fun S' V' e => by rw [z_wd_wd (show (5 : Int32) ≤ 6 by decide) S' V', e]; exact z_wd_cl hcl _
    exact ⟨fun a b => inner.2 rfl (fun S' V' p'' e1 e2 e3 e4 e5 => (lp S' V' p'' e1 e2 e3 (wd _ _ e4) e5).1 a b), fun a b => inner.2 rfl (fun S' V' p'' e1 e2 e3 e4 e5 => (lp S' V' p'' e1 e2 e3 (wd _ _ e4) e5).2 a b)⟩
  · have e := z_lp2_f (T := T) (n := n) (c1 := 42) (c2 := 47) (op1 := (· * ·)) (op2 := am_cut) (u := u) 40 v (s := (p2, o2, f2)) hf
    exact ⟨fun a b => inner.1 hf (by rw [e] at b; exact b), fun a => absurd (e.symm.trans a) hf⟩
theorem z_add {Q : am_S} {I : am_I} {L : am_L} {T : Nat → Int32} {n k : Nat} {u : q_P} (hT : r_T L T n) (hu : q_ok n k u) (hs : z_sim Q I L T n 5 k u) : z_sim Q I L T n 4 k (q_add T n u) := by
  intro p o S V g hcl hlen hnb
  have hn40 := hT.1
  have hok := hu _ g
  have inner := hs p o S V g (z_cl_le (by decide) hcl) hlen hnb
  rw [q_add]
  generalize hw : u (p, o, -1) = w at *
  obtain ⟨v, p2, o2, f2⟩ := w
  have ho' : o2 = o := hok.2.2
  have hp2 : p ≤ p2 := hok.1
  have hp3 : p2 ≤ n := hok.2.1
  subst ho'
  by_cases hf : f2 = -1
  · subst hf
    have lp := z_lp2 hT hu hs (l := 4) (c1 := 43) (c2 := 45) (op1 := (· + ·)) (op2 := (· - ·)) (by decide) (by decide) (by decide) (by decide) (by decide) (by decide) (by decide) (by decide) (by
      intro c h
      rw [r_rk] at h ⊢
      repeat' split at h
      all_goals first | (left; assumption) | (right; left; assumption) | exact absurd h (by decide) | (subst_vars; decide)) (by funext a b; rfl) (by funext a b; rfl) (by decide) (by decide) hcl hnb 40 v p2 ⟨hp3, by show n < p2 + k; have g2 : n < p + k := g.2.1; omega, g.2.2⟩ (by omega)
    have wd : ∀ S' V', r_wd 5 S' V' = (S, v :: V) → r_wd 4 S' V' = (S, v :: V) := fun S' V' e => by rw [z_wd_wd (show (4 : Int32) ≤ 5 by decide) S' V', e]; exact z_wd_cl hcl _
    exact ⟨fun a b => inner.2 rfl (fun S' V' p'' e1 e2 e3 e4 e5 => (lp S' V' p'' e1 e2 e3 (wd _ _ e4) e5).1 a b), fun a b => inner.2 rfl (fun S' V' p'' e1 e2 e3 e4 e5 => (lp S' V' p'' e1 e2 e3 (wd _ _ e4) e5).2 a b)⟩
  · have e := z_lp2_f (T := T) (n := n) (c1 := 43) (c2 := 45) (op1 := (· + ·)) (op2 := (· - ·)) (u := u) 40 v (s := (p2, o2, f2)) hf
    exact ⟨fun a b => inner.1 hf (by rw [e] at b; exact b), fun a => absurd (e.symm.trans a) hf⟩
theorem z_all {Q : am_S} {I : am_I} {L : am_L} {T : Nat → Int32} {n k : Nat} {u : q_P} (hT : r_T L T n) (hu : q_ok n k u) (hs : z_sim Q I L T n 3 k u) : z_sim Q I L T n 2 k (q_all T n u) := by
  intro p o S V g hcl hlen hnb
  have hn40 := hT.1
  have hok := hu _ g
  have inner := hs p o S V g (z_cl_le (by decide) hcl) hlen hnb
  rw [q_all]
  generalize hw : u (p, o, -1) = w at *
  obtain ⟨v, p2, o2, f2⟩ := w
  have ho' : o2 = o := hok.2.2
  have hp2 : p ≤ p2 := hok.1
  have hp3 : p2 ≤ n := hok.2.1
  subst ho'
  by_cases hf : f2 = -1
  · subst hf
    have lp := z_lp1 hT hu hs (l := 2) (c1 := 38) (op1 := q_and) (by decide) (by decide) (by decide) (by decide) (by decide) (by
      intro c h
      rw [r_rk] at h ⊢
      repeat' split at h
      all_goals first | (left; assumption) | exact absurd h (by decide) | (subst_vars; decide)) (by funext a b; rfl) (by decide) hcl hnb 40 v p2 ⟨hp3, by show n < p2 + k; have g2 : n < p + k := g.2.1; omega, g.2.2⟩ (by omega)
    have wd : ∀ S' V', r_wd 3 S' V' = (S, v :: V) → r_wd 2 S' V' = (S, v :: V) := fun S' V' e => by rw [z_wd_wd (show (2 : Int32) ≤ 3 by decide) S' V', e]; exact z_wd_cl hcl _
    exact ⟨fun a b => inner.2 rfl (fun S' V' p'' e1 e2 e3 e4 e5 => (lp S' V' p'' e1 e2 e3 (wd _ _ e4) e5).1 a b), fun a b => inner.2 rfl (fun S' V' p'' e1 e2 e3 e4 e5 => (lp S' V' p'' e1 e2 e3 (wd _ _ e4) e5).2 a b)⟩
  · have e := z_lp1_f (T := T) (n := n) (c1 := 38) (op1 := q_and) (u := u) 40 v (s := (p2, o2, f2)) hf
    exact ⟨fun a b => inner.1 hf (by rw [e] at b; exact b), fun a => absurd (e.symm.trans a) hf⟩
theorem z_any {Q : am_S} {I : am_I} {L : am_L} {T : Nat → Int32} {n k : Nat} {u : q_P} (hT : r_T L T n) (hu : q_ok n k u) (hs : z_sim Q I L T n 2 k u) : z_sim Q I L T n 1 k (q_any T n u) := by
  intro p o S V g hcl hlen hnb
  have hn40 := hT.1
  have hok := hu _ g
  have inner := hs p o S V g (z_cl_le (by decide) hcl) hlen hnb
  rw [q_any]
  generalize hw : u (p, o, -1) = w at *
  obtain ⟨v, p2, o2, f2⟩ := w
  have ho' : o2 = o := hok.2.2
  have hp2 : p ≤ p2 := hok.1
  have hp3 : p2 ≤ n := hok.2.1
  subst ho'
  by_cases hf : f2 = -1
  · subst hf
    have lp := z_lp1 hT hu hs (l := 1) (c1 := 124) (op1 := q_or) (by decide) (by decide) (by decide) (by decide) (by decide) (by
      intro c h
      rw [r_rk] at h ⊢
      repeat' split at h
      all_goals first | (left; assumption) | exact absurd h (by decide) | (subst_vars; decide)) (by funext a b; rfl) (by decide) hcl hnb 40 v p2 ⟨hp3, by show n < p2 + k; have g2 : n < p + k := g.2.1; omega, g.2.2⟩ (by omega)
    have wd : ∀ S' V', r_wd 2 S' V' = (S, v :: V) → r_wd 1 S' V' = (S, v :: V) := fun S' V' e => by rw [z_wd_wd (show (1 : Int32) ≤ 2 by decide) S' V', e]; exact z_wd_cl hcl _
    exact ⟨fun a b => inner.2 rfl (fun S' V' p'' e1 e2 e3 e4 e5 => (lp S' V' p'' e1 e2 e3 (wd _ _ e4) e5).1 a b), fun a b => inner.2 rfl (fun S' V' p'' e1 e2 e3 e4 e5 => (lp S' V' p'' e1 e2 e3 (wd _ _ e4) e5).2 a b)⟩
  · have e := z_lp1_f (T := T) (n := n) (c1 := 124) (op1 := q_or) (u := u) 40 v (s := (p2, o2, f2)) hf
    exact ⟨fun a b => inner.1 hf (by rw [e] at b; exact b), fun a => absurd (e.symm.trans a) hf⟩
theorem z_held {Q : am_S} {I : am_I} {L : am_L} {T : Nat → Int32} {n k : Nat} {u : q_P} (hT : r_T L T n) (hu : q_ok n k u) (hs : z_sim Q I L T n 4 k u) : z_sim Q I L T n 3 k (q_held T n u) := by
  intro p o S V g hcl hlen hnb
  have hn40 := hT.1
  have hok := hu _ g
  have inner := hs p o S V g (z_cl_le (by decide) hcl) hlen hnb
  rw [q_held]
  generalize hw : u (p, o, -1) = w at *
  obtain ⟨v, p2, o2, f2⟩ := w
  have ho' : o2 = o := hok.2.2
  have hp2 : p ≤ p2 := hok.1
  have hp3 : p2 ≤ n := hok.2.1
  subst ho'
  have g2 : n < p + k := g.2.1
  by_cases hf : f2 = -1
  · subst hf
    have hsl := q_s_le T hp3
    have n3 : ∀ c, ¬ r_3 c S := fun c q => by
      match S, hcl, q with
      | d :: S, hcl, q => exact absurd (hcl.2 q.2.1) (by rw [q.2.2]; decide)
    have step : ∀ c (r : Int64 × q_S), q_c T n (q_s T n p2) = c → r_rk c = 3 → c < 1000 → r_lv c = 4 → r = (r_op c v (u (q_s T n p2 + 1, o2, -1)).1, (u (q_s T n p2 + 1, o2, -1)).2) → z_res Q I L T n 3 S V o2 r (r_C Q I L p (-1) S V o2 1) := by
      intro c r hq hc hk hv hr
      have main : ∀ S' V' p'', p'' ≤ n → q_s T n p'' = q_s T n p2 → S'.length + V'.length ≤ p'' → r_wd 4 S' V' = (S, v :: V) → z_res Q I L T n 3 S V o2 r (r_C Q I L p'' (-1) S' V' o2 0) := by
        intro S' V' p'' e1 e2 e3 e4
        refine z_stp (l' := 4) (l := 3) (op := r_op c) hT hs (by rw [hc]; decide) hv (by rw [hc]; decide) (by rw [hc]; decide) (by decide) rfl hk (n3 c) hcl hnb ⟨hp3, by show n < p2 + k; omega, g.2.2⟩ e1 e2 e3 e4 hq (fun _ => by rw [hr]) (fun hi S'' V'' p3 d1 d2 d3 d4 d4b d5 => ?_)
        rw [hr]
        refine ⟨fun h => absurd hi h, fun _ hg => hg S'' V'' p3 d1 d2 d3 d4 (fun q => ?_)⟩
        by_cases h4 : 4 ≤ r_rk (q_c T n (q_s T n (u (q_s T n p2 + 1, o2, -1)).2.1))
        · exact d5 h4
        · have h3 : r_rk (q_c T n (q_s T n (u (q_s T n p2 + 1, o2, -1)).2.1)) = 3 := by
            have q' : 3 ≤ r_rk (q_c T n (q_s T n (u (q_s T n p2 + 1, o2, -1)).2.1)) := q
            have h4' := Int32.not_le.mp h4
            rw [Int32.le_iff_toInt_le] at q'
            rw [Int32.lt_iff_toInt_lt] at h4'
            apply Int32.toInt_inj.mp
            have a3 : (3 : Int32).toInt = 3 := by decide
            have a4 : (4 : Int32).toInt = 4 := by decide
            omega
          show r_3 _ (r_wd 4 S'' V'').1
          rw [d4b]
          exact ⟨h3, hk, hc⟩
      exact ⟨fun a b => inner.2 rfl (fun S' V' p'' e1 e2 e3 e4 _ => (main S' V' p'' e1 e2 e3 e4).1 a b), fun a b => inner.2 rfl (fun S' V' p'' e1 e2 e3 e4 _ => (main S' V' p'' e1 e2 e3 e4).2 a b)⟩
    dsimp only
    rw [z_hit]
    by_cases hh1 : q_c T n (q_s T n p2) = 60
    · rw [if_pos hh1, if_neg (by decide), z_mv1 hh1]
      exact step 60 _ hh1 (by decide) (by decide) (by decide) rfl
    · rw [if_neg hh1, if_pos rfl, z_mv0 hh1, z_hit, q_s_s hp3]
      by_cases hh2 : q_c T n (q_s T n p2) = 62
      · rw [if_pos hh2, if_neg (by decide), z_mv1 (by rw [q_s_s hp3]; exact hh2), q_s_s hp3]
        exact step 62 _ hh2 (by decide) (by decide) (by decide) rfl
      · rw [if_neg hh2, if_pos rfl, z_mv0 (by rw [q_s_s hp3]; exact hh2), q_s_s hp3, z_hit, q_s_s hp3]
        by_cases hh3 : q_c T n (q_s T n p2) = 61
        · rw [if_pos hh3, if_neg (by decide), z_mv1 (by rw [q_s_s hp3]; exact hh3), q_s_s hp3]
          exact step 61 _ hh3 (by decide) (by decide) (by decide) rfl
        · rw [if_neg hh3, if_pos rfl, z_mv0 (by rw [q_s_s hp3]; exact hh3), q_s_s hp3]
          refine ⟨fun h => absurd rfl h, fun _ hg => inner.2 rfl (fun S' V' p'' e1 e2 e3 e4 e5 => hg S' V' p'' e1 (e2.trans (q_s_s hp3).symm) e3 (by rw [z_wd_wd (show (3 : Int32) ≤ 4 by decide) S' V', e4]; exact z_wd_cl hcl _) (fun q => ?_))⟩
          have q' : 3 ≤ r_rk (q_c T n (q_s T n (q_s T n p2))) := q
          show r_3 (q_c T n (q_s T n (q_s T n p2))) _
          rw [q_s_s hp3] at q' ⊢
          refine e5 ?_
          show 4 ≤ r_rk (q_c T n (q_s T n p2))
          generalize q_c T n (q_s T n p2) = c at *
          rw [r_rk] at q' ⊢
          repeat' split at q'
          all_goals first | contradiction | exact absurd q' (by decide) | (subst_vars; decide)
  · have e1 : q_hit T n 60 (p2, o2, f2) = 0 := z_hit_f hf
    have e2 : q_hit T n 62 (q_mv T n 60 (p2, o2, f2)) = 0 := z_hit_f hf
    have e3 : q_hit T n 61 (q_mv T n 62 (q_mv T n 60 (p2, o2, f2))) = 0 := z_hit_f hf
    dsimp only
    rw [if_pos e1, if_pos e2, if_pos e3]
    exact ⟨fun a b => inner.1 hf b, fun a => absurd a hf⟩
theorem z_lev {Q : am_S} {I : am_I} {L : am_L} {T : Nat → Int32} {n k : Nat} {u : q_P} (hT : r_T L T n) (hu : q_ok n k u) (hs : z_sim Q I L T n 6 k u) : z_sim Q I L T n 1 k (q_lev T n u) :=
  z_any hT (q_ok_all (q_ok_held (q_ok_add (q_ok_mul hu)))) (z_all hT (q_ok_held (q_ok_add (q_ok_mul hu))) (z_held hT (q_ok_add (q_ok_mul hu)) (z_add hT (q_ok_mul hu) (z_mul hT hu hs))))
/-- a unit: the signs that stand before it work upon it -/
def z_ru (Q : am_S) (I : am_I) (L : am_L) (T : Nat → Int32) (n p : Nat) (S : List Int32) (V : List Int64) (o : Nat) (r : Int64 × q_S) : Prop :=
  (¬ r.2.2.2 = -1 → z_F Q I L r.2.2.2 → r_C Q I L p (-1) S V o 1) ∧
  (r.2.2.2 = -1 → (∀ p'', p'' ≤ n → q_s T n p'' = q_s T n r.2.1 → (r_sd S r.1).1.length + V.length + 1 ≤ p'' → r_C Q I L p'' (-1) (r_sd S r.1).1 ((r_sd S r.1).2 :: V) o 0) → r_C Q I L p (-1) S V o 1)
def z_simu (Q : am_S) (I : am_I) (L : am_L) (T : Nat → Int32) (n k : Nat) (u : q_P) : Prop := ∀ p o S V, q_G n k (p, o, -1) → S.length + V.length ≤ p → r_nb S ≤ V.length → z_ru Q I L T n p S V o (u (p, o, -1))
theorem z_sim6 {Q : am_S} {I : am_I} {L : am_L} {T : Nat → Int32} {n k : Nat} {u : q_P} (h : z_simu Q I L T n k u) : z_sim Q I L T n 6 k u := by
  intro p o S V g hcl hlen hnb
  have h := h p o S V g hlen hnb
  refine ⟨h.1, fun a b => h.2 a (fun p'' e1 e2 e3 => ?_)⟩
  rw [z_sd_cl hcl] at e3 ⊢
  refine b S _ p'' e1 e2 e3 (z_wd_cl hcl _) (fun q => absurd q (Int32.not_le.mpr (Int32.lt_of_le_of_lt (z_rk5 _) (by decide))))
theorem z_rf {k p : Nat} (hp : p ≤ 40) (hk : k ≤ 3) : ¬ (10 * nI p + nI k : Int32) = -1 := by
  rw [show (10 : Int32) = nI 10 from rfl, nI_qm, nI_qa]
  intro e
  have e2 := congrArg Int32.toInt e
  rw [nI_toInt (by omega)] at e2
  have e3 : (-1 : Int32).toInt = -1 := by decide
  omega
theorem z_nm (c : Int32) : r_nm c = -1 ∨ ∃ x, x < 7 ∧ r_nm c = nI x := by
  rw [r_nm]
  repeat' split
  all_goals first | exact Or.inl rfl | exact Or.inr ⟨0, by decide, rfl⟩ | exact Or.inr ⟨1, by decide, rfl⟩ | exact Or.inr ⟨2, by decide, rfl⟩ | exact Or.inr ⟨3, by decide, rfl⟩ | exact Or.inr ⟨4, by decide, rfl⟩ | exact Or.inr ⟨5, by decide, rfl⟩ | exact Or.inr ⟨6, by decide, rfl⟩
