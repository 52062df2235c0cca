/-! the two readers agree: the unit, the whole text -/
theorem z_nb_sd : ∀ (S : List Int32) (v : Int64), r_nb (r_sd S v).1 = r_nb S := by
  intro S
  induction S with
  | nil => intro v; rfl
  | cons c S ih =>
    intro v
    rw [r_sd]
    split
    · rfl
    · rename_i h
      rw [ih, r_nb, if_neg (fun q => h (Int32.le_of_lt q)), Nat.zero_add]
theorem z_rkp (c : Int32) : 0 ≤ r_rk c := by
  rw [r_rk]
  repeat' split
  all_goals decide
theorem z_rk0 {c : Int32} (h : ¬ 1 ≤ r_rk c) : r_rk c = 0 := by
  have h1 := z_rkp c
  have h2 := Int32.not_le.mp h
  rw [Int32.le_iff_toInt_le] at h1
  rw [Int32.lt_iff_toInt_lt] at h2
  apply Int32.toInt_inj.mp
  have a0 : (0 : Int32).toInt = 0 := by decide
  have a1 : (1 : Int32).toInt = 1 := by decide
  omega
set_option maxHeartbeats 8000000 in
theorem z_unit {Q : am_S} {I : am_I} {L : am_L} {T : Nat → Int32} {n : Nat} {N : Nat → Int64} (hT : r_T L T n) (hN : ∀ x, x < 7 → N x = L 201 x) : ∀ k, z_simu Q I L T n k (q_unit T n N k) := by
  have hn40 := hT.1
  intro k
  induction k with
  | zero =>
    intro p o S V g
    have g1 : p ≤ n := g.1
    have g2 : n < p + 0 := g.2.1
    omega
  | succ k ih =>
    intro p o S V g hlen hnb
    have g1 : p ≤ n := g.1
    have g2 : n < p + (k + 1) := g.2.1
    have g3 : o ≤ 8 := g.2.2
    have hsl := q_s_le T g1
    have hss := q_s_s (T := T) g1
    generalize hr : q_unit T n N (k + 1) (p, o, -1) = r
    rw [q_unit] at hr
    dsimp only at hr
    by_cases c0 : q_c T n (q_s T n p) = -1
    · rw [if_pos c0, q_rf, if_pos rfl] at hr
      subst hr
      refine ⟨fun hf hF => r_C_bad hT g1 (by rw [c0]; decide) (by rw [c0]; decide) (by rw [c0]; decide) (by rw [c0]; decide) (by rw [c0]; decide) (r_C_f hf hF), fun h => absurd h (z_rf (k := 1) (by omega) (by decide))⟩
    rw [if_neg c0] at hr
    have hlt := q_c_lt c0
    by_cases cd : 48 ≤ q_c T n (q_s T n p) ∧ q_c T n (q_s T n p) ≤ 57
    · rw [if_pos cd] at hr
      subst hr
      have hTc : q_c T n (q_s T n p) = T (q_s T n p) := if_pos hlt
      have he := q_e_d (T := T) hlt (by rw [← hTc]; exact cd)
      have hel := q_e_le T (show q_s T n p + 1 ≤ n from hlt)
      by_cases h6 : q_e T n (q_s T n p) - q_s T n p ≤ 6
      · refine ⟨fun h => absurd (by show q_nf T n (q_s T n p) (-1) = -1; rw [q_nf, if_pos h6]) h, fun _ hg => r_C_num hT g1 cd (by omega) (by omega) ?_⟩
        have e1 : r_np T n (q_s T n p) = q_np T n (q_s T n p) := by rw [r_np, q_np, if_pos h6, if_pos h6]
        have e2 : r_nf T n (q_s T n p) (-1) = -1 := by rw [r_nf, if_pos h6]
        have e3 : q_np T n (q_s T n p) = q_e T n (q_s T n p) := by rw [q_np, if_pos h6]
        rw [e1, e2]
        refine hg _ (by rw [e3, he]; exact hel.2) rfl ?_
        have := z_sd_len S (q_num T n (q_s T n p))
        rw [e3, he]
        show (r_sd S (q_num T n (q_s T n p))).1.length + V.length + 1 ≤ _
        omega
      · have e2 : r_nf T n (q_s T n p) (-1) = 10 * nI (q_s T n p) + 2 := by rw [r_nf, if_neg h6]
        have e4 : q_nf T n (q_s T n p) (-1) = 10 * nI (q_s T n p) + 2 := by rw [q_nf, if_neg h6, q_rf, if_pos rfl]
        have ne : ¬ (10 * nI (q_s T n p) + 2 : Int32) = -1 := z_rf (k := 2) (by omega) (by decide)
        refine ⟨fun _ hF => r_C_num hT g1 cd (by omega) (by omega) ?_, fun h => absurd (e4.symm.trans h) ne⟩
        rw [e2]
        have hF' : z_F Q I L (q_nf T n (q_s T n p) (-1)) := hF
        rw [e4] at hF'
        exact r_C_f ne hF'
    rw [if_neg cd] at hr
    by_cases cb : q_c T n (q_s T n p) = 40
    · rw [if_pos cb, q_in] at hr
      dsimp only at hr
      by_cases h8 : o < 8
      · rw [if_pos h8] at hr
        have gb : q_G n k (q_s T n p + 1, o + 1, -1) := ⟨hlt, by show n < q_s T n p + 1 + k; omega, h8⟩
        have hok := q_ok_lev (T := T) (q_ok_unit (T := T) (N := N) k) _ gb
        have inner := z_lev hT (q_ok_unit (T := T) (N := N) k) (z_sim6 ih) (q_s T n p + 1) (o + 1) (1000 :: S) V gb ⟨Int32.le_refl _, fun q => absurd q (by decide)⟩ (by show S.length + 1 + V.length ≤ _; omega) (by rw [r_nb, if_neg (by decide), Nat.zero_add]; exact hnb)
        generalize hw : q_lev T n (q_unit T n N k) (q_s T n p + 1, o + 1, -1) = w at *
        obtain ⟨v, p2, o2, f2⟩ := w
        have ho2 : o2 = o + 1 := hok.2.2
        have hp2 : q_s T n p + 1 ≤ p2 := hok.1
        have hp3 : p2 ≤ n := hok.2.1
        have hop : r_C Q I L (q_s T n p + 1) (-1) (1000 :: S) V (o + 1) 1 → r_C Q I L p (-1) S V o 1 := fun h => r_C_open hT g1 cb (by omega) g3 (by rw [if_pos h8]; exact h)
        dsimp only at hr
        by_cases hf : f2 = -1
        · subst hf
          rw [ho2] at hr
          have hsl2 := q_s_le T hp3
          rw [z_hit] at hr
          -- the config behind the inner value
          have pre : ∀ S' V' p'', p'' ≤ n → S'.length + V'.length ≤ p'' → r_wd 1 S' V' = (1000 :: S, v :: V) → r_nb S' + 1 ≤ V'.length ∧ S.length + 1 + V.length + 1 ≤ p'' := by
            intro S' V' p'' e1 e3 e4
            have a1 := z_wd_nb (l := 1) S' V'
            have a2 := z_wd_len (l := 1) S' V'
            rw [e4] at a1 a2
            have b1 : V'.length + r_nb (1000 :: S) = (v :: V).length + r_nb S' := a1
            have b2 : (1000 :: S).length + (v :: V).length ≤ S'.length + V'.length := a2.1
            rw [r_nb, if_neg (by decide), Nat.zero_add] at b1
            have x1 : (v :: V).length = V.length + 1 := rfl
            have x2 : ((1000 : Int32) :: S).length = S.length + 1 := rfl
            rw [x1] at b1 b2
            rw [x2] at b2
            exact ⟨by omega, by omega⟩
          by_cases hc : q_c T n (q_s T n p2) = 41
          · rw [if_pos hc, if_neg (by decide), z_mv1 hc] at hr
            subst hr
            refine ⟨fun h => absurd rfl h, fun _ hg => hop (inner.2 rfl (fun S' V' p'' e1 e2 e3 e4 e5 => ?_))⟩
            have hpre := pre S' V' p'' e1 e3 e4
            have hlt2 := q_c_lt (T := T) (n := n) (p := q_s T n p2) (by rw [hc]; decide)
            have hsl3 := q_s_le T e1
            refine r_C_close (S2 := S) (V2 := V) (x := v) (c := 1000) hT e1 h8 (by rw [e2]; exact hc) hpre.1 (by omega) (by omega) (by omega) (by omega) e4 (fun A hA => by have := z_wd_sta (l := 1) S' V' hA; rw [e4] at this; exact this.2) ?_
            rw [e2]
            refine hg _ hlt2 rfl ?_
            have := z_sd_len S v
            have e2' := hsl3.1
            rw [e2] at e2'
            show (r_sd S v).1.length + V.length + 1 ≤ q_s T n p2 + 1
            omega
          · rw [if_neg hc, if_pos rfl, z_mv0 hc, q_rf] at hr
            dsimp only at hr
            rw [if_pos rfl] at hr
            subst hr
            have ne : ¬ (10 * nI (q_s T n p2) + 1 : Int32) = -1 := z_rf (k := 1) (by omega) (by decide)
            refine ⟨fun _ hF => hop (inner.2 rfl (fun S' V' p'' e1 e2 e3 e4 e5 => ?_)), fun h => absurd h ne⟩
            have hF' : z_F Q I L (10 * nI (q_s T n p2) + 1) := hF
            have hpre := pre S' V' p'' e1 e3 e4
            have hsl3 := q_s_le T e1
            by_cases hrk : 1 ≤ r_rk (q_c T n (q_s T n p2))
            · have h3 := e5 hrk
              have hlv : r_lv (q_c T n (q_s T n p2)) = 4 := by
                match hS : (r_wd 4 S' V').1, h3 with
                | d :: S3, h3 => rw [r_lv, if_pos h3.1]
              have k2 := @r_C_sign Q I L T n p'' S' V' (o + 1) hT e1
              rw [e2, hlv] at k2
              have a2 := z_wd_len (l := 4) S' V'
              refine k2 (Int32.lt_of_lt_of_le (by decide) hrk) hpre.1 (by omega) (by omega) (by omega) (fun A => z_wd_sta S' V') (fun _ => r_C_f ne hF') (fun q => absurd h3 q)
            · have hz : r_rk (q_c T n (q_s T n p'')) = 0 := by
                rw [e2]
                exact z_rk0 hrk
              refine r_C_bad2 hT e1 h8 hz (fun q => hc (by rw [← e2]; exact q.1)) (fun q => absurd q.2 (Nat.succ_ne_zero o)) ?_
              rw [e2]
              exact r_C_f ne hF'
        · have hh : q_hit T n 41 (p2, o2, f2) = 0 := z_hit_f hf
          rw [if_pos hh, q_rf] at hr
          have hm : (q_mv T n 41 (p2, o2, f2)).2.2 = f2 := rfl
          rw [hm, if_neg hf] at hr
          subst hr
          exact ⟨fun _ hF => hop (inner.1 hf hF), fun h => absurd h hf⟩
      · rw [if_neg h8, q_rf] at hr
        try dsimp only at hr
        rw [if_pos rfl] at hr
        subst hr
        have ne : ¬ (10 * nI (q_s T n p) + 3 : Int32) = -1 := z_rf (k := 3) (by omega) (by decide)
        exact ⟨fun hf hF => r_C_open hT g1 cb (by omega) g3 (by rw [if_neg h8]; exact r_C_f hf hF), fun h => absurd h ne⟩
    rw [if_neg cb, z_hit, hss] at hr
    have un : ∀ c d : Int32, q_c T n (q_s T n p) = c → (c = 33 ∨ c = 45) → (if q_c T n (q_s T n p) = 33 then (1001 : Int32) else 1002) = d → 1000 < d → z_ru Q I L T n p S V o (r_un d (q_unit T n N k (q_s T n p + 1, o, -1)).1, (q_unit T n N k (q_s T n p + 1, o, -1)).2) := by
      intro c d hc hcc hd hd2
      have inner := ih (q_s T n p + 1) o (d :: S) V ⟨hlt, by show n < q_s T n p + 1 + k; omega, g3⟩ (by show S.length + 1 + V.length ≤ _; omega) (by rw [r_nb, if_neg (Int32.not_lt.mpr (Int32.le_of_lt hd2)), Nat.zero_add]; exact hnb)
      have hun : r_C Q I L (q_s T n p + 1) (-1) (d :: S) V o 1 → r_C Q I L p (-1) S V o 1 := fun h => r_C_un hT g1 (by rw [hc]; exact hcc) (by omega) (by rw [hd]; exact h)
      have esd : ∀ v, r_sd (d :: S) v = r_sd S (r_un d v) := fun v => by rw [r_sd, if_neg (Int32.not_le.mpr hd2)]
      refine ⟨fun hf hF => hun (inner.1 hf hF), fun hf hg => hun (inner.2 hf (fun p'' e1 e2 e3 => ?_))⟩
      rw [esd] at e3 ⊢
      exact hg p'' e1 e2 e3
    by_cases c33 : q_c T n (q_s T n p) = 33
    · rw [if_pos c33, if_pos (by decide), z_mv1 (by rw [hss]; exact c33), hss] at hr
      have := un 33 1001 c33 (Or.inl rfl) (if_pos c33) (by decide)
      subst hr
      rw [r_un, if_neg (fun h => h rfl)] at this
      by_cases hv : (q_unit T n N k (q_s T n p + 1, o, -1)).1 = 0
      · rw [if_pos hv]; rw [if_neg (fun h => h hv)] at this; exact this
      · rw [if_neg hv]; rw [if_pos hv] at this; exact this
    rw [if_neg c33, if_neg (fun h => h rfl), z_mv0 (by rw [hss]; exact c33), hss, z_hit, hss] at hr
    by_cases c45 : q_c T n (q_s T n p) = 45
    · rw [if_pos c45, if_pos (by decide), z_mv1 (by rw [hss]; exact c45), hss] at hr
      have := un 45 1002 c45 (Or.inr rfl) (if_neg c33) (by decide)
      subst hr
      rw [r_un, if_pos (by decide)] at this
      exact this
    rw [if_neg c45, if_neg (fun h => h rfl), z_mv0 (by rw [hss]; exact c45), hss] at hr
    dsimp only at hr
    rcases z_nm (q_c T n (q_s T n p)) with hnm | ⟨x, hx, hnm⟩
    · rw [hnm, if_pos (by decide), q_rf, if_pos rfl] at hr
      subst hr
      exact ⟨fun hf hF => r_C_bad hT g1 cd hnm c33 c45 cb (r_C_f hf hF), fun h => absurd h (z_rf (k := 1) (by omega) (by decide))⟩
    · rw [hnm, if_neg (nI_pos (by omega)), nI_clamp (by omega)] at hr
      subst hr
      refine ⟨fun h => absurd rfl h, fun _ hg => r_C_name hT g1 cd hnm hx (by omega) (by omega) ?_⟩
      rw [← hN x hx]
      have := z_sd_len S (N x)
      exact hg _ hlt rfl (by show (r_sd S (N x)).1.length + V.length + 1 ≤ q_s T n p + 1; omega)
/-! the whole text -/
def z_val (T : Nat → Int32) (n : Nat) (N : Nat → Int64) : Int64 × q_S := q_lev T n (q_unit T n N 41) (0, 0, -1)
def z_flt (T : Nat → Int32) (n : Nat) (N : Nat → Int64) : Int32 :=
  if q_c T n (q_s T n (z_val T n N).2.1) = -1 then (z_val T n N).2.2.2 else q_rf 1 (q_s T n (z_val T n N).2.1) (z_val T n N).2.2.2
theorem z_top {Q : am_S} {I : am_I} {L : am_L} {T : Nat → Int32} {n : Nat} {N : Nat → Int64} (hT : r_T L T n) (hN : ∀ x, x < 7 → N x = L 201 x)
    (h1 : ¬ z_flt T n N = -1 → z_F Q I L (z_flt T n N)) (h2 : z_flt T n N = -1 → ∀ p v s A W, W 0 = (z_val T n N).1 → Q (some (.int 1)) (r_I I p (-1) v s A) (am_u (am_ro L 199 W) 190 18 (W 0))) : r_C Q I L 0 (-1) [] [] 0 1 := by
  have hn40 := hT.1
  have g : q_G n 41 (0, 0, -1) := ⟨Nat.zero_le _, by show n < 0 + 41; omega, by decide⟩
  have hok := q_ok_lev (T := T) (q_ok_unit (T := T) (N := N) 41) _ g
  have lev := z_lev (Q := Q) (I := I) hT (q_ok_unit (T := T) (N := N) 41) (z_sim6 (z_unit hT hN 41)) 0 0 [] [] g trivial (Nat.le_refl _) (Nat.le_refl _)
  rw [z_flt, z_val] at h1 h2
  generalize hw : q_lev T n (q_unit T n N 41) (0, 0, -1) = w at *
  obtain ⟨v, p2, o2, f2⟩ := w
  have hp3 : p2 ≤ n := hok.2.1
  have hsl := q_s_le T hp3
  dsimp only at h1 h2
  by_cases hf : f2 = -1
  · subst hf
    refine lev.2 rfl (fun S' V' p'' e1 e2 e3 e4 e5 => ?_)
    have a1 := z_wd_nb (l := 1) S' V'
    have a2 := z_wd_len (l := 1) S' V'
    rw [e4] at a1 a2
    have b1 : V'.length + 0 = 1 + r_nb S' := a1
    by_cases hc : q_c T n (q_s T n p2) = -1
    · rw [if_pos hc] at h2
      refine r_C_end hT e1 (by rw [e2]; exact hc) (by omega) (by omega) (by omega) (fun p v' s A W hW => h2 rfl p v' s A W ?_)
      rw [e4] at hW
      exact hW.1
    · rw [if_neg hc, q_rf, if_pos rfl] at h1
      have ne : ¬ (10 * nI (q_s T n p2) + 1 : Int32) = -1 := z_rf (k := 1) (by omega) (by decide)
      have hF := h1 ne
      by_cases hrk : 1 ≤ r_rk (q_c T n (q_s T n p2))
      · have h3 := e5 hrk
        have hlv : r_lv (q_c T n (q_s T n p2)) = 4 := by
          match hS : (r_wd 4 S' V').1, h3 with
          | d :: S3, h3 => rw [r_lv, if_pos h3.1]
        have k2 := @r_C_sign Q I L T n p'' S' V' 0 hT e1
        rw [e2, hlv] at k2
        have a3 := z_wd_len (l := 4) S' V'
        exact k2 (Int32.lt_of_lt_of_le (by decide) hrk) (by omega) (by omega) (by omega) (by omega) (fun A => z_wd_sta S' V') (fun _ => r_C_f ne hF) (fun q => absurd h3 q)
      · have hz : r_rk (q_c T n (q_s T n p'')) = 0 := by
          rw [e2]
          exact z_rk0 hrk
        refine r_C_bad2 hT e1 (by decide) hz (fun q => absurd q.2 (Nat.lt_irrefl 0)) (fun q => hc (by rw [← e2]; exact q.1)) ?_
        rw [e2]
        exact r_C_f ne hF
  · have e : (if q_c T n (q_s T n p2) = -1 then f2 else q_rf 1 (q_s T n p2) f2) = f2 := by
      split
      · rfl
      · rw [q_rf, if_neg hf]
    rw [e] at h1
    exact lev.1 hf (h1 hf)
