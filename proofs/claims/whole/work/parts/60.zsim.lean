/-! the two readers agree: the fund's descent against the reference's steps, backwards -/
theorem z_wd_0 {l : Int32} {V : List Int64} : r_wd l [] V = ([], V) := by rw [r_wd]; intro c S b a V h; exact absurd h (by simp)
theorem z_wd_1 {l c : Int32} {S : List Int32} : r_wd l (c :: S) [] = (c :: S, []) := by rw [r_wd]; intro c S b a V h; simp
theorem z_wd_2 {l c : Int32} {x : Int64} {S : List Int32} : r_wd l (c :: S) [x] = (c :: S, [x]) := by rw [r_wd]; intro c S b a V h; simp
theorem z_wd_3 {l c : Int32} {a b : Int64} {S : List Int32} {V : List Int64} : r_wd l (c :: S) (b :: a :: V) = if c < 1000 ∧ l ≤ r_rk c then r_wd l S (r_op c a b :: V) else (c :: S, b :: a :: V) := by rw [r_wd]
theorem z_wd_ind {l : Int32} {P : List Int32 → List Int64 → List Int32 × List Int64 → Prop} (h0 : ∀ S V, P S V (S, V)) (h1 : ∀ c S b a V R, c < 1000 → l ≤ r_rk c → P S (r_op c a b :: V) R → P (c :: S) (b :: a :: V) R) : ∀ S V, P S V (r_wd l S V) := by
  intro S
  induction S with
  | nil => intro V; rw [z_wd_0]; exact h0 _ _
  | cons c S ih =>
    intro V
    match V with
    | [] => rw [z_wd_1]; exact h0 _ _
    | [x] => rw [z_wd_2]; exact h0 _ _
    | b :: a :: V =>
      rw [z_wd_3]
      split
      · rename_i h; exact h1 _ _ _ _ _ _ h.1 h.2 (ih _)
      · exact h0 _ _
theorem z_wd_wd {a b : Int32} (hab : a ≤ b) (S : List Int32) (V : List Int64) : r_wd a S V = r_wd a (r_wd b S V).1 (r_wd b S V).2 :=
  z_wd_ind (l := b) (P := fun S V R => r_wd a S V = r_wd a R.1 R.2) (fun _ _ => rfl) (fun c S b' a' V R h1 h2 h => by rw [z_wd_3, if_pos ⟨h1, Int32.le_trans hab h2⟩]; exact h) S V
theorem z_wd_nb {l : Int32} (S : List Int32) (V : List Int64) : V.length + r_nb (r_wd l S V).1 = (r_wd l S V).2.length + r_nb S :=
  z_wd_ind (P := fun S V R => V.length + r_nb R.1 = R.2.length + r_nb S) (fun _ _ => rfl) (fun c S b a V R h1 _ h => by
    have e : (r_op c a b :: V).length = V.length + 1 := rfl
    have e2 : (b :: a :: V).length = V.length + 2 := rfl
    rw [e] at h
    rw [r_nb, if_pos h1, e2]
    omega) S V
theorem z_wd_len {l : Int32} (S : List Int32) (V : List Int64) : (r_wd l S V).1.length + (r_wd l S V).2.length ≤ S.length + V.length ∧ (r_wd l S V).1.length ≤ S.length :=
  z_wd_ind (P := fun S V R => R.1.length + R.2.length ≤ S.length + V.length ∧ R.1.length ≤ S.length) (fun _ _ => ⟨Nat.le_refl _, Nat.le_refl _⟩) (fun c S b a V R _ _ h => by
    have e : (r_op c a b :: V).length = V.length + 1 := rfl
    have e2 : (b :: a :: V).length = V.length + 2 := rfl
    have e3 : (c :: S).length = S.length + 1 := rfl
    rw [e] at h
    rw [e2, e3]
    omega) S V
theorem z_wd_sta {A : Nat → Int32} {l : Int32} (S : List Int32) (V : List Int64) : r_sta A S → r_sta A (r_wd l S V).1 :=
  z_wd_ind (P := fun S _ R => r_sta A S → r_sta A R.1) (fun _ _ h => h) (fun c S b a V R _ _ h hs => h hs.2) S V
/-- nothing on the stack works at this level -/
def z_cl (l : Int32) : List Int32 → Prop
  | [] => True
  | c :: _ => c ≤ 1000 ∧ (c < 1000 → r_rk c < l)
theorem z_wd_cl {l : Int32} {S : List Int32} (h : z_cl l S) (V : List Int64) : r_wd l S V = (S, V) := by
  match S, h with
  | [], _ => exact z_wd_0
  | c :: S, h =>
    match V with
    | [] => exact z_wd_1
    | [x] => exact z_wd_2
    | b :: a :: V => rw [z_wd_3, if_neg (fun q => absurd q.2 (Int32.not_le.mpr (h.2 q.1)))]
theorem z_sd_cl {l : Int32} {S : List Int32} (h : z_cl l S) (v : Int64) : r_sd S v = (S, v) := by
  match S, h with
  | [], _ => rfl
  | c :: S, h => rw [r_sd, if_pos h.1]
theorem z_cl_le {a b : Int32} (hab : a ≤ b) {S : List Int32} (h : z_cl a S) : z_cl b S := by
  match S, h with
  | [], _ => trivial
  | c :: S, h => exact ⟨h.1, fun q => Int32.lt_of_lt_of_le (h.2 q) hab⟩
theorem z_sd_len : ∀ (S : List Int32) (v : Int64), (r_sd S v).1.length ≤ S.length := by
  intro S
  induction S with
  | nil => intro v; exact Nat.le_refl _
  | cons c S ih =>
    intro v
    rw [r_sd]
    split
    · exact Nat.le_refl _
    · exact Nat.le_trans (ih _) (Nat.le_succ _)
theorem z_rk5 (c : Int32) : r_rk c ≤ 5 := by
  rw [r_rk]
  repeat' split
  all_goals decide
/-- a fault f ends it well -/
def z_F (Q : am_S) (I : am_I) (L : am_L) (f : Int32) : Prop := ∀ p v s A W, Q (some (.int 0)) (r_I I p f v s A) (am_u (am_ro L 199 W) 190 18 0)
def z_st (l c : Int32) (S : List Int32) : Prop := l ≤ r_rk c → r_3 c S
/-- it goes on behind a value v of level l -/
def z_go (Q : am_S) (I : am_I) (L : am_L) (T : Nat → Int32) (n : Nat) (l : Int32) (S : List Int32) (V : List Int64) (o : Nat) (v : Int64) (p' : Nat) : Prop :=
  ∀ S' V' p'', p'' ≤ n → q_s T n p'' = q_s T n p' → S'.length + V'.length ≤ p'' → r_wd l S' V' = (S, v :: V) → z_st l (q_c T n (q_s T n p')) (r_wd 4 S' V').1 → r_C Q I L p'' (-1) S' V' o 0
def z_res (Q : am_S) (I : am_I) (L : am_L) (T : Nat → Int32) (n : Nat) (l : Int32) (S : List Int32) (V : List Int64) (o : Nat) (r : Int64 × q_S) (C : Prop) : Prop :=
  (¬ r.2.2.2 = -1 → z_F Q I L r.2.2.2 → C) ∧ (r.2.2.2 = -1 → z_go Q I L T n l S V o r.1 r.2.1 → C)
def z_sim (Q : am_S) (I : am_I) (L : am_L) (T : Nat → Int32) (n : Nat) (l : Int32) (k : Nat) (u : q_P) : Prop := ∀ p o S V, q_G n k (p, o, -1) → z_cl l S → S.length + V.length ≤ p → r_nb S ≤ V.length → z_res Q I L T n l S V o (u (p, o, -1)) (r_C Q I L p (-1) S V o 1)
theorem z_hit {T : Nat → Int32} {n p o : Nat} {c : Int32} : q_hit T n c (p, o, -1) = if q_c T n (q_s T n p) = c then 1 else 0 := by
  show q_tb T n c p (-1) = _
  rw [q_tb, if_neg (fun h => h rfl)]
theorem z_hit_f {T : Nat → Int32} {n : Nat} {c : Int32} {s : q_S} (hf : ¬ s.2.2 = -1) : q_hit T n c s = 0 := by
  show q_tb T n c s.1 s.2.2 = 0
  rw [q_tb, if_pos hf]
theorem z_mv1 {T : Nat → Int32} {n p o : Nat} {c : Int32} (h : q_c T n (q_s T n p) = c) : q_mv T n c (p, o, -1) = (q_s T n p + 1, o, -1) := by
  show (q_tp T n c p (-1), o, (-1 : Int32)) = _
  rw [q_tp, if_neg (fun h => h rfl), if_pos h]
theorem z_mv0 {T : Nat → Int32} {n p o : Nat} {c : Int32} (h : ¬ q_c T n (q_s T n p) = c) : q_mv T n c (p, o, -1) = (q_s T n p, o, -1) := by
  show (q_tp T n c p (-1), o, (-1 : Int32)) = _
  rw [q_tp, if_neg (fun h => h rfl), if_neg h]
theorem z_lp2_f {T : Nat → Int32} {n : Nat} {c1 c2 : Int32} {op1 op2 : Int64 → Int64 → Int64} {u : q_P} (m : Nat) (v : Int64) {s : q_S} (h : ¬ s.2.2 = -1) : (q_lp2 T n c1 op1 c2 op2 u m v s).2.2.2 = s.2.2 := by
  match m with
  | 0 => rfl
  | m + 1 => rw [q_lp2, if_pos (z_hit_f h), if_pos (z_hit_f (s := q_mv T n c1 s) h)]; rfl
theorem z_lp1_f {T : Nat → Int32} {n : Nat} {c1 : Int32} {op1 : Int64 → Int64 → Int64} {u : q_P} (m : Nat) (v : Int64) {s : q_S} (h : ¬ s.2.2 = -1) : (q_lp1 T n c1 op1 u m v s).2.2.2 = s.2.2 := by
  match m with
  | 0 => rfl
  | m + 1 => rw [q_lp1, if_pos (z_hit_f h)]; rfl
/-- a sign c of this level comes, then a value of the next level -/
theorem z_stp {Q : am_S} {I : am_I} {L : am_L} {T : Nat → Int32} {n k : Nat} {l l' lw c : Int32} {op : Int64 → Int64 → Int64} {u : q_P} (hT : r_T L T n) (hs : z_sim Q I L T n l' k u) (h0 : 0 < r_rk c) (hlv : r_lv c = lw) (hc : l ≤ r_rk c) (hll : r_rk c < l') (hle : l ≤ l') (ho : r_op c = op) (hk : c < 1000)
    {S : List Int32} {V : List Int64} {o : Nat} (hn3 : ¬ r_3 c S) (hcl : z_cl l S) (hnb : r_nb S ≤ V.length) {v : Int64} {p' p'' : Nat} {S' : List Int32} {V' : List Int64} (g : q_G n k (p', o, -1)) (h1 : p'' ≤ n) (h2 : q_s T n p'' = q_s T n p') (h3 : S'.length + V'.length ≤ p'') (h4 : r_wd lw S' V' = (S, v :: V)) (hq : q_c T n (q_s T n p') = c)
    {r : Int64 × q_S} (hf : ¬ (u (q_s T n p' + 1, o, -1)).2.2.2 = -1 → r.2.2.2 = (u (q_s T n p' + 1, o, -1)).2.2.2)
    (ih : (u (q_s T n p' + 1, o, -1)).2.2.2 = -1 → ∀ S'' V'' p3, p3 ≤ n → q_s T n p3 = q_s T n (u (q_s T n p' + 1, o, -1)).2.1 → S''.length + V''.length ≤ p3 → r_wd l S'' V'' = (S, op v (u (q_s T n p' + 1, o, -1)).1 :: V) → (r_wd l' S'' V'').1 = c :: S → z_st l' (q_c T n (q_s T n (u (q_s T n p' + 1, o, -1)).2.1)) (r_wd 4 S'' V'').1 → z_res Q I L T n l S V o r (r_C Q I L p3 (-1) S'' V'' o 0)) :
    z_res Q I L T n l S V o r (r_C Q I L p'' (-1) S' V' o 0) := by
  have hn40 := hT.1
  obtain ⟨g1, g2, g3⟩ := g
  have g1' : p' ≤ n := g1
  have g2' : n < p' + k := g2
  have hsl := q_s_le T g1'
  have hsl2 := q_s_le T h1
  have e : q_c T n (q_s T n p'') = c := by rw [h2]; exact hq
  have hne : ¬ q_c T n (q_s T n p') = -1 := fun q => by
    rw [← hq, q] at h0; exact absurd h0 (by decide)
  have hlt := q_c_lt hne
  have hln := z_wd_len (l := lw) S' V'
  have hnb' := z_wd_nb (l := lw) S' V'
  rw [h4] at hln hnb'
  have x1 : (v :: V).length = V.length + 1 := rfl
  have x2 : (c :: S).length = S.length + 1 := rfl
  have hln1 : S.length + (v :: V).length ≤ S'.length + V'.length := hln.1
  have hln2 : S.length ≤ S'.length := hln.2
  have hnb2 : V'.length + r_nb S = (v :: V).length + r_nb S' := hnb'
  rw [x1] at hln1 hnb2
  have hsta : ∀ A : Nat → Int32, r_sta A S' → r_sta A (r_wd lw S' V').1 := fun A => z_wd_sta S' V'
  have hC : r_C Q I L (q_s T n p' + 1) (-1) (c :: S) (v :: V) o 1 → r_C Q I L p'' (-1) S' V' o 0 := by
    intro h
    have k := @r_C_sign Q I L T n p'' S' V' o hT h1
    rw [e, hlv, h4, h2] at k
    rw [h4] at hsta
    exact k h0 (by omega) (by omega) (by omega) (show S.length < 128 by omega) hsta (fun q => absurd q hn3) (fun _ => h)
  have inner := hs (q_s T n p' + 1) o (c :: S) (v :: V) ⟨hlt, by show n < q_s T n p' + 1 + k; omega, g3⟩ ⟨Int32.le_of_lt hk, fun _ => hll⟩ (by rw [x1, x2]; omega) (by rw [r_nb, if_pos hk, x1]; omega)
  by_cases hi : (u (q_s T n p' + 1, o, -1)).2.2.2 = -1
  · have ih := ih hi
    have wd : ∀ S'' V'', r_wd l' S'' V'' = (c :: S, (u (q_s T n p' + 1, o, -1)).1 :: v :: V) → r_wd l S'' V'' = (S, op v (u (q_s T n p' + 1, o, -1)).1 :: V) := by
      intro S'' V'' e4
      rw [z_wd_wd hle S'' V'', e4]
      show r_wd l (c :: S) ((u (q_s T n p' + 1, o, -1)).1 :: v :: V) = _
      rw [z_wd_3, if_pos ⟨hk, hc⟩, ho]
      exact z_wd_cl hcl _
    exact ⟨fun a b => hC (inner.2 hi (fun S'' V'' p3 e1 e2 e3 e4 e5 => (ih S'' V'' p3 e1 e2 e3 (wd S'' V'' e4) (by rw [e4]) e5).1 a b)),
      fun a b => hC (inner.2 hi (fun S'' V'' p3 e1 e2 e3 e4 e5 => (ih S'' V'' p3 e1 e2 e3 (wd S'' V'' e4) (by rw [e4]) e5).2 a b))⟩
  · exact ⟨fun a b => hC (inner.1 hi (by rw [← hf hi]; exact b)), fun a => absurd ((hf hi).symm.trans a) hi⟩
theorem z_lp2 {Q : am_S} {I : am_I} {L : am_L} {T : Nat → Int32} {n k : Nat} {l l' c1 c2 : Int32} {op1 op2 : Int64 → Int64 → Int64} {u : q_P} (hT : r_T L T n) (hu : q_ok n k u) (hs : z_sim Q I L T n l' k u) (h0 : 0 < l) (hc1 : r_rk c1 = l) (hc2 : r_rk c2 = l) (hv1 : r_lv c1 = l) (hv2 : r_lv c2 = l) (hd1 : ¬ r_rk c1 = 3) (hd2 : ¬ r_rk c2 = 3) (hll : l < l')
    (hcc : ∀ c, l ≤ r_rk c → c = c1 ∨ c = c2 ∨ l' ≤ r_rk c) (ho1 : r_op c1 = op1) (ho2 : r_op c2 = op2) (hk1 : c1 < 1000) (hk2 : c2 < 1000) {S : List Int32} {V : List Int64} {o : Nat} (hcl : z_cl l S) (hnb : r_nb S ≤ V.length) :
    ∀ m v p', q_G n k (p', o, -1) → n < p' + m + 1 → ∀ S' V' p'', p'' ≤ n → q_s T n p'' = q_s T n p' → S'.length + V'.length ≤ p'' → r_wd l S' V' = (S, v :: V) → z_st l' (q_c T n (q_s T n p')) (r_wd 4 S' V').1 → z_res Q I L T n l S V o (q_lp2 T n c1 op1 c2 op2 u m v (p', o, -1)) (r_C Q I L p'' (-1) S' V' o 0) := by
  have n3 : ∀ c, ¬ r_rk c = 3 → ¬ r_3 c S := fun c hc q => by
    match S, q with
    | d :: S, q => exact hc q.1
  intro m
  induction m with
  | zero =>
    intro v p' g hm S' V' p'' h1 h2 h3 h4 h5
    rw [q_lp2]
    refine ⟨fun h => absurd rfl h, fun _ hg => hg S' V' p'' h1 h2 h3 h4 (fun q => absurd q ?_)⟩
    have g1 : p' ≤ n := g.1
    have hp : p' = n := by omega
    rw [hp, q_s_end (Nat.le_refl n), q_c, if_neg (Nat.lt_irrefl n)]
    exact Int32.not_le.mpr h0
  | succ m ihm =>
    intro v p' g hm S' V' p'' h1 h2 h3 h4 h5
    obtain ⟨g1, g2, g3⟩ := g
    have g1' : p' ≤ n := g1
    have g2' : n < p' + k := g2
    have hsl := q_s_le T g1'
    have step : ∀ c op, q_c T n (q_s T n p') = c → r_rk c = l → r_lv c = l → ¬ r_rk c = 3 → r_op c = op → c < 1000 → z_res Q I L T n l S V o (q_lp2 T n c1 op1 c2 op2 u m (op v (u (q_s T n p' + 1, o, -1)).1) (u (q_s T n p' + 1, o, -1)).2) (r_C Q I L p'' (-1) S' V' o 0) := by
      intro c op hq hc hv hd ho hk
      have hne : ¬ q_c T n (q_s T n p') = -1 := fun q => by
        rw [← hc, ← hq, q] at h0; exact absurd h0 (by decide)
      have hlt := q_c_lt hne
      have gg : q_G n k (q_s T n p' + 1, o, -1) := ⟨hlt, by show n < q_s T n p' + 1 + k; omega, g3⟩
      have hok := hu _ gg
      refine z_stp (l' := l') hT hs (by rw [hc]; exact h0) hv (by rw [hc]; exact Int32.le_refl _) (by rw [hc]; exact hll) (Int32.le_of_lt hll) ho hk (n3 c hd) hcl hnb ⟨g1, g2, g3⟩ h1 h2 h3 h4 hq (fun hf => z_lp2_f _ _ hf) (fun hi S'' V'' p3 e1 e2 e3 e4 e4b e5 => ?_)
      generalize hw : u (q_s T n p' + 1, o, -1) = w at *
      obtain ⟨v2, p2, o2, f2⟩ := w
      have hi' : f2 = -1 := hi
      have ho' : o2 = o := hok.2.2
      have hp2 : q_s T n p' + 1 ≤ p2 := hok.1
      have hp3 : p2 ≤ n := hok.2.1
      subst hi'; subst ho'
      exact ihm (op v v2) p2 ⟨hp3, by show n < p2 + k; omega, g3⟩ (by omega) S'' V'' p3 e1 e2 e3 e4 e5
    rw [q_lp2, z_hit]
    by_cases hh1 : q_c T n (q_s T n p') = c1
    · rw [if_pos hh1, if_neg (by decide), z_mv1 hh1]
      exact step c1 op1 hh1 hc1 hv1 hd1 ho1 hk1
    · rw [if_neg hh1, if_pos rfl, z_mv0 hh1, z_hit, q_s_s g1']
      by_cases hh2 : q_c T n (q_s T n p') = c2
      · rw [if_pos hh2, if_neg (by decide), z_mv1 (by rw [q_s_s g1']; exact hh2), q_s_s g1']
        exact step c2 op2 hh2 hc2 hv2 hd2 ho2 hk2
      · rw [if_neg hh2, if_pos rfl, z_mv0 (by rw [q_s_s g1']; exact hh2), q_s_s g1']
        refine ⟨fun h => absurd rfl h, fun _ hg => hg S' V' p'' h1 (h2.trans (q_s_s g1').symm) h3 h4 (fun q => ?_)⟩
        have q' : l ≤ r_rk (q_c T n (q_s T n (q_s T n p'))) := q
        show r_3 (q_c T n (q_s T n (q_s T n p'))) _
        rw [q_s_s g1'] at q' ⊢
        rcases hcc _ q' with q1 | q1 | q1
        · exact absurd q1 hh1
        · exact absurd q1 hh2
        · exact h5 q1
theorem z_lp1 {Q : am_S} {I : am_I} {L : am_L} {T : Nat → Int32} {n k : Nat} {l l' c1 : Int32} {op1 : Int64 → Int64 → Int64} {u : q_P} (hT : r_T L T n) (hu : q_ok n k u) (hs : z_sim Q I L T n l' k u) (h0 : 0 < l) (hc1 : r_rk c1 = l) (hv1 : r_lv c1 = l) (hd1 : ¬ r_rk c1 = 3) (hll : l < l')
    (hcc : ∀ c, l ≤ r_rk c → c = c1 ∨ l' ≤ r_rk c) (ho1 : r_op c1 = op1) (hk1 : c1 < 1000) {S : List Int32} {V : List Int64} {o : Nat} (hcl : z_cl l S) (hnb : r_nb S ≤ V.length) :
    ∀ m v p', q_G n k (p', o, -1) → n < p' + m + 1 → ∀ S' V' p'', p'' ≤ n → q_s T n p'' = q_s T n p' → S'.length + V'.length ≤ p'' → r_wd l S' V' = (S, v :: V) → z_st l' (q_c T n (q_s T n p')) (r_wd 4 S' V').1 → z_res Q I L T n l S V o (q_lp1 T n c1 op1 u m v (p', o, -1)) (r_C Q I L p'' (-1) S' V' o 0) := by
  have n3 : ∀ c, ¬ r_rk c = 3 → ¬ r_3 c S := fun c hc q => by
    match S, q with
    | d :: S, q => exact hc q.1
  intro m
  induction m with
  | zero =>
    intro v p' g hm S' V' p'' h1 h2 h3 h4 h5
    rw [q_lp1]
    refine ⟨fun h => absurd rfl h, fun _ hg => hg S' V' p'' h1 h2 h3 h4 (fun q => absurd q ?_)⟩
    have g1 : p' ≤ n := g.1
    have hp : p' = n := by omega
    rw [hp, q_s_end (Nat.le_refl n), q_c, if_neg (Nat.lt_irrefl n)]
    exact Int32.not_le.mpr h0
  | succ m ihm =>
    intro v p' g hm S' V' p'' h1 h2 h3 h4 h5
    obtain ⟨g1, g2, g3⟩ := g
    have g1' : p' ≤ n := g1
    have g2' : n < p' + k := g2
    have hsl := q_s_le T g1'
    rw [q_lp1, z_hit]
    by_cases hq : q_c T n (q_s T n p') = c1
    · rw [if_pos hq, if_neg (by decide), z_mv1 hq]
      have hne : ¬ q_c T n (q_s T n p') = -1 := fun q => by
        rw [← hc1, ← hq, q] at h0; exact absurd h0 (by decide)
      have hlt := q_c_lt hne
      have gg : q_G n k (q_s T n p' + 1, o, -1) := ⟨hlt, by show n < q_s T n p' + 1 + k; omega, g3⟩
      have hok := hu _ gg
      refine z_stp (l' := l') hT hs (by rw [hc1]; exact h0) hv1 (by rw [hc1]; exact Int32.le_refl _) (by rw [hc1]; exact hll) (Int32.le_of_lt hll) ho1 hk1 (n3 c1 hd1) hcl hnb ⟨g1, g2, g3⟩ h1 h2 h3 h4 hq (fun hf => z_lp1_f _ _ hf) (fun hi S'' V'' p3 e1 e2 e3 e4 e4b e5 => ?_)
      generalize hw : u (q_s T n p' + 1, o, -1) = w at *
      obtain ⟨v2, p2, o2, f2⟩ := w
      have hi' : f2 = -1 := hi
      have ho' : o2 = o := hok.2.2
      have hp2 : q_s T n p' + 1 ≤ p2 := hok.1
      have hp3 : p2 ≤ n := hok.2.1
      subst hi'; subst ho'
      exact ihm (op1 v v2) p2 ⟨hp3, by show n < p2 + k; omega, g3⟩ (by omega) S'' V'' p3 e1 e2 e3 e4 e5
    · rw [if_neg hq, if_pos rfl, z_mv0 hq]
      refine ⟨fun h => absurd rfl h, fun _ hg => hg S' V' p'' h1 (h2.trans (q_s_s g1').symm) h3 h4 (fun q => ?_)⟩
      have q' : l ≤ r_rk (q_c T n (q_s T n (q_s T n p'))) := q
      show r_3 (q_c T n (q_s T n (q_s T n p'))) _
      rw [q_s_s g1'] at q' ⊢
      rcases hcc _ q' with q1 | q1
      · exact absurd q1 hq
      · exact h5 q1
