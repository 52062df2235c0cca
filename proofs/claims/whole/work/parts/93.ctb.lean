/-! constructors: what is made, what it holds, what stays -/
def ct_F (F : Nat → Prop) (al : List Nat) (R : am_R) : Prop := ∀ x, F x → x ∉ al ∧ am_nr R x
def ct_z (h : am_H) (k : Nat) : am_H := (am_z 0 h.1 k, am_z 0 h.2.1 k, am_z none h.2.2 k)
def ct_P (b : Nat) (N : Nat → Prop) (vI : am_I) (vL : am_L) (fI : Nat → Int32) (fL : Nat → Int64) (T : List (Nat × Nat × Nat)) (al0 : List Nat) (h0 : am_H) (al : List Nat) (h : am_H) : Prop :=
  al.Nodup ∧ (∀ x, x ∈ al ↔ x ∈ al0 ∨ N x) ∧ (∀ a, a ≠ b → ¬ N a → ∀ j, h.1 a j = h0.1 a j ∧ h.2.1 a j = h0.2.1 a j ∧ h.2.2 a j = h0.2.2 a j) ∧ (∀ a, N a → ∀ j, h.1 a j = vI a j ∧ h.2.1 a j = vL a j) ∧
    (∀ j, h.1 b j = fI j ∧ h.2.1 b j = fL j) ∧ (∀ q ∈ T, h.2.2 q.1 q.2.1 = some q.2.2) ∧ (∀ a j x, h.2.2 a j = some x → h0.2.2 a j = some x ∨ N x ∨ x ∈ al0) ∧ ∀ a t, N a → am_lay a = .inl t → ∀ j, h.2.2 a j = none
theorem ct_start {b : Nat} {vI : am_I} {vL : am_L} {al : List Nat} {h : am_H} (hn : al.Nodup) (hz : ∀ j, h.1 b j = 0 ∧ h.2.1 b j = 0) : ct_P b (fun _ => False) vI vL (fun _ => 0) (fun _ => 0) [] al h al h :=
  ⟨hn, fun x => by simp, fun a _ _ j => ⟨rfl, rfl, rfl⟩, fun a q => absurd q id, hz, fun q hq => absurd hq List.not_mem_nil, fun a j x e => Or.inl e, fun a t q => absurd q id⟩
theorem ct_fresh {b : Nat} {N F : Nat → Prop} {vI : am_I} {vL : am_L} {fI : Nat → Int32} {fL : Nat → Int64} {T : List (Nat × Nat × Nat)} {al0 al : List Nat} {h0 h : am_H} (p : ct_P b N vI vL fI fL T al0 h0 al h) (hF : ct_F F al0 h0.2.2) {k : Nat} (hk : F k) (hN : ¬ N k) : k ∉ al ∧ am_nr h.2.2 k := by
  obtain ⟨p0, p1, p2, p3, p4, p5, p6, p7⟩ := p
  obtain ⟨f1, f2⟩ := hF k hk
  refine ⟨fun q => ?_, fun a j e => ?_⟩
  · rcases (p1 k).mp q with q | q
    · exact f1 q
    · exact hN q
  · rcases p6 a j k e with q | q | q
    · exact f2 a j q
    · exact hN q
    · exact f1 q
theorem ct_row {b : Nat} {N F : Nat → Prop} {vI : am_I} {vL : am_L} {fI : Nat → Int32} {fL : Nat → Int64} {T : List (Nat × Nat × Nat)} {al0 al : List Nat} {h0 h : am_H} (p : ct_P b N vI vL fI fL T al0 h0 al h) (hF : ct_F F al0 h0.2.2) {k j : Nat} (hk : F k) (hN : ¬ N k) (hv : ∀ i, vI k i = 0 ∧ vL k i = 0) (hkb : k ≠ b) (hNb : ¬ N b) (hT : ∀ q ∈ T, q.1 ≠ k ∧ (q.1 ≠ b ∨ q.2.1 ≠ j)) : ct_P b (fun x => N x ∨ x = k) vI vL fI fL ((b, j, k) :: T) al0 h0 (al ++ [k]) (am_z 0 h.1 k, am_z 0 h.2.1 k, am_u (am_z none h.2.2 k) b j (some k)) := by
  obtain ⟨f1, f2⟩ := ct_fresh p hF hk hN
  obtain ⟨p0, p1, p2, p3, p4, p5, p6, p7⟩ := p
  refine ⟨?_, fun x => ?_, fun a ha hna i => ?_, fun a ha i => ?_, fun i => ?_, fun q hq => ?_, fun a i x e => ?_, fun a t ha hy i => ?_⟩
  · rw [List.nodup_append]
    refine ⟨p0, by simp, fun a ha c hc => ?_⟩
    rw [List.mem_singleton] at hc
    subst hc
    exact fun e => f1 (e ▸ ha)
  · rw [List.mem_append, List.mem_singleton, p1 x, or_assoc]
  · have h1 : ¬ N a := fun q => hna (Or.inl q)
    have h2 : a ≠ k := fun q => hna (Or.inr q)
    obtain ⟨e1, e2, e3⟩ := p2 a ha h1 i
    refine ⟨?_, ?_, ?_⟩
    · simp only [am_z, if_neg h2]; exact e1
    · simp only [am_z, if_neg h2]; exact e2
    · show am_u (am_z none h.2.2 k) b j (some k) a i = _
      rw [am_u_ne _ (Or.inl ha)]
      simp only [am_z, if_neg h2]; exact e3
  · rcases ha with ha | rfl
    · have h2 : a ≠ k := fun q => hN (q ▸ ha)
      obtain ⟨e1, e2⟩ := p3 a ha i
      refine ⟨?_, ?_⟩
      · simp only [am_z, if_neg h2]; exact e1
      · simp only [am_z, if_neg h2]; exact e2
    · refine ⟨?_, ?_⟩
      · simp only [am_z, if_true]; exact (hv i).1.symm
      · simp only [am_z, if_true]; exact (hv i).2.symm
  · have h2 : b ≠ k := fun q => hkb q.symm
    obtain ⟨e1, e2⟩ := p4 i
    refine ⟨?_, ?_⟩
    · simp only [am_z, if_neg h2]; exact e1
    · simp only [am_z, if_neg h2]; exact e2
  · rcases List.mem_cons.mp hq with rfl | hq
    · exact am_u_eq _ _ _ _
    · obtain ⟨t1, t2⟩ := hT q hq
      show am_u (am_z none h.2.2 k) b j (some k) q.1 q.2.1 = _
      rw [am_u_ne _ t2]
      simp only [am_z, if_neg t1]; exact p5 q hq
  · have e' : am_u (am_z none h.2.2 k) b j (some k) a i = some x := e
    by_cases c : a = b ∧ i = j
    · obtain ⟨rfl, rfl⟩ := c
      rw [am_u_eq] at e'
      exact Or.inr (Or.inl (Or.inr (Option.some.inj e').symm))
    · rw [am_u_ne _ (by by_cases c1 : a = b; exact Or.inr (fun c2 => c ⟨c1, c2⟩); exact Or.inl c1)] at e'
      simp only [am_z] at e'
      split at e'
      · cases e'
      · rcases p6 a i x e' with q | q | q
        · exact Or.inl q
        · exact Or.inr (Or.inl (Or.inl q))
        · exact Or.inr (Or.inr q)
  · show am_u (am_z none h.2.2 k) b j (some k) a i = none
    rcases ha with ha | rfl
    · have c1 : a ≠ b := fun q => hNb (q ▸ ha)
      have c2 : a ≠ k := fun q => hN (q ▸ ha)
      rw [am_u_ne _ (Or.inl c1)]
      simp only [am_z, if_neg c2]; exact p7 a t ha hy i
    · rw [am_u_ne _ (Or.inl hkb)]
      simp only [am_z, if_true]
theorem ct_conv {b : Nat} {N N' : Nat → Prop} {vI vI' : am_I} {vL vL' : am_L} {fI fI' : Nat → Int32} {fL fL' : Nat → Int64} {T T' : List (Nat × Nat × Nat)} {al0 al : List Nat} {h0 h : am_H} (p : ct_P b N vI vL fI fL T al0 h0 al h) (hN : ∀ x, N x ↔ N' x) (hv : ∀ a, N a → ∀ j, vI a j = vI' a j ∧ vL a j = vL' a j) (hf : ∀ j, fI j = fI' j ∧ fL j = fL' j) (hT : ∀ q ∈ T', q ∈ T) : ct_P b N' vI' vL' fI' fL' T' al0 h0 al h := by
  obtain ⟨p0, p1, p2, p3, p4, p5, p6, p7⟩ := p
  refine ⟨p0, fun x => by rw [p1 x, hN x], fun a ha hna i => p2 a ha (fun q => hna ((hN a).mp q)) i, fun a ha i => ?_, fun i => ?_, fun q hq => p5 q (hT q hq), fun a i x e => ?_, fun a t ha hy i => p7 a t ((hN a).mpr ha) hy i⟩
  · obtain ⟨e1, e2⟩ := p3 a ((hN a).mpr ha) i
    obtain ⟨e3, e4⟩ := hv a ((hN a).mpr ha) i
    exact ⟨e1.trans e3, e2.trans e4⟩
  · obtain ⟨e1, e2⟩ := p4 i
    exact ⟨e1.trans (hf i).1, e2.trans (hf i).2⟩
  · rcases p6 a i x e with q | q | q
    · exact Or.inl q
    · exact Or.inr (Or.inl ((hN x).mp q))
    · exact Or.inr (Or.inr q)
/-- a whole number put into the object -/
theorem ct_fi {b : Nat} {N : Nat → Prop} {vI : am_I} {vL : am_L} {fI : Nat → Int32} {fL : Nat → Int64} {T : List (Nat × Nat × Nat)} {al0 al : List Nat} {h0 h : am_H} (p : ct_P b N vI vL fI fL T al0 h0 al h) (hNb : ¬ N b) (j : Nat) (v : Int32) : ct_P b N vI vL (fun i => if i = j then v else fI i) fL T al0 h0 al (am_u h.1 b j v, h.2.1, h.2.2) := by
  obtain ⟨p0, p1, p2, p3, p4, p5, p6, p7⟩ := p
  refine ⟨p0, p1, fun a ha hna i => ?_, fun a ha i => ?_, fun i => ⟨?_, (p4 i).2⟩, p5, p6, p7⟩
  · obtain ⟨e1, e2, e3⟩ := p2 a ha hna i
    exact ⟨(am_u_ne _ (Or.inl ha)).trans e1, e2, e3⟩
  · obtain ⟨e1, e2⟩ := p3 a ha i
    have hab : a ≠ b := fun q => hNb (q ▸ ha)
    exact ⟨(am_u_ne _ (Or.inl hab)).trans e1, e2⟩
  · show am_u h.1 b j v b i = if i = j then v else fI i
    by_cases c : i = j
    · rw [c, am_u_eq, if_pos rfl]
    · rw [am_u_ne _ (Or.inr c), if_neg c]; exact (p4 i).1
theorem ct_fl {b : Nat} {N : Nat → Prop} {vI : am_I} {vL : am_L} {fI : Nat → Int32} {fL : Nat → Int64} {T : List (Nat × Nat × Nat)} {al0 al : List Nat} {h0 h : am_H} (p : ct_P b N vI vL fI fL T al0 h0 al h) (hNb : ¬ N b) (j : Nat) (v : Int64) : ct_P b N vI vL fI (fun i => if i = j then v else fL i) T al0 h0 al (h.1, am_u h.2.1 b j v, h.2.2) := by
  obtain ⟨p0, p1, p2, p3, p4, p5, p6, p7⟩ := p
  refine ⟨p0, p1, fun a ha hna i => ?_, fun a ha i => ?_, fun i => ⟨(p4 i).1, ?_⟩, p5, p6, p7⟩
  · obtain ⟨e1, e2, e3⟩ := p2 a ha hna i
    exact ⟨e1, (am_u_ne _ (Or.inl ha)).trans e2, e3⟩
  · obtain ⟨e1, e2⟩ := p3 a ha i
    have hab : a ≠ b := fun q => hNb (q ▸ ha)
    exact ⟨e1, (am_u_ne _ (Or.inl hab)).trans e2⟩
  · show am_u h.2.1 b j v b i = if i = j then v else fL i
    by_cases c : i = j
    · rw [c, am_u_eq, if_pos rfl]
    · rw [am_u_ne _ (Or.inr c), if_neg c]; exact (p4 i).2
/-- a reference to a place that stood there already put into the object -/
theorem ct_fr {b : Nat} {N : Nat → Prop} {vI : am_I} {vL : am_L} {fI : Nat → Int32} {fL : Nat → Int64} {T : List (Nat × Nat × Nat)} {al0 al : List Nat} {h0 h : am_H} (p : ct_P b N vI vL fI fL T al0 h0 al h) (hNb : ¬ N b) (j k : Nat) (hk : k ∈ al) (hT : ∀ q ∈ T, q.1 ≠ b ∨ q.2.1 ≠ j) : ct_P b N vI vL fI fL ((b, j, k) :: T) al0 h0 al (h.1, h.2.1, am_u h.2.2 b j (some k)) := by
  obtain ⟨p0, p1, p2, p3, p4, p5, p6, p7⟩ := p
  refine ⟨p0, p1, fun a ha hna i => ?_, p3, p4, fun q hq => ?_, fun a i x e => ?_, fun a t ha hy i => (am_u_ne _ (Or.inl (show a ≠ b from fun q => hNb (q ▸ ha)))).trans (p7 a t ha hy i)⟩
  · obtain ⟨e1, e2, e3⟩ := p2 a ha hna i
    exact ⟨e1, e2, (am_u_ne _ (Or.inl ha)).trans e3⟩
  · rcases List.mem_cons.mp hq with rfl | hq
    · exact am_u_eq _ _ _ _
    · exact (am_u_ne _ (hT q hq)).trans (p5 q hq)
  · have e' : am_u h.2.2 b j (some k) a i = some x := e
    by_cases c : a = b ∧ i = j
    · obtain ⟨rfl, rfl⟩ := c
      rw [am_u_eq] at e'
      have ex : k = x := Option.some.inj e'
      rcases (p1 k).mp hk with q | q
      · exact Or.inr (Or.inr (ex ▸ q))
      · exact Or.inr (Or.inl (ex ▸ q))
    · rw [am_u_ne _ (by by_cases c1 : a = b; exact Or.inr (fun c2 => c ⟨c1, c2⟩); exact Or.inl c1)] at e'
      exact p6 a i x e'
/-- an object made, its constructor run: what stands behind both -/
theorem ct_obj {b o ci : Nat} {N F Fo : Nat → Prop} {vI : am_I} {vL : am_L} {fI : Nat → Int32} {fL : Nat → Int64} {T To : List (Nat × Nat × Nat)} {al0 al al2 : List Nat} {h0 h h2 : am_H} (p : ct_P b N vI vL fI fL T al0 h0 al h) (hF : ct_F F al0 h0.2.2) (ho : F o) (hNo : ¬ N o) (hob : o ≠ b) (hyo : am_lay o = .inr ci) (hbF : ¬ Fo b) (hNF : ∀ x, Fo x → ¬ N x) (hT : ∀ q ∈ T, q.1 ≠ o ∧ ¬ Fo q.1)
    (p2 : ct_P o Fo vI vL (vI o) (vL o) To (al ++ [o]) (ct_z h o) al2 h2) : ct_P b (fun x => N x ∨ x = o ∨ Fo x) vI vL fI fL (T ++ To) al0 h0 al2 h2 := by
  obtain ⟨f1, f2⟩ := ct_fresh p hF ho hNo
  obtain ⟨p0, p1, pf, pv, pb, pt, pr, pn⟩ := p
  obtain ⟨q0, q1, qf, qv, qb, qt, qr, qn⟩ := p2
  have hz : ∀ a, a ≠ o → ∀ j, (ct_z h o).1 a j = h.1 a j ∧ (ct_z h o).2.1 a j = h.2.1 a j ∧ (ct_z h o).2.2 a j = h.2.2 a j := fun a ha j => ⟨by simp only [ct_z, am_z, if_neg ha], by simp only [ct_z, am_z, if_neg ha], by simp only [ct_z, am_z, if_neg ha]⟩
  have hfr : ∀ a, a ≠ o → ¬ Fo a → ∀ j, h2.1 a j = h.1 a j ∧ h2.2.1 a j = h.2.1 a j ∧ h2.2.2 a j = h.2.2 a j := fun a ha hn j => by
    obtain ⟨e1, e2, e3⟩ := qf a ha hn j
    obtain ⟨d1, d2, d3⟩ := hz a ha j
    exact ⟨e1.trans d1, e2.trans d2, e3.trans d3⟩
  refine ⟨q0, fun x => ?_, fun a ha hna i => ?_, fun a ha i => ?_, fun i => ?_, fun q hq => ?_, fun a i x e => ?_, fun a t ha hy i => ?_⟩
  · rw [q1 x, List.mem_append, List.mem_singleton, p1 x, or_assoc, or_assoc]
  · have n1 : ¬ N a := fun q => hna (Or.inl q)
    have n2 : a ≠ o := fun q => hna (Or.inr (Or.inl q))
    have n3 : ¬ Fo a := fun q => hna (Or.inr (Or.inr q))
    obtain ⟨e1, e2, e3⟩ := hfr a n2 n3 i
    obtain ⟨d1, d2, d3⟩ := pf a ha n1 i
    exact ⟨e1.trans d1, e2.trans d2, e3.trans d3⟩
  · rcases ha with ha | rfl | ha
    · have n2 : a ≠ o := fun q => hNo (q ▸ ha)
      have n3 : ¬ Fo a := fun q => hNF a q ha
      obtain ⟨e1, e2, e3⟩ := hfr a n2 n3 i
      obtain ⟨d1, d2⟩ := pv a ha i
      exact ⟨e1.trans d1, e2.trans d2⟩
    · exact qb i
    · exact qv a ha i
  · obtain ⟨e1, e2, e3⟩ := hfr b (fun q => hob q.symm) hbF i
    obtain ⟨d1, d2⟩ := pb i
    exact ⟨e1.trans d1, e2.trans d2⟩
  · rcases List.mem_append.mp hq with hq | hq
    · obtain ⟨t1, t2⟩ := hT q hq
      exact (hfr q.1 t1 t2 q.2.1).2.2.trans (pt q hq)
    · exact qt q hq
  · rcases qr a i x e with q | q | q
    · have q' : am_z none h.2.2 o a i = some x := q
      simp only [am_z] at q'
      split at q'
      · cases q'
      · rcases pr a i x q' with q | q | q
        · exact Or.inl q
        · exact Or.inr (Or.inl (Or.inl q))
        · exact Or.inr (Or.inr q)
    · exact Or.inr (Or.inl (Or.inr (Or.inr q)))
    · rcases List.mem_append.mp q with q | q
      · rcases (p1 x).mp q with q | q
        · exact Or.inr (Or.inr q)
        · exact Or.inr (Or.inl (Or.inl q))
      · exact Or.inr (Or.inl (Or.inr (Or.inl (List.mem_singleton.mp q))))
  · rcases ha with ha | rfl | ha
    · have n2 : a ≠ o := fun q => hNo (q ▸ ha)
      have n3 : ¬ Fo a := fun q => hNF a q ha
      exact (hfr a n2 n3 i).2.2.trans (pn a t ha hy i)
    · rw [hyo] at hy; cases hy
    · exact qn a t ha hy i
theorem ct_F_z {b o : Nat} {N F Fo : Nat → Prop} {vI : am_I} {vL : am_L} {fI : Nat → Int32} {fL : Nat → Int64} {T : List (Nat × Nat × Nat)} {al0 al : List Nat} {h0 h : am_H} (p : ct_P b N vI vL fI fL T al0 h0 al h) (hF : ct_F F al0 h0.2.2) (hFo : ∀ x, Fo x → F x ∧ ¬ N x ∧ x ≠ o) : ct_F Fo (al ++ [o]) (ct_z h o).2.2 := by
  intro x hx
  obtain ⟨h1, h2, h3⟩ := hFo x hx
  obtain ⟨f1, f2⟩ := ct_fresh p hF h1 h2
  refine ⟨fun q => ?_, am_nr_z f2⟩
  rcases List.mem_append.mp q with q | q
  · exact f1 q
  · exact h3 (List.mem_singleton.mp q)
section CT
variable {M : am_M} {X : am_X} {Q : am_P} {pc c s : Nat} {l : List (Nat × Value)} {b : Nat} {N F : Nat → Prop} {vI : am_I} {vL : am_L} {fI : Nat → Int32} {fL : Nat → Int64} {T : List (Nat × Nat × Nat)} {al0 al : List Nat} {h0 h : am_H}
/-- newarray and putfield -/
theorem ct_mk (k j : Nat) (p : ct_P b N vI vL fI fL T al0 h0 al h) (hF : ct_F F al0 h0.2.2) (hX : X.2.2.2 = fun x => ¬ F x) (hb : b ∈ al0) (hk : F k) (hN : ¬ N k) (hv : ∀ i, vI k i = 0 ∧ vL k i = 0) (hkb : k ≠ b) (hNb : ¬ N b) (hk9 : k ≠ 900) (hT : ∀ q ∈ T, q.1 ≠ k ∧ (q.1 ≠ b ∨ q.2.1 ≠ j)) (hl : ∀ q ∈ l, q.2 ≠ .ref k)
    {t0 n : Nat} {ty : FieldType} {aty : ArrayType} {x : Int32} (hy : am_lay k = .inl (ty, n)) (hat : newarray.typeOf aty = ty) (ht0 : ∀ ca : FieldType → ClassId, (am_TY ca)[t0]? = some (ca ty, ty)) (hpr : ty = .int ∨ ty = .long ∨ ty = .boolean) (hx : ¬ x < 0) (hxn : x.toNatClampNeg = n) (hbd : n * componentBytes ty ≤ 536870912) (harr : Cond.arrayClass ty ∈ lw_tbl) (h1 : c + 1 ≤ X.2.1) (h2 : s + n ≤ X.2.2.1) (hd1 : decode M.2.1 pc = .ok (.newarray aty, 2))
    {ci index NN pc2 : Nat} {C : String} {Tt : u_T} (hf : am_fl M.1.cls index ci j C Tt NN) (hyb : am_lay b = .inr ci) (hty : am_ty ci j = .array ty) (hfin : (Tt j).2.2.2 = true) (hni : M.1.name = "<init>") (hdecl : (Tt j).1 = M.1.cls) (hpc : pc + 2 = pc2) (hd2 : decode M.2.1 pc2 = .ok (.putfield index, 3))
    (kk : ∀ al' h', ct_P b (fun x => N x ∨ x = k) vI vL fI fL ((b, j, k) :: T) al0 h0 al' h' → am_OK M X Q (al', c + 1, s + n) h' (pc2 + 3) l []) : am_OK M X Q (al, c, s) h pc l [.int x, .ref b] := by
  subst hpc
  obtain ⟨f1, f2⟩ := ct_fresh p hF hk hN
  have hbl : b ∈ al := (p.2.1 b).mpr (Or.inl hb)
  refine am_newa (I := h.1) (L := h.2.1) (R := h.2.2) (g := (al, c, s)) k hy hat ht0 hpr f1 hk9 (by rw [hX]; exact fun q => q hk) f2 ⟨hl, fun v hv => ?_⟩ hx hxn hbd harr h1 h2 hd1 ?_
  · rw [List.mem_singleton] at hv
    rw [hv]
    exact fun e => hkb (Value.ref.inj e).symm
  · refine am_putF (h' := (am_z 0 h.1 k, am_z 0 h.2.1 k, am_u (am_z none h.2.2 k) b j (some k))) (w := .ref k) hf.1 hyb (List.mem_append_left _ hbl) hf.2.1 am_but_r (fun ad => ?_) hfin hni hdecl (fun ad => ?_) hf.2.2 hd2 (kk _ _ (ct_row p hF hk hN hv hkb hNb hT))
    · rw [hty]; simp only [am_fv, am_u_eq]; rfl
    · rw [hty]; exact ⟨rfl, rfl⟩
/-- a number put into the object by putfield -/
theorem ct_ci (p : ct_P b N vI vL fI fL T al0 h0 al h) (hb : b ∈ al0) (hNb : ¬ N b) {v : Int32} {ci j index NN : Nat} {C : String} {Tt : u_T} (hf : am_fl M.1.cls index ci j C Tt NN) (hyb : am_lay b = .inr ci) (hty : am_ty ci j = .int) (hfin : (Tt j).2.2.2 = false) (hd : decode M.2.1 pc = .ok (.putfield index, 3))
    (kk : ∀ h', ct_P b N vI vL (fun i => if i = j then v else fI i) fL T al0 h0 al h' → am_OK M X Q (al, c, s) h' (pc + 3) l []) : am_OK M X Q (al, c, s) h pc l [.int v, .ref b] :=
  am_put (h' := (am_u h.1 b j v, h.2.1, h.2.2)) hf.1 hyb ((p.2.1 b).mpr (Or.inl hb)) hf.2.1 (am_but_i (I := h.1) (L := h.2.1) (R := h.2.2)) (w := .int v) (fun ad => by rw [hty]; simp only [am_fv, am_u_eq]; rfl) hfin (fun ad => by rw [hty]; exact ⟨rfl, rfl⟩) hf.2.2 hd (kk _ (ct_fi p hNb j v))
theorem ct_cl (p : ct_P b N vI vL fI fL T al0 h0 al h) (hb : b ∈ al0) (hNb : ¬ N b) {v : Int64} {ci j index NN : Nat} {C : String} {Tt : u_T} (hf : am_fl M.1.cls index ci j C Tt NN) (hyb : am_lay b = .inr ci) (hty : am_ty ci j = .long) (hfin : (Tt j).2.2.2 = false) (hd : decode M.2.1 pc = .ok (.putfield index, 3))
    (kk : ∀ h', ct_P b N vI vL fI (fun i => if i = j then v else fL i) T al0 h0 al h' → am_OK M X Q (al, c, s) h' (pc + 3) l []) : am_OK M X Q (al, c, s) h pc l [.long v, .ref b] :=
  am_put (h' := (h.1, am_u h.2.1 b j v, h.2.2)) hf.1 hyb ((p.2.1 b).mpr (Or.inl hb)) hf.2.1 (am_but_l (I := h.1) (L := h.2.1) (R := h.2.2)) (w := .long v) (fun ad => by rw [hty]; simp only [am_fv, am_u_eq]; rfl) hfin (fun ad => by rw [hty]; exact ⟨rfl, rfl⟩) hf.2.2 hd (kk _ (ct_fl p hNb j v))
/-- a truth put into the object by its constructor, for good -/
theorem ct_cz (p : ct_P b N vI vL fI fL T al0 h0 al h) (hb : b ∈ al0) (hNb : ¬ N b) {v : Int32} (h01 : v = 0 ∨ v = 1) {ci j index NN : Nat} {C : String} {Tt : u_T} (hf : am_fl M.1.cls index ci j C Tt NN) (hyb : am_lay b = .inr ci) (hty : am_ty ci j = .boolean) (hfin : (Tt j).2.2.2 = true) (hni : M.1.name = "<init>") (hdecl : (Tt j).1 = M.1.cls) (hd : decode M.2.1 pc = .ok (.putfield index, 3))
    (kk : ∀ h', ct_P b N vI vL (fun i => if i = j then v else fI i) fL T al0 h0 al h' → am_OK M X Q (al, c, s) h' (pc + 3) l []) : am_OK M X Q (al, c, s) h pc l [.int v, .ref b] :=
  am_putF (h' := (am_u h.1 b j v, h.2.1, h.2.2)) hf.1 hyb ((p.2.1 b).mpr (Or.inl hb)) hf.2.1 (am_but_i (I := h.1) (L := h.2.1) (R := h.2.2)) (w := .int v) (fun ad => by rw [hty]; simp only [am_fv, am_u_eq]; rfl) hfin hni hdecl (fun ad => by rw [hty]; rcases h01 with e | e <;> rw [e] <;> exact ⟨rfl, rfl⟩) hf.2.2 hd (kk _ (ct_fi p hNb j v))
/-- a reference put into the object by its constructor, for good -/
theorem ct_cr (p : ct_P b N vI vL fI fL T al0 h0 al h) (hb : b ∈ al0) (hNb : ¬ N b) {k : Nat} (hk : k ∈ al) {ci j index NN : Nat} {C : String} {Tt : u_T} (hT : ∀ q ∈ T, q.1 ≠ b ∨ q.2.1 ≠ j) (hf : am_fl M.1.cls index ci j C Tt NN) (hyb : am_lay b = .inr ci) {ty : String} (hty : am_ty ci j = .object ty) (hfin : (Tt j).2.2.2 = true) (hni : M.1.name = "<init>") (hdecl : (Tt j).1 = M.1.cls) (hd : decode M.2.1 pc = .ok (.putfield index, 3))
    (kk : ∀ h', ct_P b N vI vL fI fL ((b, j, k) :: T) al0 h0 al h' → am_OK M X Q (al, c, s) h' (pc + 3) l []) : am_OK M X Q (al, c, s) h pc l [.ref k, .ref b] :=
  am_putF (h' := (h.1, h.2.1, am_u h.2.2 b j (some k))) hf.1 hyb ((p.2.1 b).mpr (Or.inl hb)) hf.2.1 (am_but_r (I := h.1) (L := h.2.1) (R := h.2.2)) (w := .ref k) (fun ad => by rw [hty]; simp only [am_fv, am_u_eq]; rfl) hfin hni hdecl (fun ad => by rw [hty]; exact ⟨rfl, rfl⟩) hf.2.2 hd (kk _ (ct_fr p hNb j k hk hT))
/-- new -/
theorem ct_new (o : Nat) (p : ct_P b N vI vL fI fL T al0 h0 al h) (hF : ct_F F al0 h0.2.2) (hX : X.2.2.2 = fun x => ¬ F x) (ho : F o) (hN : ¬ N o) (hob : o ≠ b) (ho9 : o ≠ 900) (hl : ∀ q ∈ l, q.2 ≠ .ref o) {ci index NN : Nat} {C : String} {Tt : u_T} (hc : am_cls ci C Tt NN) (hy : am_lay o = .inr ci) (hty : ∀ j, j < NN → am_ty ci j ≠ .float ∧ am_ty ci j ≠ .double)
    (hcl : Cond.classLink M.1.cls index C ∈ lw_tbl) (hinst : Cond.instantiable C NN ∈ lw_tbl) (hini : Cond.initialized C ∈ lw_tbl) (h1 : c + 1 ≤ X.2.1) (h2 : s + NN ≤ X.2.2.1) (hd : decode M.2.1 pc = .ok (.new index, 3))
    (kk : am_OK M X Q (al ++ [o], c + 1, s + NN) (ct_z h o) (pc + 3) l [.ref o, .ref b]) : am_OK M X Q (al, c, s) h pc l [.ref b] := by
  obtain ⟨f1, f2⟩ := ct_fresh p hF ho hN
  exact am_new (I := h.1) (L := h.2.1) (R := h.2.2) (g := (al, c, s)) o hc hy f1 ho9 (by rw [hX]; exact fun q => q ho) f2 ⟨hl, fun v hv => by rw [List.mem_singleton] at hv; rw [hv]; exact fun e => hob (Value.ref.inj e).symm⟩ hty hcl hinst hini h1 h2 hd kk
/-- the constructor's call and putfield -/
theorem ct_call {o mc' ms' cio : Nat} {Fo : Nat → Prop} {To : List (Nat × Nat × Nat)} {st0 : List Value} (p : ct_P b N vI vL fI fL T al0 h0 al h) (hF : ct_F F al0 h0.2.2) (hb : b ∈ al0) (hNb : ¬ N b) (ho : F o) (hNo : ¬ N o) (hob : o ≠ b) (hyo : am_lay o = .inr cio) (hbF : ¬ Fo b) (hNF : ∀ x, Fo x → ¬ N x) (hT : ∀ q ∈ T, q.1 ≠ o ∧ ¬ Fo q.1)
    (hinv : (∀ (r : Option Value) (h' : am_H) (al' : List Nat), (r = none ∧ ct_P o Fo vI vL (vI o) (vL o) To (al ++ [o]) (ct_z h o) al' h') → am_OK M X Q (al', c + 1 + mc', s + ms') h' (pc + 3) l (r.toList ++ [.ref o, .ref b])) → am_OK M X Q (al ++ [o], c + 1, s) (ct_z h o) pc l st0)
    {ci j index NN pc2 : Nat} {C : String} {Tt : u_T} (hTj : ∀ q ∈ T ++ To, q.1 ≠ b ∨ q.2.1 ≠ j) (hf : am_fl M.1.cls index ci j C Tt NN) (hyb : am_lay b = .inr ci) {ty : String} (hty : am_ty ci j = .object ty) (hfin : (Tt j).2.2.2 = true) (hni : M.1.name = "<init>") (hdecl : (Tt j).1 = M.1.cls) (hpc : pc + 3 = pc2) (hd : decode M.2.1 pc2 = .ok (.putfield index, 3))
    (kk : ∀ al' h', ct_P b (fun x => N x ∨ x = o ∨ Fo x) vI vL fI fL ((b, j, o) :: (T ++ To)) al0 h0 al' h' → am_OK M X Q (al', c + 1 + mc', s + ms') h' (pc2 + 3) l []) : am_OK M X Q (al ++ [o], c + 1, s) (ct_z h o) pc l st0 := by
  subst hpc
  refine hinv (fun r h' al' e => ?_)
  obtain ⟨rfl, e⟩ := e
  have p2 := ct_obj p hF ho hNo hob hyo hbF hNF hT e
  have hNb2 : ¬ (N b ∨ b = o ∨ Fo b) := fun q => by
    rcases q with q | q | q
    · exact hNb q
    · exact hob q.symm
    · exact hbF q
  exact ct_cr p2 hb hNb2 ((p2.2.1 o).mpr (Or.inr (Or.inr (Or.inl rfl)))) hTj hf hyb hty hfin hni hdecl hd (fun h1 e1 => kk _ h1 e1)
end CT
