/-! the world's rows: fields, arrays; returns; a contract's start -/
def am_u {α : Type} (f : Nat → Nat → α) (k j : Nat) (v : α) : Nat → Nat → α := fun a b => if a = k then (if b = j then v else f a b) else f a b
/-- nothing but what stands at (a, j) may differ -/
def am_but (h h' : am_H) (a j : Nat) : Prop := ∀ k i, (k ≠ a ∨ i ≠ j) → h'.1 k i = h.1 k i ∧ h'.2.1 k i = h.2.1 k i ∧ h'.2.2 k i = h.2.2 k i
theorem am_u_ne {α : Type} (f : Nat → Nat → α) {k j : Nat} {v : α} {a b : Nat} (h : a ≠ k ∨ b ≠ j) : am_u f k j v a b = f a b := by
  unfold am_u
  by_cases h1 : a = k
  · rw [if_pos h1, if_neg (h.resolve_left (fun q => q h1))]
  · rw [if_neg h1]
theorem am_u_eq {α : Type} (f : Nat → Nat → α) (k j : Nat) (v : α) : am_u f k j v k j = v := by
  unfold am_u
  rw [if_pos rfl, if_pos rfl]
theorem am_but_i {I : Nat → Nat → Int32} {L : Nat → Nat → Int64} {R : Nat → Nat → Option Nat} {a j : Nat} {x : Int32} : am_but (I, L, R) (am_u I a j x, L, R) a j := fun _ _ h => ⟨am_u_ne I h, rfl, rfl⟩
theorem am_but_l {I : Nat → Nat → Int32} {L : Nat → Nat → Int64} {R : Nat → Nat → Option Nat} {a j : Nat} {x : Int64} : am_but (I, L, R) (I, am_u L a j x, R) a j := fun _ _ h => ⟨rfl, am_u_ne L h, rfl⟩
theorem am_but_r {I : Nat → Nat → Int32} {L : Nat → Nat → Int64} {R : Nat → Nat → Option Nat} {a j : Nat} {x : Option Nat} : am_but (I, L, R) (I, L, am_u R a j x) a j := fun _ _ h => ⟨rfl, rfl, am_u_ne R h⟩
theorem am_fv_same {ad : Nat → Nat} {h h' : am_H} {k i : Nat} {ty : FieldType} (e : h'.1 k i = h.1 k i ∧ h'.2.1 k i = h.2.1 k i ∧ h'.2.2 k i = h.2.2 k i) : am_fv ad h' k ty i = am_fv ad h k ty i := by
  unfold am_fv
  cases ty <;> simp only [e.1, e.2.1, e.2.2]
theorem am_ce_same {ca : FieldType → ClassId} {ad : Nat → Nat} {h h' : am_H} {k : Nat} (e : ∀ i, h'.1 k i = h.1 k i ∧ h'.2.1 k i = h.2.1 k i ∧ h'.2.2 k i = h.2.2 k i) : am_ce ca ad h' k = am_ce ca ad h k := by
  have e1 : h'.1 k = h.1 k := funext fun i => (e i).1
  have e2 : h'.2.1 k = h.2.1 k := funext fun i => (e i).2.1
  have e3 : h'.2.2 k = h.2.2 k := funext fun i => (e i).2.2
  unfold am_ce
  cases am_lay k with
  | inl q =>
    obtain ⟨ty, n⟩ := q
    cases ty <;> simp only [am_ar, e1, e2, e3]
  | inr ci =>
    simp only [am_fv_same (e _)]
theorem am_wl_at {ca : FieldType → ClassId} {ad : Nat → Nat} {al : List Nat} {h : am_H} {a : Nat} (ha : a ∈ al) : ∃ q0 : Nat, al[q0]? = some a ∧ (am_wl ca ad al h)[q0]? = some (ad a, am_ce ca ad h a) := by
  obtain ⟨q0, hq⟩ := List.getElem?_of_mem ha
  exact ⟨q0, hq, by simp [am_wl, hq]⟩
theorem am_wl_set {ca : FieldType → ClassId} {ad : Nat → Nat} {al : List Nat} {h h' : am_H} {a q0 : Nat} (hn : al.Nodup) (hq : al[q0]? = some a) (e : ∀ k, k ≠ a → am_ce ca ad h' k = am_ce ca ad h k) : (am_wl ca ad al h).set q0 (ad a, am_ce ca ad h' a) = am_wl ca ad al h' := by
  apply List.ext_getElem?
  intro i
  simp only [am_wl]
  by_cases hi : i = q0
  · subst hi
    rw [List.getElem?_set_self (by rw [List.length_map]; exact (List.getElem?_eq_some_iff.mp hq).1), List.getElem?_map, hq]
    rfl
  · rw [List.getElem?_set_ne (Ne.symm hi), List.getElem?_map, List.getElem?_map]
    cases hk : al[i]? with
    | none => rfl
    | some k =>
      have hka : k ≠ a := by
        intro q
        subst q
        obtain ⟨h1, h2⟩ := List.getElem?_eq_some_iff.mp hk
        obtain ⟨h3, h4⟩ := List.getElem?_eq_some_iff.mp hq
        exact hi ((List.getElem_inj (h₀ := h1) (h₁ := h3) hn).mp (h2.trans h4.symm))
      simp only [Option.map_some, e k hka]
theorem am_ce_o {ca : FieldType → ClassId} {ad : Nat → Nat} {h : am_H} {a ci : Nat} (hy : am_lay a = .inr ci) : am_ce ca ad h a = .inr (ci, (List.range (am_N ci)).map fun j => am_fv ad h a (am_ty ci j) j) := by
  unfold am_ce
  rw [hy]
theorem am_ce_a {ca : FieldType → ClassId} {ad : Nat → Nat} {h : am_H} {a n : Nat} {ty : FieldType} (hy : am_lay a = .inl (ty, n)) : am_ce ca ad h a = .inl (ca ty, am_ar ad h a ty n) := by
  unfold am_ce
  rw [hy]
theorem am_but_ce {ca : FieldType → ClassId} {ad : Nat → Nat} {h h' : am_H} {a j : Nat} (e : am_but h h' a j) : ∀ k, k ≠ a → am_ce ca ad h' k = am_ce ca ad h k := fun _ hk => am_ce_same fun _ => e _ _ (Or.inl hk)
theorem am_fs_set {ad : Nat → Nat} {h h' : am_H} {a ci N j : Nat} {v : Value} (e : am_but h h' a j) (hv : am_fv ad h' a (am_ty ci j) j = v) : ((List.range N).map fun i => am_fv ad h a (am_ty ci i) i).set j v = (List.range N).map fun i => am_fv ad h' a (am_ty ci i) i := by
  apply List.ext_getElem?
  intro i
  by_cases hi : i = j
  · subst hi
    by_cases hl : i < N
    · rw [List.getElem?_set_self (by simpa using hl), List.getElem?_map, List.getElem?_range hl]
      simp [hv]
    · rw [List.getElem?_eq_none (by simpa using hl), List.getElem?_eq_none (by simpa using hl)]
  · rw [List.getElem?_set_ne (Ne.symm hi), List.getElem?_map, List.getElem?_map]
    cases hk : (List.range N)[i]? with
    | none => rfl
    | some k =>
      obtain ⟨h1, h2⟩ := List.getElem?_eq_some_iff.mp hk
      have h3 : k = i := by rw [← h2]; simp
      subst h3
      simp only [Option.map_some, am_fv_same (e a k (Or.inr hi))]
theorem am_uws {C : String} {T : u_T} {N : Nat} {w : Cond} (h : w ∈ u_ws C T N) : goodWord w = true := by
  obtain ⟨k, -, rfl⟩ := List.mem_map.mp h
  unfold u_lay
  split <;> rfl
section AM3
variable {M : am_M} {X : am_X} {Q : am_P} {g : am_G} {h : am_H} {pc : Nat} {l : List (Nat × Value)} {st : List Value}
theorem am_get {a ci j index : Nat} {C : String} {T : u_T} {N : Nat} {w : Value} (hc : am_cls ci C T N) (hy : am_lay a = .inr ci) (ha : a ∈ g.1) (hj : j < N) (hw : ∀ ad, am_fv ad h a (am_ty ci j) j = am_cv ad w) (hlk : Cond.fieldLink M.1.cls index (T j).1 (T j).2.1 (T j).2.2.1 ∈ lw_tbl) (hd : decode M.2.1 pc = .ok (.getfield index, 3)) (k : am_OK M X Q g h (pc + 3) l (w :: st)) : am_OK M X Q g h pc l (.ref a :: st) := by
  intro p lc e s m args below meth c D ca ad0 A cx ad H locs ls dy hl
  obtain ⟨q0, hq, he⟩ := am_wl_at (ca := ca) (ad := ad) (h := h) ha
  rw [am_ce_o hy, hc.2.1] at he
  refine va_get (D := D) (v := am_cv ad w) cx.1.1 cx.1.2.1 (Ts := am_ws M) cx.1.2.2.2.2 (fun w hw => am_tbl (hc.2.2.2.2 w hw) (am_uws hw)) cx.1.2.2.2.1 cx.2.2.2.1 dy.2.2.1 q0 he hc.1 j hj (cx.1.2.2.2.2 _ (am_tbl hlk)) (fun _ h9 => h9) ?_ hd (k p lc e s m args below meth c D ca ad0 A cx ad H locs ls dy hl)
  rw [List.getElem?_map, List.getElem?_range hj]
  simp [hw ad]
theorem am_put {h' : am_H} {a ci j index : Nat} {C : String} {T : u_T} {N : Nat} {w : Value} (hc : am_cls ci C T N) (hy : am_lay a = .inr ci) (ha : a ∈ g.1) (hj : j < N) (hb : am_but h h' a j) (hw : ∀ ad, am_fv ad h' a (am_ty ci j) j = am_cv ad w) (hfin : (T j).2.2.2 = false) (hfit : ∀ ad, narrow (am_ty ci j) (am_cv ad w) = am_cv ad w ∧ fits (am_ty ci j) (am_cv ad w) = true) (hlk : Cond.fieldLink M.1.cls index (T j).1 (T j).2.1 (T j).2.2.1 ∈ lw_tbl) (hd : decode M.2.1 pc = .ok (.putfield index, 3)) (k : am_OK M X Q g h' (pc + 3) l st) : am_OK M X Q g h pc l (w :: .ref a :: st) := by
  intro p lc e s m args below meth c D ca ad0 A cx ad H locs ls dy hl
  obtain ⟨q0, hq, he⟩ := am_wl_at (ca := ca) (ad := ad) (h := h) ha
  rw [am_ce_o hy, hc.2.1] at he
  refine va_put (D := D) cx.1.1 cx.1.2.1 (Ts := am_ws M) cx.1.2.2.2.2 (fun w hw => am_tbl (hc.2.2.2.2 w hw) (am_uws hw)) (am_ty ci) hc.2.2.1 hc.2.2.2.1 cx.1.2.2.2.1 cx.2.2.2.1 dy.2.2.1 dy.2.2.2.1 dy.2.2.2.2 q0 he hc.1 j hj (cx.1.2.2.2.2 _ (am_tbl hlk)) (fun _ h9 => h9) hfin (hc.2.2.1 j hj) (hfit ad).1 (hfit ad).2 (by simpa using hj) hd (fun H1 locs1 hP1 hD1 hS1 => ?_)
  have hset : (am_wl ca ad g.1 h).set q0 (ad a, .inr (ci, ((List.range N).map fun i => am_fv ad h a (am_ty ci i) i).set j (am_cv ad w))) = am_wl ca ad g.1 h' := by
    rw [am_fs_set hb (hw ad), ← hc.2.1, ← am_ce_o hy]
    exact am_wl_set dy.1 hq (am_but_ce hb)
  rw [hset] at hP1 hD1
  exact k p lc e s m args below meth c D ca ad0 A cx ad H1 locs1 ls ⟨dy.1, dy.2.1, hP1, hD1, hS1⟩ hl
theorem am_iald {a n : Nat} {i : Int32} (hy : am_lay a = .inl (.int, n)) (ha : a ∈ g.1) (hin : vp_in i n) (hd : decode M.2.1 pc = .ok (.iaload, 1)) (k : am_OK M X Q g h (pc + 1) l (.int (h.1 a i.toNatClampNeg) :: st)) : am_OK M X Q g h pc l (.int i :: .ref a :: st) := by
  intro p lc e s m args below meth c D ca ad0 A cx ad H locs ls dy hl
  obtain ⟨q0, hq, he⟩ := am_wl_at (ca := ca) (ad := ad) (h := h) ha
  rw [am_ce_a hy] at he
  exact va_iald cx.1.1 cx.1.2.1 cx.2.2.2.1 dy.2.2.1 q0 0 he rfl hin hd (k p lc e s m args below meth c D ca ad0 A cx ad H locs ls dy hl)
theorem am_zald {a n : Nat} {i : Int32} (hy : am_lay a = .inl (.boolean, n)) (ha : a ∈ g.1) (hin : vp_in i n) (hd : decode M.2.1 pc = .ok (.baload, 1)) (k : am_OK M X Q g h (pc + 1) l (.int (h.1 a i.toNatClampNeg) :: st)) : am_OK M X Q g h pc l (.int i :: .ref a :: st) := by
  intro p lc e s m args below meth c D ca ad0 A cx ad H locs ls dy hl
  obtain ⟨q0, hq, he⟩ := am_wl_at (ca := ca) (ad := ad) (h := h) ha
  rw [am_ce_a hy] at he
  exact va_zald cx.1.1 cx.1.2.1 cx.2.2.2.1 dy.2.2.1 q0 2 he rfl hin hd (k p lc e s m args below meth c D ca ad0 A cx ad H locs ls dy hl)
theorem am_lald {a n : Nat} {i : Int32} (hy : am_lay a = .inl (.long, n)) (ha : a ∈ g.1) (hin : vp_in i n) (hd : decode M.2.1 pc = .ok (.laload, 1)) (k : am_OK M X Q g h (pc + 1) l (.long (h.2.1 a i.toNatClampNeg) :: st)) : am_OK M X Q g h pc l (.int i :: .ref a :: st) := by
  intro p lc e s m args below meth c D ca ad0 A cx ad H locs ls dy hl
  obtain ⟨q0, hq, he⟩ := am_wl_at (ca := ca) (ad := ad) (h := h) ha
  rw [am_ce_a hy] at he
  exact va_lald cx.1.1 cx.1.2.1 cx.2.2.2.1 dy.2.2.1 q0 1 he rfl hin hd (k p lc e s m args below meth c D ca ad0 A cx ad H locs ls dy hl)
theorem am_arr_set {ca : FieldType → ClassId} {ad : Nat → Nat} {al : List Nat} {h h' : am_H} {a q0 n : Nat} {ty : FieldType} {x : vp_A} (hy : am_lay a = .inl (ty, n)) (hn : al.Nodup) (hq : al[q0]? = some a) (e : ∀ k, k ≠ a → am_ce ca ad h' k = am_ce ca ad h k) (hx : x = am_ar ad h' a ty n) : (am_wl ca ad al h).set q0 (ad a, .inl (ca ty, x)) = am_wl ca ad al h' := by
  rw [hx, ← am_ce_a hy]
  exact am_wl_set hn hq e
theorem am_u_at {α : Type} (f : Nat → Nat → α) (k j : Nat) (v : α) : am_u f k j v k = fun b => if b = j then v else f k b := by
  funext b
  simp [am_u]
theorem am_iast {I : Nat → Nat → Int32} {L : Nat → Nat → Int64} {R : Nat → Nat → Option Nat} {a n : Nat} {i x : Int32} (hy : am_lay a = .inl (.int, n)) (ha : a ∈ g.1) (hin : vp_in i n) (hd : decode M.2.1 pc = .ok (.iastore, 1)) (k : am_OK M X Q g (am_u I a i.toNatClampNeg x, L, R) (pc + 1) l st) : am_OK M X Q g (I, L, R) pc l (.int x :: .int i :: .ref a :: st) := by
  intro p lc e s m args below meth c D ca ad0 A cx ad H locs ls dy hl
  obtain ⟨q0, hq, he⟩ := am_wl_at (ca := ca) (ad := ad) (h := (I, L, R)) ha
  rw [am_ce_a hy] at he
  refine va_iast cx.1.1 cx.1.2.1 cx.2.2.2.1 dy.2.2.1 dy.2.2.2.1 dy.2.2.2.2 q0 0 he rfl hin hd (fun H1 locs1 hP1 hD1 hS1 => ?_)
  rw [am_arr_set (h' := (am_u I a i.toNatClampNeg x, L, R)) hy dy.1 hq (am_but_ce am_but_i) (by simp only [am_ar, am_u_at]; rfl)] at hP1 hD1
  exact k p lc e s m args below meth c D ca ad0 A cx ad H1 locs1 ls ⟨dy.1, dy.2.1, hP1, hD1, hS1⟩ hl
theorem am_zast {I : Nat → Nat → Int32} {L : Nat → Nat → Int64} {R : Nat → Nat → Option Nat} {a n : Nat} {i x : Int32} (hy : am_lay a = .inl (.boolean, n)) (ha : a ∈ g.1) (hin : vp_in i n) (hx : vp_nar .boolean x = x) (hd : decode M.2.1 pc = .ok (.bastore, 1)) (k : am_OK M X Q g (am_u I a i.toNatClampNeg x, L, R) (pc + 1) l st) : am_OK M X Q g (I, L, R) pc l (.int x :: .int i :: .ref a :: st) := by
  intro p lc e s m args below meth c D ca ad0 A cx ad H locs ls dy hl
  obtain ⟨q0, hq, he⟩ := am_wl_at (ca := ca) (ad := ad) (h := (I, L, R)) ha
  rw [am_ce_a hy] at he
  refine va_zast cx.1.1 cx.1.2.1 cx.2.2.2.1 dy.2.2.1 dy.2.2.2.1 dy.2.2.2.2 q0 2 he rfl hin hd (fun H1 locs1 hP1 hD1 hS1 => ?_)
  rw [hx, am_arr_set (h' := (am_u I a i.toNatClampNeg x, L, R)) hy dy.1 hq (am_but_ce am_but_i) (by simp only [am_ar, am_u_at]; rfl)] at hP1
  rw [hx, am_arr_set (h' := (am_u I a i.toNatClampNeg x, L, R)) hy dy.1 hq (am_but_ce am_but_i) (by simp only [am_ar, am_u_at]; rfl)] at hD1
  exact k p lc e s m args below meth c D ca ad0 A cx ad H1 locs1 ls ⟨dy.1, dy.2.1, hP1, hD1, hS1⟩ hl
theorem am_last {I : Nat → Nat → Int32} {L : Nat → Nat → Int64} {R : Nat → Nat → Option Nat} {a n : Nat} {i : Int32} {x : Int64} (hy : am_lay a = .inl (.long, n)) (ha : a ∈ g.1) (hin : vp_in i n) (hd : decode M.2.1 pc = .ok (.lastore, 1)) (k : am_OK M X Q g (I, am_u L a i.toNatClampNeg x, R) (pc + 1) l st) : am_OK M X Q g (I, L, R) pc l (.long x :: .int i :: .ref a :: st) := by
  intro p lc e s m args below meth c D ca ad0 A cx ad H locs ls dy hl
  obtain ⟨q0, hq, he⟩ := am_wl_at (ca := ca) (ad := ad) (h := (I, L, R)) ha
  rw [am_ce_a hy] at he
  refine va_last cx.1.1 cx.1.2.1 cx.2.2.2.1 dy.2.2.1 dy.2.2.2.1 dy.2.2.2.2 q0 1 he rfl hin hd (fun H1 locs1 hP1 hD1 hS1 => ?_)
  rw [am_arr_set (h' := (I, am_u L a i.toNatClampNeg x, R)) hy dy.1 hq (am_but_ce am_but_l) (by simp only [am_ar, am_u_at]; rfl)] at hP1 hD1
  exact k p lc e s m args below meth c D ca ad0 A cx ad H1 locs1 ls ⟨dy.1, dy.2.1, hP1, hD1, hS1⟩ hl
theorem am_fin {D : va_G} {ca : FieldType → ClassId} {ad0 ad : Nat → Nat} {A : Nat → Prop} {s t : State} {args : Array Value} {H : Heap} {locs : List Loc} {r : Option Value} (dy : am_DY M s D ca ad0 X.2.2.2 A g.1 h ad H locs) (ht : t.heap = H) (hq : Q r h g.1) : am_Qc D ca ad0 X.2.2.2 A Q args s (.returned (r.map (am_cv ad))) t :=
  ⟨⟨r, h, g.1, ad, rfl, hq, dy.1, dy.2.1, by rw [ht]; exact dy.2.2.1, dy.2.2.2.1⟩, dy.2.2.2.2.F ht⟩
theorem am_iret {x : Int32} {ty : FieldType} (hr : M.2.2.2 = some ty) (hn : narrow ty (.int x) = .int x) (h1 : g.2.1 ≤ X.2.1) (h2 : g.2.2 ≤ X.2.2.1) (hd : decode M.2.1 pc = .ok (.ireturn, 1)) (hq : Q (some (.int x)) h g.1) : am_OK M X Q g h pc l [.int x] := by
  intro p lc e s m args below meth c D ca ad0 A cx ad H locs ls dy hl
  exact W.widen h1 h2 (W.zret cx.1.1 cx.1.2.1 (cx.2.1.trans hr) hn (fun t ht _ => am_fin dy ht hq) (fun q hq => dy.2.2.2.2.2.2 q hq) hd (hlocks := cx.2.2.1))
theorem am_lret {x : Int64} (hr : M.2.2.2 = some .long) (h1 : g.2.1 ≤ X.2.1) (h2 : g.2.2 ≤ X.2.2.1) (hd : decode M.2.1 pc = .ok (.lreturn, 1)) (hq : Q (some (.long x)) h g.1) : am_OK M X Q g h pc l [.long x] := by
  intro p lc e s m args below meth c D ca ad0 A cx ad H locs ls dy hl
  exact W.widen h1 h2 (W.lret cx.1.1 cx.1.2.1 (cx.2.1.trans hr) (fun t ht _ => am_fin dy ht hq) (fun q hq => dy.2.2.2.2.2.2 q hq) hd (hlocks := cx.2.2.1))
theorem am_vret (hr : M.2.2.2 = none) (h1 : g.2.1 ≤ X.2.1) (h2 : g.2.2 ≤ X.2.2.1) (hd : decode M.2.1 pc = .ok (.return_, 1)) (hq : Q none h g.1) : am_OK M X Q g h pc l [] := by
  intro p lc e s m args below meth c D ca ad0 A cx ad H locs ls dy hl
  exact W.widen h1 h2 (W.vret cx.1.1 cx.1.2.1 (cx.2.1.trans hr) (fun t ht _ => am_fin dy ht hq) (fun q hq => dy.2.2.2.2.2.2 q hq) hd (hlocks := cx.2.2.1))
theorem am_aret {a : Nat} {C : String} (hr : M.2.2.2 = some (.object C)) (h1 : g.2.1 ≤ X.2.1) (h2 : g.2.2 ≤ X.2.2.1) (hd : decode M.2.1 pc = .ok (.areturn, 1)) (hq : Q (some (.ref a)) h g.1) : am_OK M X Q g h pc l [.ref a] := by
  intro p lc e s m args below meth c D ca ad0 A cx ad H locs ls dy hl
  exact W.widen h1 h2 (W.aret cx.1.1 cx.1.2.1 (cx.2.1.trans hr) (Or.inl ⟨C, rfl⟩) (Or.inr ⟨_, rfl⟩) (fun t ht _ => am_fin dy ht hq) (fun q hq => dy.2.2.2.2.2.2 q hq) hd (hlocks := cx.2.2.1))
end AM3
