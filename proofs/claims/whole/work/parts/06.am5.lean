/-! what the fund's code asks of the JDK; objects and rows that are made -/
def am_cp {α : Type} (f : Nat → Nat → α) (dst src n : Nat) : Nat → Nat → α := fun a b => if a = dst then (if b < n then f src b else f dst b) else f a b
def am_z {α : Type} (z : α) (f : Nat → Nat → α) (k : Nat) : Nat → Nat → α := fun a b => if a = k then z else f a b
def am_nr (R : Nat → Nat → Option Nat) (k : Nat) : Prop := ∀ a j, R a j ≠ some k
theorem am_nr_u {R : Nat → Nat → Option Nat} {k a j b : Nat} (h : am_nr R k) (hb : b ≠ k) : am_nr (am_u R a j (some b)) k := by
  intro x y
  unfold am_u
  split
  · split
    · intro q; exact hb (Option.some.inj q)
    · exact h x y
  · exact h x y
theorem am_nr_z {R : Nat → Nat → Option Nat} {k a : Nat} (h : am_nr R k) : am_nr (am_z none R a) k := by
  intro x y
  unfold am_z
  split
  · intro q; cases q
  · exact h x y
theorem am_map_ne {o : Option Nat} {ad : Nat → Nat} {k q : Nat} (h : o ≠ some k) : o.map (fun j => if j = k then q else ad j) = o.map ad := by
  cases o with
  | none => rfl
  | some j => simp only [Option.map_some, if_neg (fun e => h (congrArg some e))]
theorem am_fv_ad {ad : Nat → Nat} {h : am_H} {k q a j : Nat} {ty : FieldType} (hR : am_nr h.2.2 k) : am_fv (fun j => if j = k then q else ad j) h a ty j = am_fv ad h a ty j := by
  unfold am_fv
  cases ty <;> simp only [am_map_ne (hR _ _)]
theorem am_ce_ad {ca : FieldType → ClassId} {ad : Nat → Nat} {h : am_H} {k q a : Nat} (hR : am_nr h.2.2 k) : am_ce ca (fun j => if j = k then q else ad j) h a = am_ce ca ad h a := by
  unfold am_ce
  cases am_lay a with
  | inl x =>
    obtain ⟨ty, n⟩ := x
    cases ty <;> simp only [am_ar, am_map_ne (hR _ _)]
  | inr ci => simp only [am_fv_ad hR]
theorem am_wl_ad {ca : FieldType → ClassId} {ad : Nat → Nat} {al : List Nat} {h h' : am_H} {k q : Nat} (hk : k ∉ al) (hR : am_nr h.2.2 k) (he : ∀ a, a ≠ k → am_ce ca (fun j => if j = k then q else ad j) h' a = am_ce ca (fun j => if j = k then q else ad j) h a) : am_wl ca (fun j => if j = k then q else ad j) al h' = am_wl ca ad al h := by
  unfold am_wl
  apply List.map_congr_left
  intro a ha
  have hak : a ≠ k := fun e => hk (e ▸ ha)
  simp only [he a hak, am_ce_ad hR, if_neg hak]
section AM5
variable {M : am_M} {X : am_X} {Q : am_P} {g : am_G} {h : am_H} {pc : Nat} {l : List (Nat × Value)} {st : List Value}
theorem am_objInit {a index : Nat} (hlk : Cond.methodLink M.1.cls index Lib.objectInit ∈ lw_tbl) (hin : Cond.instanceMethod Lib.objectInit ∈ lw_tbl) (hco : Cond.code Lib.objectInit ⟨#[0xb1]⟩ 1 none ∈ lw_tbl) (hst : (st.map fun v => v.category).sum ≤ 8) (hx : 1 ≤ X.1) (hd : decode M.2.1 pc = .ok (.invokespecial index, 3)) (k : am_OK M X Q g h (pc + 3) l st) : am_OK M X Q g h pc l (.ref a :: st) := by
  intro p lc e s m args below meth c D ca ad0 A cx ad H locs ls dy hl
  have hts := cx.1.2.2.2.2
  refine W.objInit cx.1.1 cx.1.2.1 cx.1.2.2.2.1 (hts _ (am_tbl hlk)) (hts _ (am_tbl hin)) (hts _ (am_tbl hco)) rfl (by rw [cx.1.2.2.1]; exact hl.1) rfl hd hx ?_ (k p lc e s m args below meth c D ca ad0 A cx ad H locs ls dy hl)
  have := lv_room (pc := pc) (m := m) (ls := ls) (rest := []) (st := st.map (am_cv ad)) (by simpa [am_cv_cat, Function.comp_def] using hst)
  show _ + 12 ≤ 40 * X.1
  simp [am_cv_cat, Function.comp_def, JFrame.monitorRoom] at this ⊢
  omega
theorem am_maxl {x y : Int64} {index : Nat} (hlk : Cond.methodLink M.1.cls index Lib.MathLoose.max_long.x ∈ lw_tbl) (hsta : Cond.static Lib.MathLoose.max_long.x ∈ lw_tbl) (hini : Cond.initialized "java/lang/Math" ∈ lw_tbl) (hco : Cond.code Lib.MathLoose.max_long.x Lib.MathLoose.max_long.code 4 (some .long) ∈ lw_tbl) (hst : (st.map fun v => v.category).sum ≤ 8) (hx : 1 ≤ X.1) (h1 : g.2.1 ≤ X.2.1) (h2 : g.2.2 ≤ X.2.2.1) (hd : decode M.2.1 pc = .ok (.invokestatic index, 3)) (k : am_OK M X Q g h (pc + 3) l (.long (if y < x then x else y) :: st)) : am_OK M X Q g h pc l (.long y :: .long x :: st) := by
  intro p lc e s m args below meth c D ca ad0 A cx ad H locs ls dy hl
  have hts := cx.1.2.2.2.2
  refine va_mmax_long cx.1.1 cx.1.2.1 (by rw [cx.1.2.2.1]; exact hl.1.symm) cx.1.2.2.2.1 (hts _ (am_tbl hlk)) (hts _ (am_tbl hsta)) (hts _ (am_tbl hini)) (hts _ (am_tbl hco)) hx ?_ h1 h2 hd (k p lc e s m args below meth c D ca ad0 A cx ad H locs ls dy hl)
  show _ + 15 ≤ 40 * X.1
  simp [am_cv_cat, Function.comp_def] at hst ⊢
  omega
theorem am_minl {x y : Int64} {index : Nat} (hlk : Cond.methodLink M.1.cls index Lib.MathLoose.min_long.x ∈ lw_tbl) (hsta : Cond.static Lib.MathLoose.min_long.x ∈ lw_tbl) (hini : Cond.initialized "java/lang/Math" ∈ lw_tbl) (hco : Cond.code Lib.MathLoose.min_long.x Lib.MathLoose.min_long.code 4 (some .long) ∈ lw_tbl) (hst : (st.map fun v => v.category).sum ≤ 8) (hx : 1 ≤ X.1) (h1 : g.2.1 ≤ X.2.1) (h2 : g.2.2 ≤ X.2.2.1) (hd : decode M.2.1 pc = .ok (.invokestatic index, 3)) (k : am_OK M X Q g h (pc + 3) l (.long (if y < x then y else x) :: st)) : am_OK M X Q g h pc l (.long y :: .long x :: st) := by
  intro p lc e s m args below meth c D ca ad0 A cx ad H locs ls dy hl
  have hts := cx.1.2.2.2.2
  refine va_mmin_long cx.1.1 cx.1.2.1 (by rw [cx.1.2.2.1]; exact hl.1.symm) cx.1.2.2.2.1 (hts _ (am_tbl hlk)) (hts _ (am_tbl hsta)) (hts _ (am_tbl hini)) (hts _ (am_tbl hco)) hx ?_ h1 h2 hd (k p lc e s m args below meth c D ca ad0 A cx ad H locs ls dy hl)
  show _ + 15 ≤ 40 * X.1
  simp [am_cv_cat, Function.comp_def] at hst ⊢
  omega
theorem am_copyi {I : Nat → Nat → Int32} {L : Nat → Nat → Int64} {R : Nat → Nat → Option Nat} {src dst n index : Nat} {N : Int32} (hs : am_lay src = .inl (.int, n)) (hds : am_lay dst = .inl (.int, n)) (ha : src ∈ g.1) (hb : dst ∈ g.1) (hN : ¬ N < 0) (hn : N.toNatClampNeg = n) (hlk : Cond.methodLink M.1.cls index arraycopyName ∈ lw_tbl) (hnat : Cond.native arraycopyName ∈ lw_tbl) (hsta : Cond.static arraycopyName ∈ lw_tbl) (hini : Cond.initialized "java/lang/System" ∈ lw_tbl) (hst : (st.map fun v => v.category).sum ≤ 8) (hx : 1 ≤ X.1) (hd : decode M.2.1 pc = .ok (.invokestatic index, 3))
    (k : am_OK M X Q g (am_cp I dst src n, L, R) (pc + 3) l st) : am_OK M X Q g (I, L, R) pc l (.int N :: .int 0 :: .ref dst :: .int 0 :: .ref src :: st) := by
  intro p lc e s m args below meth c D ca ad0 A cx ad H locs ls dy hl
  have hts := cx.1.2.2.2.2
  subst hn
  obtain ⟨q0, hq0, he0⟩ := am_wl_at (ca := ca) (ad := ad) (h := (I, L, R)) ha
  obtain ⟨q1, hq1, he1⟩ := am_wl_at (ca := ca) (ad := ad) (h := (I, L, R)) hb
  rw [am_ce_a hs] at he0
  rw [am_ce_a hds] at he1
  refine va_copyi cx.1.1 cx.1.2.1 (by rw [cx.1.2.2.1]; exact hl.1.symm) cx.1.2.2.2.1 (hts _ (am_tbl hlk)) (hts _ (am_tbl hnat)) (hts _ (am_tbl hsta)) (hts _ (am_tbl hini)) cx.2.2.2.1 dy.2.2.1 dy.2.2.2.1 dy.2.2.2.2 q0 q1 0 0 he0 he1 rfl rfl rfl (by decide) (by decide) hN (by rw [show (0 : Int32).toNatClampNeg = 0 from rfl]; omega) (by rw [show (0 : Int32).toNatClampNeg = 0 from rfl]; omega) (fun _ _ => rfl) hx ?_ hd (fun H1 locs1 hP1 hD1 hS1 => ?_)
  · show _ + _ ≤ 40 * X.1
    simp [am_cv_cat, Function.comp_def] at hst ⊢
    have h20 : nativeFrameWords "java/lang/System" "arraycopy" 5 + 11 ≤ 30 := by decide +kernel
    omega
  · have he : ∀ k, k ≠ dst → am_ce ca ad (am_cp I dst src N.toNatClampNeg, L, R) k = am_ce ca ad (I, L, R) k := fun k hk => am_ce_same fun i => ⟨by simp [am_cp, hk], rfl, rfl⟩
    have hx : ((N.toNatClampNeg, .inl (va_cpy (I src) (I dst) (0 : Int32).toNatClampNeg (0 : Int32).toNatClampNeg N.toNatClampNeg)) : vp_A) = am_ar ad (am_cp I dst src N.toNatClampNeg, L, R) dst .int N.toNatClampNeg := by
      simp only [am_ar, Prod.mk.injEq, true_and, Sum.inl.injEq]
      funext b
      simp [va_cpy, am_cp]
    have hset := am_arr_set (ca := ca) (ad := ad) (h := (I, L, R)) hds dy.1 hq1 he hx
    have hP2 := hset ▸ hP1
    have hD2 := hset ▸ hD1
    exact k p lc e s m args below meth c D ca ad0 A cx ad H1 locs1 ls ⟨dy.1, dy.2.1, hP2, hD2, hS1⟩ hl
theorem am_copyl {I : Nat → Nat → Int32} {L : Nat → Nat → Int64} {R : Nat → Nat → Option Nat} {src dst n index : Nat} {N : Int32} (hs : am_lay src = .inl (.long, n)) (hds : am_lay dst = .inl (.long, n)) (ha : src ∈ g.1) (hb : dst ∈ g.1) (hN : ¬ N < 0) (hn : N.toNatClampNeg = n) (hlk : Cond.methodLink M.1.cls index arraycopyName ∈ lw_tbl) (hnat : Cond.native arraycopyName ∈ lw_tbl) (hsta : Cond.static arraycopyName ∈ lw_tbl) (hini : Cond.initialized "java/lang/System" ∈ lw_tbl) (hst : (st.map fun v => v.category).sum ≤ 8) (hx : 1 ≤ X.1) (hd : decode M.2.1 pc = .ok (.invokestatic index, 3))
    (k : am_OK M X Q g (I, am_cp L dst src n, R) (pc + 3) l st) : am_OK M X Q g (I, L, R) pc l (.int N :: .int 0 :: .ref dst :: .int 0 :: .ref src :: st) := by
  intro p lc e s m args below meth c D ca ad0 A cx ad H locs ls dy hl
  have hts := cx.1.2.2.2.2
  subst hn
  obtain ⟨q0, hq0, he0⟩ := am_wl_at (ca := ca) (ad := ad) (h := (I, L, R)) ha
  obtain ⟨q1, hq1, he1⟩ := am_wl_at (ca := ca) (ad := ad) (h := (I, L, R)) hb
  rw [am_ce_a hs] at he0
  rw [am_ce_a hds] at he1
  refine va_copyl cx.1.1 cx.1.2.1 (by rw [cx.1.2.2.1]; exact hl.1.symm) cx.1.2.2.2.1 (hts _ (am_tbl hlk)) (hts _ (am_tbl hnat)) (hts _ (am_tbl hsta)) (hts _ (am_tbl hini)) cx.2.2.2.1 dy.2.2.1 dy.2.2.2.1 dy.2.2.2.2 q0 q1 1 1 he0 he1 rfl rfl rfl (by decide) (by decide) hN (by rw [show (0 : Int32).toNatClampNeg = 0 from rfl]; omega) (by rw [show (0 : Int32).toNatClampNeg = 0 from rfl]; omega) (fun _ _ => rfl) hx ?_ hd (fun H1 locs1 hP1 hD1 hS1 => ?_)
  · show _ + _ ≤ 40 * X.1
    simp [am_cv_cat, Function.comp_def] at hst ⊢
    have h20 : nativeFrameWords "java/lang/System" "arraycopy" 5 + 11 ≤ 30 := by decide +kernel
    omega
  · have he : ∀ k, k ≠ dst → am_ce ca ad (I, am_cp L dst src N.toNatClampNeg, R) k = am_ce ca ad (I, L, R) k := fun k hk => am_ce_same fun i => ⟨rfl, by simp [am_cp, hk], rfl⟩
    have hx : ((N.toNatClampNeg, .inr (.inl (va_cpy (L src) (L dst) (0 : Int32).toNatClampNeg (0 : Int32).toNatClampNeg N.toNatClampNeg))) : vp_A) = am_ar ad (I, am_cp L dst src N.toNatClampNeg, R) dst .long N.toNatClampNeg := by
      simp only [am_ar, Prod.mk.injEq, true_and, Sum.inl.injEq, Sum.inr.injEq]
      funext b
      simp [va_cpy, am_cp]
    have hset := am_arr_set (ca := ca) (ad := ad) (h := (I, L, R)) hds dy.1 hq1 he hx
    have hP2 := hset ▸ hP1
    have hD2 := hset ▸ hD1
    exact k p lc e s m args below meth c D ca ad0 A cx ad H1 locs1 ls ⟨dy.1, dy.2.1, hP2, hD2, hS1⟩ hl
end AM5
