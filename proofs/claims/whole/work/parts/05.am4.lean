/-! calls; a contract's start; what the tables say of all words -/
theorem am_F.kept {ad0 ad : Nat → Nat} {A B : Nat → Prop} {s U : State} {H0 H : Heap} (h : am_F ad0 A s H0) (hW : s.WarmedH U.vm) (h9 : ad 900 = ad0 900) (hq : ∀ a : Nat, a < H0.size → ¬ A a → H[a]? = H0[a]?) (hB : ∀ q, B q → A q) : am_F ad B U H := by
  obtain ⟨h1, h2, ⟨aV, h3⟩, h4, h5⟩ := h
  refine ⟨va_AO.moved hW.alike h1, by rw [h9]; exact h2.warm hW, ⟨aV, ?_⟩, ((h4.moved hW.alike).kept hq).narrow hB, fun q hq => (h5 q hq).warmM hW⟩
  rw [h9]
  exact ((h3.moved hW.alike).kept hq).narrow hB
theorem am_F.same {ad : Nat → Nat} {A : Nat → Prop} {u U : State} {H : Heap} (h : am_F ad A u H) (hv : U.vm = u.vm) : am_F ad A U H := by
  obtain ⟨h1, h2, ⟨aV, h3⟩, h4, h5⟩ := h
  have ha : u.vm.Alike U.vm := by rw [hv]; exact Vm.Alike.refl _
  exact ⟨va_AO.moved ha h1, h2.same hv, ⟨aV, h3.moved ha⟩, h4.moved ha, fun q hq => (h5 q hq).same rfl hv.symm⟩
theorem am_goodIn {M N : am_M} (h : Cond.code N.1 N.2.1 N.2.2.1 N.2.2.2 ∈ lw_tbl) : GoodIn (am_ws M) (am_ws N) := by
  intro w hw
  have hw' : w ∈ lw_tbl ∧ goodWord w = true := by
    rcases List.mem_cons.mp hw with e | e
    · rw [e]; exact ⟨h, rfl⟩
    · exact List.mem_filter.mp e
  exact ⟨am_tbl hw'.1 hw'.2, good_of_word hw'.2⟩
theorem am_args_cl (ad : Nat → Nat) : ∀ (as : List Value) (i : Nat), lv_args i (as.map (am_cv ad)) = am_cl ad (lv_args i as) := by
  intro as
  induction as with
  | nil => intro i; rfl
  | cons v t ih =>
    intro i
    show (i, am_cv ad v) :: lv_args (if (am_cv ad v).category = 2 then i + 2 else i + 1) (t.map (am_cv ad)) = _
    rw [ih, am_cv_cat]
    rfl
theorem am_sl_len (ad : Nat → Nat) (as : List Value) : (lg_sl (as.map (am_cv ad))).length = (lg_sl as).length := by
  induction as with
  | nil => rfl
  | cons v t ih =>
    simp only [lg_sl, List.map_cons, List.flatMap_cons, List.length_append, am_cv_cat] at ih ⊢
    rw [ih]
    split <;> rfl
theorem am_intro {M : am_M} {d mc ms : Nat} {Z : Nat → Prop} {al : List Nat} {as : List Value} {h : am_H} {Q : am_P} (hy : plainName M.1.cls = true) (hs : (lg_sl as).length ≤ M.2.2.1) (k : am_OK M (d, mc, ms, Z) Q (al, 0, 0) h 0 (lv_args 0 as) []) : am_C M d mc ms Z al as h Q := by
  intro lc D ca ad sz hn
  refine Met.ofW (cc := M.2.1) (maxL := M.2.2.1) (ret := M.2.2.2) hy rfl ?_
  intro p e s m args below meth c s₁ B hml hv
  obtain ⟨rfl, hsz, hP, hK, hD0, hF⟩ := hv
  have hts := atoms_spec (ws := am_ws M) B.pre
  have hown : s.vm.findClass M.1.cls = some m.cls := findClass_of_methodNamed B.named
  subst hsz
  have hD := hD0.self (sz := s.heap.size)
  have hl := lv_entry (as.map (am_cv ad)) (n := M.2.2.1) (by rw [am_sl_len]; exact hs)
  rw [lg_entry_eq]
  rw [am_args_cl] at hl
  exact k p lc e s m _ below meth c D ca ad _ ⟨⟨B.exec, B.bytes, hml, hown, hts⟩, B.returns, B.notSynchronized, hK, fun q h => Or.inr h, (name_of_methodNamed B.named B.method).1, hF⟩ ad _ [] _ ⟨hn, fun _ _ => rfl, hP, hD, va_S.rf⟩ hl
section AM4
variable {M : am_M} {X : am_X} {Q : am_P} {g : am_G} {h : am_H} {pc : Nat} {l : List (Nat × Value)} {st : List Value}
/-- what a caller needs of the callee's post: references on its stack and in its locals stay what they are -/
def am_keep (Z : Nat → Prop) (l : List (Nat × Value)) (st : List Value) : Prop := (∀ q ∈ l, ∀ k, q.2 = .ref k → Z k) ∧ ∀ v ∈ st, ∀ k, v = .ref k → Z k
theorem am_cv_keep {ad ad' : Nat → Nat} {Z : Nat → Prop} (ha : am_ag Z ad' ad) {v : Value} (hv : ∀ k, v = .ref k → Z k) : am_cv ad' v = am_cv ad v := by
  cases v with
  | ref k => simp only [am_cv, ha k (Or.inr (hv k rfl))]
  | _ => rfl
theorem am_inA {p : Program} {s : State} {m : MethodId} {args : Array Value} {meth : Method} {c : Code} {D : va_G} {ca : FieldType → ClassId} {ad0 : Nat → Nat} {A : Nat → Prop} (cx : am_CX M p s m args meth c D ca ad0 A) {ad : Nat → Nat} {H : Heap} {locs : List Loc} {Z : Nat → Prop} {al : List Nat} (dy : am_DY M s D ca ad0 Z A al h ad H locs) : ∀ q, va_A (am_wl ca ad al h) H.size q → A q := by
  intro q hq
  rcases hq with ⟨k, e, hq⟩ | hq
  · exact dy.2.2.2.1.2 k (q, e) hq
  · exact cx.2.2.2.2.1 q (Nat.le_trans dy.2.2.2.2.1 hq)
theorem am_FU {p : Program} {s U : State} {m : MethodId} {args : Array Value} {meth : Method} {c : Code} {D : va_G} {ca : FieldType → ClassId} {ad0 : Nat → Nat} {A : Nat → Prop} (cx : am_CX M p s m args meth c D ca ad0 A) {ad : Nat → Nat} {H : Heap} {locs : List Loc} {Z : Nat → Prop} {al : List Nat} (dy : am_DY M s D ca ad0 Z A al h ad H locs) (hU : U.heap = H) (hW : s.WarmedH U.vm) : am_F ad (va_A (am_wl ca ad al h) H.size) U U.heap :=
  am_F.kept cx.2.2.2.2.2.2 hW (dy.2.1 900 (Or.inl rfl)) (fun q h1 h2 => by rw [hU]; exact dy.2.2.2.2.2.1 q h1 h2) (am_inA cx dy)
theorem am_back {Z' : Nat → Prop} {mc' ms' : Nat} {st0 : List Value} {Q' : am_P} (hkeep : am_keep Z' l st) (hZ : ∀ k, X.2.2.2 k → Z' k)
    (k : ∀ (r : Option Value) (h' : am_H) (al' : List Nat), Q' r h' al' → am_OK M X Q (al', g.2.1 + mc', g.2.2 + ms') h' (pc + 3) l (r.toList ++ st))
    {p : Program} {lc : Launch} {e : Env} {s : State} {m : MethodId} {args : Array Value} {below : List Frame} {meth : Method} {c : Code} {D : va_G} {ca : FieldType → ClassId} {ad0 : Nat → Nat} {A : Nat → Prop} (cx : am_CX M p s m args meth c D ca ad0 A) {ad : Nat → Nat} {H : Heap} {locs : List Loc} {ls : Array Slot} {a : Array Value}
    (dy : am_DY M s D ca ad0 X.2.2.2 A g.1 h ad H locs) (hl : lv_has ls M.2.2.1 (am_cl ad l))
    (hr : va_Run p lc e (am_rm X.1 X.2.1 X.2.2.1) s m args below meth c H locs g.2.1 g.2.2 mc' ms' (F0 m pc ls st0) (st.map (am_cv ad)) (am_Qc D ca ad Z' (va_A (am_wl ca ad g.1 h) H.size) Q' a) (va_A (am_wl ca ad g.1 h) H.size)) :
    W p lc e (am_rm X.1 X.2.1 X.2.2.1) s m args below meth c H locs g.2.1 g.2.2 (MQ below (am_Qc D ca ad0 X.2.2.2 A Q) args s X.2.1 X.2.2.1 A) (F0 m pc ls st0) := by
  intro T hT XS
  obtain ⟨v, st₀, t, T', L, h0, X', hL, e1, e2, ⟨⟨r, h', al', ad', hv, hq, hnd, hag, hP', hD'⟩, hz, hk⟩, stp⟩ := hr T hT XS
  cases hv
  rw [h0] at hz hk
  have hF := am_inA cx dy
  have hcl : am_cl ad' l = am_cl ad l := by
    unfold am_cl
    apply List.map_congr_left
    intro q hq
    rw [am_cv_keep hag (hkeep.1 q hq)]
  have hst : st.map (am_cv ad') = st.map (am_cv ad) := List.map_congr_left fun v hv => am_cv_keep hag (hkeep.2 v hv)
  have hstk : (Option.map (am_cv ad') r).toList ++ st.map (am_cv ad) = (r.toList ++ st).map (am_cv ad') := by
    rw [← hst]
    cases r <;> rfl
  obtain ⟨t2, a1, b1⟩ := k r h' al' hq p lc e s m args below meth c D ca ad0 A cx ad' T'.heap (locs ++ L) ls
    ⟨hnd, fun k hk => (hag k (hk.imp_right (hZ k))).trans (dy.2.1 k hk), by rw [e1]; exact hP', hD'.weaken (fun k q _ hq => hF q.1 hq),
      ⟨Nat.le_trans dy.2.2.2.2.1 (by rw [e1]; exact hz), fun q h1 h2 => by rw [e1, hk q (Nat.lt_of_lt_of_le h1 dy.2.2.2.2.1) (fun z => h2 (hF q z))]; exact dy.2.2.2.2.2.1 q h1 h2, fun q hq => by
        rcases List.mem_append.mp hq with h | h
        · exact dy.2.2.2.2.2.2 q h
        · exact hF _ (hL q h)⟩⟩ (by rw [hcl]; exact hl) T' rfl X'
  rw [← hstk] at a1
  exact ⟨t2, stp t2 a1, b1⟩
theorem am_blind {D : va_G} {ca : FieldType → ClassId} {ad : Nat → Nat} {al : List Nat} {av : List Value} {sz : Nat} : FrameBlind (va_Pc av (fun U => U.heap.size = sz ∧ va_P D vwCl (am_wl ca ad al h) U.heap ∧ va_K D vwCl (am_TY ca) U ∧ va_D (fun _ => True) (am_wl ca ad al h) ∧ am_F ad (va_A (am_wl ca ad al h) sz) U U.heap)) :=
  fun a U g mk q => by obtain ⟨q0, q1, qP, qK, qD, qF⟩ := q; exact ⟨q0, q1, qP, va_K.moved (u := U) (U := U.calling g mk a) (Vm.Alike.refl U.vm) qK, qD, qF.same rfl⟩
/-- what a call's word list, its number of arguments, its room must be -/
def am_cwd (N : am_M) (n : Nat) : Prop := Cond.code N.1 N.2.1 N.2.2.1 N.2.2.2 ∈ lw_tbl ∧ Cond.initialized N.1.cls ∈ lw_tbl ∧ (N.1.cls ≠ "java/lang/invoke/MethodHandle" ∧ N.1.cls ≠ "java/lang/invoke/VarHandle" ∧ (parseMethodDescriptor N.1.desc).map (fun d => d.parameters.length) = some n) ∧ N.2.2.1 ≤ 20
theorem am_callB {N : am_M} {d' mc' ms' n index : Nat} (hw : am_cwd N n) (hlk : Cond.methodLink M.1.cls index N.1 ∈ lw_tbl) (hd : d' + 1 ≤ X.1)
    {p : Program} {s : State} {m : MethodId} {args : Array Value} {meth : Method} {c : Code} {D : va_G} {ca : FieldType → ClassId} {ad0 : Nat → Nat} {A : Nat → Prop} (cx : am_CX M p s m args meth c D ca ad0 A) :
    CallB (am_rm X.1 X.2.1 X.2.2.1) s args M.1.cls index N.1 N.2.1 N.2.2.1 N.2.2.2 (am_ws N) (am_rm d' mc' ms') mc' ms' n := by
  refine callB_of (Ts := am_ws M) n cx.1.2.2.2.2 (am_goodIn hw.1) rfl rfl rfl (cx.1.2.2.2.2 _ (am_tbl hw.2.1)) (cx.1.2.2.2.2 _ (am_tbl hlk)) hw.2.2.1 ⟨hd, ?_⟩
  show 8 + (N.2.2.1 + 11) + 40 * d' ≤ 40 * X.1
  have := hw.2.2.2
  omega
theorem am_invV {N : am_M} {Z' : Nat → Prop} {d' mc' ms' n index b ci : Nat} {C : String} {T : u_T} {NN : Nat} {as : List Value} {Q' : am_P} (hM : am_C N d' mc' ms' Z' g.1 (.ref b :: as) h Q') (hw : am_cwd N n) (hlk : Cond.methodLink M.1.cls index N.1 ∈ lw_tbl) (hin : Cond.instanceMethod N.1 ∈ lw_tbl) (hse : Cond.selects N.1.cls N.1 N.1 ∈ lw_tbl) (hcl : am_cls ci C T NN) (hC : N.1.cls = C) (hy : am_lay b = .inr ci) (hb : b ∈ g.1) (hn : as.length = n) (hd' : d' + 1 ≤ X.1) (hmc : g.2.1 + mc' ≤ X.2.1) (hms : g.2.2 + ms' ≤ X.2.2.1)
    (hst : (st.map fun v => v.category).sum ≤ 8) (hkeep : am_keep Z' l st) (hZ : ∀ k, X.2.2.2 k → Z' k) (hd : decode M.2.1 pc = .ok (.invokevirtual index, 3))
    (k : ∀ (r : Option Value) (h' : am_H) (al' : List Nat), Q' r h' al' → am_OK M X Q (al', g.2.1 + mc', g.2.2 + ms') h' (pc + 3) l (r.toList ++ st)) : am_OK M X Q g h pc l (as.reverse ++ .ref b :: st) := by
  intro p lc e s m args below meth c D ca ad0 A cx ad H locs ls dy hl
  obtain ⟨q0, hq, he⟩ := am_wl_at (ca := ca) (ad := ad) (h := h) hb
  rw [am_ce_o hy] at he
  have hts := cx.1.2.2.2.2
  refine am_back hkeep hZ k cx dy hl (va_runV (C := C) (b := ad b) (As := as.map (am_cv ad)) cx.1 (hM lc D ca ad H.size dy.1) ⟨am_callB hw hlk hd' cx, hts _ (am_tbl hin), hts _ (am_tbl (by rw [← hC]; exact hse))⟩ ⟨am_blind, va_recv cx.2.2.2.1 dy.2.2.1 hcl.1 he, fun U hU hW => ⟨by simp [am_cv], by rw [hU], by rw [hU]; exact dy.2.2.1, va_K.moved hW.alike cx.2.2.2.1, dy.2.2.2.1.weaken (fun _ _ _ _ => trivial), am_FU cx dy hU hW⟩⟩ rfl (by simp [hn]) hl.1 (by simp [am_cv]) (lv_room (by simpa [am_cv_cat, Function.comp_def] using hst)) hd ⟨hmc, hms⟩)
theorem am_invS {N : am_M} {Z' : Nat → Prop} {d' mc' ms' n index : Nat} {as : List Value} {Q' : am_P} (hM : am_C N d' mc' ms' Z' g.1 as h Q') (hw : am_cwd N n) (hlk : Cond.methodLink M.1.cls index N.1 ∈ lw_tbl) (hsta : Cond.static N.1 ∈ lw_tbl) (hn : as.length = n) (hd' : d' + 1 ≤ X.1) (hmc : g.2.1 + mc' ≤ X.2.1) (hms : g.2.2 + ms' ≤ X.2.2.1)
    (hst : (st.map fun v => v.category).sum ≤ 8) (hkeep : am_keep Z' l st) (hZ : ∀ k, X.2.2.2 k → Z' k) (hd : decode M.2.1 pc = .ok (.invokestatic index, 3))
    (k : ∀ (r : Option Value) (h' : am_H) (al' : List Nat), Q' r h' al' → am_OK M X Q (al', g.2.1 + mc', g.2.2 + ms') h' (pc + 3) l (r.toList ++ st)) : am_OK M X Q g h pc l (as.reverse ++ st) := by
  intro p lc e s m args below meth c D ca ad0 A cx ad H locs ls dy hl
  have hts := cx.1.2.2.2.2
  refine am_back hkeep hZ k cx dy hl (va_runS (As := as.map (am_cv ad)) cx.1 (hM lc D ca ad H.size dy.1) ⟨am_callB hw hlk hd' cx, hts _ (am_tbl hsta)⟩ ⟨am_blind, fun U hU hW => ⟨by simp, by rw [hU], by rw [hU]; exact dy.2.2.1, va_K.moved hW.alike cx.2.2.2.1, dy.2.2.2.1.weaken (fun _ _ _ _ => trivial), am_FU cx dy hU hW⟩⟩ rfl (by simp [hn]) hl.1 (by simp) (lv_room (by simpa [am_cv_cat, Function.comp_def] using hst)) hd ⟨hmc, hms⟩)
theorem am_invI {N : am_M} {Z' : Nat → Prop} {d' mc' ms' n index b : Nat} {as : List Value} {Q' : am_P} (hM : am_C N d' mc' ms' Z' g.1 (.ref b :: as) h Q') (hw : am_cwd N n) (hret : N.2.2.2 = none) (hlk : Cond.methodLink M.1.cls index N.1 ∈ lw_tbl) (hin : Cond.instanceMethod N.1 ∈ lw_tbl) (hy1 : N.1.name = "<init>") (hn : as.length = n) (hd' : d' + 1 ≤ X.1) (hmc : g.2.1 + mc' ≤ X.2.1) (hms : g.2.2 + ms' ≤ X.2.2.1)
    (hst : (st.map fun v => v.category).sum ≤ 8) (hkeep : am_keep Z' l st) (hZ : ∀ k, X.2.2.2 k → Z' k) (hd : decode M.2.1 pc = .ok (.invokespecial index, 3))
    (k : ∀ (r : Option Value) (h' : am_H) (al' : List Nat), Q' r h' al' → am_OK M X Q (al', g.2.1 + mc', g.2.2 + ms') h' (pc + 3) l (r.toList ++ st)) : am_OK M X Q g h pc l (as.reverse ++ .ref b :: st) := by
  intro p lc e s m args below meth c D ca ad0 A cx ad H locs ls dy hl
  have hts := cx.1.2.2.2.2
  have hB := am_callB (mc' := mc') (ms' := ms') hw hlk hd' cx
  rw [hret] at hB
  refine am_back hkeep hZ k cx dy hl (va_runI (b := ad b) (As := as.map (am_cv ad)) cx.1 (hM lc D ca ad H.size dy.1) ⟨hB, hy1, hts _ (am_tbl hin)⟩ ⟨am_blind, fun U hU hW => ⟨by simp [am_cv], by rw [hU], by rw [hU]; exact dy.2.2.1, va_K.moved hW.alike cx.2.2.2.1, dy.2.2.2.1.weaken (fun _ _ _ _ => trivial), am_FU cx dy hU hW⟩⟩ rfl (by simp [hn]) hl.1 (by simp [am_cv]) (lv_room (by simpa [am_cv_cat, Function.comp_def] using hst)) hd ⟨hmc, hms⟩)
end AM4
