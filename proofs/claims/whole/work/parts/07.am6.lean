section AM6
variable {M : am_M} {X : am_X} {Q : am_P} {g : am_G} {h : am_H} {pc : Nat} {l : List (Nat × Value)} {st : List Value}
theorem am_callN {N : am_M} {d' mc' ms' n index : Nat} {host : String} (hw : am_cwd N n) (hlk : (M.1.cls, index, N.1, host) ∈ am_nest) (hd : d' + 1 ≤ X.1)
    {p : Program} {s : State} {m : MethodId} {args : Array Value} {meth : Method} {c : Code} {D : va_G} {ca : FieldType → ClassId} {ad0 : Nat → Nat} {A : Nat → Prop} (cx : am_CX M p s m args meth c D ca ad0 A) :
    va_CN (am_rm X.1 X.2.1 X.2.2.1) s args M.1.cls index N.1 host N.2.1 N.2.2.1 N.2.2.2 (am_ws N) (am_rm d' mc' ms') mc' ms' n := by
  refine va_cnB (Ts := am_ws M) n cx.1.2.2.2.2 (am_goodIn hw.1) rfl rfl rfl (cx.2.2.2.2.2.2.2.2.2.2 _ hlk) (cx.1.2.2.2.2 _ (am_tbl hw.2.1)) hw.2.2.1 ⟨hd, ?_⟩
  show 8 + (N.2.2.1 + 11) + 40 * d' ≤ 40 * X.1
  have := hw.2.2.2
  omega
theorem am_invSN {N : am_M} {Z' : Nat → Prop} {d' mc' ms' n index : Nat} {host : String} {as : List Value} {Q' : am_P} (hM : am_C N d' mc' ms' Z' g.1 as h Q') (hw : am_cwd N n) (hlk : (M.1.cls, index, N.1, host) ∈ am_nest) (hsta : Cond.static N.1 ∈ lw_tbl) (hn : as.length = n) (hd' : d' + 1 ≤ X.1) (hmc : g.2.1 + mc' ≤ X.2.1) (hms : g.2.2 + ms' ≤ X.2.2.1)
    (hst : (st.map fun v => v.category).sum ≤ 8) (hkeep : am_keep Z' l st) (hZ : ∀ k, X.2.2.2 k → Z' k) (hd : decode M.2.1 pc = .ok (.invokestatic index, 3))
    (k : ∀ (r : Option Value) (h' : am_H) (al' : List Nat), Q' r h' al' → am_OK M X Q (al', g.2.1 + mc', g.2.2 + ms') h' (pc + 3) l (r.toList ++ st)) : am_OK M X Q g h pc l (as.reverse ++ st) := by
  intro p lc e s m args below meth c D ca ad0 A cx ad H locs ls dy hl
  have hts := cx.1.2.2.2.2
  refine am_back hkeep hZ k cx dy hl (va_runSN (As := as.map (am_cv ad)) cx.1 (hM lc D ca ad H.size dy.1) ⟨am_callN hw hlk hd' cx, hts _ (am_tbl hsta), trivial⟩ ⟨am_blind, fun U hU hW => ⟨by simp, by rw [hU], by rw [hU]; exact dy.2.2.1, va_K.moved hW.alike cx.2.2.2.1, dy.2.2.2.1.weaken (fun _ _ _ _ => trivial), am_FU cx dy hU hW⟩⟩ rfl (by simp [hn]) hl.1 (by simp) (lv_room (by simpa [am_cv_cat, Function.comp_def] using hst)) hd ⟨hmc, hms⟩)
theorem am_invIN {N : am_M} {Z' : Nat → Prop} {d' mc' ms' n index b : Nat} {host : String} {as : List Value} {Q' : am_P} (hM : am_C N d' mc' ms' Z' g.1 (.ref b :: as) h Q') (hw : am_cwd N n) (hret : N.2.2.2 = none) (hlk : (M.1.cls, index, N.1, host) ∈ am_nest) (hin : Cond.instanceMethod N.1 ∈ lw_tbl) (hy1 : N.1.name = "<init>") (hn : as.length = n) (hd' : d' + 1 ≤ X.1) (hmc : g.2.1 + mc' ≤ X.2.1) (hms : g.2.2 + ms' ≤ X.2.2.1)
    (hst : (st.map fun v => v.category).sum ≤ 8) (hkeep : am_keep Z' l st) (hZ : ∀ k, X.2.2.2 k → Z' k) (hd : decode M.2.1 pc = .ok (.invokespecial index, 3))
    (k : ∀ (r : Option Value) (h' : am_H) (al' : List Nat), Q' r h' al' → am_OK M X Q (al', g.2.1 + mc', g.2.2 + ms') h' (pc + 3) l (r.toList ++ st)) : am_OK M X Q g h pc l (as.reverse ++ .ref b :: st) := by
  intro p lc e s m args below meth c D ca ad0 A cx ad H locs ls dy hl
  have hts := cx.1.2.2.2.2
  have hB := am_callN (mc' := mc') (ms' := ms') hw hlk hd' cx
  rw [hret] at hB
  refine am_back hkeep hZ k cx dy hl (va_runIN (b := ad b) (As := as.map (am_cv ad)) cx.1 (hM lc D ca ad H.size dy.1) ⟨hB, hy1, hts _ (am_tbl hin)⟩ ⟨am_blind, fun U hU hW => ⟨by simp [am_cv], by rw [hU], by rw [hU]; exact dy.2.2.1, va_K.moved hW.alike cx.2.2.2.1, dy.2.2.2.1.weaken (fun _ _ _ _ => trivial), am_FU cx dy hU hW⟩⟩ rfl (by simp [hn]) hl.1 (by simp [am_cv]) (lv_room (by simpa [am_cv_cat, Function.comp_def] using hst)) hd ⟨hmc, hms⟩)
theorem am_putF {h' : am_H} {a ci j index : Nat} {C : String} {T : u_T} {N : Nat} {w : Value} (hc : am_cls ci C T N) (hy : am_lay a = .inr ci) (ha : a ∈ g.1) (hj : j < N) (hb : am_but h h' a j) (hw : ∀ ad, am_fv ad h' a (am_ty ci j) j = am_cv ad w) (hfin : (T j).2.2.2 = true) (hni : M.1.name = "<init>") (hdecl : (T j).1 = M.1.cls) (hfit : ∀ ad, narrow (am_ty ci j) (am_cv ad w) = am_cv ad w ∧ fits (am_ty ci j) (am_cv ad w) = true) (hlk : Cond.fieldLink M.1.cls index (T j).1 (T j).2.1 (T j).2.2.1 ∈ lw_tbl) (hd : decode M.2.1 pc = .ok (.putfield index, 3)) (k : am_OK M X Q g h' (pc + 3) l st) : am_OK M X Q g h pc l (w :: .ref a :: st) := by
  intro p lc e s m args below meth c D ca ad0 A cx ad H locs ls dy hl
  obtain ⟨q0, hq, he⟩ := am_wl_at (ca := ca) (ad := ad) (h := h) ha
  rw [am_ce_o hy, hc.2.1] at he
  refine va_putF (D := D) cx.1.1 cx.1.2.1 (Ts := am_ws M) cx.1.2.2.2.2 (fun w hw => am_tbl (hc.2.2.2.2 w hw) (am_uws hw)) (am_ty ci) hc.2.2.1 hc.2.2.2.1 cx.1.2.2.2.1 cx.2.2.2.1 dy.2.2.1 dy.2.2.2.1 dy.2.2.2.2 q0 he hc.1 j hj (cx.1.2.2.2.2 _ (am_tbl hlk)) (fun _ h9 => h9) hfin (cx.2.2.2.2.2.1.trans hni) hdecl (hc.2.2.1 j hj) (hfit ad).1 (hfit ad).2 (by simpa using hj) hd (fun H1 locs1 hP1 hD1 hS1 => ?_)
  have hset : (am_wl ca ad g.1 h).set q0 (ad a, .inr (ci, ((List.range N).map fun i => am_fv ad h a (am_ty ci i) i).set j (am_cv ad w))) = am_wl ca ad g.1 h' := by
    rw [am_fs_set hb (hw ad), ← hc.2.1, ← am_ce_o hy]
    exact am_wl_set dy.1 hq (am_but_ce hb)
  rw [hset] at hP1 hD1
  exact k p lc e s m args below meth c D ca ad0 A cx ad H1 locs1 ls ⟨dy.1, dy.2.1, hP1, hD1, hS1⟩ hl
/-- references on the stack and in the locals are other places than k -/
def am_nor (k : Nat) (l : List (Nat × Value)) (st : List Value) : Prop := (∀ q ∈ l, q.2 ≠ .ref k) ∧ ∀ v ∈ st, v ≠ .ref k
theorem am_cv_ad {ad : Nat → Nat} {k q : Nat} {v : Value} (hv : v ≠ .ref k) : am_cv (fun j => if j = k then q else ad j) v = am_cv ad v := by
  cases v with
  | ref a => simp only [am_cv, if_neg (fun e => hv (congrArg Value.ref e))]
  | _ => rfl
theorem am_dy_new {s : State} {D : va_G} {ca : FieldType → ClassId} {ad0 : Nat → Nat} {Z : Nat → Prop} {A : Nat → Prop} {al : List Nat} {h h' : am_H} {ad : Nat → Nat} {H H1 : Heap} {locs : List Loc} {k q : Nat} (dy : am_DY M s D ca ad0 Z A al h ad H locs) (hk : k ∉ al) (hk9 : k ≠ 900) (hZ : ¬ Z k) (hw : am_wl ca (fun j => if j = k then q else ad j) (al ++ [k]) h' = am_wl ca ad al h ++ [(q, am_ce ca (fun j => if j = k then q else ad j) h' k)]) (hP : va_P D vwCl (am_wl ca ad al h ++ [(q, am_ce ca (fun j => if j = k then q else ad j) h' k)]) H1) (hD : va_D A (am_wl ca ad al h ++ [(q, am_ce ca (fun j => if j = k then q else ad j) h' k)])) (hS : va_S A s.heap H1 locs) : am_DY M s D ca ad0 Z A (al ++ [k]) h' (fun j => if j = k then q else ad j) H1 locs := by
  refine ⟨?_, fun j hj => ?_, by rw [hw]; exact hP, by rw [hw]; exact hD, hS⟩
  · rw [List.nodup_append]
    refine ⟨dy.1, by simp, fun a ha b hb => ?_⟩
    rw [List.mem_singleton] at hb
    subst hb
    exact fun e => hk (e ▸ ha)
  · have hjk : j ≠ k := by
      rintro rfl
      rcases hj with e | e
      · exact hk9 e
      · exact hZ e
    simp only [if_neg hjk]
    exact dy.2.1 j hj
theorem am_cl_ad {ad : Nat → Nat} {k q : Nat} {l : List (Nat × Value)} (hl : ∀ q ∈ l, q.2 ≠ .ref k) : am_cl (fun j => if j = k then q else ad j) l = am_cl ad l := by
  unfold am_cl
  apply List.map_congr_left
  intro x hx
  rw [am_cv_ad (hl x hx)]
theorem am_st_ad {ad : Nat → Nat} {k q : Nat} {st : List Value} (hl : ∀ v ∈ st, v ≠ .ref k) : st.map (am_cv (fun j => if j = k then q else ad j)) = st.map (am_cv ad) := List.map_congr_left fun v hv => am_cv_ad (hl v hv)
theorem am_wl_push {ca : FieldType → ClassId} {ad : Nat → Nat} {al : List Nat} {h h' : am_H} {k q : Nat} (hk : k ∉ al) (hR : am_nr h.2.2 k) (hs : ∀ a, a ≠ k → ∀ i, h'.1 a i = h.1 a i ∧ h'.2.1 a i = h.2.1 a i ∧ h'.2.2 a i = h.2.2 a i) : am_wl ca (fun j => if j = k then q else ad j) (al ++ [k]) h' = am_wl ca ad al h ++ [(q, am_ce ca (fun j => if j = k then q else ad j) h' k)] := by
  have h1 := am_wl_ad (ca := ca) (ad := ad) (q := q) (h' := h') hk hR (fun a ha => am_ce_same (hs a ha))
  rw [← h1]
  simp [am_wl]
theorem am_z_same {I : Nat → Nat → Int32} {L : Nat → Nat → Int64} {R : Nat → Nat → Option Nat} {k : Nat} : ∀ a, a ≠ k → ∀ i, ((am_z 0 I k, am_z 0 L k, am_z none R k) : am_H).1 a i = ((I, L, R) : am_H).1 a i ∧ ((am_z 0 I k, am_z 0 L k, am_z none R k) : am_H).2.1 a i = ((I, L, R) : am_H).2.1 a i ∧ ((am_z 0 I k, am_z 0 L k, am_z none R k) : am_H).2.2 a i = ((I, L, R) : am_H).2.2 a i :=
  fun a ha i => ⟨by simp [am_z, ha], by simp [am_z, ha], by simp [am_z, ha]⟩
theorem am_new {I : Nat → Nat → Int32} {L : Nat → Nat → Int64} {R : Nat → Nat → Option Nat} (k : Nat) {ci index : Nat} {C : String} {T : u_T} {N : Nat} (hc : am_cls ci C T N) (hy : am_lay k = .inr ci) (hk : k ∉ g.1) (hk9 : k ≠ 900) (hZ : ¬ X.2.2.2 k) (hR : am_nr R k) (hno : am_nor k l st) (hty : ∀ j, j < N → am_ty ci j ≠ .float ∧ am_ty ci j ≠ .double)
    (hcl : Cond.classLink M.1.cls index C ∈ lw_tbl) (hinst : Cond.instantiable C N ∈ lw_tbl) (hini : Cond.initialized C ∈ lw_tbl) (h1 : g.2.1 + 1 ≤ X.2.1) (h2 : g.2.2 + N ≤ X.2.2.1) (hd : decode M.2.1 pc = .ok (.new index, 3))
    (kk : am_OK M X Q (g.1 ++ [k], g.2.1 + 1, g.2.2 + N) (am_z 0 I k, am_z 0 L k, am_z none R k) (pc + 3) l (.ref k :: st)) : am_OK M X Q g (I, L, R) pc l st := by
  intro p lc e s m args below meth c D ca ad0 A cx ad H locs ls dy hl
  have hts := cx.1.2.2.2.2
  refine va_new (fs := (List.range N).map fun j => am_fv ad (am_z 0 I k, am_z 0 L k, am_z none R k) k (am_ty ci j) j) cx.1.1 cx.1.2.1 hts (fun w hw => am_tbl (hc.2.2.2.2 w hw) (am_uws hw)) (am_ty ci) hc.2.2.1 cx.1.2.2.2.1 (hts _ (am_tbl hcl)) (hts _ (am_tbl hinst)) (hts _ (am_tbl hini)) cx.2.2.2.1 dy.2.2.1 dy.2.2.2.1 dy.2.2.2.2 cx.2.2.2.2.1 hc.1 (fun j hj => ?_) h1 h2 hd (fun q H1 hP hD hS => ?_)
  · have hz : vp_V ((List.range N).map fun j => am_fv ad (am_z 0 I k, am_z 0 L k, am_z none R k) k (am_ty ci j) j) j = am_fv ad (am_z 0 I k, am_z 0 L k, am_z none R k) k (am_ty ci j) j := by
      simp [vp_V, List.getD, List.getElem?_map, List.getElem?_range hj]
    rw [hz]
    have := hty j hj
    revert this
    cases am_ty ci j <;> intro this <;> simp_all [am_fv, am_z, defaultValue, va_rf]
  · have hce : am_ce ca (fun j => if j = k then q else ad j) (am_z 0 I k, am_z 0 L k, am_z none R k) k = .inr (ci, (List.range N).map fun j => am_fv ad (am_z 0 I k, am_z 0 L k, am_z none R k) k (am_ty ci j) j) := by
      rw [am_ce_o hy, hc.2.1]
      simp only [am_fv_ad (h := (am_z 0 I k, am_z 0 L k, am_z none R k)) (am_nr_z hR)]
    have hw := am_wl_push (ca := ca) (ad := ad) (q := q) hk (h := (I, L, R)) hR am_z_same
    have hdy := am_dy_new (h := (I, L, R)) (h' := (am_z 0 I k, am_z 0 L k, am_z none R k)) (q := q) dy hk hk9 hZ hw (by rw [hce]; exact hP) (by rw [hce]; exact hD) hS
    have hkk := kk p lc e s m args below meth c D ca ad0 A cx _ H1 locs ls hdy (by rw [am_cl_ad hno.1]; exact hl)
    rw [List.map_cons, am_st_ad hno.2] at hkk
    simpa [am_cv] using hkk
theorem am_newa {I : Nat → Nat → Int32} {L : Nat → Nat → Int64} {R : Nat → Nat → Option Nat} (k : Nat) {t0 n : Nat} {ty : FieldType} {aty : ArrayType} {x : Int32} (hy : am_lay k = .inl (ty, n)) (hat : newarray.typeOf aty = ty) (ht0 : ∀ ca : FieldType → ClassId, (am_TY ca)[t0]? = some (ca ty, ty)) (hpr : ty = .int ∨ ty = .long ∨ ty = .boolean) (hk : k ∉ g.1) (hk9 : k ≠ 900) (hZ : ¬ X.2.2.2 k) (hR : am_nr R k) (hno : am_nor k l st) (hx : ¬ x < 0) (hxn : x.toNatClampNeg = n) (hb : n * componentBytes ty ≤ 536870912)
    (harr : Cond.arrayClass ty ∈ lw_tbl) (h1 : g.2.1 + 1 ≤ X.2.1) (h2 : g.2.2 + n ≤ X.2.2.1) (hd : decode M.2.1 pc = .ok (.newarray aty, 2))
    (kk : am_OK M X Q (g.1 ++ [k], g.2.1 + 1, g.2.2 + n) (am_z 0 I k, am_z 0 L k, am_z none R k) (pc + 2) l (.ref k :: st)) : am_OK M X Q g (I, L, R) pc l (.int x :: st) := by
  intro p lc e s m args below meth c D ca ad0 A cx ad H locs ls dy hl
  have hts := cx.1.2.2.2.2
  refine va_newa (a0 := am_ar ad (am_z 0 I k, am_z 0 L k, am_z none R k) k ty n) cx.1.1 cx.1.2.1 (by rw [hat]; exact hts _ (am_tbl harr)) hat cx.2.2.2.1 dy.2.2.1 dy.2.2.2.1 dy.2.2.2.2 cx.2.2.2.2.1 (fun cA => ?_) hx hxn hb h1 h2 hd (fun q cA H1 hK hP hD hS => ?_)
  · rcases hpr with rfl | rfl | rfl <;> simp [am_ar, vp_cell, am_z, defaultValue]
  · have hcA : cA = ca ty := by
      have e1 := (hK.2 4 (cA, ty) rfl).2
      have e2 := (cx.2.2.2.1.2 t0 _ (ht0 ca)).2
      rcases hpr with rfl | rfl | rfl <;> exact Option.some.inj (e1.symm.trans e2)
    have hce : am_ce ca (fun j => if j = k then q else ad j) (am_z 0 I k, am_z 0 L k, am_z none R k) k = .inl (cA, am_ar ad (am_z 0 I k, am_z 0 L k, am_z none R k) k ty n) := by
      rw [am_ce_a hy, hcA]
      rcases hpr with rfl | rfl | rfl <;> rfl
    have hw := am_wl_push (ca := ca) (ad := ad) (q := q) hk (h := (I, L, R)) hR am_z_same
    have hdy := am_dy_new (h := (I, L, R)) (h' := (am_z 0 I k, am_z 0 L k, am_z none R k)) (q := q) dy hk hk9 hZ hw (by rw [hce]; exact hP) (by rw [hce]; exact hD) hS
    have hkk := kk p lc e s m args below meth c D ca ad0 A cx _ H1 locs ls hdy (by rw [am_cl_ad hno.1]; exact hl)
    rw [List.map_cons, am_st_ad hno.2] at hkk
    simpa [am_cv] using hkk
theorem am_newq {I : Nat → Nat → Int32} {L : Nat → Nat → Int64} {R : Nat → Nat → Option Nat} (k : Nat) {n index : Nat} {x : Int32} (hy : am_lay k = .inl (.object RX10, n)) (hk : k ∉ g.1) (hk9 : k ≠ 900) (hZ : ¬ X.2.2.2 k) (hR : am_nr R k) (hno : am_nor k l st) (hx : ¬ x < 0) (hxn : x.toNatClampNeg = n) (hb : n * 4 ≤ 536870912)
    (hcl : Cond.classLink M.1.cls index RX10 ∈ lw_tbl) (h1 : g.2.1 + 1 ≤ X.2.1) (h2 : g.2.2 + n ≤ X.2.2.1) (hd : decode M.2.1 pc = .ok (.anewarray index, 3))
    (kk : am_OK M X Q (g.1 ++ [k], g.2.1 + 1, g.2.2 + n) (am_z 0 I k, am_z 0 L k, am_z none R k) (pc + 3) l (.ref k :: st)) : am_OK M X Q g (I, L, R) pc l (.int x :: st) := by
  intro p lc e s m args below meth c D ca ad0 A cx ad H locs ls dy hl
  have hts := cx.1.2.2.2.2
  refine va_newq cx.1.1 cx.1.2.1 cx.1.2.2.2.1 (hts _ (am_tbl hcl)) cx.2.2.2.2.2.2.1 cx.2.2.2.1 dy.2.2.1 dy.2.2.2.1 dy.2.2.2.2 cx.2.2.2.2.1 hx hxn hb h1 h2 hd (fun q cA H1 hK hP hD hS => ?_)
  have hcA : cA = ca (.object RX10) := by
    obtain ⟨k1, c1, _, _, _, e1⟩ := (hK.2 4 (cA, .object RX10) rfl).2
    obtain ⟨k2, c2, _, _, _, e2⟩ := (cx.2.2.2.1.2 3 (ca (.object RX10), .object RX10) rfl).2
    exact Option.some.inj (e1.symm.trans e2)
  have hce : am_ce ca (fun j => if j = k then q else ad j) (am_z 0 I k, am_z 0 L k, am_z none R k) k = .inl (cA, n, .inr (.inr (.inr (.inr (fun _ => none))))) := by
    rw [am_ce_a hy, hcA]
    simp [am_ar, am_z]
  have hw := am_wl_push (ca := ca) (ad := ad) (q := q) hk (h := (I, L, R)) hR am_z_same
  have hdy := am_dy_new (h := (I, L, R)) (h' := (am_z 0 I k, am_z 0 L k, am_z none R k)) (q := q) dy hk hk9 hZ hw (by rw [hce]; exact hP) (by rw [hce]; exact hD) hS
  have hkk := kk p lc e s m args below meth c D ca ad0 A cx _ H1 locs ls hdy (by rw [am_cl_ad hno.1]; exact hl)
  rw [List.map_cons, am_st_ad hno.2] at hkk
  simpa [am_cv] using hkk
/-- a reference's value, in places -/
def am_rr (o : Option Nat) : Value := match o with
  | none => .null
  | some b => .ref b
theorem am_rr_cv (ad : Nat → Nat) (o : Option Nat) : am_cv ad (am_rr o) = va_rf (o.map ad) := by cases o <;> rfl
theorem am_aald {a n : Nat} {i : Int32} {C : String} (hC : C = RX10) (hy : am_lay a = .inl (.object C, n)) (ha : a ∈ g.1) (hin : vp_in i n) (hd : decode M.2.1 pc = .ok (.aaload, 1)) (k : am_OK M X Q g h (pc + 1) l (am_rr (h.2.2 a i.toNatClampNeg) :: st)) : am_OK M X Q g h pc l (.int i :: .ref a :: st) := by
  intro p lc e s m args below meth c D ca ad0 A cx ad H locs ls dy hl
  subst hC
  obtain ⟨q0, hq, he⟩ := am_wl_at (ca := ca) (ad := ad) (h := h) ha
  rw [am_ce_a hy] at he
  have hk := k p lc e s m args below meth c D ca ad0 A cx ad H locs ls dy hl
  rw [List.map_cons, am_rr_cv] at hk
  exact va_aldq cx.1.1 cx.1.2.1 cx.2.2.2.1 dy.2.2.1 q0 3 he rfl hin hd hk
theorem am_aast {I : Nat → Nat → Int32} {L : Nat → Nat → Int64} {R : Nat → Nat → Option Nat} {a b n : Nat} {i : Int32} (hy : am_lay a = .inl (.object RX10, n)) (ha : a ∈ g.1) (hyb : am_lay b = .inr 10) (hb : b ∈ g.1) (hin : vp_in i n) (hd : decode M.2.1 pc = .ok (.aastore, 1)) (k : am_OK M X Q g (I, L, am_u R a i.toNatClampNeg (some b)) (pc + 1) l st) : am_OK M X Q g (I, L, R) pc l (.ref b :: .int i :: .ref a :: st) := by
  intro p lc e s m args below meth c D ca ad0 A cx ad H locs ls dy hl
  obtain ⟨q0, hq, he⟩ := am_wl_at (ca := ca) (ad := ad) (h := (I, L, R)) ha
  obtain ⟨q1, hq1, he1⟩ := am_wl_at (ca := ca) (ad := ad) (h := (I, L, R)) hb
  rw [am_ce_a hy] at he
  rw [am_ce_o hyb] at he1
  refine va_astq (r := (RX10, TX10, 5)) cx.1.1 cx.1.2.1 cx.2.2.2.1 dy.2.2.1 dy.2.2.2.1 dy.2.2.2.2 q0 3 q1 10 he rfl he1 rfl hin hd (fun H1 locs1 hP1 hD1 hS1 => ?_)
  have hset := am_arr_set (ca := ca) (ad := ad) (h := (I, L, R)) (h' := (I, L, am_u R a i.toNatClampNeg (some b))) (x := (n, .inr (.inr (.inr (.inr (va_up (fun j => (R a j).map ad) i.toNatClampNeg (some (ad b)))))))) hy dy.1 hq (am_but_ce am_but_r) (by
    simp only [am_ar, am_u_at, Prod.mk.injEq, true_and, Sum.inr.injEq]
    funext j
    unfold va_up
    split <;> rfl)
  have hP2 := hset ▸ hP1
  have hD2 := hset ▸ hD1
  exact k p lc e s m args below meth c D ca ad0 A cx ad H1 locs1 ls ⟨dy.1, dy.2.1, hP2, hD2, hS1⟩ hl
end AM6
