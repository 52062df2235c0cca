/-! the law's rows (the head is the skeleton's; lw_At tells of the law's own code word and name too) -/
def R_law : String := "SteadyFundLaw"
def lw_P (b : Addr) (xs : List Int32) (args : Array Value) (s : State) : Prop := args = #[.ref b] ∧ s.IntsAt b xs ∧ xs.length ≤ 3072 ∧ (Jvm.Cond.and given_1 narrow_1).before args s = true
def lw_Q (_ : Array Value) (s : State) (o : Outcome) (t : State) : Prop := o = .returned (some (.int 1)) ∧ Framed s o t [] 600000 7302250
def lw_Z (below : List Frame) (a : Array Value) (s : State) : State → Prop := fun t => ∃ o, t.status = .running ∧ Ended t below o ∧ lw_Q a s o t
/-- the law's own end, with 1 on the stack, nothing written that was there before, its room as the claim has it -/
theorem lw_ret {p : Program} {l : Launch} {e : Env} {s : State} {m : MethodId} {below : List Frame} {meth : Method} {c : Code} {b : Nat} (hx : p.tables.exec = Jvm.exec) (hb : c.code = code) (hr : meth.sig.returnType = ret) (hlocks : meth.locks = false) {pc : Nat} {H : Heap} {ls : Array Slot} (hdg : decode code pc = .ok (.ireturn, 1)) : W p l e room_1 s m #[Value.ref b] below meth c H [] 600000 7302250 (lw_Z below #[Value.ref b] s) (F0 m pc ls [.int 1]) := by
  intro T hT X
  obtain ⟨fs, hret, hrun, hended, hW, hframe⟩ := X.leave (v := some (.int 1)) (hlocks := hlocks) (fun h => by rw [hr] at h; cases h)
  have hmeth' : T.vm.method? m = some meth := X.method'
  refine ⟨T.setFrames fs, ?_, .returned (some (.int 1)), hrun, hended, rfl, ⟨_, rfl⟩, hW, hframe⟩
  jvm_step X.here [X.here.top, hx, hb, hdg, hmeth', hr, ret, narrow_b1]
  (try refine ⟨rfl, ?_⟩); (try refine ⟨rfl, ?_⟩)
  first | (intro acts; rw [hret _ acts rfl rfl rfl]) | rw [hret _ _ rfl rfl rfl]
  exact Steps.refl _
/-- what holds at the law's entry: the machine, the code, the tables' words (any of lw_tbl by 'hts w (by decide +kernel)'), the script of L ints xs at the cell b, what the Statement gives of the start (any of its parts by flat_of_before) -/
def lw_At (p : Program) (s : State) (m : MethodId) (meth : Method) (c : Code) (b L : Nat) (xs : Nat → Int32) : Prop :=
  p.tables.exec = Jvm.exec ∧ c.code = code ∧ meth.sig.returnType = ret ∧ c.maxLocals = 4 ∧ s.vm.findClass R_law = some m.cls ∧ (∀ w ∈ lw_tbl, w.before #[Value.ref b] s = true) ∧ (Jvm.Cond.code x code maxLocals ret).before #[Value.ref b] s = true ∧ meth.name = "law" ∧ va_X b L xs s s.heap ∧ b < s.heap.size ∧ meth.locks = false ∧ (Jvm.Cond.and given_1 narrow_1).before #[Value.ref b] s = true
abbrev M_law : am_M := (x, code, 4, ret)
def la_Z : Nat → Prop := fun k => k = 901
/-- where the law stands: the machine, and the script of Lx ints xs at the place 901 -/
def la_CX (p : Program) (s : State) (m : MethodId) (meth : Method) (c : Code) (D : va_G) (ca : FieldType → ClassId) (ad0 : Nat → Nat) (b Lx : Nat) (xs : Nat → Int32) : Prop := am_CX M_law p s m #[.ref b] meth c D ca ad0 (fun q => s.heap.size ≤ q) ∧ va_X b Lx xs s s.heap ∧ b < s.heap.size ∧ ad0 901 = b
/-- from this place of the law, with these locals and this stack, in this world, it comes to its end with true -/
def la_OK (xs : Nat → Int32) (Lx : Nat) (g : am_G) (h : am_H) (pc : Nat) (l : List (Nat × Value)) (st : List Value) : Prop :=
  ∀ (p : Program) (lc : Launch) (e : Env) (s : State) (m : MethodId) (below : List Frame) (meth : Method) (c : Code) (D : va_G) (ca : FieldType → ClassId) (ad0 : Nat → Nat) (b : Nat), la_CX p s m meth c D ca ad0 b Lx xs →
    ∀ (ad : Nat → Nat) (H : Heap) (locs : List Loc) (ls : Array Slot), am_DY M_law s D ca ad0 la_Z (fun q => s.heap.size ≤ q) g.1 h ad H locs → lv_has ls 4 (am_cl ad l) →
      W p lc e room_1 s m #[.ref b] below meth c H locs g.2.1 g.2.2 (lw_Z below #[.ref b] s) (F0 m pc ls (st.map (am_cv ad)))
section LA
variable {xs : Nat → Int32} {Lx : Nat} {g : am_G} {h : am_H} {pc : Nat} {l : List (Nat × Value)} {st : List Value}
theorem la_iconst {n : Int} {v : Int32} (hv : Int32.ofInt n = v) (hd : decode code pc = .ok (.iconst n, 1)) (k : la_OK xs Lx g h (pc + 1) l (.int v :: st)) : la_OK xs Lx g h pc l st :=
  fun p lc e s m below meth c D ca ad0 b cx ad H locs ls dy hl => lv_iconst cx.1.1.1 cx.1.1.2.1 hd hv (k p lc e s m below meth c D ca ad0 b cx ad H locs ls dy hl)
theorem la_bipush {n : Int} {v : Int32} (hv : (Int8.ofInt n).toInt32 = v) (hd : decode code pc = .ok (.bipush n, 2)) (k : la_OK xs Lx g h (pc + 2) l (.int v :: st)) : la_OK xs Lx g h pc l st :=
  fun p lc e s m below meth c D ca ad0 b cx ad H locs ls dy hl => lv_bipush cx.1.1.1 cx.1.1.2.1 hd hv (k p lc e s m below meth c D ca ad0 b cx ad H locs ls dy hl)
theorem la_iload_n (j : Nat) {n : Fin 4} {i : Nat} {x : Int32} (hi : (n : Nat) = i) (hk : l[j]? = some (i, .int x)) (hd : decode code pc = .ok (.iload_n n, 1)) (k : la_OK xs Lx g h (pc + 1) l (.int x :: st)) : la_OK xs Lx g h pc l st :=
  fun p lc e s m below meth c D ca ad0 b cx ad H locs ls dy hl => lv_iload_n cx.1.1.1 cx.1.1.2.1 hd hi (lv_at hl j (am_cl_at hk)) (k p lc e s m below meth c D ca ad0 b cx ad H locs ls dy hl)
theorem la_aload_n (j : Nat) {n : Fin 4} {i x : Nat} (hi : (n : Nat) = i) (hk : l[j]? = some (i, .ref x)) (hd : decode code pc = .ok (.aload_n n, 1)) (k : la_OK xs Lx g h (pc + 1) l (.ref x :: st)) : la_OK xs Lx g h pc l st :=
  fun p lc e s m below meth c D ca ad0 b cx ad H locs ls dy hl => lv_aload_n cx.1.1.1 cx.1.1.2.1 hd hi (lv_at hl j (am_cl_at hk)) (k p lc e s m below meth c D ca ad0 b cx ad H locs ls dy hl)
theorem la_istore_n {n : Fin 4} {i : Nat} {x : Int32} {l' : List (Nat × Value)} (hi : (n : Nat) = i) (hn : i < 4) (hl' : am_p1 i (.int x) l = l') (hd : decode code pc = .ok (.istore_n n, 1)) (k : la_OK xs Lx g h (pc + 1) l' st) : la_OK xs Lx g h pc l (.int x :: st) :=
  fun p lc e s m below meth c D ca ad0 b cx ad H locs ls dy hl => lv_istore_n cx.1.1.1 cx.1.1.2.1 hd hi hl hn ((am_cl_p1 ad i (.int x) l).trans (congrArg _ hl')) (fun ls' hl => k p lc e s m below meth c D ca ad0 b cx ad H locs ls' dy hl)
theorem la_astore_n {n : Fin 4} {i x : Nat} {l' : List (Nat × Value)} (hi : (n : Nat) = i) (hn : i < 4) (hl' : am_p1 i (.ref x) l = l') (hd : decode code pc = .ok (.astore_n n, 1)) (k : la_OK xs Lx g h (pc + 1) l' st) : la_OK xs Lx g h pc l (.ref x :: st) :=
  fun p lc e s m below meth c D ca ad0 b cx ad H locs ls dy hl => lv_astore_n cx.1.1.1 cx.1.1.2.1 hd hi hl hn ((am_cl_p1 ad i (.ref x) l).trans (congrArg _ hl')) (fun ls' hl => k p lc e s m below meth c D ca ad0 b cx ad H locs ls' dy hl)
theorem la_iinc (j : Nat) {i : Nat} {n : Int} {x v : Int32} {l' : List (Nat × Value)} (hk : l[j]? = some (i, .int x)) (hv : x + Int32.ofInt n = v) (hn : i < 4) (hl' : am_p1 i (.int v) l = l') (hd : decode code pc = .ok (.iinc i n, 3)) (k : la_OK xs Lx g h (pc + 3) l' st) : la_OK xs Lx g h pc l st :=
  fun p lc e s m below meth c D ca ad0 b cx ad H locs ls dy hl => lv_iinc cx.1.1.1 cx.1.1.2.1 hd hl (am_cl_at hk) hv hn ((am_cl_p1 ad i (.int v) l).trans (congrArg _ hl')) (fun ls' hl => k p lc e s m below meth c D ca ad0 b cx ad H locs ls' dy hl)
theorem la_sub (ks : List Nat) {l' : List (Nat × Value)} (hs : lv_pick l ks = l') (k : la_OK xs Lx g h pc l' st) : la_OK xs Lx g h pc l st :=
  fun p lc e s m below meth c D ca ad0 b cx ad H locs ls dy hl => k p lc e s m below meth c D ca ad0 b cx ad H locs ls dy (lv_sub hl ks (by rw [← hs]; simp only [lv_pick, am_cl, List.map_filterMap, List.getElem?_map]))
theorem la_iadd {x y : Int32} (hd : decode code pc = .ok (.iadd, 1)) (k : la_OK xs Lx g h (pc + 1) l (.int (x + y) :: st)) : la_OK xs Lx g h pc l (.int y :: .int x :: st) :=
  fun p lc e s m below meth c D ca ad0 b cx ad H locs ls dy hl => lv_iadd cx.1.1.1 cx.1.1.2.1 hd (k p lc e s m below meth c D ca ad0 b cx ad H locs ls dy hl)
theorem la_isub {x y : Int32} (hd : decode code pc = .ok (.isub, 1)) (k : la_OK xs Lx g h (pc + 1) l (.int (x - y) :: st)) : la_OK xs Lx g h pc l (.int y :: .int x :: st) :=
  fun p lc e s m below meth c D ca ad0 b cx ad H locs ls dy hl => lv_isub cx.1.1.1 cx.1.1.2.1 hd (k p lc e s m below meth c D ca ad0 b cx ad H locs ls dy hl)
theorem la_iand {x y : Int32} (hd : decode code pc = .ok (.iand, 1)) (k : la_OK xs Lx g h (pc + 1) l (.int (x &&& y) :: st)) : la_OK xs Lx g h pc l (.int y :: .int x :: st) :=
  fun p lc e s m below meth c D ca ad0 b cx ad H locs ls dy hl => lv_iand cx.1.1.1 cx.1.1.2.1 hd (k p lc e s m below meth c D ca ad0 b cx ad H locs ls dy hl)
theorem la_dup {v : Value} (hv : v.category = 1) (hd : decode code pc = .ok (.dup, 1)) (k : la_OK xs Lx g h (pc + 1) l (v :: v :: st)) : la_OK xs Lx g h pc l (v :: st) :=
  fun p lc e s m below meth c D ca ad0 b cx ad H locs ls dy hl => lv_dup cx.1.1.1 cx.1.1.2.1 hd ((am_cv_cat ad v).trans hv) (k p lc e s m below meth c D ca ad0 b cx ad H locs ls dy hl)
theorem la_goto {off : Int} {tgt : Nat} (ht : (pc : Int) + off = (tgt : Int)) (hd : decode code pc = .ok (.goto off, 3)) (k : la_OK xs Lx g h tgt l st) : la_OK xs Lx g h pc l st :=
  fun p lc e s m below meth c D ca ad0 b cx ad H locs ls dy hl => lv_goto cx.1.1.1 cx.1.1.2.1 hd ht (k p lc e s m below meth c D ca ad0 b cx ad H locs ls dy hl)
theorem la_if_eq {x : Int32} {off : Int} {tgt : Nat} (ht : (pc : Int) + off = (tgt : Int)) (hd : decode code pc = .ok (.ifCond .eq off, 3)) (kt : x = 0 → la_OK xs Lx g h tgt l st) (kf : ¬ x = 0 → la_OK xs Lx g h (pc + 3) l st) : la_OK xs Lx g h pc l (.int x :: st) :=
  fun p lc e s m below meth c D ca ad0 b cx ad H locs ls dy hl => lv_if_eq cx.1.1.1 cx.1.1.2.1 hd ht (fun c9 => kt c9 p lc e s m below meth c D ca ad0 b cx ad H locs ls dy hl) (fun c9 => kf c9 p lc e s m below meth c D ca ad0 b cx ad H locs ls dy hl)
theorem la_icmp_eq {x y : Int32} {off : Int} {tgt : Nat} (ht : (pc : Int) + off = (tgt : Int)) (hd : decode code pc = .ok (.if_icmp .eq off, 3)) (kt : x = y → la_OK xs Lx g h tgt l st) (kf : ¬ x = y → la_OK xs Lx g h (pc + 3) l st) : la_OK xs Lx g h pc l (.int y :: .int x :: st) :=
  fun p lc e s m below meth c D ca ad0 b cx ad H locs ls dy hl => lv_icmp_eq cx.1.1.1 cx.1.1.2.1 hd ht (fun c9 => kt c9 p lc e s m below meth c D ca ad0 b cx ad H locs ls dy hl) (fun c9 => kf c9 p lc e s m below meth c D ca ad0 b cx ad H locs ls dy hl)
theorem la_icmp_gt {x y : Int32} {off : Int} {tgt : Nat} (ht : (pc : Int) + off = (tgt : Int)) (hd : decode code pc = .ok (.if_icmp .gt off, 3)) (kt : y < x → la_OK xs Lx g h tgt l st) (kf : ¬ y < x → la_OK xs Lx g h (pc + 3) l st) : la_OK xs Lx g h pc l (.int y :: .int x :: st) :=
  fun p lc e s m below meth c D ca ad0 b cx ad H locs ls dy hl => lv_icmp_gt cx.1.1.1 cx.1.1.2.1 hd ht (fun c9 => kt c9 p lc e s m below meth c D ca ad0 b cx ad H locs ls dy hl) (fun c9 => kf c9 p lc e s m below meth c D ca ad0 b cx ad H locs ls dy hl)
theorem la_lcmp {x y : Int64} (hd : decode code pc = .ok (.lcmp, 1)) (k : la_OK xs Lx g h (pc + 1) l (.int (lg_cmp x y) :: st)) : la_OK xs Lx g h pc l (.long y :: .long x :: st) :=
  fun p lc e s m below meth c D ca ad0 b cx ad H locs ls dy hl => W.lcmp cx.1.1.1 cx.1.1.2.1 hd (k p lc e s m below meth c D ca ad0 b cx ad H locs ls dy hl)
theorem la_lcmp_eq {x y : Int64} {off : Int} {tgt pc1 : Nat} (hd0 : decode code pc = .ok (.lcmp, 1)) (h1 : pc + 1 = pc1) (ht : (pc1 : Int) + off = (tgt : Int)) (hd : decode code pc1 = .ok (.ifCond .eq off, 3)) (kt : x = y → la_OK xs Lx g h tgt l st) (kf : ¬ x = y → la_OK xs Lx g h (pc1 + 3) l st) : la_OK xs Lx g h pc l (.long y :: .long x :: st) := by
  subst h1
  exact la_lcmp hd0 (la_if_eq ht hd (fun c9 => kt ((lg_cmp_eq x y).mp c9)) (fun c9 => kf ((not_congr (lg_cmp_eq x y)).mp c9)))
theorem la_tableIn {dflt lo hi : Int} {offs : Array Int} {len : Nat} {x : Int32} {off : Int} {tgt : Nat} (h1 : ¬ x.toInt < lo) (h2 : ¬ hi < x.toInt) (ho : offs[(x.toInt - lo).toNat]? = some off) (ht : (pc : Int) + off = (tgt : Int)) (hd : decode code pc = .ok (.tableswitch dflt lo hi offs, len)) (k : la_OK xs Lx g h tgt l st) : la_OK xs Lx g h pc l (.int x :: st) :=
  fun p lc e s m below meth c D ca ad0 b cx ad H locs ls dy hl => lv_tableIn cx.1.1.1 cx.1.1.2.1 hd h1 h2 ho ht (k p lc e s m below meth c D ca ad0 b cx ad H locs ls dy hl)
theorem la_tableOut {dflt lo hi : Int} {offs : Array Int} {len : Nat} {x : Int32} {tgt : Nat} (h1 : x.toInt < lo ∨ hi < x.toInt) (ht : (pc : Int) + dflt = (tgt : Int)) (hd : decode code pc = .ok (.tableswitch dflt lo hi offs, len)) (k : la_OK xs Lx g h tgt l st) : la_OK xs Lx g h pc l (.int x :: st) :=
  fun p lc e s m below meth c D ca ad0 b cx ad H locs ls dy hl => lv_tableOut cx.1.1.1 cx.1.1.2.1 hd h1 ht (k p lc e s m below meth c D ca ad0 b cx ad H locs ls dy hl)
theorem la_new {I : Nat → Nat → Int32} {L : Nat → Nat → Int64} {R : Nat → Nat → Option Nat} (k : Nat) {ci index : Nat} {C : String} {T : u_T} {N : Nat} (hc : am_cls ci C T N) (hy : am_lay k = .inr ci) (hk : k ∉ g.1) (hk9 : k ≠ 900) (hZ : ¬ la_Z k) (hR : am_nr R k) (hno : am_nor k l st) (hty : ∀ j, j < N → am_ty ci j ≠ .float ∧ am_ty ci j ≠ .double)
    (hcl : Cond.classLink M_law.1.cls index C ∈ lw_tbl) (hinst : Cond.instantiable C N ∈ lw_tbl) (hini : Cond.initialized C ∈ lw_tbl) (h1 : g.2.1 + 1 ≤ 600000) (h2 : g.2.2 + N ≤ 7302250) (hd : decode code pc = .ok (.new index, 3))
    (kk : la_OK xs Lx (g.1 ++ [k], g.2.1 + 1, g.2.2 + N) (am_z 0 I k, am_z 0 L k, am_z none R k) (pc + 3) l (.ref k :: st)) : la_OK xs Lx g (I, L, R) pc l st := by
  intro p lc e s m below meth c D ca ad0 b cx ad H locs ls dy hl
  have hts := cx.1.1.2.2.2.2
  refine va_new (fs := (List.range N).map fun j => am_fv ad (am_z 0 I k, am_z 0 L k, am_z none R k) k (am_ty ci j) j) cx.1.1.1 cx.1.1.2.1 hts (fun w hw => am_tbl (hc.2.2.2.2 w hw) (am_uws hw)) (am_ty ci) hc.2.2.1 cx.1.1.2.2.2.1 (hts _ (am_tbl hcl)) (hts _ (am_tbl hinst)) (hts _ (am_tbl hini)) cx.1.2.2.2.1 dy.2.2.1 dy.2.2.2.1 dy.2.2.2.2 cx.1.2.2.2.2.1 hc.1 (fun j hj => ?_) h1 h2 hd (fun q H1 hP hD hS => ?_)
  · have hz : vp_V ((List.range N).map fun j => am_fv ad (am_z 0 I k, am_z 0 L k, am_z none R k) k (am_ty ci j) j) j = am_fv ad (am_z 0 I k, am_z 0 L k, am_z none R k) k (am_ty ci j) j := by
      simp [vp_V, List.getD, List.getElem?_map, List.getElem?_range hj]
    rw [hz]
    have := hty j hj
    revert this
    cases am_ty ci j <;> intro this <;> simp_all [am_fv, am_z, defaultValue, va_rf]
  · have hce : am_ce ca (fun j => if j = k then q else ad j) (am_z 0 I k, am_z 0 L k, am_z none R k) k = .inr (ci, (List.range N).map fun j => am_fv ad (am_z 0 I k, am_z 0 L k, am_z none R k) k (am_ty ci j) j) := by
      rw [am_ce_o hy, hc.2.1]
      simp only [am_fv_ad (h := (am_z 0 I k, am_z 0 L k, am_z none R k)) (am_nr_z hR)]
    have hw := am_wl_push (ca := ca) (ad := ad) (q := q) hk (h := (I, L, R)) hR am_z_same
    have hdy := am_dy_new (h := (I, L, R)) (h' := (am_z 0 I k, am_z 0 L k, am_z none R k)) (q := q) dy hk hk9 hZ hw (by rw [hce]; exact hP) (by rw [hce]; exact hD) hS
    have hkk := kk p lc e s m below meth c D ca ad0 b cx _ H1 locs ls hdy (by rw [am_cl_ad hno.1]; exact hl)
    rw [List.map_cons, am_st_ad hno.2] at hkk
    simpa [am_cv] using hkk
theorem la_slen (hd : decode code pc = .ok (.arraylength, 1)) (k : la_OK xs Lx g h (pc + 1) l (.int (nI Lx) :: st)) : la_OK xs Lx g h pc l (.ref 901 :: st) := by
  intro p lc e s m below meth c D ca ad0 b cx ad H locs ls dy hl
  have e9 : ad 901 = b := (dy.2.1 901 (Or.inr rfl)).trans cx.2.2.2
  show W p lc e room_1 s m #[.ref b] below meth c H locs g.2.1 g.2.2 _ (F0 m pc ls (.ref (ad 901) :: st.map (am_cv ad)))
  rw [e9]
  exact va_slen cx.1.1.1 cx.1.1.2.1 cx.2.1 cx.2.2.1 (Nat.not_le.mpr cx.2.2.1) dy.2.2.2.2 hd (k p lc e s m below meth c D ca ad0 b cx ad H locs ls dy hl)
theorem la_sld {i : Int32} (hin : vp_in i Lx) (hd : decode code pc = .ok (.iaload, 1)) (k : la_OK xs Lx g h (pc + 1) l (.int (xs i.toNatClampNeg) :: st)) : la_OK xs Lx g h pc l (.int i :: .ref 901 :: st) := by
  intro p lc e s m below meth c D ca ad0 b cx ad H locs ls dy hl
  have e9 : ad 901 = b := (dy.2.1 901 (Or.inr rfl)).trans cx.2.2.2
  show W p lc e room_1 s m #[.ref b] below meth c H locs g.2.1 g.2.2 _ (F0 m pc ls (.int i :: .ref (ad 901) :: st.map (am_cv ad)))
  rw [e9]
  exact va_sld cx.1.1.1 cx.1.1.2.1 cx.2.1 cx.2.2.1 (Nat.not_le.mpr cx.2.2.1) dy.2.2.2.2 hin hd (k p lc e s m below meth c D ca ad0 b cx ad H locs ls dy hl)
theorem la_ret1 (h1 : g.2.1 ≤ 600000) (h2 : g.2.2 ≤ 7302250) (hd : decode code pc = .ok (.ireturn, 1)) : la_OK xs Lx g h pc l [.int 1] :=
  fun p lc e s m below meth c D ca ad0 b cx ad H locs ls dy hl => va_forget (fun q hq => dy.2.2.2.2.2.2 q hq) (W.widen (k := 600000) (n := 7302250) h1 h2 (lw_ret cx.1.1.1 cx.1.1.2.1 cx.1.2.1 cx.1.2.2.1 hd))
theorem la_back {Z' : Nat → Prop} {mc' ms' : Nat} {st0 : List Value} {Q' : am_P} (hkeep : am_keep Z' l st) (hZ : Z' 901)
    (k : ∀ (r : Option Value) (h' : am_H) (al' : List Nat), Q' r h' al' → la_OK xs Lx (al', g.2.1 + mc', g.2.2 + ms') h' (pc + 3) l (r.toList ++ st))
    {p : Program} {lc : Launch} {e : Env} {s : State} {m : MethodId} {below : List Frame} {meth : Method} {c : Code} {D : va_G} {ca : FieldType → ClassId} {ad0 : Nat → Nat} {b : Nat} (cx : la_CX p s m meth c D ca ad0 b Lx xs) {ad : Nat → Nat} {H : Heap} {locs : List Loc} {ls : Array Slot} {a : Array Value}
    (dy : am_DY M_law s D ca ad0 la_Z (fun q => s.heap.size ≤ q) g.1 h ad H locs) (hl : lv_has ls 4 (am_cl ad l))
    (hr : va_Run p lc e room_1 s m #[.ref b] below meth c H locs g.2.1 g.2.2 mc' ms' (F0 m pc ls st0) (st.map (am_cv ad)) (am_Qc D ca ad Z' (va_A (am_wl ca ad g.1 h) H.size) Q' a) (va_A (am_wl ca ad g.1 h) H.size)) :
    W p lc e room_1 s m #[.ref b] below meth c H locs g.2.1 g.2.2 (lw_Z below #[.ref b] s) (F0 m pc ls st0) := by
  intro T hT XS
  obtain ⟨v, st₀, t, T', L, h0, X', hL, e1, e2, ⟨⟨r, h', al', ad', hv, hq, hnd, hag, hP', hD'⟩, hz, hk⟩, stp⟩ := hr T hT XS
  cases hv
  rw [h0] at hz hk
  have hF := am_inA cx.1 dy
  have hcl : am_cl ad' l = am_cl ad l := by
    unfold am_cl
    apply List.map_congr_left
    intro q hq
    rw [am_cv_keep hag (hkeep.1 q hq)]
  have hst : st.map (am_cv ad') = st.map (am_cv ad) := List.map_congr_left fun v hv => am_cv_keep hag (hkeep.2 v hv)
  have hstk : (Option.map (am_cv ad') r).toList ++ st.map (am_cv ad) = (r.toList ++ st).map (am_cv ad') := by
    rw [← hst]
    cases r <;> rfl
  obtain ⟨t2, a1, b1⟩ := k r h' al' hq p lc e s m below meth c D ca ad0 b cx ad' T'.heap (locs ++ L) ls
    ⟨hnd, fun k hk => (hag k (hk.imp_right (fun z => by rw [show k = 901 from z]; exact hZ))).trans (dy.2.1 k hk), by rw [e1]; exact hP', hD'.weaken (fun k q _ hq => hF q.1 hq),
      ⟨Nat.le_trans dy.2.2.2.2.1 (by rw [e1]; exact hz), fun q h1 h2 => by rw [e1, hk q (Nat.lt_of_lt_of_le h1 dy.2.2.2.2.1) (fun z => h2 (hF q z))]; exact dy.2.2.2.2.2.1 q h1 h2, fun q hq => by
        rcases List.mem_append.mp hq with h | h
        · exact dy.2.2.2.2.2.2 q h
        · exact hF _ (hL q h)⟩⟩ (by rw [hcl]; exact hl) T' rfl X'
  rw [← hstk] at a1
  exact ⟨t2, stp t2 a1, b1⟩
theorem la_callB {N : am_M} {d' mc' ms' n index : Nat} (hw : am_cwd N n) (hlk : Cond.methodLink M_law.1.cls index N.1 ∈ lw_tbl) (hd : d' + 1 ≤ 2048)
    {p : Program} {s : State} {m : MethodId} {meth : Method} {c : Code} {D : va_G} {ca : FieldType → ClassId} {ad0 : Nat → Nat} {b : Nat} (cx : la_CX p s m meth c D ca ad0 b Lx xs) :
    CallB room_1 s #[.ref b] M_law.1.cls index N.1 N.2.1 N.2.2.1 N.2.2.2 (am_ws N) (am_rm d' mc' ms') mc' ms' n := by
  refine callB_of (Ts := am_ws M_law) n cx.1.1.2.2.2.2 (am_goodIn hw.1) rfl rfl rfl (cx.1.1.2.2.2.2 _ (am_tbl hw.2.1)) (cx.1.1.2.2.2.2 _ (am_tbl hlk)) hw.2.2.1 ⟨hd, ?_⟩
  show 8 + (N.2.2.1 + 11) + 40 * d' ≤ 84000
  have := hw.2.2.2
  omega
theorem la_invV {N : am_M} {Z' : Nat → Prop} {d' mc' ms' n index b0 ci : Nat} {C : String} {T : u_T} {NN : Nat} {as : List Value} {Q' : am_P} (hM : am_C N d' mc' ms' Z' g.1 (.ref b0 :: as) h Q') (hw : am_cwd N n) (hlk : Cond.methodLink M_law.1.cls index N.1 ∈ lw_tbl) (hin : Cond.instanceMethod N.1 ∈ lw_tbl) (hse : Cond.selects N.1.cls N.1 N.1 ∈ lw_tbl) (hcl : am_cls ci C T NN) (hC : N.1.cls = C) (hy : am_lay b0 = .inr ci) (hb : b0 ∈ g.1) (hn : as.length = n) (hd' : d' + 1 ≤ 2048) (hmc : g.2.1 + mc' ≤ 600000) (hms : g.2.2 + ms' ≤ 7302250)
    (hst : (st.map fun v => v.category).sum ≤ 8) (hkeep : am_keep Z' l st) (hZ : Z' 901) (hd : decode code pc = .ok (.invokevirtual index, 3))
    (k : ∀ (r : Option Value) (h' : am_H) (al' : List Nat), Q' r h' al' → la_OK xs Lx (al', g.2.1 + mc', g.2.2 + ms') h' (pc + 3) l (r.toList ++ st)) : la_OK xs Lx g h pc l (as.reverse ++ .ref b0 :: st) := by
  intro p lc e s m below meth c D ca ad0 b cx ad H locs ls dy hl
  obtain ⟨q0, hq, he⟩ := am_wl_at (ca := ca) (ad := ad) (h := h) hb
  rw [am_ce_o hy] at he
  have hts := cx.1.1.2.2.2.2
  refine la_back hkeep hZ k cx dy hl (va_runV (C := C) (b := ad b0) (As := as.map (am_cv ad)) cx.1.1 (hM lc D ca ad H.size dy.1) ⟨la_callB hw hlk hd' cx, hts _ (am_tbl hin), hts _ (am_tbl (by rw [← hC]; exact hse))⟩ ⟨am_blind, va_recv cx.1.2.2.2.1 dy.2.2.1 hcl.1 he, fun U hU hW => ⟨by simp [am_cv], by rw [hU], by rw [hU]; exact dy.2.2.1, va_K.moved hW.alike cx.1.2.2.2.1, dy.2.2.2.1.weaken (fun _ _ _ _ => trivial), am_FU cx.1 dy hU hW⟩⟩ rfl (by simp [hn]) hl.1 (by simp [am_cv]) (lv_room (by simpa [am_cv_cat, Function.comp_def] using hst)) hd ⟨hmc, hms⟩)
theorem la_invI {N : am_M} {Z' : Nat → Prop} {d' mc' ms' n index b0 : Nat} {as : List Value} {Q' : am_P} (hM : am_C N d' mc' ms' Z' g.1 (.ref b0 :: as) h Q') (hw : am_cwd N n) (hret : N.2.2.2 = none) (hlk : Cond.methodLink M_law.1.cls index N.1 ∈ lw_tbl) (hin : Cond.instanceMethod N.1 ∈ lw_tbl) (hy1 : N.1.name = "<init>") (hn : as.length = n) (hd' : d' + 1 ≤ 2048) (hmc : g.2.1 + mc' ≤ 600000) (hms : g.2.2 + ms' ≤ 7302250)
    (hst : (st.map fun v => v.category).sum ≤ 8) (hkeep : am_keep Z' l st) (hZ : Z' 901) (hd : decode code pc = .ok (.invokespecial index, 3))
    (k : ∀ (r : Option Value) (h' : am_H) (al' : List Nat), Q' r h' al' → la_OK xs Lx (al', g.2.1 + mc', g.2.2 + ms') h' (pc + 3) l (r.toList ++ st)) : la_OK xs Lx g h pc l (as.reverse ++ .ref b0 :: st) := by
  intro p lc e s m below meth c D ca ad0 b cx ad H locs ls dy hl
  have hts := cx.1.1.2.2.2.2
  have hB := la_callB (mc' := mc') (ms' := ms') hw hlk hd' cx
  rw [hret] at hB
  refine la_back hkeep hZ k cx dy hl (va_runI (b := ad b0) (As := as.map (am_cv ad)) cx.1.1 (hM lc D ca ad H.size dy.1) ⟨hB, hy1, hts _ (am_tbl hin)⟩ ⟨am_blind, fun U hU hW => ⟨by simp [am_cv], by rw [hU], by rw [hU]; exact dy.2.2.1, va_K.moved hW.alike cx.1.2.2.2.1, dy.2.2.2.1.weaken (fun _ _ _ _ => trivial), am_FU cx.1 dy hU hW⟩⟩ rfl (by simp [hn]) hl.1 (by simp [am_cv]) (lv_room (by simpa [am_cv_cat, Function.comp_def] using hst)) hd ⟨hmc, hms⟩)
/-- a call that makes nothing -/
theorem la_invK {N : am_M} {d' n index b0 ci : Nat} {C : String} {T : u_T} {NN : Nat} {as : List Value} {S : List Nat → am_R → Prop} {I : am_I} {L : am_L} {R : am_R} {Q1 : am_S} (hK : am_KS S N d' (.ref b0 :: as) I L Q1) (hS : S g.1 R) (hw : am_cwd N n) (hlk : Cond.methodLink M_law.1.cls index N.1 ∈ lw_tbl) (hin : Cond.instanceMethod N.1 ∈ lw_tbl) (hse : Cond.selects N.1.cls N.1 N.1 ∈ lw_tbl) (hcl : am_cls ci C T NN) (hC : N.1.cls = C) (hy : am_lay b0 = .inr ci) (hb : b0 ∈ g.1) (hn : as.length = n) (hd' : d' + 1 ≤ 2048) (hmc : g.2.1 ≤ 600000) (hms : g.2.2 ≤ 7302250)
    (hst : (st.map fun v => v.category).sum ≤ 8) (hd : decode code pc = .ok (.invokevirtual index, 3))
    (k : ∀ (r : Option Value) (I1 : am_I) (L1 : am_L), Q1 r I1 L1 → am_sh N.2.2.2 r → la_OK xs Lx g (I1, L1, R) (pc + 3) l (r.toList ++ st)) : la_OK xs Lx g (I, L, R) pc l (as.reverse ++ .ref b0 :: st) :=
  la_invV (hK g.1 R hS) hw hlk hin hse hcl hC hy hb hn hd' hmc hms hst ⟨fun _ _ _ _ => trivial, fun _ _ _ _ => trivial⟩ trivial hd (fun r h1 al1 hq => by
    obtain ⟨rfl, I1, L1, rfl, hq, hs⟩ := hq
    exact k r I1 L1 hq hs)
end LA
