/-! the letters' names: the text constant and String.indexOf, walked (the text stands outside of the world) -/
def tx_B (a aV : Nat) (A : Nat → Prop) (U : State) : Prop := vk_S 1 [7] [[99, 115, 105, 111, 113, 114, 109]] (fun _ => a) (fun _ => aV) A U U.heap ∧ va_Z "java/lang/String" "COMPACT_STRINGS" "Z" (.int 1) A U U.heap
abbrev tx_Q (v : Int32) (A : Nat → Prop) : Array Value → State → Outcome → State → Prop := va_Qi (S := Unit) (fun r _ => r = v) (fun _ _ => True) A
def tx_C (M : am_M) (d a aV : Nat) (as : List Value) (v : Int32) : Prop := ∀ (lc : Launch) (A : Nat → Prop) (sz : Nat), (∀ q, sz ≤ q → A q) → Met lc M.1 (am_ws M) (am_rm d 0 0) (va_Pc as (fun U => U.heap.size = sz ∧ tx_B a aV A U)) (tx_Q v A) 0 0 A
def tx_CX (M : am_M) (p : Program) (s : State) (m : MethodId) (args : Array Value) (meth : Method) (c : Code) (a aV : Nat) (A : Nat → Prop) : Prop :=
  CallFix p m c M.2.1 M.2.2.1 s args (am_ws M) M.1.cls ∧ meth.sig.returnType = M.2.2.2 ∧ meth.locks = false ∧ (∀ q, s.heap.size ≤ q → A q) ∧ tx_B a aV A s
def tx_OK (M : am_M) (d a aV : Nat) (v : Int32) (pc : Nat) (l : List (Nat × Value)) (st : List Value) : Prop :=
  ∀ (p : Program) (lc : Launch) (e : Env) (s : State) (m : MethodId) (args : Array Value) (below : List Frame) (meth : Method) (c : Code) (A : Nat → Prop), tx_CX M p s m args meth c a aV A → ∀ (H : Heap) (locs : List Loc) (ls : Array Slot), va_S A s.heap H locs → lv_has ls M.2.2.1 l →
    W p lc e (am_rm d 0 0) s m args below meth c H locs 0 0 (MQ below (tx_Q v A) args s 0 0 A) (F0 m pc ls st)
theorem tx_intro {M : am_M} {d a aV : Nat} {as : List Value} {v : Int32} (hy : plainName M.1.cls = true) (hs : (lg_sl as).length ≤ M.2.2.1) (k : tx_OK M d a aV v 0 (lv_args 0 as) []) : tx_C M d a aV as v := by
  intro lc A sz hA
  refine Met.ofW (cc := M.2.1) (maxL := M.2.2.1) (ret := M.2.2.2) hy rfl ?_
  intro p e s m args below meth c s₁ B hml hv
  obtain ⟨rfl, hsz, hB⟩ := hv
  have hts := atoms_spec (ws := am_ws M) B.pre
  have hown : s.vm.findClass M.1.cls = some m.cls := findClass_of_methodNamed B.named
  subst hsz
  have hl := lv_entry as (n := M.2.2.1) hs
  rw [lg_entry_eq]
  exact k p lc e s m _ below meth c A ⟨⟨B.exec, B.bytes, hml, hown, hts⟩, B.returns, B.notSynchronized, hA, hB⟩ _ [] _ va_S.rf hl
theorem tx_blind {a aV sz : Nat} {A : Nat → Prop} {av : List Value} : FrameBlind (va_Pc av (fun U => U.heap.size = sz ∧ tx_B a aV A U)) :=
  fun b U g mk q => by obtain ⟨q0, q1, q2, q3⟩ := q; exact ⟨q0, q1, vk_S.moved (u := U) (U := U.calling g mk b) (Vm.Alike.refl U.vm) q2, va_Z.moved (u := U) (U := U.calling g mk b) (Vm.Alike.refl U.vm) q3⟩
section TX
variable {M : am_M} {d a aV : Nat} {v : Int32} {pc : Nat} {l : List (Nat × Value)} {st : List Value}
theorem tx_iconst {n : Int} {x : Int32} (hv : Int32.ofInt n = x) (hd : decode M.2.1 pc = .ok (.iconst n, 1)) (k : tx_OK M d a aV v (pc + 1) l (.int x :: st)) : tx_OK M d a aV v pc l st :=
  fun p lc e s m args below meth c A cx H locs ls hS hl => lv_iconst cx.1.1 cx.1.2.1 hd hv (k p lc e s m args below meth c A cx H locs ls hS hl)
theorem tx_sipush {n : Int} {x : Int32} (hv : (Int16.ofInt n).toInt32 = x) (hd : decode M.2.1 pc = .ok (.sipush n, 3)) (k : tx_OK M d a aV v (pc + 3) l (.int x :: st)) : tx_OK M d a aV v pc l st :=
  fun p lc e s m args below meth c A cx H locs ls hS hl => lv_sipush cx.1.1 cx.1.2.1 hd hv (k p lc e s m args below meth c A cx H locs ls hS hl)
theorem tx_iload_n (j : Nat) {n : Fin 4} {i : Nat} {x : Int32} (hi : (n : Nat) = i) (hk : l[j]? = some (i, .int x)) (hd : decode M.2.1 pc = .ok (.iload_n n, 1)) (k : tx_OK M d a aV v (pc + 1) l (.int x :: st)) : tx_OK M d a aV v pc l st :=
  fun p lc e s m args below meth c A cx H locs ls hS hl => lv_iload_n cx.1.1 cx.1.2.1 hd hi (lv_at hl j hk) (k p lc e s m args below meth c A cx H locs ls hS hl)
theorem tx_iload (j : Nat) {i : Nat} {x : Int32} (hk : l[j]? = some (i, .int x)) (hd : decode M.2.1 pc = .ok (.iload i, 2)) (k : tx_OK M d a aV v (pc + 2) l (.int x :: st)) : tx_OK M d a aV v pc l st :=
  fun p lc e s m args below meth c A cx H locs ls hS hl => lv_iload cx.1.1 cx.1.2.1 hd (lv_at hl j hk) (k p lc e s m args below meth c A cx H locs ls hS hl)
theorem tx_aload_n (j : Nat) {n : Fin 4} {i x : Nat} (hi : (n : Nat) = i) (hk : l[j]? = some (i, .ref x)) (hd : decode M.2.1 pc = .ok (.aload_n n, 1)) (k : tx_OK M d a aV v (pc + 1) l (.ref x :: st)) : tx_OK M d a aV v pc l st :=
  fun p lc e s m args below meth c A cx H locs ls hS hl => lv_aload_n cx.1.1 cx.1.2.1 hd hi (lv_at hl j hk) (k p lc e s m args below meth c A cx H locs ls hS hl)
theorem tx_istore_n {n : Fin 4} {i : Nat} {x : Int32} {l' : List (Nat × Value)} (hi : (n : Nat) = i) (hn : i < M.2.2.1) (hl' : am_p1 i (.int x) l = l') (hd : decode M.2.1 pc = .ok (.istore_n n, 1)) (k : tx_OK M d a aV v (pc + 1) l' st) : tx_OK M d a aV v pc l (.int x :: st) :=
  fun p lc e s m args below meth c A cx H locs ls hS hl => lv_istore_n cx.1.1 cx.1.2.1 hd hi hl hn hl' (fun ls' hl => k p lc e s m args below meth c A cx H locs ls' hS hl)
theorem tx_istore {i : Nat} {x : Int32} {l' : List (Nat × Value)} (hn : i < M.2.2.1) (hl' : am_p1 i (.int x) l = l') (hd : decode M.2.1 pc = .ok (.istore i, 2)) (k : tx_OK M d a aV v (pc + 2) l' st) : tx_OK M d a aV v pc l (.int x :: st) :=
  fun p lc e s m args below meth c A cx H locs ls hS hl => lv_istore cx.1.1 cx.1.2.1 hd hl hn hl' (fun ls' hl => k p lc e s m args below meth c A cx H locs ls' hS hl)
theorem tx_iinc (j : Nat) {i : Nat} {n : Int} {x y : Int32} {l' : List (Nat × Value)} (hk : l[j]? = some (i, .int x)) (hv : x + Int32.ofInt n = y) (hn : i < M.2.2.1) (hl' : am_p1 i (.int y) l = l') (hd : decode M.2.1 pc = .ok (.iinc i n, 3)) (k : tx_OK M d a aV v (pc + 3) l' st) : tx_OK M d a aV v pc l st :=
  fun p lc e s m args below meth c A cx H locs ls hS hl => lv_iinc cx.1.1 cx.1.2.1 hd hl hk hv hn hl' (fun ls' hl => k p lc e s m args below meth c A cx H locs ls' hS hl)
theorem tx_sub (ks : List Nat) {l' : List (Nat × Value)} (hs : lv_pick l ks = l') (k : tx_OK M d a aV v pc l' st) : tx_OK M d a aV v pc l st :=
  fun p lc e s m args below meth c A cx H locs ls hS hl => k p lc e s m args below meth c A cx H locs ls hS (lv_sub hl ks hs)
theorem tx_goto {off : Int} {tgt : Nat} (ht : (pc : Int) + off = (tgt : Int)) (hd : decode M.2.1 pc = .ok (.goto off, 3)) (k : tx_OK M d a aV v tgt l st) : tx_OK M d a aV v pc l st :=
  fun p lc e s m args below meth c A cx H locs ls hS hl => lv_goto cx.1.1 cx.1.2.1 hd ht (k p lc e s m args below meth c A cx H locs ls hS hl)
theorem tx_if_eq {x : Int32} {off : Int} {tgt : Nat} (ht : (pc : Int) + off = (tgt : Int)) (hd : decode M.2.1 pc = .ok (.ifCond .eq off, 3)) (kt : x = 0 → tx_OK M d a aV v tgt l st) (kf : ¬ x = 0 → tx_OK M d a aV v (pc + 3) l st) : tx_OK M d a aV v pc l (.int x :: st) :=
  fun p lc e s m args below meth c A cx H locs ls hS hl => lv_if_eq cx.1.1 cx.1.2.1 hd ht (fun q => kt q p lc e s m args below meth c A cx H locs ls hS hl) (fun q => kf q p lc e s m args below meth c A cx H locs ls hS hl)
theorem tx_if_ne {x : Int32} {off : Int} {tgt : Nat} (ht : (pc : Int) + off = (tgt : Int)) (hd : decode M.2.1 pc = .ok (.ifCond .ne off, 3)) (kt : ¬ x = 0 → tx_OK M d a aV v tgt l st) (kf : x = 0 → tx_OK M d a aV v (pc + 3) l st) : tx_OK M d a aV v pc l (.int x :: st) :=
  fun p lc e s m args below meth c A cx H locs ls hS hl => lv_if_ne cx.1.1 cx.1.2.1 hd ht (fun q => kt q p lc e s m args below meth c A cx H locs ls hS hl) (fun q => kf q p lc e s m args below meth c A cx H locs ls hS hl)
theorem tx_if_lt {x : Int32} {off : Int} {tgt : Nat} (ht : (pc : Int) + off = (tgt : Int)) (hd : decode M.2.1 pc = .ok (.ifCond .lt off, 3)) (kt : x < 0 → tx_OK M d a aV v tgt l st) (kf : ¬ x < 0 → tx_OK M d a aV v (pc + 3) l st) : tx_OK M d a aV v pc l (.int x :: st) :=
  fun p lc e s m args below meth c A cx H locs ls hS hl => lv_if_lt cx.1.1 cx.1.2.1 hd ht (fun q => kt q p lc e s m args below meth c A cx H locs ls hS hl) (fun q => kf q p lc e s m args below meth c A cx H locs ls hS hl)
theorem tx_icmp_lt {x y : Int32} {off : Int} {tgt : Nat} (ht : (pc : Int) + off = (tgt : Int)) (hd : decode M.2.1 pc = .ok (.if_icmp .lt off, 3)) (kt : x < y → tx_OK M d a aV v tgt l st) (kf : ¬ x < y → tx_OK M d a aV v (pc + 3) l st) : tx_OK M d a aV v pc l (.int y :: .int x :: st) :=
  fun p lc e s m args below meth c A cx H locs ls hS hl => lv_icmp_lt cx.1.1 cx.1.2.1 hd ht (fun q => kt q p lc e s m args below meth c A cx H locs ls hS hl) (fun q => kf q p lc e s m args below meth c A cx H locs ls hS hl)
theorem tx_icmp_gt {x y : Int32} {off : Int} {tgt : Nat} (ht : (pc : Int) + off = (tgt : Int)) (hd : decode M.2.1 pc = .ok (.if_icmp .gt off, 3)) (kt : y < x → tx_OK M d a aV v tgt l st) (kf : ¬ y < x → tx_OK M d a aV v (pc + 3) l st) : tx_OK M d a aV v pc l (.int y :: .int x :: st) :=
  fun p lc e s m args below meth c A cx H locs ls hS hl => lv_icmp_gt cx.1.1 cx.1.2.1 hd ht (fun q => kt q p lc e s m args below meth c A cx H locs ls hS hl) (fun q => kf q p lc e s m args below meth c A cx H locs ls hS hl)
theorem tx_icmp_ge {x y : Int32} {off : Int} {tgt : Nat} (ht : (pc : Int) + off = (tgt : Int)) (hd : decode M.2.1 pc = .ok (.if_icmp .ge off, 3)) (kt : y ≤ x → tx_OK M d a aV v tgt l st) (kf : ¬ y ≤ x → tx_OK M d a aV v (pc + 3) l st) : tx_OK M d a aV v pc l (.int y :: .int x :: st) :=
  fun p lc e s m args below meth c A cx H locs ls hS hl => lv_icmp_ge cx.1.1 cx.1.2.1 hd ht (fun q => kt q p lc e s m args below meth c A cx H locs ls hS hl) (fun q => kf q p lc e s m args below meth c A cx H locs ls hS hl)
theorem tx_icmp_ne {x y : Int32} {off : Int} {tgt : Nat} (ht : (pc : Int) + off = (tgt : Int)) (hd : decode M.2.1 pc = .ok (.if_icmp .ne off, 3)) (kt : ¬ x = y → tx_OK M d a aV v tgt l st) (kf : x = y → tx_OK M d a aV v (pc + 3) l st) : tx_OK M d a aV v pc l (.int y :: .int x :: st) :=
  fun p lc e s m args below meth c A cx H locs ls hS hl => lv_icmp_ne cx.1.1 cx.1.2.1 hd ht (fun q => kt q p lc e s m args below meth c A cx H locs ls hS hl) (fun q => kf q p lc e s m args below meth c A cx H locs ls hS hl)
theorem tx_ishr {x y : Int32} (hd : decode M.2.1 pc = .ok (.ishr, 1)) (k : tx_OK M d a aV v (pc + 1) l (.int (x >>> (y &&& 31)) :: st)) : tx_OK M d a aV v pc l (.int y :: .int x :: st) :=
  fun p lc e s m args below meth c A cx H locs ls hS hl => lv_ishr cx.1.1 cx.1.2.1 hd (k p lc e s m args below meth c A cx H locs ls hS hl)
theorem tx_i2b {x y : Int32} (hv : x.toInt8.toInt32 = y) (hd : decode M.2.1 pc = .ok (.i2b, 1)) (k : tx_OK M d a aV v (pc + 1) l (.int y :: st)) : tx_OK M d a aV v pc l (.int x :: st) :=
  fun p lc e s m args below meth c A cx H locs ls hS hl => lv_i2b cx.1.1 cx.1.2.1 hd hv (k p lc e s m args below meth c A cx H locs ls hS hl)
theorem tx_iret {ty : FieldType} (hr : M.2.2.2 = some ty) (hn : narrow ty (.int v) = .int v) (hd : decode M.2.1 pc = .ok (.ireturn, 1)) : tx_OK M d a aV v pc l [.int v] :=
  fun p lc e s m args below meth c A cx H locs ls hS hl => W.zret cx.1.1 cx.1.2.1 (cx.2.1.trans hr) hn (fun t ht _ => ⟨⟨v, (), rfl, rfl, trivial⟩, hS.F ht⟩) (fun q hq => hS.2.2 q hq) hd (hlocks := cx.2.2.1)
theorem tx_value {index : Nat} (hk : Cond.fieldLink M.1.cls index "java/lang/String" "value" "[B" ∈ lw_tbl) (hd : decode M.2.1 pc = .ok (.getfield index, 3)) (k : tx_OK M d a aV v (pc + 3) l (.ref aV :: st)) : tx_OK M d a aV v pc l (.ref a :: st) :=
  fun p lc e s m args below meth c A cx H locs ls hS hl => vk_getf cx.1.1 cx.1.2.1 (cx.2.2.2.2.1.1 0 (by decide)).2.2.1 hS cx.1.2.2.2.1 (cx.1.2.2.2.2 _ (am_tbl hk)) (fun _ h => h) hd (k p lc e s m args below meth c A cx H locs ls hS hl)
theorem tx_coderf {index : Nat} (hk : Cond.fieldLink M.1.cls index "java/lang/String" "coder" "B" ∈ lw_tbl) (hd : decode M.2.1 pc = .ok (.getfield index, 3)) (k : tx_OK M d a aV v (pc + 3) l (.int 0 :: st)) : tx_OK M d a aV v pc l (.ref a :: st) :=
  fun p lc e s m args below meth c A cx H locs ls hS hl => vk_getf cx.1.1 cx.1.2.1 (cx.2.2.2.2.1.1 0 (by decide)).2.1 hS cx.1.2.2.2.1 (cx.1.2.2.2.2 _ (am_tbl hk)) (fun _ h => h) hd (k p lc e s m args below meth c A cx H locs ls hS hl)
theorem tx_compact {index : Nat} (hk : Cond.fieldLink M.1.cls index "java/lang/String" "COMPACT_STRINGS" "Z" ∈ lw_tbl) (hd : decode M.2.1 pc = .ok (.getstatic index, 3)) (k : tx_OK M d a aV v (pc + 3) l (.int 1 :: st)) : tx_OK M d a aV v pc l st :=
  fun p lc e s m args below meth c A cx H locs ls hS hl => va_gets cx.1.1 cx.1.2.1 cx.2.2.2.2.2 hS cx.1.2.2.2.1 (cx.1.2.2.2.2 _ (am_tbl hk)) (fun _ h => h) hd (k p lc e s m args below meth c A cx H locs ls hS hl)
theorem tx_len (hd : decode M.2.1 pc = .ok (.arraylength, 1)) (k : tx_OK M d a aV v (pc + 1) l (.int 7 :: st)) : tx_OK M d a aV v pc l (.ref aV :: st) :=
  fun p lc e s m args below meth c A cx H locs ls hS hl => va_tlen cx.1.1 cx.1.2.1 (cx.2.2.2.2.1.1 0 (by decide)).2.2.2 hS (by decide) hd (k p lc e s m args below meth c A cx H locs ls hS hl)
theorem tx_byte {i x : Int32} (hi : vp_in i 7) (hx : [99, 115, 105, 111, 113, 114, 109].getD i.toNatClampNeg 0 = x) (hd : decode M.2.1 pc = .ok (.baload, 1)) (k : tx_OK M d a aV v (pc + 1) l (.int x :: st)) : tx_OK M d a aV v pc l (.int i :: .ref aV :: st) :=
  fun p lc e s m args below meth c A cx H locs ls hS hl => va_tb cx.1.1 cx.1.2.1 (cx.2.2.2.2.1.1 0 (by decide)).2.2.2 hS hi (by show Value.int _ = Value.int _; rw [← hx]; rfl) hd (k p lc e s m args below meth c A cx H locs ls hS hl)
theorem tx_callB {N : am_M} {d' n index : Nat} (hw : am_cwd N n) (hlk : Cond.methodLink M.1.cls index N.1 ∈ lw_tbl) (hd : d' + 1 ≤ d) {p : Program} {s : State} {m : MethodId} {args : Array Value} {meth : Method} {c : Code} {A : Nat → Prop} (cx : tx_CX M p s m args meth c a aV A) :
    CallB (am_rm d 0 0) s args M.1.cls index N.1 N.2.1 N.2.2.1 N.2.2.2 (am_ws N) (am_rm d' 0 0) 0 0 n := by
  refine callB_of (Ts := am_ws M) n cx.1.2.2.2.2 (am_goodIn hw.1) rfl rfl rfl (cx.1.2.2.2.2 _ (am_tbl hw.2.1)) (cx.1.2.2.2.2 _ (am_tbl hlk)) hw.2.2.1 ⟨hd, ?_⟩
  show 8 + (N.2.2.1 + 11) + 40 * d' ≤ 40 * d
  have := hw.2.2.2
  omega
theorem tx_BU {p : Program} {s : State} {m : MethodId} {args : Array Value} {meth : Method} {c : Code} {A : Nat → Prop} (cx : tx_CX M p s m args meth c a aV A) {H : Heap} {locs : List Loc} (hS : va_S A s.heap H locs) {U : State} (hU : U.heap = H) (hW : s.WarmedH U.vm) : tx_B a aV A U := by
  rw [tx_B, hU]
  exact ⟨(vk_S.moved hW.alike cx.2.2.2.2.1).kept hS.2.1, (va_Z.moved hW.alike cx.2.2.2.2.2).kept hS.2.1⟩
theorem tx_invS {N : am_M} {d' n index : Nat} {as : List Value} {w : Int32} (hM : tx_C N d' a aV as w) (hw : am_cwd N n) (hlk : Cond.methodLink M.1.cls index N.1 ∈ lw_tbl) (hsta : Cond.static N.1 ∈ lw_tbl) (hn : as.length = n) (hd' : d' + 1 ≤ d) (hst : (st.map fun v => v.category).sum ≤ 8) (hd : decode M.2.1 pc = .ok (.invokestatic index, 3))
    (k : tx_OK M d a aV v (pc + 3) l (.int w :: st)) : tx_OK M d a aV v pc l (as.reverse ++ st) := by
  intro p lc e s m args below meth c A cx H locs ls hS hl
  have hts := cx.1.2.2.2.2
  refine va_calli (A0 := A) (H0 := s.heap) (A1 := A) (free := A) (va_runS (As := as) cx.1 (hM lc A H.size (fun q h => cx.2.2.2.1 q (Nat.le_trans hS.1 h))) ⟨tx_callB hw hlk hd' cx, hts _ (am_tbl hsta)⟩ ⟨tx_blind, fun U hU hW => ⟨rfl, by rw [hU], tx_BU cx hS hU hW⟩⟩ rfl hn hl.1 rfl (lv_room hst) hd ⟨Nat.le_refl _, Nat.le_refl _⟩) hS (fun q _ h => h) (fun q h => h) (fun r u t H1 locs1 _ _ hp _ _ _ hS1 => ?_)
  subst hp
  exact k p lc e s m args below meth c A cx H1 locs1 ls hS1 hl
theorem tx_invV {N : am_M} {d' n index : Nat} {as : List Value} {w : Int32} (hC : N.1.cls = "java/lang/String") (hM : tx_C N d' a aV (.ref a :: as) w) (hw : am_cwd N n) (hlk : Cond.methodLink M.1.cls index N.1 ∈ lw_tbl) (hin : Cond.instanceMethod N.1 ∈ lw_tbl) (hse : Cond.selects N.1.cls N.1 N.1 ∈ lw_tbl) (hn : as.length = n) (hd' : d' + 1 ≤ d) (hst : (st.map fun v => v.category).sum ≤ 8) (hd : decode M.2.1 pc = .ok (.invokevirtual index, 3))
    (k : tx_OK M d a aV v (pc + 3) l (.int w :: st)) : tx_OK M d a aV v pc l (as.reverse ++ .ref a :: st) := by
  intro p lc e s m args below meth c A cx H locs ls hS hl
  have hts := cx.1.2.2.2.2
  refine va_calli (A0 := A) (H0 := s.heap) (A1 := A) (free := A) (va_runV (C := "java/lang/String") (b := a) (As := as) cx.1 (hM lc A H.size (fun q h => cx.2.2.2.1 q (Nat.le_trans hS.1 h))) ⟨tx_callB hw hlk hd' cx, hts _ (am_tbl hin), hts _ (am_tbl (by rw [← hC]; exact hse))⟩ ⟨tx_blind, vk_recv (i := 0) cx.2.2.2.2.1 (by decide) hS, fun U hU hW => ⟨rfl, by rw [hU], tx_BU cx hS hU hW⟩⟩ rfl hn hl.1 rfl (lv_room hst) hd ⟨Nat.le_refl _, Nat.le_refl _⟩) hS (fun q _ h => h) (fun q h => h) (fun r u t H1 locs1 _ _ hp _ _ _ hS1 => ?_)
  subst hp
  exact k p lc e s m args below meth c A cx H1 locs1 ls hS1 hl
theorem tx_maxi {x y : Int32} {index : Nat} (hlk : Cond.methodLink M.1.cls index Lib.Math.max.name ∈ lw_tbl) (hst : (st.map fun v => v.category).sum ≤ 8) (hx : 1 ≤ d) (hd : decode M.2.1 pc = .ok (.invokestatic index, 3)) (k : tx_OK M d a aV v (pc + 3) l (.int (if x < y then y else x) :: st)) : tx_OK M d a aV v pc l (.int y :: .int x :: st) := by
  intro p lc e s m args below meth c A cx H locs ls hS hl
  have hts := cx.1.2.2.2.2
  refine va_mmax cx.1.1 cx.1.2.1 (by rw [cx.1.2.2.1]; exact hl.1.symm) cx.1.2.2.2.1 (hts _ (am_tbl hlk)) (hts _ (am_tbl (tb_4 (i := 174) (by decide +kernel)))) (hts _ (am_tbl (tb_1 (i := 15) (by decide +kernel)))) (hts _ (am_tbl (tb_4 (i := 175) (by decide +kernel)))) hx ?_ (Nat.le_refl _) (Nat.le_refl _) hd (k p lc e s m args below meth c A cx H locs ls hS hl)
  show _ + 13 ≤ 40 * d
  omega
theorem tx_mini {x y : Int32} {index : Nat} (hlk : Cond.methodLink M.1.cls index Lib.Math.min.name ∈ lw_tbl) (hst : (st.map fun v => v.category).sum ≤ 8) (hx : 1 ≤ d) (hd : decode M.2.1 pc = .ok (.invokestatic index, 3)) (k : tx_OK M d a aV v (pc + 3) l (.int (if y < x then y else x) :: st)) : tx_OK M d a aV v pc l (.int y :: .int x :: st) := by
  intro p lc e s m args below meth c A cx H locs ls hS hl
  have hts := cx.1.2.2.2.2
  refine va_mmin cx.1.1 cx.1.2.1 (by rw [cx.1.2.2.1]; exact hl.1.symm) cx.1.2.2.2.1 (hts _ (am_tbl hlk)) (hts _ (am_tbl (tb_4 (i := 177) (by decide +kernel)))) (hts _ (am_tbl (tb_1 (i := 15) (by decide +kernel)))) (hts _ (am_tbl (tb_4 (i := 178) (by decide +kernel)))) hx ?_ (Nat.le_refl _) (Nat.le_refl _) hd (k p lc e s m args below meth c A cx H locs ls hS hl)
  show _ + 13 ≤ 40 * d
  omega
end TX
abbrev M_S_ix1 : am_M := (⟨"java/lang/String", "indexOf", "(I)I"⟩, prog_18_method_79_code, 2, some .int)
abbrev M_S_ix2 : am_M := (⟨"java/lang/String", "indexOf", "(II)I"⟩, prog_18_method_80_code, 3, some .int)
abbrev M_S_lat : am_M := (⟨"java/lang/String", "isLatin1", "()Z"⟩, prog_18_method_154_code, 1, some .boolean)
abbrev M_S_len : am_M := (⟨"java/lang/String", "length", "()I"⟩, prog_18_method_54_code, 1, some .int)
abbrev M_S_cod : am_M := (⟨"java/lang/String", "coder", "()B"⟩, prog_18_method_152_code, 1, some .byte)
abbrev M_S_ix : am_M := (⟨"java/lang/StringLatin1", "indexOf", "([BIII)I"⟩, prog_19_method_22_code, 4, some .int)
abbrev M_S_ixc : am_M := (⟨"java/lang/StringLatin1", "indexOfChar", "([BIII)I"⟩, prog_19_method_23_code, 6, some .int)
abbrev M_S_can : am_M := (⟨"java/lang/StringLatin1", "canEncode", "(I)Z"⟩, prog_19_method_4_code, 1, some .boolean)
theorem cw_S_ix1 : am_cwd M_S_ix1 1 := ⟨(tb_4 (i := 148) (by decide +kernel)), (tb_1 (i := 17) (by decide +kernel)), by decide +kernel, by decide⟩
theorem cw_S_ix2 : am_cwd M_S_ix2 2 := ⟨(tb_4 (i := 152) (by decide +kernel)), (tb_1 (i := 17) (by decide +kernel)), by decide +kernel, by decide⟩
theorem cw_S_lat : am_cwd M_S_lat 0 := ⟨(tb_4 (i := 156) (by decide +kernel)), (tb_1 (i := 17) (by decide +kernel)), by decide +kernel, by decide⟩
theorem cw_S_len : am_cwd M_S_len 0 := ⟨(tb_4 (i := 162) (by decide +kernel)), (tb_1 (i := 17) (by decide +kernel)), by decide +kernel, by decide⟩
theorem cw_S_cod : am_cwd M_S_cod 0 := ⟨(tb_4 (i := 166) (by decide +kernel)), (tb_1 (i := 17) (by decide +kernel)), by decide +kernel, by decide⟩
theorem cw_S_ix : am_cwd M_S_ix 4 := ⟨(tb_4 (i := 169) (by decide +kernel)), (tb_1 (i := 18) (by decide +kernel)), by decide +kernel, by decide⟩
theorem cw_S_ixc : am_cwd M_S_ixc 4 := ⟨(tb_4 (i := 181) (by decide +kernel)), (tb_1 (i := 18) (by decide +kernel)), by decide +kernel, by decide⟩
theorem cw_S_can : am_cwd M_S_can 1 := ⟨(tb_4 (i := 172) (by decide +kernel)), (tb_1 (i := 18) (by decide +kernel)), by decide +kernel, by decide⟩
theorem tx_lat {a aV : Nat} : tx_C M_S_lat 0 a aV [.ref a] 1 := by
  refine tx_intro (by decide +kernel) (Nat.le_of_ble_eq_true rfl) ?_
  refine tx_compact (index := 38) (tb_4 (i := 157) (by decide +kernel)) (by decide +kernel) ?_
  refine tx_if_eq (off := 14) (tgt := 17) rfl (by decide +kernel) (fun q => absurd q (by decide)) (fun _ => ?_)
  refine tx_aload_n (n := 0) 0 rfl rfl (by decide +kernel) ?_
  refine tx_coderf (index := 15) (tb_7 (i := 176) (by decide +kernel)) (by decide +kernel) ?_
  refine tx_if_ne (off := 7) (tgt := 17) rfl (by decide +kernel) (fun q => absurd rfl q) (fun _ => ?_)
  refine tx_iconst (n := 1) (x := 1) (by decide) (by decide +kernel) ?_
  refine tx_goto (off := 4) (tgt := 18) rfl (by decide +kernel) ?_
  exact tx_iret rfl (by decide) (by decide +kernel)
theorem tx_cod {a aV : Nat} : tx_C M_S_cod 0 a aV [.ref a] 0 := by
  refine tx_intro (by decide +kernel) (Nat.le_of_ble_eq_true rfl) ?_
  refine tx_compact (index := 38) (tb_4 (i := 157) (by decide +kernel)) (by decide +kernel) ?_
  refine tx_if_eq (off := 10) (tgt := 13) rfl (by decide +kernel) (fun q => absurd q (by decide)) (fun _ => ?_)
  refine tx_aload_n (n := 0) 0 rfl rfl (by decide +kernel) ?_
  refine tx_coderf (index := 15) (tb_7 (i := 176) (by decide +kernel)) (by decide +kernel) ?_
  refine tx_goto (off := 4) (tgt := 14) rfl (by decide +kernel) ?_
  exact tx_iret rfl (by decide) (by decide +kernel)
theorem tx_length {a aV : Nat} : tx_C M_S_len 1 a aV [.ref a] 7 := by
  refine tx_intro (by decide +kernel) (Nat.le_of_ble_eq_true rfl) ?_
  refine tx_aload_n (n := 0) 0  rfl rfl (by decide +kernel) ?_
  refine tx_value (index := 9) (tb_7 (i := 177) (by decide +kernel)) (by decide +kernel) ?_
  refine tx_len (by decide +kernel) ?_
  refine tx_aload_n (n := 0) 0  rfl rfl (by decide +kernel) ?_
  refine tx_invV (index := 335) (as := []) rfl tx_cod cw_S_cod (tb_4 (i := 163) (by decide +kernel)) (tb_4 (i := 164) (by decide +kernel)) (tb_4 (i := 165) (by decide +kernel)) rfl (by decide) (by decide) (by decide +kernel) ?_
  refine tx_ishr (by decide +kernel) ?_
  exact tx_iret rfl (by decide) (by decide +kernel)
theorem tx_can {a aV k : Nat} (hk : k < 128) : tx_C M_S_can 0 a aV [.int (nI k)] 1 := by
  refine tx_intro (by decide +kernel) (Nat.le_of_ble_eq_true rfl) ?_
  refine tx_iload_n (n := 0) 0  rfl rfl (by decide +kernel) ?_
  refine tx_if_lt (off := 14) (tgt := 15) rfl (by decide +kernel) (fun q => absurd q (nI_pos (by omega))) (fun _ => ?_)
  refine tx_iload_n (n := 0) 0  rfl rfl (by decide +kernel) ?_
  refine tx_sipush (n := 255) (x := 255) (by decide) (by decide +kernel) ?_
  refine tx_icmp_gt (off := 7) (tgt := 15) rfl (by decide +kernel) (fun q => absurd q (by rw [show (255 : Int32) = nI 255 by decide]; exact nI_nlt (by omega) (by omega))) (fun _ => ?_)
  refine tx_iconst (n := 1) (x := 1) (by decide) (by decide +kernel) ?_
  refine tx_goto (off := 4) (tgt := 16) rfl (by decide +kernel) ?_
  exact tx_iret rfl (by decide) (by decide +kernel)
def tx_f (c : Int32) : Nat → Nat → Int32
  | 0, _ => -1
  | m + 1, j => if [99, 115, 105, 111, 113, 114, 109].getD j 0 = c then nI j else tx_f c m (j + 1)
theorem tx_fr : ∀ k, k < 128 → tx_f (nI k) 7 0 = r_nm (nI k) := by decide +kernel
theorem tx_b8 : ∀ k, k < 128 → (nI k).toInt8.toInt32 = nI k := by decide +kernel
theorem tx_c16 : ∀ k, k < 128 → ((nI k).toUInt32 % 65536).toInt32 = nI k := by decide +kernel
theorem tx_ixc {a aV k : Nat} (hk : k < 128) : tx_C M_S_ixc 0 a aV [.ref aV, .int (nI k), .int 0, .int 7] (r_nm (nI k)) := by
  rw [← tx_fr k hk]
  refine tx_intro (by decide +kernel) (Nat.le_of_ble_eq_true rfl) ?_
  refine tx_iload_n (n := 1) 1 rfl rfl (by decide +kernel) ?_
  refine tx_i2b (tx_b8 k hk) (by decide +kernel) ?_
  refine tx_istore (i := 4) (by decide) rfl (by decide +kernel) ?_
  refine tx_iload_n (n := 2) 3  rfl rfl (by decide +kernel) ?_
  refine tx_istore (i := 5) (by decide) rfl (by decide +kernel) ?_
  have key : ∀ j, j ≤ 7 → tx_OK M_S_ixc 0 a aV (tx_f (nI k) (7 - j) j) 7 [(5, .int (nI j)), (4, .int (nI k)), (0, .ref aV), (3, .int 7)] [] := by
    refine am_down ?_ (fun j hj ih => ?_)
    · refine tx_iload (i := 5) 0  rfl (by decide +kernel) ?_
      refine tx_iload_n (n := 3) 3  rfl rfl (by decide +kernel) ?_
      refine tx_icmp_ge (off := 21) (tgt := 31) rfl (by decide +kernel) (fun _ => ?_) (fun q => absurd (by decide) q)
      refine tx_iconst (n := -1) (x := -1) (by decide) (by decide +kernel) ?_
      exact tx_iret rfl rfl (by decide +kernel)
    · rw [show 7 - j = (7 - (j + 1)) + 1 by omega, tx_f]
      refine tx_iload (i := 5) 0  rfl (by decide +kernel) ?_
      refine tx_iload_n (n := 3) 3  rfl rfl (by decide +kernel) ?_
      refine tx_icmp_ge (off := 21)  (tgt := 31) rfl (by decide +kernel) (fun q => absurd q (by rw [show (7 : Int32) = nI 7 by decide]; exact nI_ge (by omega) (by omega))) (fun _ => ?_)
      refine tx_aload_n (n := 0) 2 rfl rfl (by decide +kernel) ?_
      refine tx_iload (i := 5) 0  rfl (by decide +kernel) ?_
      refine tx_byte (am_vI hj (by decide)) rfl (by decide +kernel) ?_
      rw [nI_clamp (by omega)]
      refine tx_iload (i := 4) 1 rfl (by decide +kernel) ?_
      refine tx_icmp_ne (off := 6) (tgt := 25) rfl (by decide +kernel) (fun q => ?_) (fun q => ?_)
      · rw [if_neg q]
        refine tx_iinc (i := 5) (n := 1) 0 rfl (show nI j + Int32.ofInt 1 = nI (j + 1) by rw [nI_succ]; rfl) (by decide) rfl (by decide +kernel) ?_
        exact tx_goto (off := -21) (tgt := 7) rfl (by decide +kernel) ih
      · rw [if_pos q]
        refine tx_iload (i := 5) 0  rfl (by decide +kernel) ?_
        exact tx_iret rfl rfl (by decide +kernel)
  exact tx_sub [0, 1, 2, 5] rfl (key 0 (Nat.zero_le _))
theorem tx_ix {a aV k : Nat} (hk : k < 128) : tx_C M_S_ix 1 a aV [.ref aV, .int (nI k), .int 0, .int 7] (r_nm (nI k)) := by
  refine tx_intro (by decide +kernel) (Nat.le_of_ble_eq_true rfl) ?_
  refine tx_iload_n (n := 1) 1  rfl rfl (by decide +kernel) ?_
  refine tx_invS (index := 88) (as := [.int (nI k)]) (tx_can hk) cw_S_can (tb_4 (i := 170) (by decide +kernel)) (tb_4 (i := 171) (by decide +kernel)) rfl (by decide) (by decide) (by decide +kernel) ?_
  refine tx_if_ne (off := 5) (tgt := 9) rfl (by decide +kernel) (fun _ => ?_) (fun q => absurd q (by decide))
  refine tx_iload_n (n := 2) 2 rfl rfl (by decide +kernel) ?_
  refine tx_iconst (n := 0) (x := 0) (by decide) (by decide +kernel) ?_
  refine tx_maxi (index := 92) (tb_4 (i := 173) (by decide +kernel)) (by decide) (by decide) (by decide +kernel) ?_
  rw [if_neg (by decide)]
  refine tx_istore_n (n := 2) (i := 2) rfl (by decide) rfl (by decide +kernel) ?_
  refine tx_iload_n (n := 3) 3 rfl rfl (by decide +kernel) ?_
  refine tx_aload_n (n := 0) 1 rfl rfl (by decide +kernel) ?_
  refine tx_len (by decide +kernel) ?_
  refine tx_mini (index := 38) (tb_4 (i := 176) (by decide +kernel)) (by decide) (by decide) (by decide +kernel) ?_
  rw [if_neg (by decide)]
  refine tx_istore_n (n := 3) (i := 3) rfl (by decide) rfl (by decide +kernel) ?_
  refine tx_iload_n (n := 2) 1  rfl rfl (by decide +kernel) ?_
  refine tx_iload_n (n := 3) 0  rfl rfl (by decide +kernel) ?_
  refine tx_icmp_lt (off := 5) (tgt := 29) rfl (by decide +kernel) (fun _ => ?_) (fun q => absurd (by decide) q)
  refine tx_aload_n (n := 0) 2 rfl rfl (by decide +kernel) ?_
  refine tx_iload_n (n := 1) 3  rfl rfl (by decide +kernel) ?_
  refine tx_iload_n (n := 2) 1  rfl rfl (by decide +kernel) ?_
  refine tx_iload_n (n := 3) 0  rfl rfl (by decide +kernel) ?_
  refine tx_invS (index := 95) (as := [.ref aV, .int (nI k), .int 0, .int 7]) (tx_ixc hk) cw_S_ixc (tb_4 (i := 179) (by decide +kernel)) (tb_4 (i := 180) (by decide +kernel)) rfl (by decide) (by decide) (by decide +kernel) ?_
  exact tx_iret rfl rfl (by decide +kernel)
theorem tx_ix2 {a aV k : Nat} (hk : k < 128) : tx_C M_S_ix2 2 a aV [.ref a, .int (nI k), .int 0] (r_nm (nI k)) := by
  refine tx_intro (by decide +kernel) (Nat.le_of_ble_eq_true rfl) ?_
  refine tx_aload_n (n := 0) 0  rfl rfl (by decide +kernel) ?_
  refine tx_invV (index := 492) (as := []) rfl tx_lat cw_S_lat (tb_4 (i := 153) (by decide +kernel)) (tb_4 (i := 154) (by decide +kernel)) (tb_4 (i := 155) (by decide +kernel)) rfl (by decide) (by decide) (by decide +kernel) ?_
  refine tx_if_eq (off := 19) (tgt := 23) rfl (by decide +kernel) (fun q => absurd q (by decide)) (fun _ => ?_)
  refine tx_aload_n (n := 0) 0  rfl rfl (by decide +kernel) ?_
  refine tx_value (index := 9) (tb_7 (i := 177) (by decide +kernel)) (by decide +kernel) ?_
  refine tx_iload_n (n := 1) 1  rfl rfl (by decide +kernel) ?_
  refine tx_iload_n (n := 2) 2  rfl rfl (by decide +kernel) ?_
  refine tx_aload_n (n := 0) 0  rfl rfl (by decide +kernel) ?_
  refine tx_invV (index := 505) (as := []) rfl tx_length cw_S_len (tb_4 (i := 159) (by decide +kernel)) (tb_4 (i := 160) (by decide +kernel)) (tb_4 (i := 161) (by decide +kernel)) rfl (by decide) (Nat.le_of_ble_eq_true rfl) (by decide +kernel) ?_
  refine tx_invS (index := 637) (as := [.ref aV, .int (nI k), .int 0, .int 7]) (tx_ix hk) cw_S_ix (tb_4 (i := 167) (by decide +kernel)) (tb_4 (i := 168) (by decide +kernel)) rfl (by decide) (by decide) (by decide +kernel) ?_
  refine tx_goto (off := 16) (tgt := 36) rfl (by decide +kernel) ?_
  exact tx_iret rfl rfl (by decide +kernel)
theorem tx_ix1 {a aV k : Nat} (hk : k < 128) : tx_C M_S_ix1 3 a aV [.ref a, .int (nI k)] (r_nm (nI k)) := by
  refine tx_intro (by decide +kernel) (Nat.le_of_ble_eq_true rfl) ?_
  refine tx_aload_n (n := 0) 0  rfl rfl (by decide +kernel) ?_
  refine tx_iload_n (n := 1) 1  rfl rfl (by decide +kernel) ?_
  refine tx_iconst (n := 0) (x := 0) (by decide) (by decide +kernel) ?_
  refine tx_invV (index := 633) (as := [.int (nI k), .int 0]) rfl (tx_ix2 hk) cw_S_ix2 (tb_4 (i := 149) (by decide +kernel)) (tb_4 (i := 150) (by decide +kernel)) (tb_4 (i := 151) (by decide +kernel)) rfl (by decide) (by decide) (by decide +kernel) ?_
  exact tx_iret rfl rfl (by decide +kernel)
/-- in the reader's unit: from the text constant to its answer -/
theorem bm_names {S : List Nat → am_R → Prop} {d : Nat} {Q : am_S} {I : am_I} {L : am_L} {l : List (Nat × Value)} (j : Nat) {x : Int32} (hd : 4 ≤ d) (hx : 0 ≤ x ∧ x ≤ 127) (hk : l[j]? = some (2, .int x)) (hc : am_keep (fun _ => True) l [])
    (d1 : decode M_X7_unit.2.1 94 = .ok (.ldc 118, 2)) (d2 : decode M_X7_unit.2.1 96 = .ok (.iload_n 2, 1)) (d3 : decode M_X7_unit.2.1 97 = .ok (.i2c, 1)) (d4 : decode M_X7_unit.2.1 98 = .ok (.invokevirtual 120, 3))
    (k : am_BS S M_X7_unit d Q I L 101 l [.int (r_nm x)]) : am_BS S M_X7_unit d Q I L 94 l [] := by
  intro al R hs p lc e s m args below meth c D ca ad0 A cx ad H locs ls dy hl
  have hts := cx.1.2.2.2.2
  have hx2 : nI x.toNatClampNeg = x := am_nI hx.1
  have hlt : x.toNatClampNeg < 128 := by
    have h2 := hx.2
    have h1 := hx.1
    rw [Int32.le_iff_toInt_le] at h1 h2
    have a0 : (0 : Int32).toInt = 0 := by decide
    have a7 : (127 : Int32).toInt = 127 := by decide
    have h3 : (x.toNatClampNeg : Int) = x.toInt := Int.toNat_of_nonneg (by omega)
    omega
  obtain ⟨f1, f2, ⟨aV, f3⟩, f4, f5⟩ := cx.2.2.2.2.2.2
  have h9 : ad 900 = ad0 900 := dy.2.1 900 (Or.inl rfl)
  have hS := dy.2.2.2.2
  refine va_ldcS cx.1.1 cx.1.2.1 cx.1.2.2.2.1 f2 d1 ?_
  refine lv_iload_n cx.1.1 cx.1.2.1 d2 rfl (lv_at hl j (am_cl_at hk)) ?_
  have e16 : (x.toUInt32 % 65536).toInt32 = nI x.toNatClampNeg := by
    have := tx_c16 _ hlt
    rw [hx2] at this ⊢
    exact this
  refine lv_i2c cx.1.1 cx.1.2.1 d3 e16 ?_
  have hA1 : ∀ q, H.size ≤ q → A q := fun q h => cx.2.2.2.2.1 q (Nat.le_trans hS.1 h)
  have hA2 : ∀ q, q < H.size → H.size ≤ q → A q := fun q _ h => hA1 q h
  have f3' : vk_S 1 [7] [[99, 115, 105, 111, 113, 114, 109]] (fun _ => ad0 900) (fun _ => aV 0) A s s.heap := by
    refine ⟨fun i hi => ?_, f3.2⟩
    have hi0 : i = 0 := by omega
    subst hi0
    exact f3.1 0 hi
  have hB : ∀ U : State, U.heap = H → s.WarmedH U.vm → tx_B (ad0 900) (aV 0) (fun q => H.size ≤ q) U := fun U hU hW => by
    rw [tx_B, hU]
    exact ⟨((vk_S.moved hW.alike f3').kept hS.2.1).narrow hA1, ((va_Z.moved hW.alike f4).kept hS.2.1).narrow hA1⟩
  have hcw : CallB (am_rm d 0 0) s args M_X7_unit.1.cls 120 M_S_ix1.1 M_S_ix1.2.1 M_S_ix1.2.2.1 M_S_ix1.2.2.2 (am_ws M_S_ix1) (am_rm 3 0 0) 0 0 1 :=
    callB_of (Ts := am_ws M_X7_unit) 1 cx.1.2.2.2.2 (am_goodIn cw_S_ix1.1) rfl rfl rfl (hts _ (am_tbl cw_S_ix1.2.1)) (hts _ (am_tbl (tb_4 (i := 145) (by decide +kernel)))) cw_S_ix1.2.2.1 ⟨hd, by show 8 + (2 + 11) + 40 * 3 ≤ 40 * d; omega⟩
  refine va_calli (A0 := A) (H0 := s.heap) (A1 := fun q => H.size ≤ q) (free := fun q => H.size ≤ q) (va_runV (C := "java/lang/String") (b := ad0 900) (As := [.int (nI x.toNatClampNeg)]) (rest := []) cx.1 (tx_ix1 (aV := aV 0) hlt lc (fun q => H.size ≤ q) H.size (fun q h => h)) ⟨hcw, hts _ (am_tbl (tb_4 (i := 146) (by decide +kernel))), hts _ (am_tbl (tb_4 (i := 147) (by decide +kernel)))⟩ ⟨tx_blind, ?_, fun U hU hW => ⟨rfl, by rw [hU], hB U hU hW⟩⟩ rfl rfl hl.1 rfl (lv_room (by decide)) d4 ⟨Nat.zero_le _, Nat.zero_le _⟩) hS hA2 hA1 (fun r u t H1 locs1 ht _ hp _ hsz hk2 hS1 => ?_)
  · obtain ⟨cell, c1, c2, c3, -⟩ := (f3.1 0 (by decide)).1.kept hS.2.1
    exact ⟨cell, c1, c2, c3⟩
  · subst hp
    rw [hx2]
    exact k al R hs p lc e s m args below meth c D ca ad0 A cx ad H1 locs1 ls ⟨dy.1, dy.2.1, dy.2.2.1.kept (fun k q hq => hk2 q.1 (dy.2.2.1 k q hq).lt (fun h => absurd (dy.2.2.1 k q hq).lt (Nat.not_lt.mpr h))), dy.2.2.2.1, hS1⟩ hl
