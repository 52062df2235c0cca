/-! THE MACHINE IN PLACES: a world of numbered places (their kinds and lengths stand in am_lay), contents in three functions: whole numbers, long ones, references (places again) -/
abbrev am_H : Type := (Nat → Nat → Int32) × (Nat → Nat → Int64) × (Nat → Nat → Option Nat)
abbrev am_M : Type := MethodName × ByteArray × Nat × Option FieldType
abbrev am_G : Type := List Nat × Nat × Nat
abbrev am_X : Type := Nat × Nat × Nat × (Nat → Prop)
abbrev am_P : Type := Option Value → am_H → List Nat → Prop
def am_cv (ad : Nat → Nat) (v : Value) : Value := match v with
  | .ref k => .ref (ad k)
  | v => v
def am_cl (ad : Nat → Nat) (l : List (Nat × Value)) : List (Nat × Value) := l.map fun q => (q.1, am_cv ad q.2)
def am_fv (ad : Nat → Nat) (h : am_H) (k : Nat) (ty : FieldType) (j : Nat) : Value := match ty with
  | .long => .long (h.2.1 k j)
  | .object _ => va_rf ((h.2.2 k j).map ad)
  | .array _ => va_rf ((h.2.2 k j).map ad)
  | _ => .int (h.1 k j)
def am_ar (ad : Nat → Nat) (h : am_H) (k : Nat) (ty : FieldType) (n : Nat) : vp_A := match ty with
  | .long => (n, .inr (.inl (h.2.1 k)))
  | .object _ => (n, .inr (.inr (.inr (.inr fun j => (h.2.2 k j).map ad))))
  | _ => (n, .inl (h.1 k))
def am_ce (ca : FieldType → ClassId) (ad : Nat → Nat) (h : am_H) (k : Nat) : va_E := match am_lay k with
  | .inl (ty, n) => .inl (ca ty, am_ar ad h k ty n)
  | .inr ci => .inr (ci, (List.range (am_N ci)).map fun j => am_fv ad h k (am_ty ci j) j)
def am_wl (ca : FieldType → ClassId) (ad : Nat → Nat) (al : List Nat) (h : am_H) : va_W := al.map fun k => (ad k, am_ce ca ad h k)
def am_TY (ca : FieldType → ClassId) : List (ClassId × FieldType) := [(ca .int, .int), (ca .long, .long), (ca .boolean, .boolean), (ca (.object RX10), .object RX10)]
def am_tb : List Cond := lw_tbl.filter goodWord
def am_ws (M : am_M) : List Cond := Cond.code M.1 M.2.1 M.2.2.1 M.2.2.2 :: am_tb
def am_ag (Z : Nat → Prop) (ad ad0 : Nat → Nat) : Prop := ∀ k, (k = 900 ∨ Z k) → ad k = ad0 k
def am_nest : List (String × Nat × MethodName × String) := [("SteadyFund", 9, ⟨"SteadyFund$World", "<init>", "()V"⟩, "SteadyFund"), ("SteadyFund$World", 9, ⟨"SteadyFund$Ledger", "<init>", "()V"⟩, "SteadyFund"), ("SteadyFund$World", 18, ⟨"SteadyFund$Paper", "<init>", "()V"⟩, "SteadyFund"), ("SteadyFund$World", 32, ⟨"SteadyFund$Houses", "<init>", "()V"⟩, "SteadyFund"), ("SteadyFund$World", 39, ⟨"SteadyFund$Letters", "<init>", "()V"⟩, "SteadyFund"), ("SteadyFund", 22, ⟨"SteadyFund$SealedRecord", "<init>", "()V"⟩, "SteadyFund"), ("SteadyFund", 29, ⟨"SteadyFund$Fraction", "<init>", "()V"⟩, "SteadyFund"), ("SteadyFund", 36, ⟨"SteadyFund$Tide", "<init>", "()V"⟩, "SteadyFund"), ("SteadyFund", 55, ⟨"SteadyFund$RuleReader", "<init>", "()V"⟩, "SteadyFund"), ("SteadyFund$Ledger", 59, ⟨"SteadyFund", "within", "(III)Z"⟩, "SteadyFund"), ("SteadyFund$Fraction", 20, ⟨"SteadyFund", "cut", "(JJ)J"⟩, "SteadyFund"), ("SteadyFund$Claims", 81, ⟨"SteadyFund", "cut", "(JJ)J"⟩, "SteadyFund"), ("SteadyFund$Tide", 43, ⟨"SteadyFund", "cut", "(JJ)J"⟩, "SteadyFund"), ("SteadyFund$Clearing", 87, ⟨"SteadyFund", "cut", "(JJ)J"⟩, "SteadyFund"), ("SteadyFund$RuleReader", 104, ⟨"SteadyFund", "cut", "(JJ)J"⟩, "SteadyFund")]
/-- what stands outside of the world: the letters' names (place 900), a switch of the texts', rows of worlds -/
def am_F (ad : Nat → Nat) (A : Nat → Prop) (U : State) (H : Heap) : Prop := va_AO "SteadyFund$World" U ∧ vk_R "SteadyFund$RuleReader" 118 "csioqrm" (ad 900) U ∧ (∃ adV : Nat → Nat, vk_S 1 [7] [[99, 115, 105, 111, 113, 114, 109]] (fun _ => ad 900) adV A U H) ∧ va_Z "java/lang/String" "COMPACT_STRINGS" "Z" (.int 1) A U H ∧ ∀ q ∈ am_nest, va_Nw (.methodLinkNest q.1 q.2.1 q.2.2.1 q.2.2.2) U
def am_rm (d mc ms : Nat) : Room := { frames := d, cells := mc, slots := ms, locals := 40 * d }
def am_Qc (D : va_G) (ca : FieldType → ClassId) (ad0 : Nat → Nat) (Z : Nat → Prop) (A : Nat → Prop) (Q : am_P) : Array Value → State → Outcome → State → Prop := fun _ st o t =>
  (∃ (r : Option Value) (h : am_H) (al : List Nat) (ad : Nat → Nat), o = .returned (r.map (am_cv ad)) ∧ Q r h al ∧ al.Nodup ∧ am_ag Z ad ad0 ∧ va_P D vwCl (am_wl ca ad al h) t.heap ∧ va_D A (am_wl ca ad al h)) ∧ va_F A st t
def am_CX (M : am_M) (p : Program) (s : State) (m : MethodId) (args : Array Value) (meth : Method) (c : Code) (D : va_G) (ca : FieldType → ClassId) (ad0 : Nat → Nat) (A : Nat → Prop) : Prop :=
  CallFix p m c M.2.1 M.2.2.1 s args (am_ws M) M.1.cls ∧ meth.sig.returnType = M.2.2.2 ∧ meth.locks = false ∧ va_K D vwCl (am_TY ca) s ∧ (∀ q, s.heap.size ≤ q → A q) ∧ meth.name = M.1.name ∧ am_F ad0 A s s.heap
def am_DY (M : am_M) (s : State) (D : va_G) (ca : FieldType → ClassId) (ad0 : Nat → Nat) (Z : Nat → Prop) (A : Nat → Prop) (al : List Nat) (h : am_H) (ad : Nat → Nat) (H : Heap) (locs : List Loc) : Prop :=
  al.Nodup ∧ am_ag Z ad ad0 ∧ va_P D vwCl (am_wl ca ad al h) H ∧ va_D A (am_wl ca ad al h) ∧ va_S A s.heap H locs
/-- from this place of the code, with these locals and this stack, in this world, the method comes to its end, with Q -/
def am_OK (M : am_M) (X : am_X) (Q : am_P) (g : am_G) (h : am_H) (pc : Nat) (l : List (Nat × Value)) (st : List Value) : Prop :=
  ∀ (p : Program) (lc : Launch) (e : Env) (s : State) (m : MethodId) (args : Array Value) (below : List Frame) (meth : Method) (c : Code) (D : va_G) (ca : FieldType → ClassId) (ad0 : Nat → Nat) (A : Nat → Prop), am_CX M p s m args meth c D ca ad0 A →
    ∀ (ad : Nat → Nat) (H : Heap) (locs : List Loc) (ls : Array Slot), am_DY M s D ca ad0 X.2.2.2 A g.1 h ad H locs → lv_has ls M.2.2.1 (am_cl ad l) →
      W p lc e (am_rm X.1 X.2.1 X.2.2.1) s m args below meth c H locs g.2.1 g.2.2 (MQ below (am_Qc D ca ad0 X.2.2.2 A Q) args s X.2.1 X.2.2.1 A) (F0 m pc ls (st.map (am_cv ad)))
/-- a method's contract: from this world with these arguments it ends, with Q -/
def am_C (M : am_M) (d mc ms : Nat) (Z : Nat → Prop) (al : List Nat) (as : List Value) (h : am_H) (Q : am_P) : Prop :=
  ∀ (lc : Launch) (D : va_G) (ca : FieldType → ClassId) (ad : Nat → Nat) (sz : Nat), al.Nodup → Met lc M.1 (am_ws M) (am_rm d mc ms) (va_Pc (as.map (am_cv ad)) (fun U => U.heap.size = sz ∧ va_P D vwCl (am_wl ca ad al h) U.heap ∧ va_K D vwCl (am_TY ca) U ∧ va_D (fun _ => True) (am_wl ca ad al h) ∧ am_F ad (va_A (am_wl ca ad al h) sz) U U.heap)) (am_Qc D ca ad Z (va_A (am_wl ca ad al h) sz) Q) mc ms (va_A (am_wl ca ad al h) sz)
theorem am_cl_at {ad : Nat → Nat} {l : List (Nat × Value)} {k i : Nat} {v : Value} (h : l[k]? = some (i, v)) : (am_cl ad l)[k]? = some (i, am_cv ad v) := by
  simp [am_cl, h]
theorem am_cv_cat (ad : Nat → Nat) (v : Value) : (am_cv ad v).category = v.category := by cases v <;> rfl
theorem am_cl_put (ad : Nat → Nat) (i : Nat) (v : Value) (f : Nat → Nat → Bool) (l : List (Nat × Value)) : am_cl ad ((i, v) :: l.filter (fun q => f q.1 q.2.category)) = (i, am_cv ad v) :: (am_cl ad l).filter (fun q => f q.1 q.2.category) := by
  simp only [am_cl, List.map_cons, List.filter_map, List.cons.injEq, true_and]
  congr 1
  apply List.filter_congr
  intro q _
  simp only [Function.comp_apply, am_cv_cat]
/-- locals behind a store of one word, of two -/
def am_p1 (i : Nat) (v : Value) (l : List (Nat × Value)) : List (Nat × Value) := (i, v) :: l.filter (fun q => !(q.1 == i) && !(q.1 + 1 == i && q.2.category == 2))
def am_p2 (i : Nat) (v : Value) (l : List (Nat × Value)) : List (Nat × Value) := (i, v) :: l.filter (fun q => !(q.1 == i) && (!(q.1 == i + 1) && !(q.1 + 1 == i && q.2.category == 2)))
theorem am_cl_p1 (ad : Nat → Nat) (i : Nat) (v : Value) (l : List (Nat × Value)) : (i, am_cv ad v) :: (am_cl ad l).filter (fun q => !(q.1 == i) && !(q.1 + 1 == i && q.2.category == 2)) = am_cl ad (am_p1 i v l) := (am_cl_put ad i v (fun a b => !(a == i) && !(a + 1 == i && b == 2)) l).symm
theorem am_cl_p2 (ad : Nat → Nat) (i : Nat) (v : Value) (l : List (Nat × Value)) : (i, am_cv ad v) :: (am_cl ad l).filter (fun q => !(q.1 == i) && (!(q.1 == i + 1) && !(q.1 + 1 == i && q.2.category == 2))) = am_cl ad (am_p2 i v l) := (am_cl_put ad i v (fun a b => !(a == i) && (!(a == i + 1) && !(a + 1 == i && b == 2))) l).symm
section AM1
variable {M : am_M} {X : am_X} {Q : am_P} {g : am_G} {h : am_H} {pc : Nat} {l : List (Nat × Value)} {st : List Value}
theorem am_iconst {n : Int} {v : Int32} (hv : Int32.ofInt n = v) (hd : decode M.2.1 pc = .ok (.iconst n, 1)) (k : am_OK M X Q g h (pc + 1) l (.int v :: st)) : am_OK M X Q g h pc l st :=
  fun p lc e s m args below meth c D ca ad0 A cx ad H locs ls dy hl => lv_iconst cx.1.1 cx.1.2.1 hd hv (k p lc e s m args below meth c D ca ad0 A cx ad H locs ls dy hl)
theorem am_bipush {n : Int} {v : Int32} (hv : (Int8.ofInt n).toInt32 = v) (hd : decode M.2.1 pc = .ok (.bipush n, 2)) (k : am_OK M X Q g h (pc + 2) l (.int v :: st)) : am_OK M X Q g h pc l st :=
  fun p lc e s m args below meth c D ca ad0 A cx ad H locs ls dy hl => lv_bipush cx.1.1 cx.1.2.1 hd hv (k p lc e s m args below meth c D ca ad0 A cx ad H locs ls dy hl)
theorem am_sipush {n : Int} {v : Int32} (hv : (Int16.ofInt n).toInt32 = v) (hd : decode M.2.1 pc = .ok (.sipush n, 3)) (k : am_OK M X Q g h (pc + 3) l (.int v :: st)) : am_OK M X Q g h pc l st :=
  fun p lc e s m args below meth c D ca ad0 A cx ad H locs ls dy hl => lv_sipush cx.1.1 cx.1.2.1 hd hv (k p lc e s m args below meth c D ca ad0 A cx ad H locs ls dy hl)
theorem am_lconst {n : Fin 2} {v : Int64} (hv : Int64.ofNat (n : Nat) = v) (hd : decode M.2.1 pc = .ok (.lconst n, 1)) (k : am_OK M X Q g h (pc + 1) l (.long v :: st)) : am_OK M X Q g h pc l st :=
  fun p lc e s m args below meth c D ca ad0 A cx ad H locs ls dy hl => lv_lconst cx.1.1 cx.1.2.1 hd hv (k p lc e s m args below meth c D ca ad0 A cx ad H locs ls dy hl)
theorem am_tbl {w : Cond} (hw : w ∈ lw_tbl) (hg : goodWord w = true := by rfl) : w ∈ am_ws M := List.mem_cons_of_mem _ (List.mem_filter.mpr ⟨hw, hg⟩)
theorem am_ldc {index : Nat} {v : Int32} (hw : Cond.constant M.1.cls index v ∈ lw_tbl) (hd : decode M.2.1 pc = .ok (.ldc index, 2)) (k : am_OK M X Q g h (pc + 2) l (.int v :: st)) : am_OK M X Q g h pc l st :=
  fun p lc e s m args below meth c D ca ad0 A cx ad H locs ls dy hl => lv_ldc cx.1.1 cx.1.2.1 cx.1.2.2.2.1 (cx.1.2.2.2.2 _ (am_tbl hw)) hd (k p lc e s m args below meth c D ca ad0 A cx ad H locs ls dy hl)
theorem am_ldc2 {index : Nat} {v : Int64} (hw : Cond.constantLong M.1.cls index v ∈ lw_tbl) (hd : decode M.2.1 pc = .ok (.ldc2_w index, 3)) (k : am_OK M X Q g h (pc + 3) l (.long v :: st)) : am_OK M X Q g h pc l st :=
  fun p lc e s m args below meth c D ca ad0 A cx ad H locs ls dy hl => lv_ldc2 cx.1.1 cx.1.2.1 cx.1.2.2.2.1 (cx.1.2.2.2.2 _ (am_tbl hw)) hd (k p lc e s m args below meth c D ca ad0 A cx ad H locs ls dy hl)
theorem am_iload_n (j : Nat) {n : Fin 4} {i : Nat} {x : Int32} (hi : (n : Nat) = i) (hk : l[j]? = some (i, .int x)) (hd : decode M.2.1 pc = .ok (.iload_n n, 1)) (k : am_OK M X Q g h (pc + 1) l (.int x :: st)) : am_OK M X Q g h pc l st :=
  fun p lc e s m args below meth c D ca ad0 A cx ad H locs ls dy hl => lv_iload_n cx.1.1 cx.1.2.1 hd hi (lv_at hl j (am_cl_at hk)) (k p lc e s m args below meth c D ca ad0 A cx ad H locs ls dy hl)
theorem am_iload (j : Nat) {i : Nat} {x : Int32} (hk : l[j]? = some (i, .int x)) (hd : decode M.2.1 pc = .ok (.iload i, 2)) (k : am_OK M X Q g h (pc + 2) l (.int x :: st)) : am_OK M X Q g h pc l st :=
  fun p lc e s m args below meth c D ca ad0 A cx ad H locs ls dy hl => lv_iload cx.1.1 cx.1.2.1 hd (lv_at hl j (am_cl_at hk)) (k p lc e s m args below meth c D ca ad0 A cx ad H locs ls dy hl)
theorem am_lload_n (j : Nat) {n : Fin 4} {i : Nat} {x : Int64} (hi : (n : Nat) = i) (hk : l[j]? = some (i, .long x)) (hd : decode M.2.1 pc = .ok (.lload_n n, 1)) (k : am_OK M X Q g h (pc + 1) l (.long x :: st)) : am_OK M X Q g h pc l st :=
  fun p lc e s m args below meth c D ca ad0 A cx ad H locs ls dy hl => lv_lload_n cx.1.1 cx.1.2.1 hd hi (lv_at hl j (am_cl_at hk)) (k p lc e s m args below meth c D ca ad0 A cx ad H locs ls dy hl)
theorem am_lload (j : Nat) {i : Nat} {x : Int64} (hk : l[j]? = some (i, .long x)) (hd : decode M.2.1 pc = .ok (.lload i, 2)) (k : am_OK M X Q g h (pc + 2) l (.long x :: st)) : am_OK M X Q g h pc l st :=
  fun p lc e s m args below meth c D ca ad0 A cx ad H locs ls dy hl => lv_lload cx.1.1 cx.1.2.1 hd (lv_at hl j (am_cl_at hk)) (k p lc e s m args below meth c D ca ad0 A cx ad H locs ls dy hl)
theorem am_aload_n (j : Nat) {n : Fin 4} {i x : Nat} (hi : (n : Nat) = i) (hk : l[j]? = some (i, .ref x)) (hd : decode M.2.1 pc = .ok (.aload_n n, 1)) (k : am_OK M X Q g h (pc + 1) l (.ref x :: st)) : am_OK M X Q g h pc l st :=
  fun p lc e s m args below meth c D ca ad0 A cx ad H locs ls dy hl => lv_aload_n cx.1.1 cx.1.2.1 hd hi (lv_at hl j (am_cl_at hk)) (k p lc e s m args below meth c D ca ad0 A cx ad H locs ls dy hl)
theorem am_aload (j : Nat) {i x : Nat} (hk : l[j]? = some (i, .ref x)) (hd : decode M.2.1 pc = .ok (.aload i, 2)) (k : am_OK M X Q g h (pc + 2) l (.ref x :: st)) : am_OK M X Q g h pc l st :=
  fun p lc e s m args below meth c D ca ad0 A cx ad H locs ls dy hl => lv_aload cx.1.1 cx.1.2.1 hd (lv_at hl j (am_cl_at hk)) (k p lc e s m args below meth c D ca ad0 A cx ad H locs ls dy hl)
theorem am_istore_n {n : Fin 4} {i : Nat} {x : Int32} {l' : List (Nat × Value)} (hi : (n : Nat) = i) (hn : i < M.2.2.1) (hl' : am_p1 i (.int x) l = l') (hd : decode M.2.1 pc = .ok (.istore_n n, 1)) (k : am_OK M X Q g h (pc + 1) l' st) : am_OK M X Q g h pc l (.int x :: st) :=
  fun p lc e s m args below meth c D ca ad0 A cx ad H locs ls dy hl => lv_istore_n cx.1.1 cx.1.2.1 hd hi hl hn ((am_cl_p1 ad i (.int x) l).trans (congrArg _ hl')) (fun ls' hl => k p lc e s m args below meth c D ca ad0 A cx ad H locs ls' dy hl)
theorem am_istore {i : Nat} {x : Int32} {l' : List (Nat × Value)} (hn : i < M.2.2.1) (hl' : am_p1 i (.int x) l = l') (hd : decode M.2.1 pc = .ok (.istore i, 2)) (k : am_OK M X Q g h (pc + 2) l' st) : am_OK M X Q g h pc l (.int x :: st) :=
  fun p lc e s m args below meth c D ca ad0 A cx ad H locs ls dy hl => lv_istore cx.1.1 cx.1.2.1 hd hl hn ((am_cl_p1 ad i (.int x) l).trans (congrArg _ hl')) (fun ls' hl => k p lc e s m args below meth c D ca ad0 A cx ad H locs ls' dy hl)
theorem am_astore_n {n : Fin 4} {i x : Nat} {l' : List (Nat × Value)} (hi : (n : Nat) = i) (hn : i < M.2.2.1) (hl' : am_p1 i (.ref x) l = l') (hd : decode M.2.1 pc = .ok (.astore_n n, 1)) (k : am_OK M X Q g h (pc + 1) l' st) : am_OK M X Q g h pc l (.ref x :: st) :=
  fun p lc e s m args below meth c D ca ad0 A cx ad H locs ls dy hl => lv_astore_n cx.1.1 cx.1.2.1 hd hi hl hn ((am_cl_p1 ad i (.ref x) l).trans (congrArg _ hl')) (fun ls' hl => k p lc e s m args below meth c D ca ad0 A cx ad H locs ls' dy hl)
theorem am_astore {i x : Nat} {l' : List (Nat × Value)} (hn : i < M.2.2.1) (hl' : am_p1 i (.ref x) l = l') (hd : decode M.2.1 pc = .ok (.astore i, 2)) (k : am_OK M X Q g h (pc + 2) l' st) : am_OK M X Q g h pc l (.ref x :: st) :=
  fun p lc e s m args below meth c D ca ad0 A cx ad H locs ls dy hl => lv_astore cx.1.1 cx.1.2.1 hd hl hn ((am_cl_p1 ad i (.ref x) l).trans (congrArg _ hl')) (fun ls' hl => k p lc e s m args below meth c D ca ad0 A cx ad H locs ls' dy hl)
theorem am_lstore_n {n : Fin 4} {i : Nat} {x : Int64} {l' : List (Nat × Value)} (hi : (n : Nat) = i) (hn : i + 1 < M.2.2.1) (hl' : am_p2 i (.long x) l = l') (hd : decode M.2.1 pc = .ok (.lstore_n n, 1)) (k : am_OK M X Q g h (pc + 1) l' st) : am_OK M X Q g h pc l (.long x :: st) :=
  fun p lc e s m args below meth c D ca ad0 A cx ad H locs ls dy hl => lv_lstore_n cx.1.1 cx.1.2.1 hd hi hl hn ((am_cl_p2 ad i (.long x) l).trans (congrArg _ hl')) (fun ls' hl => k p lc e s m args below meth c D ca ad0 A cx ad H locs ls' dy hl)
theorem am_lstore {i : Nat} {x : Int64} {l' : List (Nat × Value)} (hn : i + 1 < M.2.2.1) (hl' : am_p2 i (.long x) l = l') (hd : decode M.2.1 pc = .ok (.lstore i, 2)) (k : am_OK M X Q g h (pc + 2) l' st) : am_OK M X Q g h pc l (.long x :: st) :=
  fun p lc e s m args below meth c D ca ad0 A cx ad H locs ls dy hl => lv_lstore cx.1.1 cx.1.2.1 hd hl hn ((am_cl_p2 ad i (.long x) l).trans (congrArg _ hl')) (fun ls' hl => k p lc e s m args below meth c D ca ad0 A cx ad H locs ls' dy hl)
theorem am_iinc (j : Nat) {i : Nat} {n : Int} {x v : Int32} {l' : List (Nat × Value)} (hk : l[j]? = some (i, .int x)) (hv : x + Int32.ofInt n = v) (hn : i < M.2.2.1) (hl' : am_p1 i (.int v) l = l') (hd : decode M.2.1 pc = .ok (.iinc i n, 3)) (k : am_OK M X Q g h (pc + 3) l' st) : am_OK M X Q g h pc l st :=
  fun p lc e s m args below meth c D ca ad0 A cx ad H locs ls dy hl => lv_iinc cx.1.1 cx.1.2.1 hd hl (am_cl_at hk) hv hn ((am_cl_p1 ad i (.int v) l).trans (congrArg _ hl')) (fun ls' hl => k p lc e s m args below meth c D ca ad0 A cx ad H locs ls' dy hl)
theorem am_sub (ks : List Nat) {l' : List (Nat × Value)} (hs : lv_pick l ks = l') (k : am_OK M X Q g h pc l' st) : am_OK M X Q g h pc l st :=
  fun p lc e s m args below meth c D ca ad0 A cx ad H locs ls dy hl => k p lc e s m args below meth c D ca ad0 A cx ad H locs ls dy (lv_sub hl ks (by rw [← hs]; simp only [lv_pick, am_cl, List.map_filterMap, List.getElem?_map]))
end AM1
