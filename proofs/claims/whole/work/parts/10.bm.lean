/-! the rows where nothing is made and references stand as they are: contents in two functions, I and L -/
abbrev am_I : Type := Nat → Nat → Int32
abbrev am_L : Type := Nat → Nat → Int64
abbrev am_R : Type := Nat → Nat → Option Nat
abbrev am_S : Type := Option Value → am_I → am_L → Prop
/-- what kind of value an answer is -/
def am_sh (t : Option FieldType) (r : Option Value) : Prop := (t = some .int → ∃ v : Int32, r = some (.int v)) ∧ (t = some .long → ∃ v : Int64, r = some (.long v))
def am_up (t : Option FieldType) (al : List Nat) (R : am_R) (Q : am_S) : am_P := fun r h al' => al' = al ∧ ∃ (I' : am_I) (L' : am_L), h = (I', L', R) ∧ Q r I' L' ∧ am_sh t r
def am_BS (S : List Nat → am_R → Prop) (M : am_M) (d : Nat) (Q : am_S) (I : am_I) (L : am_L) (pc : Nat) (l : List (Nat × Value)) (st : List Value) : Prop := ∀ (al : List Nat) (R : am_R), S al R → am_OK M (d, 0, 0, fun _ => True) (am_up M.2.2.2 al R Q) (al, 0, 0) (I, L, R) pc l st
def am_KS (S : List Nat → am_R → Prop) (M : am_M) (d : Nat) (as : List Value) (I : am_I) (L : am_L) (Q : am_S) : Prop := ∀ (al : List Nat) (R : am_R), S al R → am_C M d 0 0 (fun _ => True) al as (I, L, R) (am_up M.2.2.2 al R Q)
abbrev am_B := am_BS am_st
abbrev am_K := am_KS am_st
theorem bm_intro {S : List Nat → am_R → Prop} {M : am_M} {d : Nat} {as : List Value} {I : am_I} {L : am_L} {Q : am_S} (hy : plainName M.1.cls = true) (hs : (lg_sl as).length ≤ M.2.2.1) (k : am_BS S M d Q I L 0 (lv_args 0 as) []) : am_KS S M d as I L Q := fun al R hs' => am_intro hy hs (k al R hs')
def am_dcs (cc : ByteArray) (l : List (Nat × Instr × Nat)) : Bool := l.all fun q => decide (decode cc q.1 = .ok (q.2.1, q.2.2))
theorem dg {cc : ByteArray} {l : List (Nat × Instr × Nat)} (h : am_dcs cc l = true) (i : Nat) {pc len : Nat} {ins : Instr} (hi : l[i]? = some (pc, ins, len)) : decode cc pc = .ok (ins, len) := of_decide_eq_true (List.all_eq_true.mp h (pc, ins, len) (List.mem_of_getElem? hi))
/-- shapes of a callee's end -/
def am_qf (v : Option Value) (I1 : am_I) (L1 : am_L) : am_S := fun r I L => r = v ∧ I = I1 ∧ L = L1
def am_qi (P : Int32 → am_I → am_L → Prop) : am_S := fun r I L => ∃ v : Int32, r = some (.int v) ∧ P v I L
def am_ql (P : Int64 → am_I → am_L → Prop) : am_S := fun r I L => ∃ v : Int64, r = some (.long v) ∧ P v I L
def am_qv (P : am_I → am_L → Prop) : am_S := fun r I L => r = none ∧ P I L
def am_qr (b : Nat) (P : am_I → am_L → Prop) : am_S := fun r I L => r = some (.ref b) ∧ P I L
theorem am_mono {S : List Nat → am_R → Prop} {M : am_M} {d : Nat} {as : List Value} {I : am_I} {L : am_L} {Q Q' : am_S} (h : am_KS S M d as I L Q) (hq : ∀ r I' L', Q r I' L' → Q' r I' L') : am_KS S M d as I L Q' := by
  intro al R hs lc D ca ad sz hn p e ha hc hk s m args below hf hfit hp ht
  obtain ⟨n, o, h1, h2, h3, ⟨⟨r, h', al', ad', e1, ⟨e2, I', L', e3, e4, e6⟩, e5⟩, h6⟩, h5⟩ := h al R hs lc D ca ad sz hn p e ha hc hk s m args below hf hfit hp ht
  exact ⟨n, o, h1, h2, h3, ⟨⟨r, h', al', ad', e1, ⟨e2, I', L', e3, hq _ _ _ e4, e6⟩, e5⟩, h6⟩, h5⟩
section BM
variable {S : List Nat → am_R → Prop} {M : am_M} {d : Nat} {Q : am_S} {I : am_I} {L : am_L} {pc : Nat} {l : List (Nat × Value)} {st : List Value}
theorem am_BSw {l' : List (Nat × Value)} {st' : List Value} {pc' : Nat} {I' : am_I} {L' : am_L} (h : am_BS S M d Q I L pc l st) (e1 : pc = pc') (e2 : l = l') (e3 : st = st') (e4 : I = I') (e5 : L = L') : am_BS S M d Q I' L' pc' l' st' := by
  subst e1; subst e2; subst e3; subst e4; subst e5; exact h
theorem bm_iconst {n : Int} {v : Int32} (hv : Int32.ofInt n = v) (hd : decode M.2.1 pc = .ok (.iconst n, 1)) (k : am_BS S M d Q I L (pc + 1) l (.int v :: st)) : am_BS S M d Q I L pc l st :=
  fun al R hs => am_iconst hv hd (k al R hs)
theorem bm_bipush {n : Int} {v : Int32} (hv : (Int8.ofInt n).toInt32 = v) (hd : decode M.2.1 pc = .ok (.bipush n, 2)) (k : am_BS S M d Q I L (pc + 2) l (.int v :: st)) : am_BS S M d Q I L pc l st :=
  fun al R hs => am_bipush hv hd (k al R hs)
theorem bm_sipush {n : Int} {v : Int32} (hv : (Int16.ofInt n).toInt32 = v) (hd : decode M.2.1 pc = .ok (.sipush n, 3)) (k : am_BS S M d Q I L (pc + 3) l (.int v :: st)) : am_BS S M d Q I L pc l st :=
  fun al R hs => am_sipush hv hd (k al R hs)
theorem bm_lconst {n : Fin 2} {v : Int64} (hv : Int64.ofNat (n : Nat) = v) (hd : decode M.2.1 pc = .ok (.lconst n, 1)) (k : am_BS S M d Q I L (pc + 1) l (.long v :: st)) : am_BS S M d Q I L pc l st :=
  fun al R hs => am_lconst hv hd (k al R hs)
theorem bm_ldc {index : Nat} {v : Int32} (hw : Cond.constant M.1.cls index v ∈ lw_tbl) (hd : decode M.2.1 pc = .ok (.ldc index, 2)) (k : am_BS S M d Q I L (pc + 2) l (.int v :: st)) : am_BS S M d Q I L pc l st :=
  fun al R hs => am_ldc hw hd (k al R hs)
theorem bm_ldc2 {index : Nat} {v : Int64} (hw : Cond.constantLong M.1.cls index v ∈ lw_tbl) (hd : decode M.2.1 pc = .ok (.ldc2_w index, 3)) (k : am_BS S M d Q I L (pc + 3) l (.long v :: st)) : am_BS S M d Q I L pc l st :=
  fun al R hs => am_ldc2 hw hd (k al R hs)
theorem bm_iload_n (j : Nat) {n : Fin 4} {i : Nat} {x : Int32} (hi : (n : Nat) = i) (hk : l[j]? = some (i, .int x)) (hd : decode M.2.1 pc = .ok (.iload_n n, 1)) (k : am_BS S M d Q I L (pc + 1) l (.int x :: st)) : am_BS S M d Q I L pc l st :=
  fun al R hs => am_iload_n j hi hk hd (k al R hs)
theorem bm_iload (j : Nat) {i : Nat} {x : Int32} (hk : l[j]? = some (i, .int x)) (hd : decode M.2.1 pc = .ok (.iload i, 2)) (k : am_BS S M d Q I L (pc + 2) l (.int x :: st)) : am_BS S M d Q I L pc l st :=
  fun al R hs => am_iload j hk hd (k al R hs)
theorem bm_istore_n {n : Fin 4} {i : Nat} {x : Int32} {l1 : List (Nat × Value)} (hi : (n : Nat) = i) (hn : i < M.2.2.1) (hl : am_p1 i (.int x) l = l1) (hd : decode M.2.1 pc = .ok (.istore_n n, 1)) (k : am_BS S M d Q I L (pc + 1) l1 st) : am_BS S M d Q I L pc l (.int x :: st) :=
  fun al R hs => am_istore_n hi hn hl hd (k al R hs)
theorem bm_istore {i : Nat} {x : Int32} {l1 : List (Nat × Value)} (hn : i < M.2.2.1) (hl : am_p1 i (.int x) l = l1) (hd : decode M.2.1 pc = .ok (.istore i, 2)) (k : am_BS S M d Q I L (pc + 2) l1 st) : am_BS S M d Q I L pc l (.int x :: st) :=
  fun al R hs => am_istore hn hl hd (k al R hs)
theorem bm_lload_n (j : Nat) {n : Fin 4} {i : Nat} {x : Int64} (hi : (n : Nat) = i) (hk : l[j]? = some (i, .long x)) (hd : decode M.2.1 pc = .ok (.lload_n n, 1)) (k : am_BS S M d Q I L (pc + 1) l (.long x :: st)) : am_BS S M d Q I L pc l st :=
  fun al R hs => am_lload_n j hi hk hd (k al R hs)
theorem bm_lload (j : Nat) {i : Nat} {x : Int64} (hk : l[j]? = some (i, .long x)) (hd : decode M.2.1 pc = .ok (.lload i, 2)) (k : am_BS S M d Q I L (pc + 2) l (.long x :: st)) : am_BS S M d Q I L pc l st :=
  fun al R hs => am_lload j hk hd (k al R hs)
theorem bm_lstore_n {n : Fin 4} {i : Nat} {x : Int64} {l1 : List (Nat × Value)} (hi : (n : Nat) = i) (hn : i + 1 < M.2.2.1) (hl : am_p2 i (.long x) l = l1) (hd : decode M.2.1 pc = .ok (.lstore_n n, 1)) (k : am_BS S M d Q I L (pc + 1) l1 st) : am_BS S M d Q I L pc l (.long x :: st) :=
  fun al R hs => am_lstore_n hi hn hl hd (k al R hs)
theorem bm_lstore {i : Nat} {x : Int64} {l1 : List (Nat × Value)} (hn : i + 1 < M.2.2.1) (hl : am_p2 i (.long x) l = l1) (hd : decode M.2.1 pc = .ok (.lstore i, 2)) (k : am_BS S M d Q I L (pc + 2) l1 st) : am_BS S M d Q I L pc l (.long x :: st) :=
  fun al R hs => am_lstore hn hl hd (k al R hs)
theorem bm_aload_n (j : Nat) {n : Fin 4} {i : Nat} {x : Nat} (hi : (n : Nat) = i) (hk : l[j]? = some (i, .ref x)) (hd : decode M.2.1 pc = .ok (.aload_n n, 1)) (k : am_BS S M d Q I L (pc + 1) l (.ref x :: st)) : am_BS S M d Q I L pc l st :=
  fun al R hs => am_aload_n j hi hk hd (k al R hs)
theorem bm_aload (j : Nat) {i : Nat} {x : Nat} (hk : l[j]? = some (i, .ref x)) (hd : decode M.2.1 pc = .ok (.aload i, 2)) (k : am_BS S M d Q I L (pc + 2) l (.ref x :: st)) : am_BS S M d Q I L pc l st :=
  fun al R hs => am_aload j hk hd (k al R hs)
theorem bm_astore_n {n : Fin 4} {i : Nat} {x : Nat} {l1 : List (Nat × Value)} (hi : (n : Nat) = i) (hn : i < M.2.2.1) (hl : am_p1 i (.ref x) l = l1) (hd : decode M.2.1 pc = .ok (.astore_n n, 1)) (k : am_BS S M d Q I L (pc + 1) l1 st) : am_BS S M d Q I L pc l (.ref x :: st) :=
  fun al R hs => am_astore_n hi hn hl hd (k al R hs)
theorem bm_astore {i : Nat} {x : Nat} {l1 : List (Nat × Value)} (hn : i < M.2.2.1) (hl : am_p1 i (.ref x) l = l1) (hd : decode M.2.1 pc = .ok (.astore i, 2)) (k : am_BS S M d Q I L (pc + 2) l1 st) : am_BS S M d Q I L pc l (.ref x :: st) :=
  fun al R hs => am_astore hn hl hd (k al R hs)
theorem bm_iinc (j : Nat) {i : Nat} {n : Int} {x v : Int32} {l1 : List (Nat × Value)} (hk : l[j]? = some (i, .int x)) (hv : x + Int32.ofInt n = v) (hn : i < M.2.2.1) (hl : am_p1 i (.int v) l = l1) (hd : decode M.2.1 pc = .ok (.iinc i n, 3)) (k : am_BS S M d Q I L (pc + 3) l1 st) : am_BS S M d Q I L pc l st :=
  fun al R hs => am_iinc j hk hv hn hl hd (k al R hs)
theorem bm_sub (ks : List Nat) {l1 : List (Nat × Value)} (hp : lv_pick l ks = l1) (k : am_BS S M d Q I L pc l1 st) : am_BS S M d Q I L pc l st :=
  fun al R hs => am_sub ks hp (k al R hs)
theorem bm_iadd {x y : Int32} (hd : decode M.2.1 pc = .ok (.iadd, 1)) (k : am_BS S M d Q I L (pc + 1) l (.int (x + y) :: st)) : am_BS S M d Q I L pc l (.int y :: .int x :: st) :=
  fun al R hs => am_iadd hd (k al R hs)
theorem bm_isub {x y : Int32} (hd : decode M.2.1 pc = .ok (.isub, 1)) (k : am_BS S M d Q I L (pc + 1) l (.int (x - y) :: st)) : am_BS S M d Q I L pc l (.int y :: .int x :: st) :=
  fun al R hs => am_isub hd (k al R hs)
theorem bm_imul {x y : Int32} (hd : decode M.2.1 pc = .ok (.imul, 1)) (k : am_BS S M d Q I L (pc + 1) l (.int (x * y) :: st)) : am_BS S M d Q I L pc l (.int y :: .int x :: st) :=
  fun al R hs => am_imul hd (k al R hs)
theorem bm_iand {x y : Int32} (hd : decode M.2.1 pc = .ok (.iand, 1)) (k : am_BS S M d Q I L (pc + 1) l (.int (x &&& y) :: st)) : am_BS S M d Q I L pc l (.int y :: .int x :: st) :=
  fun al R hs => am_iand hd (k al R hs)
theorem bm_ior {x y : Int32} (hd : decode M.2.1 pc = .ok (.ior, 1)) (k : am_BS S M d Q I L (pc + 1) l (.int (x ||| y) :: st)) : am_BS S M d Q I L pc l (.int y :: .int x :: st) :=
  fun al R hs => am_ior hd (k al R hs)
theorem bm_ixor {x y : Int32} (hd : decode M.2.1 pc = .ok (.ixor, 1)) (k : am_BS S M d Q I L (pc + 1) l (.int (x ^^^ y) :: st)) : am_BS S M d Q I L pc l (.int y :: .int x :: st) :=
  fun al R hs => am_ixor hd (k al R hs)
theorem bm_ishl {x y : Int32} (hd : decode M.2.1 pc = .ok (.ishl, 1)) (k : am_BS S M d Q I L (pc + 1) l (.int (x <<< (y &&& 31)) :: st)) : am_BS S M d Q I L pc l (.int y :: .int x :: st) :=
  fun al R hs => am_ishl hd (k al R hs)
theorem bm_ishr {x y : Int32} (hd : decode M.2.1 pc = .ok (.ishr, 1)) (k : am_BS S M d Q I L (pc + 1) l (.int (x >>> (y &&& 31)) :: st)) : am_BS S M d Q I L pc l (.int y :: .int x :: st) :=
  fun al R hs => am_ishr hd (k al R hs)
theorem bm_ladd {x y : Int64} (hd : decode M.2.1 pc = .ok (.ladd, 1)) (k : am_BS S M d Q I L (pc + 1) l (.long (x + y) :: st)) : am_BS S M d Q I L pc l (.long y :: .long x :: st) :=
  fun al R hs => am_ladd hd (k al R hs)
theorem bm_lsub {x y : Int64} (hd : decode M.2.1 pc = .ok (.lsub, 1)) (k : am_BS S M d Q I L (pc + 1) l (.long (x - y) :: st)) : am_BS S M d Q I L pc l (.long y :: .long x :: st) :=
  fun al R hs => am_lsub hd (k al R hs)
theorem bm_lmul {x y : Int64} (hd : decode M.2.1 pc = .ok (.lmul, 1)) (k : am_BS S M d Q I L (pc + 1) l (.long (x * y) :: st)) : am_BS S M d Q I L pc l (.long y :: .long x :: st) :=
  fun al R hs => am_lmul hd (k al R hs)
theorem bm_land {x y : Int64} (hd : decode M.2.1 pc = .ok (.land, 1)) (k : am_BS S M d Q I L (pc + 1) l (.long (x &&& y) :: st)) : am_BS S M d Q I L pc l (.long y :: .long x :: st) :=
  fun al R hs => am_land hd (k al R hs)
theorem bm_lor {x y : Int64} (hd : decode M.2.1 pc = .ok (.lor, 1)) (k : am_BS S M d Q I L (pc + 1) l (.long (x ||| y) :: st)) : am_BS S M d Q I L pc l (.long y :: .long x :: st) :=
  fun al R hs => am_lor hd (k al R hs)
theorem bm_ldiv {x y : Int64} (hne : ¬ y = 0) (hd : decode M.2.1 pc = .ok (.ldiv, 1)) (k : am_BS S M d Q I L (pc + 1) l (.long (x / y) :: st)) : am_BS S M d Q I L pc l (.long y :: .long x :: st) :=
  fun al R hs => am_ldiv hne hd (k al R hs)
theorem bm_lrem {x y : Int64} (hne : ¬ y = 0) (hd : decode M.2.1 pc = .ok (.lrem, 1)) (k : am_BS S M d Q I L (pc + 1) l (.long (x - x / y * y) :: st)) : am_BS S M d Q I L pc l (.long y :: .long x :: st) :=
  fun al R hs => am_lrem hne hd (k al R hs)
theorem bm_ineg {x : Int32} (hd : decode M.2.1 pc = .ok (.ineg, 1)) (k : am_BS S M d Q I L (pc + 1) l (.int (-x) :: st)) : am_BS S M d Q I L pc l (.int x :: st) :=
  fun al R hs => am_ineg hd (k al R hs)
theorem bm_lneg {x : Int64} (hd : decode M.2.1 pc = .ok (.lneg, 1)) (k : am_BS S M d Q I L (pc + 1) l (.long (-x) :: st)) : am_BS S M d Q I L pc l (.long x :: st) :=
  fun al R hs => am_lneg hd (k al R hs)
theorem bm_i2l {x : Int32} (hd : decode M.2.1 pc = .ok (.i2l, 1)) (k : am_BS S M d Q I L (pc + 1) l (.long (x.toInt64) :: st)) : am_BS S M d Q I L pc l (.int x :: st) :=
  fun al R hs => am_i2l hd (k al R hs)
theorem bm_l2i {x : Int64} (hd : decode M.2.1 pc = .ok (.l2i, 1)) (k : am_BS S M d Q I L (pc + 1) l (.int (x.toInt32) :: st)) : am_BS S M d Q I L pc l (.long x :: st) :=
  fun al R hs => am_l2i hd (k al R hs)
theorem bm_i2c {x : Int32} (hd : decode M.2.1 pc = .ok (.i2c, 1)) (k : am_BS S M d Q I L (pc + 1) l (.int ((x.toUInt32 % 65536).toInt32) :: st)) : am_BS S M d Q I L pc l (.int x :: st) :=
  fun al R hs => am_i2c hd (k al R hs)
theorem bm_lshl {x : Int64} {y : Int32} (hd : decode M.2.1 pc = .ok (.lshl, 1)) (k : am_BS S M d Q I L (pc + 1) l (.long (x <<< (y.toInt64 &&& 63)) :: st)) : am_BS S M d Q I L pc l (.int y :: .long x :: st) :=
  fun al R hs => am_lshl hd (k al R hs)
theorem bm_lshr {x : Int64} {y : Int32} (hd : decode M.2.1 pc = .ok (.lshr, 1)) (k : am_BS S M d Q I L (pc + 1) l (.long (x >>> (y.toInt64 &&& 63)) :: st)) : am_BS S M d Q I L pc l (.int y :: .long x :: st) :=
  fun al R hs => am_lshr hd (k al R hs)
theorem bm_dup {v : Value} (hv : v.category = 1) (hd : decode M.2.1 pc = .ok (.dup, 1)) (k : am_BS S M d Q I L (pc + 1) l (v :: v :: st)) : am_BS S M d Q I L pc l (v :: st) :=
  fun al R hs => am_dup hv hd (k al R hs)
theorem bm_pop {v : Value} (hv : v.category = 1) (hd : decode M.2.1 pc = .ok (.pop, 1)) (k : am_BS S M d Q I L (pc + 1) l st) : am_BS S M d Q I L pc l (v :: st) :=
  fun al R hs => am_pop hv hd (k al R hs)
theorem bm_pop2 {v : Value} (hv : v.category = 2) (hd : decode M.2.1 pc = .ok (.pop2, 1)) (k : am_BS S M d Q I L (pc + 1) l st) : am_BS S M d Q I L pc l (v :: st) :=
  fun al R hs => am_pop2 hv hd (k al R hs)
theorem bm_dup2 {v w : Value} (hv : v.category = 1) (hw : w.category = 1) (hd : decode M.2.1 pc = .ok (.dup2, 1)) (k : am_BS S M d Q I L (pc + 1) l (v :: w :: v :: w :: st)) : am_BS S M d Q I L pc l (v :: w :: st) :=
  fun al R hs => am_dup2 hv hw hd (k al R hs)
theorem bm_dup2l {v : Value} (hv : v.category = 2) (hd : decode M.2.1 pc = .ok (.dup2, 1)) (k : am_BS S M d Q I L (pc + 1) l (v :: v :: st)) : am_BS S M d Q I L pc l (v :: st) :=
  fun al R hs => am_dup2l hv hd (k al R hs)
theorem bm_goto {off : Int} {tgt : Nat} (ht : (pc : Int) + off = (tgt : Int)) (hd : decode M.2.1 pc = .ok (.goto off, 3)) (k : am_BS S M d Q I L tgt l st) : am_BS S M d Q I L pc l st :=
  fun al R hs => am_goto ht hd (k al R hs)
theorem bm_lcmp {x y : Int64} (hd : decode M.2.1 pc = .ok (.lcmp, 1)) (k : am_BS S M d Q I L (pc + 1) l (.int (lg_cmp x y) :: st)) : am_BS S M d Q I L pc l (.long y :: .long x :: st) :=
  fun al R hs => am_lcmp hd (k al R hs)
theorem bm_lookup {dflt : Int} {ps : Array (Int × Int)} {len : Nat} {x : Int32} {off : Int} {tgt : Nat} (hp : (ps.toList.zip (ps.toList.drop 1)).all (fun (a, next) => a.1 < next.1) = true) (ho : Op.lookupswitch.offset ps.toList dflt x.toInt = off) (ht : (pc : Int) + off = (tgt : Int)) (hd : decode M.2.1 pc = .ok (.lookupswitch dflt ps, len)) (k : am_BS S M d Q I L tgt l st) : am_BS S M d Q I L pc l (.int x :: st) :=
  fun al R hs => am_lookup hp ho ht hd (k al R hs)
theorem bm_tableIn {dflt lo hi : Int} {offs : Array Int} {len : Nat} {x : Int32} {off : Int} {tgt : Nat} (h1 : ¬ x.toInt < lo) (h2 : ¬ hi < x.toInt) (ho : offs[(x.toInt - lo).toNat]? = some off) (ht : (pc : Int) + off = (tgt : Int)) (hd : decode M.2.1 pc = .ok (.tableswitch dflt lo hi offs, len)) (k : am_BS S M d Q I L tgt l st) : am_BS S M d Q I L pc l (.int x :: st) :=
  fun al R hs => am_tableIn h1 h2 ho ht hd (k al R hs)
theorem bm_tableOut {dflt lo hi : Int} {offs : Array Int} {len : Nat} {x : Int32} {tgt : Nat} (h1 : x.toInt < lo ∨ hi < x.toInt) (ht : (pc : Int) + dflt = (tgt : Int)) (hd : decode M.2.1 pc = .ok (.tableswitch dflt lo hi offs, len)) (k : am_BS S M d Q I L tgt l st) : am_BS S M d Q I L pc l (.int x :: st) :=
  fun al R hs => am_tableOut h1 ht hd (k al R hs)
theorem bm_icmp_eq {x y : Int32} {off : Int} {tgt : Nat} (ht : (pc : Int) + off = (tgt : Int)) (hd : decode M.2.1 pc = .ok (.if_icmp .eq off, 3)) (kt : x = y → am_BS S M d Q I L tgt l st) (kf : ¬ x = y → am_BS S M d Q I L (pc + 3) l st) : am_BS S M d Q I L pc l (.int y :: .int x :: st) :=
  fun al R hs => am_icmp_eq ht hd (fun c => kt c al R hs) (fun c => kf c al R hs)
theorem bm_if_eq {x : Int32} {off : Int} {tgt : Nat} (ht : (pc : Int) + off = (tgt : Int)) (hd : decode M.2.1 pc = .ok (.ifCond .eq off, 3)) (kt : x = 0 → am_BS S M d Q I L tgt l st) (kf : ¬ x = 0 → am_BS S M d Q I L (pc + 3) l st) : am_BS S M d Q I L pc l (.int x :: st) :=
  fun al R hs => am_if_eq ht hd (fun c => kt c al R hs) (fun c => kf c al R hs)
theorem bm_lcmp_eq {x y : Int64} {off : Int} {tgt pc1 : Nat} (hd0 : decode M.2.1 pc = .ok (.lcmp, 1)) (h1 : pc + 1 = pc1) (ht : (pc1 : Int) + off = (tgt : Int)) (hd : decode M.2.1 pc1 = .ok (.ifCond .eq off, 3)) (kt : x = y → am_BS S M d Q I L tgt l st) (kf : ¬ x = y → am_BS S M d Q I L (pc1 + 3) l st) : am_BS S M d Q I L pc l (.long y :: .long x :: st) :=
  fun al R hs => am_lcmp_eq hd0 h1 ht hd (fun c => kt c al R hs) (fun c => kf c al R hs)
theorem bm_icmp_ne {x y : Int32} {off : Int} {tgt : Nat} (ht : (pc : Int) + off = (tgt : Int)) (hd : decode M.2.1 pc = .ok (.if_icmp .ne off, 3)) (kt : ¬ x = y → am_BS S M d Q I L tgt l st) (kf : x = y → am_BS S M d Q I L (pc + 3) l st) : am_BS S M d Q I L pc l (.int y :: .int x :: st) :=
  fun al R hs => am_icmp_ne ht hd (fun c => kt c al R hs) (fun c => kf c al R hs)
theorem bm_if_ne {x : Int32} {off : Int} {tgt : Nat} (ht : (pc : Int) + off = (tgt : Int)) (hd : decode M.2.1 pc = .ok (.ifCond .ne off, 3)) (kt : ¬ x = 0 → am_BS S M d Q I L tgt l st) (kf : x = 0 → am_BS S M d Q I L (pc + 3) l st) : am_BS S M d Q I L pc l (.int x :: st) :=
  fun al R hs => am_if_ne ht hd (fun c => kt c al R hs) (fun c => kf c al R hs)
theorem bm_lcmp_ne {x y : Int64} {off : Int} {tgt pc1 : Nat} (hd0 : decode M.2.1 pc = .ok (.lcmp, 1)) (h1 : pc + 1 = pc1) (ht : (pc1 : Int) + off = (tgt : Int)) (hd : decode M.2.1 pc1 = .ok (.ifCond .ne off, 3)) (kt : ¬ x = y → am_BS S M d Q I L tgt l st) (kf : x = y → am_BS S M d Q I L (pc1 + 3) l st) : am_BS S M d Q I L pc l (.long y :: .long x :: st) :=
  fun al R hs => am_lcmp_ne hd0 h1 ht hd (fun c => kt c al R hs) (fun c => kf c al R hs)
theorem bm_icmp_lt {x y : Int32} {off : Int} {tgt : Nat} (ht : (pc : Int) + off = (tgt : Int)) (hd : decode M.2.1 pc = .ok (.if_icmp .lt off, 3)) (kt : x < y → am_BS S M d Q I L tgt l st) (kf : ¬ x < y → am_BS S M d Q I L (pc + 3) l st) : am_BS S M d Q I L pc l (.int y :: .int x :: st) :=
  fun al R hs => am_icmp_lt ht hd (fun c => kt c al R hs) (fun c => kf c al R hs)
theorem bm_if_lt {x : Int32} {off : Int} {tgt : Nat} (ht : (pc : Int) + off = (tgt : Int)) (hd : decode M.2.1 pc = .ok (.ifCond .lt off, 3)) (kt : x < 0 → am_BS S M d Q I L tgt l st) (kf : ¬ x < 0 → am_BS S M d Q I L (pc + 3) l st) : am_BS S M d Q I L pc l (.int x :: st) :=
  fun al R hs => am_if_lt ht hd (fun c => kt c al R hs) (fun c => kf c al R hs)
theorem bm_lcmp_lt {x y : Int64} {off : Int} {tgt pc1 : Nat} (hd0 : decode M.2.1 pc = .ok (.lcmp, 1)) (h1 : pc + 1 = pc1) (ht : (pc1 : Int) + off = (tgt : Int)) (hd : decode M.2.1 pc1 = .ok (.ifCond .lt off, 3)) (kt : x < y → am_BS S M d Q I L tgt l st) (kf : ¬ x < y → am_BS S M d Q I L (pc1 + 3) l st) : am_BS S M d Q I L pc l (.long y :: .long x :: st) :=
  fun al R hs => am_lcmp_lt hd0 h1 ht hd (fun c => kt c al R hs) (fun c => kf c al R hs)
theorem bm_icmp_ge {x y : Int32} {off : Int} {tgt : Nat} (ht : (pc : Int) + off = (tgt : Int)) (hd : decode M.2.1 pc = .ok (.if_icmp .ge off, 3)) (kt : y ≤ x → am_BS S M d Q I L tgt l st) (kf : ¬ y ≤ x → am_BS S M d Q I L (pc + 3) l st) : am_BS S M d Q I L pc l (.int y :: .int x :: st) :=
  fun al R hs => am_icmp_ge ht hd (fun c => kt c al R hs) (fun c => kf c al R hs)
theorem bm_if_ge {x : Int32} {off : Int} {tgt : Nat} (ht : (pc : Int) + off = (tgt : Int)) (hd : decode M.2.1 pc = .ok (.ifCond .ge off, 3)) (kt : 0 ≤ x → am_BS S M d Q I L tgt l st) (kf : ¬ 0 ≤ x → am_BS S M d Q I L (pc + 3) l st) : am_BS S M d Q I L pc l (.int x :: st) :=
  fun al R hs => am_if_ge ht hd (fun c => kt c al R hs) (fun c => kf c al R hs)
theorem bm_lcmp_ge {x y : Int64} {off : Int} {tgt pc1 : Nat} (hd0 : decode M.2.1 pc = .ok (.lcmp, 1)) (h1 : pc + 1 = pc1) (ht : (pc1 : Int) + off = (tgt : Int)) (hd : decode M.2.1 pc1 = .ok (.ifCond .ge off, 3)) (kt : y ≤ x → am_BS S M d Q I L tgt l st) (kf : ¬ y ≤ x → am_BS S M d Q I L (pc1 + 3) l st) : am_BS S M d Q I L pc l (.long y :: .long x :: st) :=
  fun al R hs => am_lcmp_ge hd0 h1 ht hd (fun c => kt c al R hs) (fun c => kf c al R hs)
theorem bm_icmp_gt {x y : Int32} {off : Int} {tgt : Nat} (ht : (pc : Int) + off = (tgt : Int)) (hd : decode M.2.1 pc = .ok (.if_icmp .gt off, 3)) (kt : y < x → am_BS S M d Q I L tgt l st) (kf : ¬ y < x → am_BS S M d Q I L (pc + 3) l st) : am_BS S M d Q I L pc l (.int y :: .int x :: st) :=
  fun al R hs => am_icmp_gt ht hd (fun c => kt c al R hs) (fun c => kf c al R hs)
theorem bm_if_gt {x : Int32} {off : Int} {tgt : Nat} (ht : (pc : Int) + off = (tgt : Int)) (hd : decode M.2.1 pc = .ok (.ifCond .gt off, 3)) (kt : 0 < x → am_BS S M d Q I L tgt l st) (kf : ¬ 0 < x → am_BS S M d Q I L (pc + 3) l st) : am_BS S M d Q I L pc l (.int x :: st) :=
  fun al R hs => am_if_gt ht hd (fun c => kt c al R hs) (fun c => kf c al R hs)
theorem bm_lcmp_gt {x y : Int64} {off : Int} {tgt pc1 : Nat} (hd0 : decode M.2.1 pc = .ok (.lcmp, 1)) (h1 : pc + 1 = pc1) (ht : (pc1 : Int) + off = (tgt : Int)) (hd : decode M.2.1 pc1 = .ok (.ifCond .gt off, 3)) (kt : y < x → am_BS S M d Q I L tgt l st) (kf : ¬ y < x → am_BS S M d Q I L (pc1 + 3) l st) : am_BS S M d Q I L pc l (.long y :: .long x :: st) :=
  fun al R hs => am_lcmp_gt hd0 h1 ht hd (fun c => kt c al R hs) (fun c => kf c al R hs)
theorem bm_icmp_le {x y : Int32} {off : Int} {tgt : Nat} (ht : (pc : Int) + off = (tgt : Int)) (hd : decode M.2.1 pc = .ok (.if_icmp .le off, 3)) (kt : x ≤ y → am_BS S M d Q I L tgt l st) (kf : ¬ x ≤ y → am_BS S M d Q I L (pc + 3) l st) : am_BS S M d Q I L pc l (.int y :: .int x :: st) :=
  fun al R hs => am_icmp_le ht hd (fun c => kt c al R hs) (fun c => kf c al R hs)
theorem bm_if_le {x : Int32} {off : Int} {tgt : Nat} (ht : (pc : Int) + off = (tgt : Int)) (hd : decode M.2.1 pc = .ok (.ifCond .le off, 3)) (kt : x ≤ 0 → am_BS S M d Q I L tgt l st) (kf : ¬ x ≤ 0 → am_BS S M d Q I L (pc + 3) l st) : am_BS S M d Q I L pc l (.int x :: st) :=
  fun al R hs => am_if_le ht hd (fun c => kt c al R hs) (fun c => kf c al R hs)
theorem bm_lcmp_le {x y : Int64} {off : Int} {tgt pc1 : Nat} (hd0 : decode M.2.1 pc = .ok (.lcmp, 1)) (h1 : pc + 1 = pc1) (ht : (pc1 : Int) + off = (tgt : Int)) (hd : decode M.2.1 pc1 = .ok (.ifCond .le off, 3)) (kt : x ≤ y → am_BS S M d Q I L tgt l st) (kf : ¬ x ≤ y → am_BS S M d Q I L (pc1 + 3) l st) : am_BS S M d Q I L pc l (.long y :: .long x :: st) :=
  fun al R hs => am_lcmp_le hd0 h1 ht hd (fun c => kt c al R hs) (fun c => kf c al R hs)
theorem am_tr (P : Prop) [Decidable P] : (if P then (1 : Int32) else 0) = 0 ↔ ¬ P := by
  by_cases h : P
  · simp [h]
  · simp [h]
theorem bm_ift_eq {P : Prop} {dp : Decidable P} {off : Int} {tgt : Nat} (ht : (pc : Int) + off = (tgt : Int)) (hd : decode M.2.1 pc = .ok (.ifCond .eq off, 3)) (kt : ¬ P → am_BS S M d Q I L tgt l st) (kf : P → am_BS S M d Q I L (pc + 3) l st) : am_BS S M d Q I L pc l (.int (@ite _ P dp 1 0) :: st) :=
  bm_if_eq ht hd (fun c => kt ((am_tr P).mp c)) (fun c => kf (Classical.not_not.mp (fun h => c ((am_tr P).mpr h))))
theorem bm_ift_ne {P : Prop} {dp : Decidable P} {off : Int} {tgt : Nat} (ht : (pc : Int) + off = (tgt : Int)) (hd : decode M.2.1 pc = .ok (.ifCond .ne off, 3)) (kt : P → am_BS S M d Q I L tgt l st) (kf : ¬ P → am_BS S M d Q I L (pc + 3) l st) : am_BS S M d Q I L pc l (.int (@ite _ P dp 1 0) :: st) :=
  bm_if_ne ht hd (fun c => kt (Classical.not_not.mp (fun h => c ((am_tr P).mpr h)))) (fun c => kf ((am_tr P).mp c))
theorem bm_geti {a ci j index N : Nat} {C : String} {T : u_T} {x : Int32} (hf : am_fl M.1.cls index ci j C T N) (hy : am_lay a = .inr ci) (ha : ∀ (al : List Nat) (R : am_R), S al R → a ∈ al) (hw : am_ty ci j = .int ∨ am_ty ci j = .boolean) (hx : I a j = x) (hd : decode M.2.1 pc = .ok (.getfield index, 3)) (k : am_BS S M d Q I L (pc + 3) l (.int x :: st)) : am_BS S M d Q I L pc l (.ref a :: st) :=
  fun al R hs => am_get hf.1 hy (ha al R hs) hf.2.1 (w := .int x) (fun ad => by rw [← hx]; rcases hw with e | e <;> rw [e] <;> rfl) hf.2.2 hd (k al R hs)
theorem bm_getl {a ci j index N : Nat} {C : String} {T : u_T} {x : Int64} (hf : am_fl M.1.cls index ci j C T N) (hy : am_lay a = .inr ci) (ha : ∀ (al : List Nat) (R : am_R), S al R → a ∈ al) (hw : am_ty ci j = .long) (hx : L a j = x) (hd : decode M.2.1 pc = .ok (.getfield index, 3)) (k : am_BS S M d Q I L (pc + 3) l (.long x :: st)) : am_BS S M d Q I L pc l (.ref a :: st) :=
  fun al R hs => am_get hf.1 hy (ha al R hs) hf.2.1 (w := .long x) (fun ad => by rw [← hx, hw]; rfl) hf.2.2 hd (k al R hs)
theorem bm_getr {a b ci j index N : Nat} {C : String} {T : u_T} (hf : am_fl M.1.cls index ci j C T N) (hy : am_lay a = .inr ci) (ha : ∀ (al : List Nat) (R : am_R), S al R → a ∈ al) (hw : (∃ t, am_ty ci j = .array t) ∨ ∃ t, am_ty ci j = .object t) (hx : ∀ (al : List Nat) (R : am_R), S al R → R a j = some b) (hd : decode M.2.1 pc = .ok (.getfield index, 3)) (k : am_BS S M d Q I L (pc + 3) l (.ref b :: st)) : am_BS S M d Q I L pc l (.ref a :: st) :=
  fun al R hs => am_get hf.1 hy (ha al R hs) hf.2.1 (w := .ref b) (fun ad => by rcases hw with ⟨t, e⟩ | ⟨t, e⟩ <;> rw [e] <;> simp only [am_fv, hx al R hs] <;> rfl) hf.2.2 hd (k al R hs)
theorem bm_puti {a ci j index N : Nat} {C : String} {T : u_T} {x : Int32} (hf : am_fl M.1.cls index ci j C T N) (hy : am_lay a = .inr ci) (ha : ∀ (al : List Nat) (R : am_R), S al R → a ∈ al) (hw : am_ty ci j = .int) (hfin : (T j).2.2.2 = false) (hd : decode M.2.1 pc = .ok (.putfield index, 3)) (k : am_BS S M d Q (am_u I a j x) L (pc + 3) l st) : am_BS S M d Q I L pc l (.int x :: .ref a :: st) :=
  fun al R hs => am_put (h' := (am_u I a j x, L, R)) hf.1 hy (ha al R hs) hf.2.1 am_but_i (w := .int x) (fun ad => by rw [hw]; simp only [am_fv, am_u_eq]; rfl) hfin (fun ad => by rw [hw]; exact ⟨rfl, rfl⟩) hf.2.2 hd (k al R hs)
theorem bm_putz {a ci j index N : Nat} {C : String} {T : u_T} {x : Int32} (hf : am_fl M.1.cls index ci j C T N) (hy : am_lay a = .inr ci) (ha : ∀ (al : List Nat) (R : am_R), S al R → a ∈ al) (hw : am_ty ci j = .boolean) (hfin : (T j).2.2.2 = false) (h01 : x = 0 ∨ x = 1) (hd : decode M.2.1 pc = .ok (.putfield index, 3)) (k : am_BS S M d Q (am_u I a j x) L (pc + 3) l st) : am_BS S M d Q I L pc l (.int x :: .ref a :: st) :=
  fun al R hs => am_put (h' := (am_u I a j x, L, R)) hf.1 hy (ha al R hs) hf.2.1 am_but_i (w := .int x) (fun ad => by rw [hw]; simp only [am_fv, am_u_eq]; rfl) hfin (fun ad => by rw [hw]; rcases h01 with e | e <;> rw [e] <;> exact ⟨rfl, rfl⟩) hf.2.2 hd (k al R hs)
theorem bm_putl {a ci j index N : Nat} {C : String} {T : u_T} {x : Int64} (hf : am_fl M.1.cls index ci j C T N) (hy : am_lay a = .inr ci) (ha : ∀ (al : List Nat) (R : am_R), S al R → a ∈ al) (hw : am_ty ci j = .long) (hfin : (T j).2.2.2 = false) (hd : decode M.2.1 pc = .ok (.putfield index, 3)) (k : am_BS S M d Q I (am_u L a j x) (pc + 3) l st) : am_BS S M d Q I L pc l (.long x :: .ref a :: st) :=
  fun al R hs => am_put (h' := (I, am_u L a j x, R)) hf.1 hy (ha al R hs) hf.2.1 am_but_l (w := .long x) (fun ad => by rw [hw]; simp only [am_fv, am_u_eq]; rfl) hfin (fun ad => by rw [hw]; exact ⟨rfl, rfl⟩) hf.2.2 hd (k al R hs)
theorem bm_iald {a n : Nat} {i : Int32} {x : Int32} (hy : am_lay a = .inl (.int, n)) (ha : ∀ (al : List Nat) (R : am_R), S al R → a ∈ al) (hin : vp_in i n) (hx : I a i.toNatClampNeg = x) (hd : decode M.2.1 pc = .ok (.iaload, 1)) (k : am_BS S M d Q I L (pc + 1) l (.int x :: st)) : am_BS S M d Q I L pc l (.int i :: .ref a :: st) :=
  fun al R hs => am_iald hy (ha al R hs) hin hd (by subst hx; exact k al R hs)
theorem bm_zald {a n : Nat} {i : Int32} {x : Int32} (hy : am_lay a = .inl (.boolean, n)) (ha : ∀ (al : List Nat) (R : am_R), S al R → a ∈ al) (hin : vp_in i n) (hx : I a i.toNatClampNeg = x) (hd : decode M.2.1 pc = .ok (.baload, 1)) (k : am_BS S M d Q I L (pc + 1) l (.int x :: st)) : am_BS S M d Q I L pc l (.int i :: .ref a :: st) :=
  fun al R hs => am_zald hy (ha al R hs) hin hd (by subst hx; exact k al R hs)
theorem bm_lald {a n : Nat} {i : Int32} {x : Int64} (hy : am_lay a = .inl (.long, n)) (ha : ∀ (al : List Nat) (R : am_R), S al R → a ∈ al) (hin : vp_in i n) (hx : L a i.toNatClampNeg = x) (hd : decode M.2.1 pc = .ok (.laload, 1)) (k : am_BS S M d Q I L (pc + 1) l (.long x :: st)) : am_BS S M d Q I L pc l (.int i :: .ref a :: st) :=
  fun al R hs => am_lald hy (ha al R hs) hin hd (by subst hx; exact k al R hs)
theorem bm_iast {a n : Nat} {i : Int32} {x : Int32} (hy : am_lay a = .inl (.int, n)) (ha : ∀ (al : List Nat) (R : am_R), S al R → a ∈ al) (hin : vp_in i n) (hd : decode M.2.1 pc = .ok (.iastore, 1)) (k : am_BS S M d Q (am_u I a i.toNatClampNeg x) L (pc + 1) l st) : am_BS S M d Q I L pc l (.int x :: .int i :: .ref a :: st) :=
  fun al R hs => am_iast hy (ha al R hs) hin hd (k al R hs)
theorem bm_zast {a n : Nat} {i : Int32} {x : Int32} (hy : am_lay a = .inl (.boolean, n)) (ha : ∀ (al : List Nat) (R : am_R), S al R → a ∈ al) (hin : vp_in i n) (h01 : vp_nar .boolean x = x) (hd : decode M.2.1 pc = .ok (.bastore, 1)) (k : am_BS S M d Q (am_u I a i.toNatClampNeg x) L (pc + 1) l st) : am_BS S M d Q I L pc l (.int x :: .int i :: .ref a :: st) :=
  fun al R hs => am_zast hy (ha al R hs) hin h01 hd (k al R hs)
theorem bm_last {a n : Nat} {i : Int32} {x : Int64} (hy : am_lay a = .inl (.long, n)) (ha : ∀ (al : List Nat) (R : am_R), S al R → a ∈ al) (hin : vp_in i n) (hd : decode M.2.1 pc = .ok (.lastore, 1)) (k : am_BS S M d Q I (am_u L a i.toNatClampNeg x) (pc + 1) l st) : am_BS S M d Q I L pc l (.long x :: .int i :: .ref a :: st) :=
  fun al R hs => am_last hy (ha al R hs) hin hd (k al R hs)
theorem bm_iret {x : Int32} {ty : FieldType} (hr : M.2.2.2 = some ty) (hn : narrow ty (.int x) = .int x) (hd : decode M.2.1 pc = .ok (.ireturn, 1)) (hq : Q (some (.int x)) I L) (hty : ty ≠ .long := by intro h; cases h) : am_BS S M d Q I L pc l [.int x] :=
  fun al R hs => am_iret hr hn (Nat.le_refl _) (Nat.le_refl _) hd ⟨rfl, I, L, rfl, hq, fun _ => ⟨x, rfl⟩, fun e => absurd (Option.some.inj (hr.symm.trans e)) hty⟩
theorem bm_lret {x : Int64} (hr : M.2.2.2 = some .long) (hd : decode M.2.1 pc = .ok (.lreturn, 1)) (hq : Q (some (.long x)) I L) : am_BS S M d Q I L pc l [.long x] :=
  fun al R hs => am_lret hr (Nat.le_refl _) (Nat.le_refl _) hd ⟨rfl, I, L, rfl, hq, fun e => absurd (hr.symm.trans e) (by intro h; cases h), fun _ => ⟨x, rfl⟩⟩
theorem bm_vret (hr : M.2.2.2 = none) (hd : decode M.2.1 pc = .ok (.return_, 1)) (hq : Q none I L) : am_BS S M d Q I L pc l [] :=
  fun al R hs => am_vret hr (Nat.le_refl _) (Nat.le_refl _) hd ⟨rfl, I, L, rfl, hq, fun e => absurd (hr.symm.trans e) (by intro h; cases h), fun e => absurd (hr.symm.trans e) (by intro h; cases h)⟩
theorem bm_aret {a : Nat} {C : String} (hr : M.2.2.2 = some (.object C)) (hd : decode M.2.1 pc = .ok (.areturn, 1)) (hq : Q (some (.ref a)) I L) : am_BS S M d Q I L pc l [.ref a] :=
  fun al R hs => am_aret hr (Nat.le_refl _) (Nat.le_refl _) hd ⟨rfl, I, L, rfl, hq, fun e => absurd (hr.symm.trans e) (by intro h; cases h), fun e => absurd (hr.symm.trans e) (by intro h; cases h)⟩
theorem bm_invV {N : am_M} {d1 n index b ci NN : Nat} {C : String} {T : u_T} {as : List Value} {Q1 : am_S} (hK : am_KS S N d1 (.ref b :: as) I L Q1) (hw : am_cwd N n) (hlk : Cond.methodLink M.1.cls index N.1 ∈ lw_tbl) (hin : Cond.instanceMethod N.1 ∈ lw_tbl) (hse : Cond.selects N.1.cls N.1 N.1 ∈ lw_tbl) (hcl : am_cls ci C T NN) (hC : N.1.cls = C) (hy : am_lay b = .inr ci) (hb : ∀ (al : List Nat) (R : am_R), S al R → b ∈ al) (hn : as.length = n) (hd1 : d1 + 1 ≤ d) (hst : (st.map fun v => v.category).sum ≤ 8) (hd : decode M.2.1 pc = .ok (.invokevirtual index, 3)) (k : ∀ (r : Option Value) (I1 : am_I) (L1 : am_L), Q1 r I1 L1 → am_BS S M d Q I1 L1 (pc + 3) l (r.toList ++ st)) : am_BS S M d Q I L pc l (as.reverse ++ .ref b :: st) :=
  fun al R hs => am_invV (hK al R hs) hw hlk hin hse hcl hC hy (hb al R hs) hn hd1 (Nat.le_refl _) (Nat.le_refl _) hst ⟨fun _ _ _ _ => trivial, fun _ _ _ _ => trivial⟩ (fun _ _ => trivial) hd (fun r h1 al1 hq => by obtain ⟨rfl, I1, L1, rfl, hq, _⟩ := hq; exact k r I1 L1 hq al1 R hs)
theorem bm_invS {N : am_M} {d1 n index : Nat} {as : List Value} {Q1 : am_S} (hK : am_KS S N d1 as I L Q1) (hw : am_cwd N n) (hlk : Cond.methodLink M.1.cls index N.1 ∈ lw_tbl) (hsta : Cond.static N.1 ∈ lw_tbl) (hn : as.length = n) (hd1 : d1 + 1 ≤ d) (hst : (st.map fun v => v.category).sum ≤ 8) (hd : decode M.2.1 pc = .ok (.invokestatic index, 3)) (k : ∀ (r : Option Value) (I1 : am_I) (L1 : am_L), Q1 r I1 L1 → am_BS S M d Q I1 L1 (pc + 3) l (r.toList ++ st)) : am_BS S M d Q I L pc l (as.reverse ++ st) :=
  fun al R hs => am_invS (hK al R hs) hw hlk hsta hn hd1 (Nat.le_refl _) (Nat.le_refl _) hst ⟨fun _ _ _ _ => trivial, fun _ _ _ _ => trivial⟩ (fun _ _ => trivial) hd (fun r h1 al1 hq => by obtain ⟨rfl, I1, L1, rfl, hq, _⟩ := hq; exact k r I1 L1 hq al1 R hs)
theorem bm_invSN {N : am_M} {d1 n index : Nat} {host : String} {as : List Value} {Q1 : am_S} (hK : am_KS S N d1 as I L Q1) (hw : am_cwd N n) (hlk : (M.1.cls, index, N.1, host) ∈ am_nest) (hsta : Cond.static N.1 ∈ lw_tbl) (hn : as.length = n) (hd1 : d1 + 1 ≤ d) (hst : (st.map fun v => v.category).sum ≤ 8) (hd : decode M.2.1 pc = .ok (.invokestatic index, 3)) (k : ∀ (r : Option Value) (I1 : am_I) (L1 : am_L), Q1 r I1 L1 → am_BS S M d Q I1 L1 (pc + 3) l (r.toList ++ st)) : am_BS S M d Q I L pc l (as.reverse ++ st) :=
  fun al R hs => am_invSN (hK al R hs) hw hlk hsta hn hd1 (Nat.le_refl _) (Nat.le_refl _) hst ⟨fun _ _ _ _ => trivial, fun _ _ _ _ => trivial⟩ (fun _ _ => trivial) hd (fun r h1 al1 hq => by obtain ⟨rfl, I1, L1, rfl, hq, _⟩ := hq; exact k r I1 L1 hq al1 R hs)
theorem am_wmax : Cond.static Lib.MathLoose.max_long.x ∈ lw_tbl ∧ Cond.initialized "java/lang/Math" ∈ lw_tbl ∧ Cond.code Lib.MathLoose.max_long.x Lib.MathLoose.max_long.code 4 (some .long) ∈ lw_tbl := ⟨by decide +kernel, by decide +kernel, by decide +kernel⟩
theorem bm_maxl {x y : Int64} {index : Nat} (hlk : Cond.methodLink M.1.cls index Lib.MathLoose.max_long.x ∈ lw_tbl) (hst : (st.map fun v => v.category).sum ≤ 8) (hx : 1 ≤ d) (hd : decode M.2.1 pc = .ok (.invokestatic index, 3)) (k : am_BS S M d Q I L (pc + 3) l (.long (if y < x then x else y) :: st)) : am_BS S M d Q I L pc l (.long y :: .long x :: st) :=
  fun al R hs => am_maxl hlk am_wmax.1 am_wmax.2.1 am_wmax.2.2 hst hx (Nat.le_refl _) (Nat.le_refl _) hd (k al R hs)
theorem am_wmin : Cond.static Lib.MathLoose.min_long.x ∈ lw_tbl ∧ Cond.initialized "java/lang/Math" ∈ lw_tbl ∧ Cond.code Lib.MathLoose.min_long.x Lib.MathLoose.min_long.code 4 (some .long) ∈ lw_tbl := ⟨by decide +kernel, by decide +kernel, by decide +kernel⟩
theorem bm_minl {x y : Int64} {index : Nat} (hlk : Cond.methodLink M.1.cls index Lib.MathLoose.min_long.x ∈ lw_tbl) (hst : (st.map fun v => v.category).sum ≤ 8) (hx : 1 ≤ d) (hd : decode M.2.1 pc = .ok (.invokestatic index, 3)) (k : am_BS S M d Q I L (pc + 3) l (.long (if y < x then y else x) :: st)) : am_BS S M d Q I L pc l (.long y :: .long x :: st) :=
  fun al R hs => am_minl hlk am_wmin.1 am_wmin.2.1 am_wmin.2.2 hst hx (Nat.le_refl _) (Nat.le_refl _) hd (k al R hs)
theorem am_wcopy : Cond.native arraycopyName ∈ lw_tbl ∧ Cond.static arraycopyName ∈ lw_tbl ∧ Cond.initialized "java/lang/System" ∈ lw_tbl := ⟨by decide +kernel, by decide +kernel, by decide +kernel⟩
theorem bm_copyi {src dst n index : Nat} {N : Int32} (hs1 : am_lay src = .inl (.int, n)) (hs2 : am_lay dst = .inl (.int, n)) (ha : ∀ (al : List Nat) (R : am_R), S al R → src ∈ al) (hb : ∀ (al : List Nat) (R : am_R), S al R → dst ∈ al) (hN : ¬ N < 0) (hn : N.toNatClampNeg = n) (hlk : Cond.methodLink M.1.cls index arraycopyName ∈ lw_tbl) (hst : (st.map fun v => v.category).sum ≤ 8) (hx : 1 ≤ d) (hd : decode M.2.1 pc = .ok (.invokestatic index, 3)) (k : am_BS S M d Q (am_cp I dst src n) L (pc + 3) l st) : am_BS S M d Q I L pc l (.int N :: .int 0 :: .ref dst :: .int 0 :: .ref src :: st) :=
  fun al R hs => am_copyi hs1 hs2 (ha al R hs) (hb al R hs) hN hn hlk am_wcopy.1 am_wcopy.2.1 am_wcopy.2.2 hst hx hd (k al R hs)
theorem bm_copyl {src dst n index : Nat} {N : Int32} (hs1 : am_lay src = .inl (.long, n)) (hs2 : am_lay dst = .inl (.long, n)) (ha : ∀ (al : List Nat) (R : am_R), S al R → src ∈ al) (hb : ∀ (al : List Nat) (R : am_R), S al R → dst ∈ al) (hN : ¬ N < 0) (hn : N.toNatClampNeg = n) (hlk : Cond.methodLink M.1.cls index arraycopyName ∈ lw_tbl) (hst : (st.map fun v => v.category).sum ≤ 8) (hx : 1 ≤ d) (hd : decode M.2.1 pc = .ok (.invokestatic index, 3)) (k : am_BS S M d Q I (am_cp L dst src n) (pc + 3) l st) : am_BS S M d Q I L pc l (.int N :: .int 0 :: .ref dst :: .int 0 :: .ref src :: st) :=
  fun al R hs => am_copyl hs1 hs2 (ha al R hs) (hb al R hs) hN hn hlk am_wcopy.1 am_wcopy.2.1 am_wcopy.2.2 hst hx hd (k al R hs)
end BM
