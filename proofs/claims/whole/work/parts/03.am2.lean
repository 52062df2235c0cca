section AM2
variable {M : am_M} {X : am_X} {Q : am_P} {g : am_G} {h : am_H} {pc : Nat} {l : List (Nat × Value)} {st : List Value}
theorem am_iadd {x y : Int32} (hd : decode M.2.1 pc = .ok (.iadd, 1)) (k : am_OK M X Q g h (pc + 1) l (.int (x + y) :: st)) : am_OK M X Q g h pc l (.int y :: .int x :: st) :=
  fun p lc e s m args below meth c D ca ad0 A cx ad H locs ls dy hl => lv_iadd cx.1.1 cx.1.2.1 hd (k p lc e s m args below meth c D ca ad0 A cx ad H locs ls dy hl)
theorem am_isub {x y : Int32} (hd : decode M.2.1 pc = .ok (.isub, 1)) (k : am_OK M X Q g h (pc + 1) l (.int (x - y) :: st)) : am_OK M X Q g h pc l (.int y :: .int x :: st) :=
  fun p lc e s m args below meth c D ca ad0 A cx ad H locs ls dy hl => lv_isub cx.1.1 cx.1.2.1 hd (k p lc e s m args below meth c D ca ad0 A cx ad H locs ls dy hl)
theorem am_imul {x y : Int32} (hd : decode M.2.1 pc = .ok (.imul, 1)) (k : am_OK M X Q g h (pc + 1) l (.int (x * y) :: st)) : am_OK M X Q g h pc l (.int y :: .int x :: st) :=
  fun p lc e s m args below meth c D ca ad0 A cx ad H locs ls dy hl => lv_imul cx.1.1 cx.1.2.1 hd (k p lc e s m args below meth c D ca ad0 A cx ad H locs ls dy hl)
theorem am_iand {x y : Int32} (hd : decode M.2.1 pc = .ok (.iand, 1)) (k : am_OK M X Q g h (pc + 1) l (.int (x &&& y) :: st)) : am_OK M X Q g h pc l (.int y :: .int x :: st) :=
  fun p lc e s m args below meth c D ca ad0 A cx ad H locs ls dy hl => lv_iand cx.1.1 cx.1.2.1 hd (k p lc e s m args below meth c D ca ad0 A cx ad H locs ls dy hl)
theorem am_ior {x y : Int32} (hd : decode M.2.1 pc = .ok (.ior, 1)) (k : am_OK M X Q g h (pc + 1) l (.int (x ||| y) :: st)) : am_OK M X Q g h pc l (.int y :: .int x :: st) :=
  fun p lc e s m args below meth c D ca ad0 A cx ad H locs ls dy hl => lv_ior cx.1.1 cx.1.2.1 hd (k p lc e s m args below meth c D ca ad0 A cx ad H locs ls dy hl)
theorem am_ixor {x y : Int32} (hd : decode M.2.1 pc = .ok (.ixor, 1)) (k : am_OK M X Q g h (pc + 1) l (.int (x ^^^ y) :: st)) : am_OK M X Q g h pc l (.int y :: .int x :: st) :=
  fun p lc e s m args below meth c D ca ad0 A cx ad H locs ls dy hl => lv_ixor cx.1.1 cx.1.2.1 hd (k p lc e s m args below meth c D ca ad0 A cx ad H locs ls dy hl)
theorem am_ishl {x y : Int32} (hd : decode M.2.1 pc = .ok (.ishl, 1)) (k : am_OK M X Q g h (pc + 1) l (.int (x <<< (y &&& 31)) :: st)) : am_OK M X Q g h pc l (.int y :: .int x :: st) :=
  fun p lc e s m args below meth c D ca ad0 A cx ad H locs ls dy hl => lv_ishl cx.1.1 cx.1.2.1 hd (k p lc e s m args below meth c D ca ad0 A cx ad H locs ls dy hl)
theorem am_ishr {x y : Int32} (hd : decode M.2.1 pc = .ok (.ishr, 1)) (k : am_OK M X Q g h (pc + 1) l (.int (x >>> (y &&& 31)) :: st)) : am_OK M X Q g h pc l (.int y :: .int x :: st) :=
  fun p lc e s m args below meth c D ca ad0 A cx ad H locs ls dy hl => lv_ishr cx.1.1 cx.1.2.1 hd (k p lc e s m args below meth c D ca ad0 A cx ad H locs ls dy hl)
theorem am_ladd {x y : Int64} (hd : decode M.2.1 pc = .ok (.ladd, 1)) (k : am_OK M X Q g h (pc + 1) l (.long (x + y) :: st)) : am_OK M X Q g h pc l (.long y :: .long x :: st) :=
  fun p lc e s m args below meth c D ca ad0 A cx ad H locs ls dy hl => lv_ladd cx.1.1 cx.1.2.1 hd (k p lc e s m args below meth c D ca ad0 A cx ad H locs ls dy hl)
theorem am_lsub {x y : Int64} (hd : decode M.2.1 pc = .ok (.lsub, 1)) (k : am_OK M X Q g h (pc + 1) l (.long (x - y) :: st)) : am_OK M X Q g h pc l (.long y :: .long x :: st) :=
  fun p lc e s m args below meth c D ca ad0 A cx ad H locs ls dy hl => lv_lsub cx.1.1 cx.1.2.1 hd (k p lc e s m args below meth c D ca ad0 A cx ad H locs ls dy hl)
theorem am_lmul {x y : Int64} (hd : decode M.2.1 pc = .ok (.lmul, 1)) (k : am_OK M X Q g h (pc + 1) l (.long (x * y) :: st)) : am_OK M X Q g h pc l (.long y :: .long x :: st) :=
  fun p lc e s m args below meth c D ca ad0 A cx ad H locs ls dy hl => lv_lmul cx.1.1 cx.1.2.1 hd (k p lc e s m args below meth c D ca ad0 A cx ad H locs ls dy hl)
theorem am_land {x y : Int64} (hd : decode M.2.1 pc = .ok (.land, 1)) (k : am_OK M X Q g h (pc + 1) l (.long (x &&& y) :: st)) : am_OK M X Q g h pc l (.long y :: .long x :: st) :=
  fun p lc e s m args below meth c D ca ad0 A cx ad H locs ls dy hl => lv_land cx.1.1 cx.1.2.1 hd (k p lc e s m args below meth c D ca ad0 A cx ad H locs ls dy hl)
theorem am_lor {x y : Int64} (hd : decode M.2.1 pc = .ok (.lor, 1)) (k : am_OK M X Q g h (pc + 1) l (.long (x ||| y) :: st)) : am_OK M X Q g h pc l (.long y :: .long x :: st) :=
  fun p lc e s m args below meth c D ca ad0 A cx ad H locs ls dy hl => lv_lor cx.1.1 cx.1.2.1 hd (k p lc e s m args below meth c D ca ad0 A cx ad H locs ls dy hl)
theorem am_ldiv {x y : Int64} (hne : ¬ y = 0) (hd : decode M.2.1 pc = .ok (.ldiv, 1)) (k : am_OK M X Q g h (pc + 1) l (.long (x / y) :: st)) : am_OK M X Q g h pc l (.long y :: .long x :: st) :=
  fun p lc e s m args below meth c D ca ad0 A cx ad H locs ls dy hl => lv_ldiv cx.1.1 cx.1.2.1 hd hne (k p lc e s m args below meth c D ca ad0 A cx ad H locs ls dy hl)
theorem am_lrem {x y : Int64} (hne : ¬ y = 0) (hd : decode M.2.1 pc = .ok (.lrem, 1)) (k : am_OK M X Q g h (pc + 1) l (.long (x - x / y * y) :: st)) : am_OK M X Q g h pc l (.long y :: .long x :: st) :=
  fun p lc e s m args below meth c D ca ad0 A cx ad H locs ls dy hl => lv_lrem cx.1.1 cx.1.2.1 hd hne (k p lc e s m args below meth c D ca ad0 A cx ad H locs ls dy hl)
theorem am_ineg {x : Int32} (hd : decode M.2.1 pc = .ok (.ineg, 1)) (k : am_OK M X Q g h (pc + 1) l (.int (-x) :: st)) : am_OK M X Q g h pc l (.int x :: st) :=
  fun p lc e s m args below meth c D ca ad0 A cx ad H locs ls dy hl => lv_ineg cx.1.1 cx.1.2.1 hd (k p lc e s m args below meth c D ca ad0 A cx ad H locs ls dy hl)
theorem am_lneg {x : Int64} (hd : decode M.2.1 pc = .ok (.lneg, 1)) (k : am_OK M X Q g h (pc + 1) l (.long (-x) :: st)) : am_OK M X Q g h pc l (.long x :: st) :=
  fun p lc e s m args below meth c D ca ad0 A cx ad H locs ls dy hl => lv_lneg cx.1.1 cx.1.2.1 hd (k p lc e s m args below meth c D ca ad0 A cx ad H locs ls dy hl)
theorem am_i2l {x : Int32} (hd : decode M.2.1 pc = .ok (.i2l, 1)) (k : am_OK M X Q g h (pc + 1) l (.long (x.toInt64) :: st)) : am_OK M X Q g h pc l (.int x :: st) :=
  fun p lc e s m args below meth c D ca ad0 A cx ad H locs ls dy hl => lv_i2l cx.1.1 cx.1.2.1 hd rfl (k p lc e s m args below meth c D ca ad0 A cx ad H locs ls dy hl)
theorem am_l2i {x : Int64} (hd : decode M.2.1 pc = .ok (.l2i, 1)) (k : am_OK M X Q g h (pc + 1) l (.int (x.toInt32) :: st)) : am_OK M X Q g h pc l (.long x :: st) :=
  fun p lc e s m args below meth c D ca ad0 A cx ad H locs ls dy hl => lv_l2i cx.1.1 cx.1.2.1 hd rfl (k p lc e s m args below meth c D ca ad0 A cx ad H locs ls dy hl)
theorem am_i2c {x : Int32} (hd : decode M.2.1 pc = .ok (.i2c, 1)) (k : am_OK M X Q g h (pc + 1) l (.int ((x.toUInt32 % 65536).toInt32) :: st)) : am_OK M X Q g h pc l (.int x :: st) :=
  fun p lc e s m args below meth c D ca ad0 A cx ad H locs ls dy hl => lv_i2c cx.1.1 cx.1.2.1 hd rfl (k p lc e s m args below meth c D ca ad0 A cx ad H locs ls dy hl)
theorem am_lshl {x : Int64} {y : Int32} (hd : decode M.2.1 pc = .ok (.lshl, 1)) (k : am_OK M X Q g h (pc + 1) l (.long (x <<< (y.toInt64 &&& 63)) :: st)) : am_OK M X Q g h pc l (.int y :: .long x :: st) :=
  fun p lc e s m args below meth c D ca ad0 A cx ad H locs ls dy hl => lv_lshl cx.1.1 cx.1.2.1 hd rfl (k p lc e s m args below meth c D ca ad0 A cx ad H locs ls dy hl)
theorem am_lshr {x : Int64} {y : Int32} (hd : decode M.2.1 pc = .ok (.lshr, 1)) (k : am_OK M X Q g h (pc + 1) l (.long (x >>> (y.toInt64 &&& 63)) :: st)) : am_OK M X Q g h pc l (.int y :: .long x :: st) :=
  fun p lc e s m args below meth c D ca ad0 A cx ad H locs ls dy hl => lv_lshr cx.1.1 cx.1.2.1 hd rfl (k p lc e s m args below meth c D ca ad0 A cx ad H locs ls dy hl)
theorem am_dup {v : Value} (hv : v.category = 1) (hd : decode M.2.1 pc = .ok (.dup, 1)) (k : am_OK M X Q g h (pc + 1) l (v :: v :: st)) : am_OK M X Q g h pc l (v :: st) :=
  fun p lc e s m args below meth c D ca ad0 A cx ad H locs ls dy hl => lv_dup cx.1.1 cx.1.2.1 hd ((am_cv_cat ad v).trans hv) (k p lc e s m args below meth c D ca ad0 A cx ad H locs ls dy hl)
theorem am_pop {v : Value} (hv : v.category = 1) (hd : decode M.2.1 pc = .ok (.pop, 1)) (k : am_OK M X Q g h (pc + 1) l st) : am_OK M X Q g h pc l (v :: st) :=
  fun p lc e s m args below meth c D ca ad0 A cx ad H locs ls dy hl => lv_pop cx.1.1 cx.1.2.1 hd ((am_cv_cat ad v).trans hv) (k p lc e s m args below meth c D ca ad0 A cx ad H locs ls dy hl)
theorem am_pop2 {v : Value} (hv : v.category = 2) (hd : decode M.2.1 pc = .ok (.pop2, 1)) (k : am_OK M X Q g h (pc + 1) l st) : am_OK M X Q g h pc l (v :: st) :=
  fun p lc e s m args below meth c D ca ad0 A cx ad H locs ls dy hl => lv_pop2_2 cx.1.1 cx.1.2.1 hd ((am_cv_cat ad v).trans hv) (k p lc e s m args below meth c D ca ad0 A cx ad H locs ls dy hl)
theorem am_dup2 {v w : Value} (hv : v.category = 1) (hw : w.category = 1) (hd : decode M.2.1 pc = .ok (.dup2, 1)) (k : am_OK M X Q g h (pc + 1) l (v :: w :: v :: w :: st)) : am_OK M X Q g h pc l (v :: w :: st) :=
  fun p lc e s m args below meth c D ca ad0 A cx ad H locs ls dy hl => lv_dup2_11 cx.1.1 cx.1.2.1 hd ((am_cv_cat ad v).trans hv) ((am_cv_cat ad w).trans hw) (k p lc e s m args below meth c D ca ad0 A cx ad H locs ls dy hl)
theorem am_dup2l {v : Value} (hv : v.category = 2) (hd : decode M.2.1 pc = .ok (.dup2, 1)) (k : am_OK M X Q g h (pc + 1) l (v :: v :: st)) : am_OK M X Q g h pc l (v :: st) :=
  fun p lc e s m args below meth c D ca ad0 A cx ad H locs ls dy hl => lv_dup2_2 cx.1.1 cx.1.2.1 hd ((am_cv_cat ad v).trans hv) (k p lc e s m args below meth c D ca ad0 A cx ad H locs ls dy hl)
theorem am_icmp_eq {x y : Int32} {off : Int} {tgt : Nat} (ht : (pc : Int) + off = (tgt : Int)) (hd : decode M.2.1 pc = .ok (.if_icmp .eq off, 3)) (kt : x = y → am_OK M X Q g h tgt l st) (kf : ¬ x = y → am_OK M X Q g h (pc + 3) l st) : am_OK M X Q g h pc l (.int y :: .int x :: st) :=
  fun p lc e s m args below meth c D ca ad0 A cx ad H locs ls dy hl => lv_icmp_eq cx.1.1 cx.1.2.1 hd ht (fun c9 => kt c9 p lc e s m args below meth c D ca ad0 A cx ad H locs ls dy hl) (fun c9 => kf c9 p lc e s m args below meth c D ca ad0 A cx ad H locs ls dy hl)
theorem am_if_eq {x : Int32} {off : Int} {tgt : Nat} (ht : (pc : Int) + off = (tgt : Int)) (hd : decode M.2.1 pc = .ok (.ifCond .eq off, 3)) (kt : x = 0 → am_OK M X Q g h tgt l st) (kf : ¬ x = 0 → am_OK M X Q g h (pc + 3) l st) : am_OK M X Q g h pc l (.int x :: st) :=
  fun p lc e s m args below meth c D ca ad0 A cx ad H locs ls dy hl => lv_if_eq cx.1.1 cx.1.2.1 hd ht (fun c9 => kt c9 p lc e s m args below meth c D ca ad0 A cx ad H locs ls dy hl) (fun c9 => kf c9 p lc e s m args below meth c D ca ad0 A cx ad H locs ls dy hl)
theorem am_icmp_ne {x y : Int32} {off : Int} {tgt : Nat} (ht : (pc : Int) + off = (tgt : Int)) (hd : decode M.2.1 pc = .ok (.if_icmp .ne off, 3)) (kt : ¬ x = y → am_OK M X Q g h tgt l st) (kf : x = y → am_OK M X Q g h (pc + 3) l st) : am_OK M X Q g h pc l (.int y :: .int x :: st) :=
  fun p lc e s m args below meth c D ca ad0 A cx ad H locs ls dy hl => lv_icmp_ne cx.1.1 cx.1.2.1 hd ht (fun c9 => kt c9 p lc e s m args below meth c D ca ad0 A cx ad H locs ls dy hl) (fun c9 => kf c9 p lc e s m args below meth c D ca ad0 A cx ad H locs ls dy hl)
theorem am_if_ne {x : Int32} {off : Int} {tgt : Nat} (ht : (pc : Int) + off = (tgt : Int)) (hd : decode M.2.1 pc = .ok (.ifCond .ne off, 3)) (kt : ¬ x = 0 → am_OK M X Q g h tgt l st) (kf : x = 0 → am_OK M X Q g h (pc + 3) l st) : am_OK M X Q g h pc l (.int x :: st) :=
  fun p lc e s m args below meth c D ca ad0 A cx ad H locs ls dy hl => lv_if_ne cx.1.1 cx.1.2.1 hd ht (fun c9 => kt c9 p lc e s m args below meth c D ca ad0 A cx ad H locs ls dy hl) (fun c9 => kf c9 p lc e s m args below meth c D ca ad0 A cx ad H locs ls dy hl)
theorem am_icmp_lt {x y : Int32} {off : Int} {tgt : Nat} (ht : (pc : Int) + off = (tgt : Int)) (hd : decode M.2.1 pc = .ok (.if_icmp .lt off, 3)) (kt : x < y → am_OK M X Q g h tgt l st) (kf : ¬ x < y → am_OK M X Q g h (pc + 3) l st) : am_OK M X Q g h pc l (.int y :: .int x :: st) :=
  fun p lc e s m args below meth c D ca ad0 A cx ad H locs ls dy hl => lv_icmp_lt cx.1.1 cx.1.2.1 hd ht (fun c9 => kt c9 p lc e s m args below meth c D ca ad0 A cx ad H locs ls dy hl) (fun c9 => kf c9 p lc e s m args below meth c D ca ad0 A cx ad H locs ls dy hl)
theorem am_if_lt {x : Int32} {off : Int} {tgt : Nat} (ht : (pc : Int) + off = (tgt : Int)) (hd : decode M.2.1 pc = .ok (.ifCond .lt off, 3)) (kt : x < 0 → am_OK M X Q g h tgt l st) (kf : ¬ x < 0 → am_OK M X Q g h (pc + 3) l st) : am_OK M X Q g h pc l (.int x :: st) :=
  fun p lc e s m args below meth c D ca ad0 A cx ad H locs ls dy hl => lv_if_lt cx.1.1 cx.1.2.1 hd ht (fun c9 => kt c9 p lc e s m args below meth c D ca ad0 A cx ad H locs ls dy hl) (fun c9 => kf c9 p lc e s m args below meth c D ca ad0 A cx ad H locs ls dy hl)
theorem am_icmp_ge {x y : Int32} {off : Int} {tgt : Nat} (ht : (pc : Int) + off = (tgt : Int)) (hd : decode M.2.1 pc = .ok (.if_icmp .ge off, 3)) (kt : y ≤ x → am_OK M X Q g h tgt l st) (kf : ¬ y ≤ x → am_OK M X Q g h (pc + 3) l st) : am_OK M X Q g h pc l (.int y :: .int x :: st) :=
  fun p lc e s m args below meth c D ca ad0 A cx ad H locs ls dy hl => lv_icmp_ge cx.1.1 cx.1.2.1 hd ht (fun c9 => kt c9 p lc e s m args below meth c D ca ad0 A cx ad H locs ls dy hl) (fun c9 => kf c9 p lc e s m args below meth c D ca ad0 A cx ad H locs ls dy hl)
theorem am_if_ge {x : Int32} {off : Int} {tgt : Nat} (ht : (pc : Int) + off = (tgt : Int)) (hd : decode M.2.1 pc = .ok (.ifCond .ge off, 3)) (kt : 0 ≤ x → am_OK M X Q g h tgt l st) (kf : ¬ 0 ≤ x → am_OK M X Q g h (pc + 3) l st) : am_OK M X Q g h pc l (.int x :: st) :=
  fun p lc e s m args below meth c D ca ad0 A cx ad H locs ls dy hl => lv_if_ge cx.1.1 cx.1.2.1 hd ht (fun c9 => kt c9 p lc e s m args below meth c D ca ad0 A cx ad H locs ls dy hl) (fun c9 => kf c9 p lc e s m args below meth c D ca ad0 A cx ad H locs ls dy hl)
theorem am_icmp_gt {x y : Int32} {off : Int} {tgt : Nat} (ht : (pc : Int) + off = (tgt : Int)) (hd : decode M.2.1 pc = .ok (.if_icmp .gt off, 3)) (kt : y < x → am_OK M X Q g h tgt l st) (kf : ¬ y < x → am_OK M X Q g h (pc + 3) l st) : am_OK M X Q g h pc l (.int y :: .int x :: st) :=
  fun p lc e s m args below meth c D ca ad0 A cx ad H locs ls dy hl => lv_icmp_gt cx.1.1 cx.1.2.1 hd ht (fun c9 => kt c9 p lc e s m args below meth c D ca ad0 A cx ad H locs ls dy hl) (fun c9 => kf c9 p lc e s m args below meth c D ca ad0 A cx ad H locs ls dy hl)
theorem am_if_gt {x : Int32} {off : Int} {tgt : Nat} (ht : (pc : Int) + off = (tgt : Int)) (hd : decode M.2.1 pc = .ok (.ifCond .gt off, 3)) (kt : 0 < x → am_OK M X Q g h tgt l st) (kf : ¬ 0 < x → am_OK M X Q g h (pc + 3) l st) : am_OK M X Q g h pc l (.int x :: st) :=
  fun p lc e s m args below meth c D ca ad0 A cx ad H locs ls dy hl => lv_if_gt cx.1.1 cx.1.2.1 hd ht (fun c9 => kt c9 p lc e s m args below meth c D ca ad0 A cx ad H locs ls dy hl) (fun c9 => kf c9 p lc e s m args below meth c D ca ad0 A cx ad H locs ls dy hl)
theorem am_icmp_le {x y : Int32} {off : Int} {tgt : Nat} (ht : (pc : Int) + off = (tgt : Int)) (hd : decode M.2.1 pc = .ok (.if_icmp .le off, 3)) (kt : x ≤ y → am_OK M X Q g h tgt l st) (kf : ¬ x ≤ y → am_OK M X Q g h (pc + 3) l st) : am_OK M X Q g h pc l (.int y :: .int x :: st) :=
  fun p lc e s m args below meth c D ca ad0 A cx ad H locs ls dy hl => lv_icmp_le cx.1.1 cx.1.2.1 hd ht (fun c9 => kt c9 p lc e s m args below meth c D ca ad0 A cx ad H locs ls dy hl) (fun c9 => kf c9 p lc e s m args below meth c D ca ad0 A cx ad H locs ls dy hl)
theorem am_if_le {x : Int32} {off : Int} {tgt : Nat} (ht : (pc : Int) + off = (tgt : Int)) (hd : decode M.2.1 pc = .ok (.ifCond .le off, 3)) (kt : x ≤ 0 → am_OK M X Q g h tgt l st) (kf : ¬ x ≤ 0 → am_OK M X Q g h (pc + 3) l st) : am_OK M X Q g h pc l (.int x :: st) :=
  fun p lc e s m args below meth c D ca ad0 A cx ad H locs ls dy hl => lv_if_le cx.1.1 cx.1.2.1 hd ht (fun c9 => kt c9 p lc e s m args below meth c D ca ad0 A cx ad H locs ls dy hl) (fun c9 => kf c9 p lc e s m args below meth c D ca ad0 A cx ad H locs ls dy hl)
theorem am_goto {off : Int} {tgt : Nat} (ht : (pc : Int) + off = (tgt : Int)) (hd : decode M.2.1 pc = .ok (.goto off, 3)) (k : am_OK M X Q g h tgt l st) : am_OK M X Q g h pc l st :=
  fun p lc e s m args below meth c D ca ad0 A cx ad H locs ls dy hl => lv_goto cx.1.1 cx.1.2.1 hd ht (k p lc e s m args below meth c D ca ad0 A cx ad H locs ls dy hl)
theorem am_lcmp {x y : Int64} (hd : decode M.2.1 pc = .ok (.lcmp, 1)) (k : am_OK M X Q g h (pc + 1) l (.int (lg_cmp x y) :: st)) : am_OK M X Q g h pc l (.long y :: .long x :: st) :=
  fun p lc e s m args below meth c D ca ad0 A cx ad H locs ls dy hl => W.lcmp cx.1.1 cx.1.2.1 hd (k p lc e s m args below meth c D ca ad0 A cx ad H locs ls dy hl)
theorem am_lcmp_eq {x y : Int64} {off : Int} {tgt pc1 : Nat} (hd0 : decode M.2.1 pc = .ok (.lcmp, 1)) (h1 : pc + 1 = pc1) (ht : (pc1 : Int) + off = (tgt : Int)) (hd : decode M.2.1 pc1 = .ok (.ifCond .eq off, 3)) (kt : x = y → am_OK M X Q g h tgt l st) (kf : ¬ x = y → am_OK M X Q g h (pc1 + 3) l st) : am_OK M X Q g h pc l (.long y :: .long x :: st) := by
  subst h1
  exact am_lcmp hd0 (am_if_eq ht hd (fun c9 => kt ((lg_cmp_eq x y).mp c9)) (fun c9 => kf ((not_congr (lg_cmp_eq x y)).mp c9)))
theorem am_lcmp_ne {x y : Int64} {off : Int} {tgt pc1 : Nat} (hd0 : decode M.2.1 pc = .ok (.lcmp, 1)) (h1 : pc + 1 = pc1) (ht : (pc1 : Int) + off = (tgt : Int)) (hd : decode M.2.1 pc1 = .ok (.ifCond .ne off, 3)) (kt : ¬ x = y → am_OK M X Q g h tgt l st) (kf : x = y → am_OK M X Q g h (pc1 + 3) l st) : am_OK M X Q g h pc l (.long y :: .long x :: st) := by
  subst h1
  exact am_lcmp hd0 (am_if_ne ht hd (fun c9 => kt ((not_congr (lg_cmp_eq x y)).mp c9)) (fun c9 => kf ((lg_cmp_eq x y).mp c9)))
theorem am_lcmp_lt {x y : Int64} {off : Int} {tgt pc1 : Nat} (hd0 : decode M.2.1 pc = .ok (.lcmp, 1)) (h1 : pc + 1 = pc1) (ht : (pc1 : Int) + off = (tgt : Int)) (hd : decode M.2.1 pc1 = .ok (.ifCond .lt off, 3)) (kt : x < y → am_OK M X Q g h tgt l st) (kf : ¬ x < y → am_OK M X Q g h (pc1 + 3) l st) : am_OK M X Q g h pc l (.long y :: .long x :: st) := by
  subst h1
  exact am_lcmp hd0 (am_if_lt ht hd (fun c9 => kt ((lg_cmp_lt x y).mp c9)) (fun c9 => kf ((not_congr (lg_cmp_lt x y)).mp c9)))
theorem am_lcmp_ge {x y : Int64} {off : Int} {tgt pc1 : Nat} (hd0 : decode M.2.1 pc = .ok (.lcmp, 1)) (h1 : pc + 1 = pc1) (ht : (pc1 : Int) + off = (tgt : Int)) (hd : decode M.2.1 pc1 = .ok (.ifCond .ge off, 3)) (kt : y ≤ x → am_OK M X Q g h tgt l st) (kf : ¬ y ≤ x → am_OK M X Q g h (pc1 + 3) l st) : am_OK M X Q g h pc l (.long y :: .long x :: st) := by
  subst h1
  exact am_lcmp hd0 (am_if_ge ht hd (fun c9 => kt ((lg_cmp_ge x y).mp c9)) (fun c9 => kf ((not_congr (lg_cmp_ge x y)).mp c9)))
theorem am_lcmp_gt {x y : Int64} {off : Int} {tgt pc1 : Nat} (hd0 : decode M.2.1 pc = .ok (.lcmp, 1)) (h1 : pc + 1 = pc1) (ht : (pc1 : Int) + off = (tgt : Int)) (hd : decode M.2.1 pc1 = .ok (.ifCond .gt off, 3)) (kt : y < x → am_OK M X Q g h tgt l st) (kf : ¬ y < x → am_OK M X Q g h (pc1 + 3) l st) : am_OK M X Q g h pc l (.long y :: .long x :: st) := by
  subst h1
  exact am_lcmp hd0 (am_if_gt ht hd (fun c9 => kt ((lg_cmp_gt x y).mp c9)) (fun c9 => kf ((not_congr (lg_cmp_gt x y)).mp c9)))
theorem am_lcmp_le {x y : Int64} {off : Int} {tgt pc1 : Nat} (hd0 : decode M.2.1 pc = .ok (.lcmp, 1)) (h1 : pc + 1 = pc1) (ht : (pc1 : Int) + off = (tgt : Int)) (hd : decode M.2.1 pc1 = .ok (.ifCond .le off, 3)) (kt : x ≤ y → am_OK M X Q g h tgt l st) (kf : ¬ x ≤ y → am_OK M X Q g h (pc1 + 3) l st) : am_OK M X Q g h pc l (.long y :: .long x :: st) := by
  subst h1
  exact am_lcmp hd0 (am_if_le ht hd (fun c9 => kt ((lg_cmp_le x y).mp c9)) (fun c9 => kf ((not_congr (lg_cmp_le x y)).mp c9)))
theorem am_ifnull0 {off : Int} {tgt : Nat} (ht : (pc : Int) + off = (tgt : Int)) (hd : decode M.2.1 pc = .ok (.ifnull off, 3)) (k : am_OK M X Q g h tgt l st) : am_OK M X Q g h pc l (.null :: st) :=
  fun p lc e s m args below meth c D ca ad0 A cx ad H locs ls dy hl => lv_ifnullN cx.1.1 cx.1.2.1 hd ht (k p lc e s m args below meth c D ca ad0 A cx ad H locs ls dy hl)
theorem am_ifnull1 {x : Nat} {off : Int} (hd : decode M.2.1 pc = .ok (.ifnull off, 3)) (k : am_OK M X Q g h (pc + 3) l st) : am_OK M X Q g h pc l (.ref x :: st) :=
  fun p lc e s m args below meth c D ca ad0 A cx ad H locs ls dy hl => lv_ifnull cx.1.1 cx.1.2.1 hd (k p lc e s m args below meth c D ca ad0 A cx ad H locs ls dy hl)
theorem am_ifnonnull1 {x : Nat} {off : Int} {tgt : Nat} (ht : (pc : Int) + off = (tgt : Int)) (hd : decode M.2.1 pc = .ok (.ifnonnull off, 3)) (k : am_OK M X Q g h tgt l st) : am_OK M X Q g h pc l (.ref x :: st) :=
  fun p lc e s m args below meth c D ca ad0 A cx ad H locs ls dy hl => lv_ifnonnull cx.1.1 cx.1.2.1 hd ht (k p lc e s m args below meth c D ca ad0 A cx ad H locs ls dy hl)
theorem am_ifnonnull0 {off : Int} (hd : decode M.2.1 pc = .ok (.ifnonnull off, 3)) (k : am_OK M X Q g h (pc + 3) l st) : am_OK M X Q g h pc l (.null :: st) :=
  fun p lc e s m args below meth c D ca ad0 A cx ad H locs ls dy hl => lv_ifnonnullN cx.1.1 cx.1.2.1 hd (k p lc e s m args below meth c D ca ad0 A cx ad H locs ls dy hl)
theorem am_lookup {dflt : Int} {ps : Array (Int × Int)} {len : Nat} {x : Int32} {off : Int} {tgt : Nat} (hp : (ps.toList.zip (ps.toList.drop 1)).all (fun (a, next) => a.1 < next.1) = true) (ho : Op.lookupswitch.offset ps.toList dflt x.toInt = off) (ht : (pc : Int) + off = (tgt : Int)) (hd : decode M.2.1 pc = .ok (.lookupswitch dflt ps, len)) (k : am_OK M X Q g h tgt l st) : am_OK M X Q g h pc l (.int x :: st) :=
  fun p lc e s m args below meth c D ca ad0 A cx ad H locs ls dy hl => lv_lookup cx.1.1 cx.1.2.1 hd hp ho ht (k p lc e s m args below meth c D ca ad0 A cx ad H locs ls dy hl)
theorem am_tableIn {dflt lo hi : Int} {offs : Array Int} {len : Nat} {x : Int32} {off : Int} {tgt : Nat} (h1 : ¬ x.toInt < lo) (h2 : ¬ hi < x.toInt) (ho : offs[(x.toInt - lo).toNat]? = some off) (ht : (pc : Int) + off = (tgt : Int)) (hd : decode M.2.1 pc = .ok (.tableswitch dflt lo hi offs, len)) (k : am_OK M X Q g h tgt l st) : am_OK M X Q g h pc l (.int x :: st) :=
  fun p lc e s m args below meth c D ca ad0 A cx ad H locs ls dy hl => lv_tableIn cx.1.1 cx.1.2.1 hd h1 h2 ho ht (k p lc e s m args below meth c D ca ad0 A cx ad H locs ls dy hl)
theorem am_tableOut {dflt lo hi : Int} {offs : Array Int} {len : Nat} {x : Int32} {tgt : Nat} (h1 : x.toInt < lo ∨ hi < x.toInt) (ht : (pc : Int) + dflt = (tgt : Int)) (hd : decode M.2.1 pc = .ok (.tableswitch dflt lo hi offs, len)) (k : am_OK M X Q g h tgt l st) : am_OK M X Q g h pc l (.int x :: st) :=
  fun p lc e s m args below meth c D ca ad0 A cx ad H locs ls dy hl => lv_tableOut cx.1.1 cx.1.2.1 hd h1 ht (k p lc e s m args below meth c D ca ad0 A cx ad H locs ls dy hl)
end AM2
