/-! the law from its entry; the claim (from lw_walk on the skeleton's rows) -/
theorem la_arr {s : State} {args : Array Value} {ty : FieldType} (hp : ty = .int ∨ ty = .long ∨ ty = .boolean) (h : (Cond.arrayClass ty).before args s = true) : ∃ cA : ClassId, ArrOfT s cA ty ∧ va_RA s cA ty := by
  obtain ⟨cA, kA, comp, h1, h2, h3⟩ := Cond.arrayClass_spec (args := args) (first := s) (o := none) (s := s) (idx := []) h
  refine ⟨cA, fun n z => ⟨(fun k h => by cases h), kA, h2, comp, h3⟩, ?_⟩
  rcases hp with rfl | rfl | rfl <;> exact h1
theorem la_arrq {s : State} {args : Array Value} {C : String} (h : (Cond.arrayOver (.object C)).before args s = true) : ∃ cA : ClassId, ArrOfT s cA (.object C) ∧ va_RA s cA (.object C) := by
  obtain ⟨comp, c, k, h1, h2, h3, h4, h5⟩ := Cond.arrayOver_spec (args := args) (first := s) (o := none) (s := s) (idx := []) h
  exact ⟨c, fun n z => ⟨(fun k h => by cases h), k, h3, comp, h4⟩, k, comp, h3, h4, h1, h5⟩
set_option maxRecDepth 100000 in
theorem la_K {s : State} {args : Array Value} (hts : ∀ w ∈ lw_tbl, w.before args s = true) : ∃ (D : va_G) (ca : FieldType → ClassId), va_K D vwCl (am_TY ca) s := by
  have hk : ∀ c : Nat, ∃ r : ClassId × (Nat → Nat), ∀ q : vw_C, vwCl[c]? = some q → u_Kn s q.1 q.2.1 q.2.2 r.1 r.2 := by
    intro c
    match c with
  | 0 =>
    obtain ⟨cC, iS, hk⟩ := u_known (n := 13) hts (cls_0).2.2.2.2 (hts _ (tb_1 (i := 189) (by decide +kernel)))
    exact ⟨(cC, iS), fun q hq => by cases hq; exact hk⟩
  | 1 =>
    obtain ⟨cC, iS, hk⟩ := u_known (n := 9) hts (cls_1).2.2.2.2 (hts _ (tb_2 (i := 143) (by decide +kernel)))
    exact ⟨(cC, iS), fun q hq => by cases hq; exact hk⟩
  | 2 =>
    obtain ⟨cC, iS, hk⟩ := u_known (n := 2) hts (cls_2).2.2.2.2 (hts _ (tb_2 (i := 107) (by decide +kernel)))
    exact ⟨(cC, iS), fun q hq => by cases hq; exact hk⟩
  | 3 =>
    obtain ⟨cC, iS, hk⟩ := u_known (n := 3) hts (cls_3).2.2.2.2 (hts _ (tb_2 (i := 3) (by decide +kernel)))
    exact ⟨(cC, iS), fun q hq => by cases hq; exact hk⟩
  | 4 =>
    obtain ⟨cC, iS, hk⟩ := u_known (n := 20) hts (cls_4).2.2.2.2 (hts _ (tb_1 (i := 38) (by decide +kernel)))
    exact ⟨(cC, iS), fun q hq => by cases hq; exact hk⟩
  | 5 =>
    obtain ⟨cC, iS, hk⟩ := u_known (n := 6) hts (cls_5).2.2.2.2 (hts _ (tb_2 (i := 23) (by decide +kernel)))
    exact ⟨(cC, iS), fun q hq => by cases hq; exact hk⟩
  | 6 =>
    obtain ⟨cC, iS, hk⟩ := u_known (n := 13) hts (cls_6).2.2.2.2 (hts _ (tb_1 (i := 137) (by decide +kernel)))
    exact ⟨(cC, iS), fun q hq => by cases hq; exact hk⟩
  | 7 =>
    obtain ⟨cC, iS, hk⟩ := u_known (n := 6) hts (cls_7).2.2.2.2 (hts _ (tb_2 (i := 179) (by decide +kernel)))
    exact ⟨(cC, iS), fun q hq => by cases hq; exact hk⟩
  | 8 =>
    obtain ⟨cC, iS, hk⟩ := u_known (n := 7) hts (cls_8).2.2.2.2 (hts _ (tb_2 (i := 77) (by decide +kernel)))
    exact ⟨(cC, iS), fun q hq => by cases hq; exact hk⟩
  | 9 =>
    obtain ⟨cC, iS, hk⟩ := u_known (n := 4) hts (cls_9).2.2.2.2 (hts _ (tb_2 (i := 122) (by decide +kernel)))
    exact ⟨(cC, iS), fun q hq => by cases hq; exact hk⟩
  | 10 =>
    obtain ⟨cC, iS, hk⟩ := u_known (n := 5) hts (cls_10).2.2.2.2 (hts _ (tb_1 (i := 32) (by decide +kernel)))
    exact ⟨(cC, iS), fun q hq => by cases hq; exact hk⟩
  | 11 =>
    obtain ⟨cC, iS, hk⟩ := u_known (n := 8) hts (cls_11).2.2.2.2 (hts _ (tb_1 (i := 24) (by decide +kernel)))
    exact ⟨(cC, iS), fun q hq => by cases hq; exact hk⟩
  | 12 =>
    obtain ⟨cC, iS, hk⟩ := u_known (n := 23) hts (cls_12).2.2.2.2 (hts _ (tb_5 (i := 204) (by decide +kernel)))
    exact ⟨(cC, iS), fun q hq => by cases hq; exact hk⟩
  | c + 13 => exact ⟨(0, fun _ => 0), fun q hq => by simp [vwCl] at hq⟩
  obtain ⟨f, hf⟩ := Classical.axiomOfChoice hk
  obtain ⟨c0, a0⟩ := la_arr (Or.inl rfl) (hts _ ar_int)
  obtain ⟨c1, a1⟩ := la_arr (Or.inr (Or.inl rfl)) (hts _ ar_long)
  obtain ⟨c2, a2⟩ := la_arr (Or.inr (Or.inr rfl)) (hts _ ar_boolean)
  obtain ⟨c3, a3⟩ := la_arrq (C := RX10) (hts _ (show Cond.arrayOver (.object RX10) ∈ lw_tbl from (tb_2 (i := 75) (by decide +kernel))))
  refine ⟨(fun c => (f c).1, fun c => (f c).2), fun t => match t with
    | .int => c0
    | .long => c1
    | .boolean => c2
    | _ => c3, fun c q hq => hf c q hq, fun k q hq => ?_⟩
  match k, hq with
  | 0, hq => cases hq; exact a0
  | 1, hq => cases hq; exact a1
  | 2, hq => cases hq; exact a2
  | 3, hq => cases hq; exact a3
  | k + 4, hq => simp [am_TY] at hq
theorem la_nest : ∀ q ∈ am_nest, Cond.methodLinkNest q.1 q.2.1 q.2.2.1 q.2.2.2 ∈ lw_tbl := by decide +kernel
theorem la_strR : Cond.stringRef "SteadyFund$RuleReader" 118 "csioqrm" ∈ lw_tbl := (tb_4 (i := 144) (by decide +kernel))
theorem la_laysC : Cond.laysStatic "java/lang/String" "COMPACT_STRINGS" "Z" ∈ lw_tbl := (tb_4 (i := 158) (by decide +kernel))
theorem la_el : ∀ j, j < 7 → Cond.eq (.elem (.field (.string "SteadyFund$RuleReader" 118) "java/lang/String" "value" "[B") (.int (Int32.ofNat j))) (.int (([99, 115, 105, 111, 113, 114, 109] : List Int32).getD j 0)) ∈ flatC (Jvm.Cond.and given_1 narrow_1) := by decide +kernel
set_option maxRecDepth 100000 in
theorem la_F {s : State} {b : Nat} (hts : ∀ w ∈ lw_tbl, w.before #[Value.ref b] s = true) (hgv : (Jvm.Cond.and given_1 narrow_1).before #[Value.ref b] s = true) : ∃ ad : Nat → Nat, ad 901 = b ∧ am_F ad (fun q => s.heap.size ≤ q) s s.heap := by
  have hs := flat_of_before _ hgv
  have hA : ∀ a : Nat, a < s.heap.size → ¬ (fun q => s.heap.size ≤ q) a := fun a h => Nat.not_le.mpr h
  obtain ⟨adK, adV, hS, hE⟩ := vk_Sof (args := #[Value.ref b]) (s := s) (N := 1) (tm := fun _ => (.string "SteadyFund$RuleReader" 118)) (len := [7]) (byt := [[99, 115, 105, 111, 113, 114, 109]]) (A := fun q => s.heap.size ≤ q)
    (fun i hi => by obtain rfl : i = 0 := by omega
                    decide)
    (fun i hi => hs _ (by decide +kernel)) (fun i hi => hs _ (by decide +kernel)) (fun i hi => hs _ (by decide +kernel))
    (fun i hi => by obtain rfl : i = 0 := by omega
                    exact hs _ (by decide +kernel))
    (fun i hi j hj => by obtain rfl : i = 0 := by omega
                         exact hs _ (la_el j hj))
    (fun i j hi hj hij => absurd (by omega) hij) hA
  refine ⟨fun k => if k = 900 then adK 0 else b, rfl, va_AO.of (A := #[Value.ref b]) (hts _ (show Cond.arrayOver (.object "SteadyFund$World") ∈ lw_tbl from (tb_2 (i := 75) (by decide +kernel)))), ?_, ⟨adV, ?_⟩, va_Zof (args := #[Value.ref b]) (hts _ la_laysC) (hts _ (tb_1 (i := 17) (by decide +kernel))) (va_eqi (hs _ (by decide +kernel))) hA, fun q hq => ?_⟩
  · refine vk_R.of (A := #[Value.ref b]) (hts _ la_strR) ?_
    show _ = some (Value.ref (if 900 = 900 then adK 0 else b))
    rw [if_pos rfl]
    exact hE 0 (by decide)
  · refine ⟨fun i hi => ?_, fun i j hi hj _ => by omega⟩
    obtain rfl : i = 0 := by omega
    show va_O _ (if 900 = 900 then adK 0 else b) _ _ _ ∧ _
    rw [if_pos rfl]
    exact hS.1 0 hi
  · exact va_tabs rfl rfl (hts _ (la_nest q hq))
/-- the law's walk, from its entry -/
theorem whole_start {p : Program} {e : Env} {s : State} {m : MethodId} {below : List Frame} {meth : Method} {c : Code} (l : Launch) (hflags : l.flags = flags0) {b L : Nat} {xs : Nat → Int32} (hL : L ≤ 3072) (C0 : lw_At p s m meth c b L xs) : W p l e room_1 s m #[Value.ref b] below meth c s.heap [] 0 0 (lw_Z below #[Value.ref b] s) (entryFrame m ([Value.ref b] : List Value).toArray 4) := by
  obtain ⟨hx, hb, hr, hml, hown, hts, hcw, hnm, hX, hbl, hlocks, hgv⟩ := C0
  obtain ⟨D, ca, hK⟩ := la_K hts
  obtain ⟨ad, h9, hF⟩ := la_F hts hgv
  have hl := lv_entry ([.ref b]) (n := 4) (Nat.le_of_ble_eq_true rfl)
  rw [lg_entry_eq]
  have cx : la_CX p s m meth c D ca ad b L xs := ⟨⟨⟨hx, hb, hml, hown, fun w hw => by
    rcases List.mem_cons.mp hw with h | h
    · rw [h]; exact hcw
    · exact hts w (List.mem_filter.mp h).1⟩, hr, hlocks, hK, fun q h => h, hnm, hF⟩, hX, hbl, h9⟩
  refine la_begin hL p l e s m below meth c D ca ad b cx ad s.heap [] _ ⟨List.nodup_nil, fun _ _ => rfl, fun k q h => by simp [am_wl] at h, ⟨fun i j p q h => by simp [am_wl] at h, fun k q h => by simp [am_wl] at h⟩, va_S.rf⟩ ?_
  have ecl : am_cl ad [(0, .ref 901)] = [(0, .ref b)] := by simp [am_cl, am_cv, h9]
  rw [ecl]
  exact hl
set_option maxHeartbeats 4000000 in
theorem lw_walk (l : Launch) (hflags : l.flags = flags0) (b : Addr) (xs : List Int32) : MetFree l x (headSpec (Jvm.Cond.code x code maxLocals ret :: tables_1) room_1) (lw_P b xs) (fun _ _ _ _ _ => True) lw_Q := by
  refine MetFree.of_bodyS (code := code) (maxLocals := maxLocals) (ret := ret) (by decide) ?_ ?_
  · intro args s m h hn
    obtain ⟨meth, c, h1, h2, h3, h4, h5, h6, -, -⟩ := Cond.code_spec hn (atoms_spec (ws := Jvm.Cond.code x code maxLocals ret :: tables_1) h _ List.mem_cons_self)
    exact ⟨meth, c, h1, h2, h3, h4, h5, h6⟩
  · intro p e s m args below meth c s₁ B hml0 hP _
    obtain ⟨rfl, hx, hbd, hgv⟩ := hP
    obtain ⟨scr, harrAt, hlist, hof, hsmall⟩ := hx
    obtain ⟨hcb, hkn, -, -⟩ := State.arrayAt?_spec harrAt
    have hown : s.vm.findClass R_law = some m.cls := findClass_of_methodNamed B.named
    have hts0 : ∀ c ∈ (Jvm.Cond.code x code maxLocals ret :: tables_1), c.before #[Value.ref b] s = true := atoms_spec (ws := Jvm.Cond.code x code maxLocals ret :: tables_1) B.pre
    have hts : ∀ w ∈ lw_tbl, w.before #[Value.ref b] s = true := k2_hts_sels lw_privs (fun w hw => hts0 w (List.mem_cons_of_mem _ hw)) lw_privs_ok
    have hml : c.maxLocals = 4 := B.maxLocals_eq (hts0 _ List.mem_cons_self)
    have X₀ : Stand p l e room_1 s m #[Value.ref b] below meth c s₁ [] 0 0 := Stand.of_body B
    have hh0 : s₁.heap = s.heap := by rw [B.state]; rfl
    have hsz : scr.slots.size = xs.length := by rw [← Array.length_toList, hlist, List.length_map]
    have hval : ∀ j : Nat, j < xs.length → scr.slots[j]? = some (.int (xs.getD j 0)) := fun j hj => by
      rw [← Array.getElem?_toList, hlist]
      simp [hj]
    have hbl : b < s.heap.size := (Array.getElem?_eq_some_iff.mp hcb).1
    have hX : va_X b xs.length (fun j => xs.getD j 0) s s.heap := ⟨scr, hcb, hof, hkn, hsz, hval⟩
    have K : W p l e room_1 s m #[Value.ref b] below meth c s₁.heap [] 0 0 (lw_Z below #[Value.ref b] s) (entryFrame m ([Value.ref b] : List Value).toArray 4) := by
      rw [hh0]
      exact whole_start l hflags hbd ⟨B.exec, B.bytes, B.returns, hml, hown, hts, hts0 _ List.mem_cons_self, (name_of_methodNamed B.named B.method).1, hX, hbl, B.notSynchronized, hgv⟩
    obtain ⟨t, a1, o, b1, b2, b3⟩ := K s₁ rfl X₀
    exact ⟨t, o, a1, b1, b2, b3⟩
theorem lw_pre_spec {args : Array Value} {s : State} (h : (Jvm.Cond.and given_1 narrow_1).before args s = true) (hr : rest_1_c.before args s = true) : ∃ (b : Addr) (xs : List Int32), lw_P b xs args s := by
  have hs := flat_of_before _ h
  have hq := flat_of_before _ hr
  have hc : (Cond.count 1).before args s = true := hs _ (by decide +kernel)
  have harr : (Cond.arrayOf (.arg 0) .int).before args s = true := hs _ (by decide +kernel)
  have hle : (Cond.le (.length (.arg 0)) (.int 3072)).before args s = true := hs _ (by decide +kernel)
  have hlen : (Cond.isInt (.length (.arg 0))).before args s = true := hq _ (by decide +kernel)
  have hall : (Cond.all (.arg 0) (.isInt (.elem (.arg 0) (.index 0)))).before args s = true := hq _ (by decide +kernel)
  obtain ⟨b, xs, hb, hx⟩ := State.ints_of_pre rfl harr hlen hall
  have hsm : xs.length < 2 ^ 31 := hx.choose_spec.2.2.2
  have hev : (Term.length (.arg 0)).eval args s none [] s = some (.int xs.length.toInt32) := hx.length_eval hb
  have hv := Cond.le_ints hev (show (Term.int 3072).eval args s none [] s = some (.int 3072) from rfl)
  have hd : xs.length.toInt32 ≤ 3072 := by
    simpa [Cond.before, Cond.holds, hv] using hle
  have hN : xs.length ≤ 3072 := (Int32.ofNat_le_ofNat hsm (by decide)).mp (show Int32.ofNat xs.length ≤ Int32.ofNat 3072 from hd)
  exact ⟨b, xs, Cond.one_arg hc (show args[0]? = some (.ref b) from hb), hx, hN, h⟩
theorem lw_comes (l : Launch) (hflags : l.flags = flags0) : Comes l x (Jvm.Cond.code x code maxLocals ret :: tables_1) room_1 (fun tb e args s => Calls_1 tb e args s ∧ rest_1 tb e args s ∧ Pre_1 tb e args s)
    (fun _ _ args s o t => lw_Q args s o t) := by
  intro p e ha hc hk s m args below hf hfit hheap happ hpre
  obtain ⟨b, xs, hP⟩ := lw_pre_spec hpre.2.2 hpre.2.1
  obtain ⟨k, o, h1, h2, h3, hQ⟩ := lw_walk l hflags b xs p e ha hc hk s m args below hf ((Spec.applies_iff_loose hf).mp happ).1 hP trivial
  exact ⟨k, o, h1, h2, h3, hQ⟩
theorem lw_frame {s t : State} {o : Outcome} {args : Array Value} (h : Framed s o t [] 600000 7302250) :
    Framed s o t (fieldLocs frame_1_writes args s ++ arrayLocs frame_1_arrays args s ++ staticLocs frame_1_statics s) 600000 7302250 := h
theorem lw_limb (L : Cond) (hL : ∀ (args : Array Value) (s t : State), L.after args s (.returned (some (.int 1))) t = true) :
    ArmFor flags0 classFile x code maxLocals ret World_1 tables_1 room_1 Calls_1 rest_1 Pre_1
      (fun tb e a s o t => postC L tb e a s o t ∧ Framed s o t (fieldLocs frame_1_writes a s ++ arrayLocs frame_1_arrays a s ++ staticLocs frame_1_statics s) 600000 7302250) := by
  intro l hflags _ _ p e ha hc hk s m args below hf hfit hheap happ hpre
  obtain ⟨k, o, h1, h2, h3, rfl, hF⟩ := lw_comes l hflags p e ha hc hk s m args below hf hfit hheap happ hpre
  exact ⟨k, _, h1, h2, h3, hL args s _, lw_frame hF⟩
theorem i_vc : Claimed_1_1 ∧ Claimed_1_2 := ⟨lw_limb limb_1_1 (fun args s t => by simp [limb_1_1, Cond.after, Cond.holds, Cond.value]), lw_limb limb_1_2 (fun args s t => Cond.after_iff.mpr (by
  first | (rw [show limb_1_2 = Cond.eq .result (.int 1) from rfl, Cond.eq_ints (x := 1) (y := 1) rfl rfl]; simp; done) | (simp [limb_1_2, Cond.value, Term.eval]; done)))⟩
