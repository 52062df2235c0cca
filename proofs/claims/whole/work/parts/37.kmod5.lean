/-! the reference: account, digest, lowest, the tide, dealt -/
def g_acc (L : am_L) (np n : Nat) (a : Int32) : Int64 :=
  if a = 0 then L 191 1185 else if a = 1 then am_sum (g_shown L) np else if a = 2 then L 191 1189 else if a = 3 then L 191 1188 else if a = 4 then am_sum (g_went L (-1) 0 59 0) n else if a = 5 then am_sum (g_went L (-1) 0 59 1) n else -2
theorem k_X12_account {a : Int32} {n np : Nat} {I : am_I} {L : am_L} (hn : Int64.toInt32 (L 191 1177) = nI n) (hn1 : n ≤ 100) (hp : Int64.toInt32 (L 191 1176) = nI np) (hp1 : np ≤ 12) : am_K M_X12_account 2 [.ref 190, .int a] I L (am_qf (some (.long (g_acc L np n a))) I L) := by
  generalize hQ : am_qf (some (.long (g_acc L np n a))) I L = Q
  have fin : ∀ v, g_acc L np n a = v → Q (some (.long v)) I L := fun v h => by rw [← hQ, h]; exact ⟨rfl, rfl, rfl⟩
  refine bm_intro (by decide +kernel) (Nat.le_of_ble_eq_true rfl) (show B_X12_account_0 _ _ _ _ from s_X12_account_0 ⟨fun c0 => ?_, fun c0 => ⟨fun c1 => ?_, fun c1 => ⟨fun c2 => ?_, fun c2 => ⟨fun c3 => ?_, fun c3 => ⟨fun c4 => ?_, fun c4 => ⟨fun c5 => ?_, fun c5 => ?_⟩⟩⟩⟩⟩⟩)
  · exact fin _ (by rw [g_acc, if_pos c0])
  · refine ⟨_, am_qf_l (k_X12_allShown hp hp1), fun v I7 L8 e => ?_⟩
    obtain ⟨q1, q2, q3⟩ := e
    subst q1; subst q2; subst q3
    exact fin _ (by rw [g_acc, if_neg c0, if_pos c1])
  · exact fin _ (by rw [g_acc, if_neg c0, if_neg c1, if_pos c2])
  · exact fin _ (by rw [g_acc, if_neg c0, if_neg c1, if_neg c2, if_pos c3])
  · refine ⟨_, am_qf_l (k_X12_went hn hn1), fun v I7 L8 e => ?_⟩
    obtain ⟨q1, q2, q3⟩ := e
    subst q1; subst q2; subst q3
    exact fin _ (by rw [g_acc, if_neg c0, if_neg c1, if_neg c2, if_neg c3, if_pos c4])
  · refine ⟨_, am_qf_l (k_X12_went hn hn1), fun v I7 L8 e => ?_⟩
    obtain ⟨q1, q2, q3⟩ := e
    subst q1; subst q2; subst q3
    exact fin _ (by rw [g_acc, if_neg c0, if_neg c1, if_neg c2, if_neg c3, if_neg c4, if_pos c5])
  · exact fin _ (by rw [g_acc, if_neg c0, if_neg c1, if_neg c2, if_neg c3, if_neg c4, if_neg c5])
/-! lowest -/
def g_lst (L : am_L) (n : Nat) (taken : Int32) (k : Nat) (a : Int32) : Int32 :=
  if ¬ ((taken >>> (nI k &&& 31)) &&& 1) = 0 then a else if g_in L (nI k) n ≤ 0 then a else if a = -1 then nI k else if g_out L a n * g_in L (nI k) n ≤ g_out L (nI k) n * g_in L a n then a else nI k
def g_low (L : am_L) (n np : Nat) (taken : Int32) : Int32 := am_it (g_lst L n taken) (-1) np
theorem k_X12_lowest {taken : Int32} {n np : Nat} {I : am_I} {L : am_L} (hn : Int64.toInt32 (L 191 1177) = nI n) (hn1 : n ≤ 100) (hp : Int64.toInt32 (L 191 1176) = nI np) (hp1 : np ≤ 12) : am_K M_X12_lowest 3 [.ref 190, .int taken] I L (am_qf (some (.int (g_low L n np taken))) I L) := by
  generalize hQ : am_qf (some (.int (g_low L n np taken))) I L = Q
  have key : ∀ k, k ≤ np → B_X12_lowest_4 Q I L taken (am_it (g_lst L n taken) (-1) k) (nI k) := by
    refine am_down ?_ (fun k hk ih => ?_)
    · exact s_X12_lowest_4 ⟨fun _ => by rw [← hQ]; exact ⟨rfl, rfl, rfl⟩, fun c1 => absurd (by rw [hp]; exact Int32.le_refl _) c1⟩
    · have e1 : am_it (g_lst L n taken) (-1) (k + 1) = g_lst L n taken k (am_it (g_lst L n taken) (-1) k) := rfl
      rw [e1] at ih
      generalize am_it (g_lst L n taken) (-1) k = a at ih ⊢
      rw [g_lst, nI_succ] at ih
      refine s_X12_lowest_4 ⟨fun c1 => absurd c1 (by rw [hp]; exact nI_ge hk (by omega)), fun _ => ⟨fun c2 => ?_, fun c2 => ⟨_, am_qf_l (k_X12_putIn hn hn1), fun v I7 L8 e => ?_⟩⟩⟩
      · rw [if_pos c2] at ih; exact ih
      · obtain ⟨q1, q2, q3⟩ := e
        subst q1; subst q2; subst q3
        rw [if_neg (fun h => h c2)] at ih
        refine ⟨fun c3 => ?_, fun c3 => ⟨fun c4 => ?_, fun c4 => ⟨_, am_qf_l (k_X12_drawn hn hn1), fun v I7 L8 e => ?_⟩⟩⟩
        · rw [if_pos c3] at ih; exact ih
        · rw [if_neg c3, if_pos c4] at ih; exact ih
        · obtain ⟨q1, q2, q3⟩ := e
          subst q1; subst q2; subst q3
          rw [if_neg c3, if_neg c4] at ih
          refine ⟨_, am_qf_l (k_X12_putIn hn hn1), fun v I7 L8 e => ?_⟩
          obtain ⟨q1, q2, q3⟩ := e
          subst q1; subst q2; subst q3
          refine ⟨_, am_qf_l (k_X12_drawn hn hn1), fun v I7 L8 e => ?_⟩
          obtain ⟨q1, q2, q3⟩ := e
          subst q1; subst q2; subst q3
          refine ⟨_, am_qf_l (k_X12_putIn hn hn1), fun v I7 L8 e => ?_⟩
          obtain ⟨q1, q2, q3⟩ := e
          subst q1; subst q2; subst q3
          refine ⟨fun c5 => ?_, fun c5 => ?_⟩
          · rw [if_pos c5] at ih; exact ih
          · rw [if_neg c5] at ih; exact ih
  exact bm_intro (by decide +kernel) (Nat.le_of_ble_eq_true rfl) (show B_X12_lowest_0 _ _ _ _ from s_X12_lowest_0 (key 0 (Nat.zero_le _)))
/-! the tide: what is read of the row alone is the same in every heap with that row -/
theorem g_went_c {L M : am_L} (h : M 191 = L 191) : g_went M = g_went L := by funext p a b o r; rw [g_went, g_went, h]
theorem g_in_c {L M : am_L} (h : M 191 = L 191) : g_in M = g_in L := by funext p n; rw [g_in, g_in, g_went_c h]
theorem g_out_c {L M : am_L} (h : M 191 = L 191) : g_out M = g_out L := by funext p n; rw [g_out, g_out, g_went_c h]
theorem g_low_c {L M : am_L} (h : M 191 = L 191) : g_low M = g_low L := by
  funext n np t
  have e : g_lst M n t = g_lst L n t := by funext k a; rw [g_lst, g_lst, g_in_c h, g_out_c h]
  rw [g_low, g_low, e]
def am_t2 (L : am_L) (a b : Int64) : am_L := am_u (am_u L 190 3 a) 190 4 b
theorem am_t2_r (L : am_L) (a b : Int64) : am_t2 L a b 191 = L 191 := by funext s; rw [am_t2, am_u_ne _ (Or.inl (by decide)), am_u_ne _ (Or.inl (by decide))]
theorem am_t2_3 (L : am_L) (a b : Int64) : am_t2 L a b 190 3 = a := by rw [am_t2, am_u_ne _ (Or.inr (by decide)), am_u_eq]
theorem am_t2_4 (L : am_L) (a b : Int64) : am_t2 L a b 190 4 = b := by rw [am_t2, am_u_eq]
theorem am_t2_o (L : am_L) (a b c d : Int64) : am_u (am_u (am_t2 L a b) 190 3 c) 190 4 d = am_t2 L c d := by
  funext x y
  simp only [am_t2, am_u]
  split
  · split
    · rfl
    · split <;> rfl
  · rfl
/-- the level the reference finds -/
def g_tdl (L : am_L) (n np : Nat) (s : Int64) : Nat → Int64 → Int64 → Int32 → Option (Int64 × Int64)
  | 0, _, _, _ => none
  | f + 1, ups, outs, t =>
    if g_low L n np (t ||| (1 <<< (g_low L n np t &&& 31))) = -1 then some (s + (outs + g_out L (g_low L n np t) n), ups + g_in L (g_low L n np t) n)
    else if (ups + g_in L (g_low L n np t) n) * g_out L (g_low L n np (t ||| (1 <<< (g_low L n np t &&& 31)))) n < (s + (outs + g_out L (g_low L n np t) n)) * g_in L (g_low L n np (t ||| (1 <<< (g_low L n np t &&& 31)))) n then g_tdl L n np s f (ups + g_in L (g_low L n np t) n) (outs + g_out L (g_low L n np t) n) (t ||| (1 <<< (g_low L n np t &&& 31)))
    else some (s + (outs + g_out L (g_low L n np t) n), ups + g_in L (g_low L n np t) n)
def g_w1 (L : am_L) (n k : Nat) : Int64 := am_mx (1 * g_in L (nI k) n - 1 * g_out L (nI k) n)
def g_tide (L : am_L) (n np : Nat) (s : Int64) : Option (Int64 × Int64) := if s < am_sum (g_w1 L n) np then g_tdl L n np s 20 0 0 0 else some (1, 1)
theorem k_findTide56 {n np : Nat} {I : am_I} {L : am_L} {s : Int64} (hn : Int64.toInt32 (L 191 1177) = nI n) (hn1 : n ≤ 100) (hp : Int64.toInt32 (L 191 1176) = nI np) (hp1 : np ≤ 12) {r : Int64 × Int64} : ∀ f a b ups outs t, g_tdl L n np s f ups outs t = some r → B_X12_findTide_56 (am_qf none I (am_t2 L r.1 r.2)) I (am_t2 L a b) s ups outs t := by
  have hn' : ∀ a b, Int64.toInt32 (am_t2 L a b 191 1177) = nI n := fun a b => by rw [am_t2_r]; exact hn
  have hp' : ∀ a b, Int64.toInt32 (am_t2 L a b 191 1176) = nI np := fun a b => by rw [am_t2_r]; exact hp
  intro f
  induction f with
  | zero => intro a b ups outs t h; exact absurd h (by rw [g_tdl]; simp)
  | succ f ih =>
    intro a b ups outs t h
    rw [g_tdl] at h
    refine s_X12_findTide_56 ⟨_, am_qf_i (k_X12_lowest (hn' a b) hn1 (hp' a b) hp1), fun v I7 L8 e => ?_⟩
    obtain ⟨q1, q2, q3⟩ := e
    subst q1; subst q2; subst q3
    refine ⟨_, am_qf_l (k_X12_putIn (hn' a b) hn1), fun v I7 L8 e => ?_⟩
    obtain ⟨q1, q2, q3⟩ := e
    subst q1; subst q2; subst q3
    refine ⟨_, am_qf_l (k_X12_drawn (hn' a b) hn1), fun v I7 L8 e => ?_⟩
    obtain ⟨q1, q2, q3⟩ := e
    subst q1; subst q2; subst q3
    rw [g_low_c (am_t2_r L a b), g_in_c (am_t2_r L a b), g_out_c (am_t2_r L a b), am_t2_o]
    generalize g_low L n np t = lw at h ⊢
    generalize hu : ups + g_in L lw n = ups1 at h ⊢
    generalize ho : outs + g_out L lw n = outs1 at h ⊢
    refine ⟨_, am_qf_i (k_X12_lowest (hn' _ _) hn1 (hp' _ _) hp1), fun v I7 L8 e => ?_⟩
    obtain ⟨q1, q2, q3⟩ := e
    subst q1; subst q2; subst q3
    rw [g_low_c (am_t2_r L _ _)]
    generalize g_low L n np (t ||| (1 <<< (lw &&& 31))) = nx at h ⊢
    refine ⟨fun c1 => ?_, fun c1 => ⟨_, am_qf_l (k_X12_putIn (hn' _ _) hn1), fun v I7 L8 e => ?_⟩⟩
    · rw [if_pos c1] at h
      obtain rfl := Option.some.inj h
      exact ⟨rfl, rfl, rfl⟩
    · obtain ⟨q1, q2, q3⟩ := e
      subst q1; subst q2; subst q3
      refine ⟨_, am_qf_l (k_X12_drawn (hn' _ _) hn1), fun v I7 L8 e => ?_⟩
      obtain ⟨q1, q2, q3⟩ := e
      subst q1; subst q2; subst q3
      rw [g_in_c (am_t2_r L _ _), g_out_c (am_t2_r L _ _), am_t2_3, am_t2_4]
      rw [if_neg c1] at h
      refine ⟨fun c2 => ?_, fun c2 => ?_⟩
      · rw [if_pos c2] at h
        exact ih _ _ _ _ _ h
      · rw [if_neg c2] at h
        obtain rfl := Option.some.inj h
        exact ⟨rfl, rfl, rfl⟩
theorem k_X12_findTide {n np : Nat} {I : am_I} {L : am_L} {s : Int64} (hn : Int64.toInt32 (L 191 1177) = nI n) (hn1 : n ≤ 100) (hp : Int64.toInt32 (L 191 1176) = nI np) (hp1 : np ≤ 12) {r : Int64 × Int64} (h : g_tide L n np s = some r) : am_K M_X12_findTide 4 [.ref 190, .long s] I L (am_qf none I (am_t2 L r.1 r.2)) := by
  have hn' : ∀ a b, Int64.toInt32 (am_t2 L a b 191 1177) = nI n := fun a b => by rw [am_t2_r]; exact hn
  have hp' : ∀ a b, Int64.toInt32 (am_t2 L a b 191 1176) = nI np := fun a b => by rw [am_t2_r]; exact hp
  have key : ∀ k, k ≤ np → B_X12_findTide_15 (am_qf none I (am_t2 L r.1 r.2)) I (am_t2 L 1 1) s (am_sum (g_w1 L n) k) (nI k) := by
    refine am_down ?_ (fun k hk ih => ?_)
    · refine s_X12_findTide_15 ⟨fun _ => ⟨fun c2 => ?_, fun c2 => ?_⟩, fun c1 => absurd (by rw [hp']; exact Int32.le_refl _) c1⟩
      · rw [g_tide, if_pos c2] at h
        exact k_findTide56 hn hn1 hp hp1 _ _ _ _ _ _ h
      · rw [g_tide, if_neg c2] at h
        obtain rfl := Option.some.inj h
        exact ⟨rfl, rfl, rfl⟩
    · have e1 : am_sum (g_w1 L n) (k + 1) = am_sum (g_w1 L n) k + g_w1 L n k := rfl
      rw [e1, nI_succ] at ih
      refine s_X12_findTide_15 ⟨fun c1 => absurd c1 (by rw [hp']; exact nI_ge hk (by omega)), fun _ => ⟨_, am_qf_l (k_X12_wetBy (hn' 1 1) hn1), fun v I7 L8 e => ?_⟩⟩
      obtain ⟨q1, q2, q3⟩ := e
      subst q1; subst q2; subst q3
      rw [g_wet, am_t2_3, am_t2_4, g_in_c (am_t2_r L _ _), g_out_c (am_t2_r L _ _)]
      exact ih
  exact bm_intro (by decide +kernel) (Nat.le_of_ble_eq_true rfl) (show B_X12_findTide_0 _ _ _ _ from s_X12_findTide_0 (key 0 (Nat.zero_le _)))
