/-! a heap with one row put in place; the reference's take -/
def am_f {α : Type} (A : Nat → α) (k : Nat) (v : α) : Nat → α := fun b => if b = k then v else A b
def am_ro {α : Type} (L : Nat → Nat → α) (p : Nat) (A : Nat → α) : Nat → Nat → α := fun a b => if a = p then A b else L a b
theorem am_ro_at {α : Type} (L : Nat → Nat → α) (p : Nat) (A : Nat → α) : am_ro L p A p = A := by funext b; exact if_pos rfl
theorem am_ro_ne {α : Type} (L : Nat → Nat → α) {p q : Nat} (A : Nat → α) (h : q ≠ p) : am_ro L p A q = L q := by funext b; exact if_neg h
theorem am_ro_self {α : Type} (L : Nat → Nat → α) (p : Nat) : am_ro L p (L p) = L := by
  funext a b
  rw [am_ro]
  split
  · rename_i h; rw [h]
  · rfl
theorem am_ro_u {α : Type} (L : Nat → Nat → α) (p : Nat) (A : Nat → α) (k : Nat) (v : α) : am_u (am_ro L p A) p k v = am_ro L p (am_f A k v) := by
  funext a b
  simp only [am_u, am_ro, am_f]
  split <;> rfl
theorem am_ro_un {α : Type} (L : Nat → Nat → α) {p q : Nat} (A : Nat → α) (k : Nat) (v : α) (h : q ≠ p) : am_u (am_ro L p A) q k v = am_ro (am_u L q k v) p A := by
  funext a b
  simp only [am_u, am_ro]
  by_cases h1 : a = q
  · rw [if_pos h1, if_neg (fun e => h (h1.symm.trans e)), if_pos h1, if_neg (fun e => h (h1.symm.trans e))]
  · rw [if_neg h1]
    by_cases h2 : a = p
    · rw [if_pos h2, if_pos h2]
    · rw [if_neg h2, if_neg h2, if_neg h1]
theorem am_ro_rr {α : Type} (L : Nat → Nat → α) (p : Nat) (A B : Nat → α) : am_ro (am_ro L p A) p B = am_ro L p B := by
  funext a b
  simp only [am_ro]
  split <;> rfl
theorem am_u_ro {α : Type} (L : Nat → Nat → α) (p k : Nat) (v : α) : am_u L p k v = am_ro L p (am_f (L p) k v) := by rw [← am_ro_u, am_ro_self]
theorem am_f_eq {α : Type} (A : Nat → α) (k : Nat) (v : α) : am_f A k v k = v := if_pos rfl
theorem am_f_ne {α : Type} (A : Nat → α) {k b : Nat} (v : α) (h : b ≠ k) : am_f A k v b = A b := if_neg h
theorem g_take_c {L M : am_L} (h : M 191 = L 191) : g_take M = g_take L := by funext n p; simp only [g_take, h, g_went_c h, g_out_c h, g_in_c h]
/-- what the gift's going leaves -/
def g_gx (L : am_L) (A : Nat → Int64) (g : Nat) : Int64 := if A (g_at L (724 + 4 * g)) ≤ L 191 (727 + 4 * g) then A (g_at L (724 + 4 * g)) else L 191 (727 + 4 * g)
def g_gt (L : am_L) (mo g : Nat) (A : Nat → Int64) : Nat → Int64 :=
  if ¬ L 191 (726 + 4 * g) = (nI mo).toInt64 then A else
    am_f (am_f A (g_at L (724 + 4 * g)) (A (g_at L (724 + 4 * g)) - g_gx L A g)) (g_at L (725 + 4 * g)) (am_f A (g_at L (724 + 4 * g)) (A (g_at L (724 + 4 * g)) - g_gx L A g) (g_at L (725 + 4 * g)) + g_gx L A g)
def g_tm (L : am_L) (ng mo : Nat) (A : Nat → Int64) : Nat → Int64 := am_it (g_gt L mo) A ng
def g_tf (L : am_L) (n : Nat) (k : Nat) (A : Nat → Int64) : Nat → Int64 := am_f A k (g_take L n k)
def g_tk (L : am_L) (n np ng : Nat) (w : Int32) : Nat → Int64 := if w = 1 then am_it (g_tm L ng) (am_it (g_tf L n) (L 194) np) 60 else am_it (g_tf L n) (L 194) np
theorem am_hs {p np : Nat} (hp : p < np) (hn : np < 2 ^ 20) : 0 ≤ nI p ∧ nI p ≤ nI np - 1 := by
  refine ⟨Int32.not_lt.mp (nI_pos (by omega)), ?_⟩
  rw [show np = (np - 1) + 1 by omega, nI_succ, Int32.add_sub_cancel]
  exact Int32.not_lt.mp (nI_nlt (by omega) (by omega))
theorem k_X12_take {p n np ng : Nat} {w : Int32} {I : am_I} {L : am_L} (hn : Int64.toInt32 (L 191 1177) = nI n) (hn1 : n ≤ 100) (hpp : Int64.toInt32 (L 191 1176) = nI np) (hpp1 : np ≤ 12) (hp : p < np) (hg : Int64.toInt32 (L 191 1180) = nI ng) (hg1 : ng ≤ 30) (hq : ∀ g, g < ng → vp_in (Int64.toInt32 (L 191 (724 + 4 * g))) 12 ∧ vp_in (Int64.toInt32 (L 191 (725 + 4 * g))) 12) (hw : 0 ≤ w ∧ w ≤ 1) : am_K M_X12_take 4 [.ref 190, .int (nI p), .int w] I L (am_qf (some (.long (g_tk L n np ng w p))) I (am_ro L 194 (g_tk L n np ng w))) := by
  generalize hQ : am_qf (some (.long (g_tk L n np ng w p))) I (am_ro L 194 (g_tk L n np ng w)) = Q
  have hr : ∀ A, am_ro L 194 A 191 = L 191 := fun A => am_ro_ne L A (by decide)
  have hc : (nI p).toNatClampNeg = p := nI_clamp (by omega)
  have hv : vp_in (nI p) 12 := am_vI (by omega) (by decide)
  have hi : ∀ g, g < ng → ∀ A m, B_X12_take_67 Q I (am_ro L 194 (g_gt L m g A)) (nI p) w (nI m) (nI g + 1) → B_X12_take_67 Q I (am_ro L 194 A) (nI p) w (nI m) (nI g) := by
    intro g hg2 A m ih
    obtain ⟨v1, v2⟩ := hq g hg2
    refine s_X12_take_67 ⟨fun c1 => absurd c1 (by rw [hr, hg]; exact nI_ge hg2 (by omega)), fun _ => ?_⟩
    rw [i_gif_0 (by omega), i_gif_1 (by omega), i_gif_2 (by omega), i_gif_3 (by omega), am_ro_at, hr]
    refine ⟨v_gif_2 (by omega), fun c2 => ?_, fun c2 => ⟨v_gif_0 (by omega), v_gif_3 (by omega), v1, fun c3 => ⟨v1, v1, v1, v_gif_1 (by omega), v2, v2, ?_⟩, fun c3 => ⟨v1, v1, v_gif_1 (by omega), v2, v2, ?_⟩⟩⟩
    · rw [g_gt, if_pos c2] at ih; exact ih
    · rw [g_gt, if_neg (fun h => h c2)] at ih
      have hx : g_gx L A g = A (g_at L (724 + 4 * g)) := if_pos c3
      rw [hx] at ih
      rw [am_ro_u, am_ro_u, am_ro_at]; exact ih
    · rw [g_gt, if_neg (fun h => h c2)] at ih
      have hx : g_gx L A g = L 191 (727 + 4 * g) := if_neg c3
      rw [hx] at ih
      rw [am_ro_u, am_ro_u, am_ro_at]; exact ih
  have k2 : w = 1 → ∀ m, m ≤ 60 → B_X12_take_53 Q I (am_ro L 194 (am_it (g_tm L ng) (am_it (g_tf L n) (L 194) np) m)) (nI p) w (nI m) := by
    intro hw1
    refine am_down ?_ (fun m hm ih => ?_)
    · refine s_X12_take_53 ⟨fun _ => ⟨hv, ?_⟩, fun c1 => absurd (by decide) c1⟩
      rw [hc, am_ro_at, ← hQ, g_tk, if_pos hw1]
      exact ⟨rfl, rfl, rfl⟩
    · refine s_X12_take_53 ⟨fun c1 => absurd c1 (nI_ge (b := 60) hm (by omega)), fun _ => ⟨fun c2 => absurd hw1 c2, fun _ => ?_⟩⟩
      have e1 : am_it (g_tm L ng) (am_it (g_tf L n) (L 194) np) (m + 1) = am_it (g_gt L m) (am_it (g_tm L ng) (am_it (g_tf L n) (L 194) np) m) ng := rfl
      rw [e1] at ih
      generalize am_it (g_tm L ng) (am_it (g_tf L n) (L 194) np) m = A at ih ⊢
      have k3 : ∀ g, g ≤ ng → B_X12_take_67 Q I (am_ro L 194 (am_it (g_gt L m) A g)) (nI p) w (nI m) (nI g) := by
        refine am_down ?_ (fun g hg2 ih2 => ?_)
        · refine s_X12_take_67 ⟨fun _ => ?_, fun c1 => absurd (by rw [hr, hg]; exact Int32.le_refl _) c1⟩
          rw [nI_succ] at ih; exact ih
        · have e2 : am_it (g_gt L m) A (g + 1) = g_gt L m g (am_it (g_gt L m) A g) := rfl
          rw [e2, nI_succ] at ih2
          exact hi g hg2 _ _ ih2
      exact k3 0 (Nat.zero_le _)
  have k1 : ∀ k, k ≤ np → B_X12_take_25 Q I (am_ro L 194 (am_it (g_tf L n) (L 194) k)) (nI p) w (nI k) := by
    refine am_down ?_ (fun k hk ih => ?_)
    · refine s_X12_take_25 ⟨fun _ => ?_, fun c1 => absurd (by rw [hr, hpp]; exact Int32.le_refl _) c1⟩
      by_cases hw1 : w = 1
      · exact k2 hw1 0 (Nat.zero_le _)
      · refine s_X12_take_53 ⟨fun c1 => absurd c1 (by decide), fun _ => ⟨fun _ => ⟨hv, ?_⟩, fun c2 => absurd c2 hw1⟩⟩
        rw [hc, am_ro_at, ← hQ, g_tk, if_neg hw1]
        exact ⟨rfl, rfl, rfl⟩
    · have e1 : am_it (g_tf L n) (L 194) (k + 1) = am_f (am_it (g_tf L n) (L 194) k) k (g_take L n k) := rfl
      rw [e1, nI_succ] at ih
      generalize am_it (g_tf L n) (L 194) k = A at ih ⊢
      refine s_X12_take_25 ⟨fun c1 => absurd c1 (by rw [hr, hpp]; exact nI_ge hk (by omega)), fun _ => ?_⟩
      refine ⟨_, am_qf_l (k_X12_toTake (by rw [hr]; exact hn) hn1 (by omega)), fun v I7 L8 e => ?_⟩
      obtain ⟨q1, q2, q3⟩ := e
      rw [q1, q2, q3, am_ro_u, nI_clamp (by omega), g_take_c (hr A)]
      exact ⟨am_vI (by omega) (by decide), ih⟩
  have h0 := k1 0 (Nat.zero_le _)
  rw [show am_it (g_tf L n) (L 194) 0 = L 194 from rfl, am_ro_self] at h0
  refine bm_intro (by decide +kernel) (Nat.le_of_ble_eq_true rfl) (show B_X12_take_0 _ _ _ _ _ from s_X12_take_0 ⟨fun c1 => absurd ?_ c1, fun _ => ⟨fun _ => h0, fun c2 => absurd hw c2⟩⟩)
  rw [hpp]
  exact am_hs hp (by omega)
