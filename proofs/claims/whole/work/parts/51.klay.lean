/-! the reference: lay, the words of a rule at a month -/
def g_la (L : am_L) (m l : Nat) : Int64 := if (nI m).toInt64 < L 191 (917 + 3 * l) then 0 else 1
def g_lr (L : am_L) (m l : Nat) : Int64 := if L 191 (918 + 3 * l) = -1 then 0 else if (nI m).toInt64 < L 191 (918 + 3 * l) then 0 else 1
def g_n0 (L : am_L) (n m : Nat) : Nat → Int64 := am_f (am_f (am_f (am_f (L 201) 0 (L 191 (1056 + m))) 1 (L 191 (1116 + m))) 2 (am_sum (g_went L (-1) (nI m) (nI m) 0) n)) 3 (am_sum (g_went L (-1) (nI m) (nI m) 1) n)
def g_n1 (L : am_L) (n m k : Nat) : Nat → Int64 := am_f (am_f (g_n0 L n m) 4 (am_sum (g_la L m) k)) 5 (am_sum (g_lr L m) k)
def g_nm (L : am_L) (n nl m : Nat) : Nat → Int64 := am_f (g_n1 L n m nl) 6 (nI m).toInt64
theorem g_n1_s (L : am_L) (n m k : Nat) (a b : Int64) : am_f (am_f (g_n1 L n m k) 4 a) 5 b = am_f (am_f (g_n0 L n m) 4 a) 5 b := by
  rw [g_n1, am_f_c _ _ _ (show 5 ≠ 4 by decide), am_f_f, am_f_f]
theorem k_X12_lay {n nl m : Nat} {I : am_I} {L : am_L} (hn : Int64.toInt32 (L 191 1177) = nI n) (hn1 : n ≤ 100) (hl : Int64.toInt32 (L 191 1181) = nI nl) (hl1 : nl ≤ 20) (hm : m < 60) : am_K M_X12_lay 2 [.ref 190, .int (nI m)] I L (am_qf none I (am_ro L 201 (g_nm L n nl m))) := by
  generalize hQ : am_qf none I (am_ro L 201 (g_nm L n nl m)) = Q
  have hr : ∀ N, am_ro L 201 N 191 = L 191 := fun N => am_ro_ne L N (by decide)
  have key : ∀ k, k ≤ nl → B_X12_lay_76 Q I (am_ro L 201 (g_n1 L n m k)) (nI m) (nI k) := by
    refine am_down ?_ (fun k hk ih => ?_)
    · refine s_X12_lay_76 ⟨fun _ => ?_, fun c1 => absurd (by rw [hr, hl]; exact Int32.le_refl _) c1⟩
      rw [am_ro_u, ← hQ, g_nm]
      exact ⟨rfl, rfl, rfl⟩
    · have e4 : am_sum (g_la L m) (k + 1) = am_sum (g_la L m) k + g_la L m k := rfl
      have e5 : am_sum (g_lr L m) (k + 1) = am_sum (g_lr L m) k + g_lr L m k := rfl
      have n4 : g_n1 L n m k 4 = am_sum (g_la L m) k := by rw [g_n1, am_f_ne _ _ (by decide), am_f_eq]
      have n5 : g_n1 L n m k 5 = am_sum (g_lr L m) k := by rw [g_n1, am_f_eq]
      rw [g_n1, e4, e5, g_la, g_lr, nI_succ] at ih
      refine s_X12_lay_76 ⟨fun c1 => absurd c1 (by rw [hr, hl]; exact nI_ge hk (by omega)), fun _ => ?_⟩
      rw [i_let_1 (by omega), i_let_2 (by omega), hr]
      refine ⟨v_let_2 (by omega), v_let_1 (by omega), fun c2 => ⟨fun c3 => ?_, fun c3 => ⟨fun c4 => ?_, fun c4 => ?_⟩⟩, fun c2 => ⟨fun c3 => ?_, fun c3 => ⟨fun c4 => ?_, fun c4 => ?_⟩⟩⟩
      · rw [if_pos c2, if_pos c3] at ih
        rw [am_ro_at, am_ro_u, am_ro_u, n4, n5, g_n1_s]; exact ih
      · rw [if_pos c2, if_neg c3, if_pos c4] at ih
        rw [am_ro_at, am_ro_u, am_ro_u, n4, n5, g_n1_s]; exact ih
      · rw [if_pos c2, if_neg c3, if_neg c4] at ih
        rw [am_ro_at, am_ro_u, am_ro_u, n4, n5, g_n1_s]; exact ih
      · rw [if_neg c2, if_pos c3] at ih
        rw [am_ro_at, am_ro_u, am_ro_u, n4, n5, g_n1_s]; exact ih
      · rw [if_neg c2, if_neg c3, if_pos c4] at ih
        rw [am_ro_at, am_ro_u, am_ro_u, n4, n5, g_n1_s]; exact ih
      · rw [if_neg c2, if_neg c3, if_neg c4] at ih
        rw [am_ro_at, am_ro_u, am_ro_u, n4, n5, g_n1_s]; exact ih
  have h0 := key 0 (Nat.zero_le _)
  rw [g_n1] at h0
  refine bm_intro (by decide +kernel) (Nat.le_of_ble_eq_true rfl) (show B_X12_lay_0 _ _ _ _ from s_X12_lay_0 ⟨v_cns hm, v_shs hm, ?_⟩)
  rw [i_cns hm, i_shs hm, am_u_ro L, am_ro_u]
  refine ⟨_, am_qf_l (k_X12_went (by rw [hr]; exact hn) hn1), fun v I7 L8 e => ?_⟩
  obtain ⟨q1, q2, q3⟩ := e
  rw [q1, q2, q3, am_ro_u]
  refine ⟨_, am_qf_l (k_X12_went (by rw [hr]; exact hn) hn1), fun v I7 L8 e => ?_⟩
  obtain ⟨q1, q2, q3⟩ := e
  rw [q1, q2, q3, am_ro_u, am_ro_u, am_ro_u, g_went_c (hr _), g_went_c (hr _)]
  exact h0
