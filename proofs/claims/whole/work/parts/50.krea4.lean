/-! the reference's reader: numbers -/
theorem r_dgt {c : Int32} : ((48 : Int64) ≤ c.toInt64 ∧ c.toInt64 ≤ 57) ↔ (48 ≤ c ∧ c ≤ 57) := by
  have h1 : (48 : Int64).toInt = 48 := by decide
  have h2 : (57 : Int64).toInt = 57 := by decide
  have h3 : (48 : Int32).toInt = 48 := by decide
  have h4 : (57 : Int32).toInt = 57 := by decide
  rw [Int64.le_iff_toInt_le, Int64.le_iff_toInt_le, Int32.le_iff_toInt_le, Int32.le_iff_toInt_le, Int32.toInt_toInt64, h1, h2, h3, h4]
def r_np (T : Nat → Int32) (n p : Nat) : Nat := if q_e T n p - p ≤ 6 then q_e T n p else p + 6
def r_nf (T : Nat → Int32) (n p : Nat) (f : Int32) : Int32 := if q_e T n p - p ≤ 6 then f else 10 * nI p + 2
theorem k_X12_digits {T : Nat → Int32} {n p v s : Nat} {f : Int32} {A : Nat → Int32} {I : am_I} {L : am_L} (hT : r_T L T n) (hp : p ≤ n) : am_K M_X12_digits 1 [.ref 190] (r_I I p f v s A) L (am_qf (some (.long (q_num T n p))) (r_I I (r_np T n p) (r_nf T n p f) v s A) L) := by
  generalize hQ : am_qf (some (.long (q_num T n p))) (r_I I (r_np T n p) (r_nf T n p f) v s A) L = Q
  obtain ⟨hn1, hn, ht⟩ := hT
  have sm : ∀ k, nI (p + k) - nI p = nI k := fun k => by rw [Nat.add_comm, ← nI_qa, Int32.add_sub_cancel]
  have hel := q_e_le T hp
  have fin : ∀ k, p + k = q_e T n p → k ≤ 6 → Q (some (.long (am_it (q_nv T p) 0 k))) (r_I I (p + k) f v s A) L := by
    intro k hk h6
    have hk6 : q_e T n p - p ≤ 6 := by omega
    rw [← hQ, q_num, r_np, r_nf, if_pos hk6, if_pos hk6, if_pos hk6, show q_e T n p - p = k by omega, hk]
    exact ⟨rfl, rfl, rfl⟩
  have key : ∀ k, k ≤ n - p → k ≤ 6 → q_e T n p = q_e T n (p + k) → B_X12_digits_7 Q (r_I I (p + k) f v s A) L (nI p) (am_it (q_nv T p) 0 k) := by
    refine am_down (fun h6 he => ?_) (fun k hk ih h6 he => ?_)
    · rw [show p + (n - p) = n by omega, q_e_end (Nat.le_refl n)] at he
      refine s_X12_digits_7 ⟨fun _ => fin _ (by omega) h6, fun c => absurd ?_ c⟩
      rw [hn, r_I_11, show p + (n - p) = n by omega]; exact Int32.le_refl _
    · have hpk : p + k < n := by omega
      refine s_X12_digits_7 ⟨fun c => absurd c (by rw [hn, r_I_11]; exact nI_ge hpk (by omega)), fun _ => ?_⟩
      rw [r_I_11, i_rul (by omega), ht _ hpk, r_dgt, sm]
      refine ⟨v_rul (by omega), fun c1 => ?_, fun c1 => ⟨fun c2 => ⟨v_rul (by omega), ?_⟩, fun c2 => ?_⟩⟩
      · rw [q_e_nd hpk c1] at he
        exact fin k he.symm h6
      · have h7 : k + 1 ≤ 6 := by
          by_cases h : k = 6
          · exact absurd (by rw [h]; decide) c2
          · omega
        rw [← nI_succ, r_I_u11]
        exact ih h7 (by rw [he, q_e_d hpk c1]; rfl)
      · have h7 : k = 6 := by
          have h := congrArg Int32.toNatClampNeg c2
          rw [nI_clamp (by omega)] at h
          exact h
        have h8 : ¬ q_e T n p - p ≤ 6 := by
          have := (q_e_le T (n := n) (p := p + k + 1) (by omega)).1
          rw [q_e_d hpk c1] at he
          omega
        rw [r_I_u12, ← hQ, q_num, r_np, r_nf, if_neg h8, if_neg h8, if_neg h8, h7]
        exact ⟨rfl, rfl, rfl⟩
  refine bm_intro (by decide +kernel) (Nat.le_of_ble_eq_true rfl) (show B_X12_digits_0 _ _ _ from s_X12_digits_0 ?_)
  rw [r_I_11]
  exact key 0 (Nat.zero_le _) (by decide) rfl
