noncomputable def g_ls (L : am_L) (nh n : Nat) (s : Nat) (w : f_W) : f_W :=
  haveI := Classical.propDecidable (g_all L (nI s) nh n)
  if w.1 < am_it (g_sz (nI s)) 0 10 then w else if g_all L (nI s) nh n then (if w.1 ≤ am_it (g_sz (nI s)) 0 10 then (w.1, w.2.1 + 1, w.2.2.1 &&& nI s, w.2.2.2 ||| nI s) else (am_it (g_sz (nI s)) 0 10, 0 + 1, nI s &&& nI s, 0 ||| nI s)) else w
theorem g_ls_1 {L : am_L} {nh n s : Nat} {w : f_W} (h : w.1 < am_it (g_sz (nI s)) 0 10) : g_ls L nh n s w = w := by rw [g_ls]; exact if_pos h
theorem g_ls_2 {L : am_L} {nh n s : Nat} {w : f_W} (h0 : ¬ w.1 < am_it (g_sz (nI s)) 0 10) (h : ¬ g_all L (nI s) nh n) : g_ls L nh n s w = w := by rw [g_ls]; exact (if_neg h0).trans (if_neg h)
theorem g_ls_3 {L : am_L} {nh n s : Nat} {w : f_W} (h0 : ¬ w.1 < am_it (g_sz (nI s)) 0 10) (h : g_all L (nI s) nh n) (h2 : w.1 ≤ am_it (g_sz (nI s)) 0 10) : g_ls L nh n s w = (w.1, w.2.1 + 1, w.2.2.1 &&& nI s, w.2.2.2 ||| nI s) := by rw [g_ls]; exact (if_neg h0).trans ((if_pos h).trans (if_pos h2))
theorem g_ls_4 {L : am_L} {nh n s : Nat} {w : f_W} (h0 : ¬ w.1 < am_it (g_sz (nI s)) 0 10) (h : g_all L (nI s) nh n) (h2 : ¬ w.1 ≤ am_it (g_sz (nI s)) 0 10) : g_ls L nh n s w = (am_it (g_sz (nI s)) 0 10, 0 + 1, nI s &&& nI s, 0 ||| nI s) := by rw [g_ls]; exact (if_neg h0).trans ((if_pos h).trans (if_neg h2))
def g_pick (w : Int32) (r : f_W) : Int32 := if w = 0 then (if r.1 = 9 then -5 else r.1) else if w = 1 then r.2.1 else if w = 2 then r.2.2.1 else r.2.2.2
theorem k_whose29 {w : Int32} {n nh : Nat} {I : am_I} {L : am_L} (hn : Int64.toInt32 (L 191 1179) = nI n) (hn1 : n ≤ 40) (hh : Int64.toInt32 (L 191 1182) = nI nh) (hh1 : nh ≤ 8) (hd : ∀ t, t < n → ∃ d, d < 30 ∧ Int64.toInt32 (L 191 (504 + 4 * t)) = nI d) : B_X12_whose_29 (am_qf (some (.int (g_pick w (am_it (g_ls L nh n) (9, 0, 0, 0) (2 ^ nh))))) I L) I L w 9 0 0 0 0 := by
  have hp := am_pow2p nh
  have hl := am_pow2l hh1
  have key : ∀ k, k ≤ 2 ^ nh → ∀ a b c d, am_it (g_ls L nh n) (9, 0, 0, 0) k = (a, b, c, d) → B_X12_whose_29 (am_qf (some (.int (g_pick w (am_it (g_ls L nh n) (9, 0, 0, 0) (2 ^ nh))))) I L) I L w a b c d (nI k) := by
    refine am_down (fun a b c d he => ?_) (fun k hk ih a b c d he => ?_)
    · refine s_X12_whose_29 ⟨fun _ => ⟨fun c1 => ⟨fun c2 => ⟨fun c3 => ?_, fun c3 => ?_⟩, fun c2 => ?_⟩, fun c1 => ⟨fun c2 => ?_, fun c2 => ?_⟩⟩, fun c1 => absurd (by rw [hh, am_pow2 nh hh1]; exact Int32.le_refl _) c1⟩
      · rw [he, g_pick, if_neg c1, if_neg c2, if_neg c3]; exact ⟨rfl, rfl, rfl⟩
      · rw [he, g_pick, if_neg c1, if_neg c2, if_pos c3]; exact ⟨rfl, rfl, rfl⟩
      · rw [he, g_pick, if_neg c1, if_pos c2]; exact ⟨rfl, rfl, rfl⟩
      · rw [he, g_pick, if_pos c1, if_neg c2]; exact ⟨rfl, rfl, rfl⟩
      · rw [he, g_pick, if_pos c1, if_pos c2]; exact ⟨rfl, rfl, rfl⟩
    · have e1 : am_it (g_ls L nh n) (9, 0, 0, 0) (k + 1) = g_ls L nh n k (a, b, c, d) := by rw [← he]; rfl
      rw [e1, nI_succ] at ih
      refine s_X12_whose_29 ⟨fun c1 => absurd c1 (by rw [hh, am_pow2 nh hh1]; exact nI_ge hk (by omega)), fun _ => ⟨_, am_qf_i k_X12_size, fun v I7 L8 e => ?_⟩⟩
      obtain ⟨q1, q2, q3⟩ := e
      subst q1; subst q2; subst q3
      refine ⟨fun c1 => ih _ _ _ _ (g_ls_1 c1), fun c1 => ⟨_, k_X12_doesHave hn hn1 hh hh1 hd, fun v I9 L10 e => ?_⟩⟩
      obtain ⟨q2, q3, e⟩ := e
      subst q2; subst q3
      refine ⟨fun c2 => ih _ _ _ _ (g_ls_2 c1 (e.elim (fun q => absurd (q.2.symm.trans c2) (by decide)) And.left)), fun c2 => ⟨_, am_qf_i k_X12_size, fun v I7 L8 e2 => ?_⟩⟩
      obtain ⟨q1, q2, q3⟩ := e2
      subst q1; subst q2; subst q3
      have hy := e.elim And.left (fun q => absurd q.2 c2)
      refine ⟨fun c3 => ih _ _ _ _ (g_ls_3 c1 hy c3), fun c3 => ⟨_, am_qf_i k_X12_size, fun v I7 L8 e2 => ?_⟩⟩
      obtain ⟨q1, q2, q3⟩ := e2
      subst q1; subst q2; subst q3
      exact ih _ _ _ _ (g_ls_4 c1 hy c3)
  exact key 0 (Nat.zero_le _) _ _ _ _ rfl
def g_br (L : am_L) (s : Int32) (k : Nat) (x : Int64) : Int64 := if (s >>> (nI k &&& 31)) &&& 1 = 1 then x + (L 191 (1032 + 3 * k) - L 191 (1033 + 3 * k)) else x
def g_mo (L : am_L) (s : Int32) (k : Nat) (x : Int64) : Int64 := if (s >>> (nI k &&& 31)) &&& 1 = 1 then x + L 191 (1034 + 3 * k) else x
def g_brs (L : am_L) (ns : Nat) (s : Int32) : Int64 := am_it (g_br L s) 0 ns
def g_mos (L : am_L) (ns : Nat) (s : Int32) : Int64 := am_it (g_mo L s) 0 ns
def g_bs (L : am_L) (ns : Nat) (m : Int32) (j : Nat) (w : Int32 × Int64 × Int64) : Int32 × Int64 × Int64 := if m.toInt64 < g_mos L ns (nI (j + 1)) then w else if w.2.1 < g_brs L ns (nI (j + 1)) then (nI (j + 1), g_brs L ns (nI (j + 1)), g_mos L ns (nI (j + 1))) else if g_brs L ns (nI (j + 1)) = w.2.1 then (if w.2.2 ≤ g_mos L ns (nI (j + 1)) then w else (nI (j + 1), g_brs L ns (nI (j + 1)), g_mos L ns (nI (j + 1)))) else w
theorem k_best36 {m w : Int32} {n : Nat} {I : am_I} {L : am_L} (hn : Int64.toInt32 (L 191 1183) = nI n) (hn1 : n ≤ 8) : B_X12_best_36 (am_qf (some (.int (if w = 0 then (am_it (g_bs L n m) (0, 0, 0) (2 ^ n - 1)).1 else Int64.toInt32 (am_it (g_bs L n m) (0, 0, 0) (2 ^ n - 1)).2.1))) I L) I L m w 0 0 0 1 := by
  have hp := am_pow2p n
  have hl := am_pow2l hn1
  generalize hQ : am_qf (some (.int (if w = 0 then (am_it (g_bs L n m) (0, 0, 0) (2 ^ n - 1)).1 else Int64.toInt32 (am_it (g_bs L n m) (0, 0, 0) (2 ^ n - 1)).2.1))) I L = Q
  have key : ∀ k, k ≤ 2 ^ n - 1 → ∀ a b c, am_it (g_bs L n m) (0, 0, 0) k = (a, b, c) → B_X12_best_36 Q I L m w a b c (nI (k + 1)) := by
    refine am_down (fun a b c he => ?_) (fun k hk ih a b c he => ?_)
    · refine s_X12_best_36 ⟨fun _ => ⟨fun c1 => ?_, fun c1 => ?_⟩, fun c1 => absurd (by rw [hn, am_pow2 n hn1]; exact nI_le (by omega) (by omega)) c1⟩
      · rw [← hQ, he, if_neg c1]; exact ⟨rfl, rfl, rfl⟩
      · rw [← hQ, he, if_pos c1]; exact ⟨rfl, rfl, rfl⟩
    · have e1 : am_it (g_bs L n m) (0, 0, 0) (k + 1) = g_bs L n m k (a, b, c) := by rw [← he]; rfl
      rw [e1, nI_succ (k + 1)] at ih
      have key2 : ∀ j, j ≤ n → B_X12_best_58 Q I L m w a b c (nI (k + 1)) (am_it (g_br L (nI (k + 1))) 0 j) (am_it (g_mo L (nI (k + 1))) 0 j) (nI j) := by
        refine am_down ?_ (fun j hj ih2 => ?_)
        · refine s_X12_best_58 ⟨fun _ => ⟨fun c1 => ih _ _ _ (if_pos c1), fun c1 => ⟨fun c2 => ih _ _ _ ((if_neg c1).trans (if_pos c2)), fun c2 => ⟨fun c3 => ih _ _ _ ((if_neg c1).trans ((if_neg c2).trans (if_neg c3))), fun c3 => ⟨fun c4 => ih _ _ _ ((if_neg c1).trans ((if_neg c2).trans ((if_pos c3).trans (if_pos c4)))), fun c4 => ih _ _ _ ((if_neg c1).trans ((if_neg c2).trans ((if_pos c3).trans (if_neg c4))))⟩⟩⟩⟩, fun c1 => absurd (by rw [hn]; exact Int32.le_refl _) c1⟩
        · have hj1 : j < 8 := by omega
          have e2 : am_it (g_br L (nI (k + 1))) 0 (j + 1) = g_br L (nI (k + 1)) j (am_it (g_br L (nI (k + 1))) 0 j) := rfl
          have e3 : am_it (g_mo L (nI (k + 1))) 0 (j + 1) = g_mo L (nI (k + 1)) j (am_it (g_mo L (nI (k + 1))) 0 j) := rfl
          rw [e2, e3, g_br, g_mo, nI_succ j] at ih2
          refine s_X12_best_58 ⟨fun c1 => absurd c1 (by rw [hn]; exact nI_ge hj (by omega)), fun _ => ⟨fun c2 => ?_, fun c2 => ⟨v_sui_0 hj1, v_sui_1 hj1, v_sui_2 hj1, ?_⟩⟩⟩
          · rw [if_neg c2, if_neg c2] at ih2; exact ih2
          · rw [if_pos c2, if_pos c2] at ih2
            rw [i_sui_0 hj1, i_sui_1 hj1, i_sui_2 hj1]; exact ih2
      exact s_X12_best_36 ⟨fun c1 => absurd c1 (by rw [hn, am_pow2 n hn1]; exact nI_ge (by omega) (by omega)), fun _ => key2 0 (Nat.zero_le _)⟩
  exact key 0 (Nat.zero_le _) _ _ _ rfl
def g_iv (v : Int32) (_ : Nat) (x : Int32) : Int32 := x * (2 - v * x)
theorem k_X12_inverse {v : Int32} {I : am_I} {L : am_L} : am_K M_X12_inverse 0 [.int v] I L (am_qf (some (.int (am_it (g_iv v) v 5))) I L) := by
  generalize hQ : am_qf (some (.int (am_it (g_iv v) v 5))) I L = Q
  have key : ∀ k, k ≤ 5 → B_X12_inverse_4 Q I L v (am_it (g_iv v) v k) (nI k) := by
    refine am_down ?_ (fun k hk ih => ?_)
    · exact s_X12_inverse_4 ⟨fun _ => by rw [← hQ]; exact ⟨rfl, rfl, rfl⟩, fun c1 => absurd (by decide) c1⟩
    · rw [nI_succ] at ih
      exact s_X12_inverse_4 ⟨fun c1 => absurd c1 (by rw [show (5 : Int32) = nI 5 by decide]; exact nI_ge hk (by omega)), fun _ => ih⟩
  exact bm_intro (by decide +kernel) (Nat.le_of_ble_eq_true rfl) (show B_X12_inverse_0 _ _ _ _ from s_X12_inverse_0 (key 0 (Nat.zero_le _)))
theorem k_X12_wrapped {v : Int32} {n : Nat} {I : am_I} {L : am_L} (hn : n ≤ 1000) : am_K M_X12_wrapped 0 [.int v, .int (nI n)] I L (am_qf (some (.int (am_pw v n))) I L) := by
  have key : ∀ k, k ≤ n → B_X12_wrapped_4 (am_qf (some (.int (am_pw v n))) I L) I L v (nI n) (am_pw v k) (nI k) := by
    refine am_down ?_ (fun k hk ih => ?_)
    · exact s_X12_wrapped_4 ⟨fun _ => ⟨rfl, rfl, rfl⟩, fun c1 => absurd (Int32.le_refl _) c1⟩
    · rw [nI_succ] at ih
      exact s_X12_wrapped_4 ⟨fun c1 => absurd c1 (nI_ge hk (by omega)), fun _ => ih⟩
  exact bm_intro (by decide +kernel) (Nat.le_of_ble_eq_true rfl) (show B_X12_wrapped_0 _ _ _ _ _ from s_X12_wrapped_0 (key 0 (Nat.zero_le _)))
def g_more (a : Int32) (n r : Nat) : Int32 := a * am_it (g_iv (am_pw 31 (3 * (n - 1 - r)))) (am_pw 31 (3 * (n - 1 - r))) 5
def g_ith (a b w : Int32) (n : Nat) : Nat → Nat → Int32 → Int32
  | 0, _, s => if w = -1 then s else -5
  | m + 1, r, s => if g_more a n r = 0 then g_ith a b w n m (r + 1) s else if g_more a n r * am_pw 33 (3 * (n - 1 - r)) = b then (if s = w then nI r else g_ith a b w n m (r + 1) (s + 1)) else g_ith a b w n m (r + 1) s
theorem k_check58 {a b w : Int32} {n : Nat} {I : am_I} {L : am_L} (hn : I 190 20 = nI n) (hn1 : n ≤ 100) : B_X12_check_58 (am_qf (some (.int (g_ith a b w n n 0 0))) I L) I L w a b 0 0 := by
  have key : ∀ k, k ≤ n → ∀ s, B_X12_check_58 (am_qf (some (.int (g_ith a b w n (n - k) k s))) I L) I L w a b s (nI k) := by
    refine am_down (fun s => ?_) (fun k hk ih s => ?_)
    · rw [Nat.sub_self, g_ith]
      refine s_X12_check_58 ⟨fun _ => ⟨fun c2 => ?_, fun c2 => ?_⟩, fun c1 => absurd (by rw [hn]; exact Int32.le_refl _) c1⟩
      · rw [if_neg c2]; exact ⟨rfl, rfl, rfl⟩
      · rw [if_pos c2]; exact ⟨rfl, rfl, rfl⟩
    · have hb : (3 : Int32) * ((I 190 20 - 1) - nI k) = nI (3 * (n - 1 - k)) := by
        rw [hn, show n = (n - 1 - k) + k + 1 by omega, nI_pred, ← nI_qa, Int32.add_sub_cancel, nq_3, nI_qm]
        congr 2; omega
      rw [show n - k = (n - (k + 1)) + 1 by omega, g_ith]
      rw [nI_succ] at ih
      refine s_X12_check_58 ⟨fun c1 => absurd c1 (by rw [hn]; exact nI_ge hk (by omega)), fun _ => ?_⟩
      rw [hb]
      refine ⟨_, am_qf_i (k_X12_wrapped (by omega)), fun v I7 L8 e => ?_⟩
      obtain ⟨q1, q2, q3⟩ := e
      subst q1; subst q2; subst q3
      refine ⟨_, am_qf_i k_X12_inverse, fun v I7 L8 e => ?_⟩
      obtain ⟨q1, q2, q3⟩ := e
      subst q1; subst q2; subst q3
      refine ⟨fun c2 => ?_, fun c2 => ?_⟩
      · rw [if_pos (show g_more a n k = 0 from c2)]; exact ih _
      · rw [if_neg (show ¬ g_more a n k = 0 from c2)]
        refine ⟨_, am_qf_i (k_X12_wrapped (by omega)), fun v I7 L8 e => ?_⟩
        obtain ⟨q1, q2, q3⟩ := e
        subst q1; subst q2; subst q3
        refine ⟨fun c3 => ?_, fun c3 => ⟨fun c4 => ?_, fun c4 => ?_⟩⟩
        · rw [if_neg (show ¬ g_more a n k * am_pw 33 (3 * (n - 1 - k)) = b from c3)]; exact ih _
        · rw [if_pos (show g_more a n k * am_pw 33 (3 * (n - 1 - k)) = b from c3), if_neg c4]; exact ih _
        · rw [if_pos (show g_more a n k * am_pw 33 (3 * (n - 1 - k)) = b from c3), if_pos c4]; exact ⟨rfl, rfl, rfl⟩
  exact key 0 (Nat.zero_le _) 0
