/-! the reference's pays -/
def am_r4 (L : am_L) (A B C D : Nat → Int64) : am_L := am_ro (am_ro (am_ro (am_ro L 195 A) 196 B) 197 C) 198 D
theorem am_r4_191 (L : am_L) (A B C D) : am_r4 L A B C D 191 = L 191 := by rw [am_r4, am_ro_ne _ _ (by decide), am_ro_ne _ _ (by decide), am_ro_ne _ _ (by decide), am_ro_ne _ _ (by decide)]
theorem am_r4_195 (L : am_L) (A B C D) : am_r4 L A B C D 195 = A := by rw [am_r4, am_ro_ne _ _ (by decide), am_ro_ne _ _ (by decide), am_ro_ne _ _ (by decide), am_ro_at]
theorem am_r4_196 (L : am_L) (A B C D) : am_r4 L A B C D 196 = B := by rw [am_r4, am_ro_ne _ _ (by decide), am_ro_ne _ _ (by decide), am_ro_at]
theorem am_r4_197 (L : am_L) (A B C D) : am_r4 L A B C D 197 = C := by rw [am_r4, am_ro_ne _ _ (by decide), am_ro_at]
theorem am_r4_198 (L : am_L) (A B C D) : am_r4 L A B C D 198 = D := by rw [am_r4, am_ro_at]
theorem am_r4_u195 (L : am_L) (A B C D) (k v) : am_u (am_r4 L A B C D) 195 k v = am_r4 L (am_f A k v) B C D := by rw [am_r4, am_ro_un _ _ _ _ (by decide), am_ro_un _ _ _ _ (by decide), am_ro_un _ _ _ _ (by decide), am_ro_u, am_r4]
theorem am_r4_u196 (L : am_L) (A B C D) (k v) : am_u (am_r4 L A B C D) 196 k v = am_r4 L A (am_f B k v) C D := by rw [am_r4, am_ro_un _ _ _ _ (by decide), am_ro_un _ _ _ _ (by decide), am_ro_u, am_r4]
theorem am_r4_u197 (L : am_L) (A B C D) (k v) : am_u (am_r4 L A B C D) 197 k v = am_r4 L A B (am_f C k v) D := by rw [am_r4, am_ro_un _ _ _ _ (by decide), am_ro_u, am_r4]
theorem am_r4_u198 (L : am_L) (A B C D) (k v) : am_u (am_r4 L A B C D) 198 k v = am_r4 L A B C (am_f D k v) := by rw [am_r4, am_ro_u, am_r4]
theorem am_r4_self (L : am_L) : am_r4 L (L 195) (L 196) (L 197) (L 198) = L := by rw [am_r4, am_ro_self, am_ro_self, am_ro_self, am_ro_self]
theorem am_f_f {α : Type} (A : Nat → α) (k : Nat) (v w : α) : am_f (am_f A k v) k w = am_f A k w := by
  funext b; simp only [am_f]; split <;> rfl
theorem am_f_self {α : Type} (A : Nat → α) (k : Nat) : am_f A k (A k) = A := by
  funext b; simp only [am_f]; split
  · rename_i h; rw [h]
  · rfl
def am_fi {α : Type} (v A : Nat → α) (n : Nat) : Nat → α := fun s => if s < n then v s else A s
theorem am_fi_0 {α : Type} (v A : Nat → α) : am_fi v A 0 = A := by funext s; exact if_neg (Nat.not_lt_zero s)
theorem am_fi_s {α : Type} (v A : Nat → α) (n : Nat) : am_f (am_fi v A n) n (v n) = am_fi v A (n + 1) := by
  funext s
  simp only [am_f, am_fi]
  by_cases h : s = n
  · rw [if_pos h, if_pos (by omega), h]
  · rw [if_neg h]
    by_cases h2 : s < n
    · rw [if_pos h2, if_pos (by omega)]
    · rw [if_neg h2, if_neg (by omega)]
theorem am_fi_lt {α : Type} (v A : Nat → α) {n s : Nat} (h : s < n) : am_fi v A n s = v s := if_pos h
theorem am_fi_ge {α : Type} (v A : Nat → α) {n s : Nat} (h : n ≤ s) : am_fi v A n s = A s := if_neg (by omega)
theorem i_du {h k : Nat} (hh : h < 8) (hk : k < 8) : (((852 : Int32) + (8 : Int32) * nI h) + nI k).toNatClampNeg = 852 + 8 * h + k := am_cx (m := 852 + 8 * h + k) (by simp only [nq_852, nq_8, nI_qm, nI_qa]) (by omega)
theorem v_du {h k : Nat} (hh : h < 8) (hk : k < 8) : vp_in (((852 : Int32) + (8 : Int32) * nI h) + nI k) 1200 := am_vx (m := 852 + 8 * h + k) (by simp only [nq_852, nq_8, nI_qm, nI_qa]) (by omega) (by decide)
theorem g_c_c {L M : am_L} (h : M 191 = L 191) : g_c M = g_c L := by funext p w r; simp only [g_c, g_at, h]
theorem g_cnt_c {L M : am_L} (h : M 191 = L 191) : g_cnt M = g_cnt L := by funext n p w; simp only [g_cnt, g_c_c h, h]
def g_ow (L : am_L) (n h k : Nat) (a : Int64) : Int64 := a - (if L 191 (0 + 3 * k) = (nI h).toInt64 then g_cnt L n k 0 else 0)
def g_own (L : am_L) (n np h : Nat) : Int64 := am_mx (if L 191 1192 = 1 then am_it (g_ow L n h) (L 191 (844 + h)) np else L 191 (844 + h))
def g_du (L : am_L) (h : Nat) : Int64 := am_sum (fun k => L 191 (852 + 8 * h + k)) 8
def g_gp (L : am_L) (C : Nat → Int64) (h k : Nat) (a : Int64) : Int64 := a + (if g_du L k = 0 then 0 else C k * L 191 (852 + 8 * k + h) / g_du L k)
def g_gets (L : am_L) (n np : Nat) (C : Nat → Int64) (h : Nat) : Int64 := am_it (g_gp L C h) (g_own L n np h) 8
def g_nx (L : am_L) (n np : Nat) (C : Nat → Int64) (h : Nat) : Int64 := if g_du L h ≤ g_gets L n np C h then g_du L h else g_gets L n np C h
def g_sq (L : am_L) (n np : Nat) (gr : Int32) : Nat → Nat → Int64
  | 0 => fun h => if gr = 0 then 0 else g_du L h
  | i + 1 => g_nx L n np (g_sq L n np gr i)
theorem g_gp_c {L : am_L} {C E : Nat → Int64} (h : ∀ s, s < 8 → C s = E s) (k : Nat) (a : Int64) : ∀ j, j ≤ 8 → am_it (g_gp L C k) a j = am_it (g_gp L E k) a j := by
  intro j
  induction j with
  | zero => intro _; rfl
  | succ j ih =>
    intro hj
    have e1 : ∀ F : Nat → Int64, am_it (g_gp L F k) a (j + 1) = g_gp L F k j (am_it (g_gp L F k) a j) := fun _ => rfl
    rw [e1, e1, ih (by omega), g_gp, g_gp, h j (by omega)]
theorem g_nx_c {L : am_L} {n np : Nat} {C E : Nat → Int64} (h : ∀ s, s < 8 → C s = E s) : g_nx L n np C = g_nx L n np E := by
  funext k; rw [g_nx, g_nx, g_gets, g_gets, g_gp_c h k _ 8 (Nat.le_refl _)]
