/-! the relation holds at the start -/
theorem c_run_stop {o c p : Nat → Int64} {m : Nat} {n : Int32} (h : ∀ h, h < 8 → c_step o c p h = p h) : c_run o c (m + 1) p n = (p, n) := by rw [c_run, if_pos h]
theorem v_D0 (h : Nat) : c_D (fun _ => 0) h = 0 := by
  show am_sum (fun _ => (0 : Int64)) 8 = 0
  decide
theorem v_run0 {n : Int32} : c_run (fun _ => 0) (fun _ => 0) 1000000 (fun _ => 0) n = ((fun _ => 0), n) := c_run_stop (m := 999999) (by decide +kernel)
theorem v_sum0 (f : Nat → Int64) (hf : ∀ k, f k = 0) : am_sum f 8 = 0 := by
  have e : f = fun _ => 0 := funext hf
  rw [e]; decide
theorem v_rd : ((List.range 1193).all fun e => v_L 191 e == x_rd v_I v_L e) = true := by decide +kernel
theorem v_ok : x_ok v_I v_L := by
  refine ⟨0, 0, 0, 0, 0, 0, 0, 0, 0, ⟨rfl, by decide, rfl, by decide, rfl, by decide, ⟨by decide, by decide⟩, fun r hr => absurd hr (Nat.not_lt_zero r), fun p hp => ?_, fun p hp => Or.inl rfl⟩, ⟨rfl, by decide, rfl, by decide, fun t ht => absurd ht (Nat.not_lt_zero t)⟩, ⟨rfl, by decide, rfl, by decide, ?_, fun g hg => absurd hg (Nat.not_lt_zero g), fun s hs => absurd hs (Nat.not_lt_zero s)⟩, ⟨?_, ?_, Or.inl rfl, ?_⟩, ⟨rfl, by decide, rfl, by decide, fun k hk => absurd hk (Nat.not_lt_zero k)⟩⟩
  · have e : v_L 18 p = 0 := rfl
    rw [e]; exact ⟨by decide, by simp⟩
  · decide +kernel
  · decide +kernel
  · decide +kernel
  · decide +kernel
theorem v_start {I : am_I} {L : am_L} (hI : ∀ a, (a = 0 ∨ nF_0 a ∨ a = 190 ∨ nF_190 a) → ∀ j, I a j = v_I a j) (hL : ∀ a, (a = 0 ∨ nF_0 a ∨ a = 190 ∨ nF_190 a) → ∀ j, L a j = v_L a j) : x_Inv (fun _ => 0) I L := by
  have wI : ∀ p s, x_wi p s → I p s = v_I p s := fun p s h => hI p (by unfold x_wi at h; simp only [nF_0, nF_190]; omega) s
  have wL : ∀ p s, x_wl p s → L p s = v_L p s := fun p s h => hL p (by unfold x_wl at h; simp only [nF_0, nF_190]; omega) s
  have l191 : ∀ e, L 191 e = v_L 191 e := hL 191 (by simp [nF_190])
  have i193 : ∀ i, I 193 i = 0 := fun i => hI 193 (by simp [nF_190]) i
  have i164 : ∀ i, I 164 i = 0 := fun i => hI 164 (by simp [nF_0]) i
  have i174 : I 174 0 = 1 := hI 174 (by simp [nF_0]) 0
  have i174b : I 174 8 = 0 := hI 174 (by simp [nF_0]) 8
  have i166 : I 166 = fun _ => 0 := funext fun i => hI 166 (by simp [nF_0]) i
  have i176 : I 176 = fun _ => 0 := funext fun i => hI 176 (by simp [nF_0]) i
  have l165 : L 165 = fun _ => 0 := funext fun i => hL 165 (by simp [nF_0]) i
  have l175 : L 175 = fun _ => 0 := funext fun i => hL 175 (by simp [nF_0]) i
  have l167 : ∀ i, L 167 i = 0 := fun i => hL 167 (by simp [nF_0]) i
  have l168 : ∀ i, L 168 i = 0 := fun i => hL 168 (by simp [nF_0]) i
  have l170 : ∀ i, L 170 i = 0 := fun i => hL 170 (by simp [nF_0]) i
  have l171 : ∀ i, L 171 i = 0 := fun i => hL 171 (by simp [nF_0]) i
  have l177 : ∀ i, L 177 i = 0 := fun i => hL 177 (by simp [nF_0]) i
  have l178 : ∀ i, L 178 i = 0 := fun i => hL 178 (by simp [nF_0]) i
  have l180 : ∀ i, L 180 i = 0 := fun i => hL 180 (by simp [nF_0]) i
  have l181 : ∀ i, L 181 i = 0 := fun i => hL 181 (by simp [nF_0]) i
  have oa : c_oa I = fun _ => 0 := by funext i; rw [c_oa, i166]; rfl
  have ob : c_ob I = fun _ => 0 := by funext i; rw [c_ob, i176]; rfl
  have pa : c_p0a I = fun _ => 0 := by funext i; simp only [c_p0a, i164, if_true]
  have pb : c_p0b I = fun _ => 0 := by
    funext i
    simp only [c_p0b, ob]
    rw [v_D0, ite_self]
  have sh : ∀ k t, c_sh (fun _ => 0) (fun _ => 0) k t = 0 := fun k t => by rw [c_sh, v_D0]; rfl
  refine ⟨fun e he => ?_, ⟨?_, ?_⟩, x_ok_v wI wL v_ok, ⟨⟨i193 0, fun q => ?_⟩, ⟨i193 1, fun q => ?_⟩⟩, ⟨0, by decide, ?_, ?_, fun r hr => absurd hr (Nat.not_lt_zero r), fun _ => ⟨?_, ?_⟩, fun q => absurd rfl q⟩, ⟨⟨⟨⟨fun t ht => ?_, fun h hh => ?_, fun h hh => ?_, fun k t hk ht => ?_⟩, ?_⟩, ⟨⟨fun t ht => ?_, fun h hh => ?_, fun h hh => ?_, fun k t hk ht => ?_⟩, ?_⟩⟩, i164 0, i174⟩, fun x hx => ?_⟩
  · rw [l191, x_rd_v wI wL he]
    exact eq_of_beq (List.all_eq_true.mp v_rd e (List.mem_range.mpr he))
  · rw [l191, hL 7 (by simp [nF_0])]; rfl
  · rw [l191, hL 7 (by simp [nF_0])]; rfl
  · rw [i193] at q; exact absurd q (by decide)
  · rw [i193] at q; exact absurd q (by decide)
  · exact hI 2 (by simp [nF_0]) 4
  · exact hI 190 (by simp) 20
  · exact hI 2 (by simp [nF_0]) 5
  · exact hI 2 (by simp [nF_0]) 6
  · rw [show 164 + 4 = 168 from rfl, show 164 + 6 = 170 from rfl, l168, v_sum0 _ (fun k => l170 _)]
  · rw [l167, oa, v_D0]
  · rw [l171, oa, l165, pa, v_run0]
  · rw [l170, oa, l165, pa, v_run0, sh]
  · rw [i164, oa, l165, pa, v_run0]
  · rw [show 174 + 4 = 178 from rfl, show 174 + 6 = 180 from rfl, l178, v_sum0 _ (fun k => l180 _)]
  · rw [l177, ob, v_D0]
  · rw [l181, ob, l175, pb, v_run0]
  · rw [l180, ob, l175, pb, v_run0, sh]
  · rw [i174b, ob, l175, pb, v_run0]
  · rw [hL 185 (by simp [nF_0]), hL 201 (by simp [nF_190])]; rfl
