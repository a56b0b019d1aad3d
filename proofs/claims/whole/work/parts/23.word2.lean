/-! what words answer: the class; the reference's words -/
theorem p10_15 {k : Nat} (hk : k ≤ 15) : (10 : Int) ^ k ≤ 10 ^ 15 := by
  have : ∀ k, k ≤ 15 → (10 : Int) ^ k ≤ 10 ^ 15 := by decide
  exact this k hk
theorem aS_15 {to out : Int → Int} (hm : mok to out) {p : Int} (hp : 0 ≤ p ∧ p < 8) {w : Nat} (hw : w < 4 ^ 15) (hk : wok 3 w) : 0 ≤ aS to out p w ∧ aS to out p w < 1000000000000000 := by
  have h1 := aS_in hm hp hk
  have h2 := p10_15 (wlen_le.mpr hw)
  have h3 : (10 : Int) ^ 15 = 1000000000000000 := by decide
  omega
theorem divp_lt {w k : Nat} (hw : w < 4 ^ 15) : w / 4 ^ k < 4 ^ 15 := Nat.lt_of_le_of_lt (Nat.div_le_self _ _) hw
theorem sp_M_tell {Q : RP} {m p : Int} {w n : Nat} {hr h : HP} (hr0 : mrow hr m n) (hm : mok (h (m + 1)) (h (m + 2))) (hp : 0 ≤ p ∧ p < 8) (hw : w < 4 ^ 15) (hk : wok 3 w) (hQ : Q (1, aS (h (m + 1)) (h (m + 2)) p w) n hr h) : f_M_tell [(2, m), (0, p), (0, (w : Int))] n hr h Q := by
  obtain ⟨r1, r2, r3, r4, r5, r6, r7⟩ := hr0
  have h15 : wlen w ≤ 15 := wlen_le.mpr hw
  apply e_M_tell
  apply sp_B_lengthOf hw
  have key : ∀ (k : Nat), k ≤ wlen w → p_M_tell_13 (n + 0) (ai_q 0 n Q) m (w : Int) (dS (h (m + 1)) p (w / 4 ^ k)) (aS (h (m + 1)) (h (m + 2)) p (w / 4 ^ k)) ((k : Int) - 1) n hr h := by
    intro k
    induction k with
    | zero =>
      intro _
      apply b_M_tell_13
      refine ⟨fun _ => q_at rfl (by simpa using hQ), fun z => by omega⟩
    | succ k ih =>
      intro hkl
      apply b_M_tell_13
      refine ⟨fun z => by omega, fun _ => ?_⟩
      rw [show ((k + 1 : Nat) : Int) - 1 = (k : Int) by omega]
      apply sp_B_inputAt hw (by omega)
      have hd := dS_in hm hp (wok_divp (k + 1) hk)
      have hkk := (wok_s (div_ne (by omega))).mp (wok_divp k hk)
      have hs := dS_s (h (m + 1)) p (div_ne (w := w) (k := k) (by omega))
      have ha := aS_s (h (m + 1)) (h (m + 2)) p (div_ne (w := w) (k := k) (by omega))
      have hb := aS_15 hm hp (divp_lt (k := k + 1) hw) (wok_divp (k + 1) hk)
      rw [← div_s] at hs ha
      have e1 : w32 (w32 (dS (h (m + 1)) p (w / 4 ^ (k + 1)) * 3) + (((w / 4 ^ k % 4 : Nat) : Int) - 1)) = 3 * dS (h (m + 1)) p (w / 4 ^ (k + 1)) + ((w / 4 ^ k % 4 : Nat) : Int) - 1 := by
        rw [w32_id (x := dS (h (m + 1)) p (w / 4 ^ (k + 1)) * 3) (by omega) (by omega), w32_id (by omega) (by omega)]
        omega
      have ho := (hm (3 * dS (h (m + 1)) p (w / 4 ^ (k + 1)) + ((w / 4 ^ k % 4 : Nat) : Int) - 1) (by omega) (by omega)).2
      have e2 : w64 (w64 (aS (h (m + 1)) (h (m + 2)) p (w / 4 ^ (k + 1)) * 10) + h (m + 2) (3 * dS (h (m + 1)) p (w / 4 ^ (k + 1)) + ((w / 4 ^ k % 4 : Nat) : Int) - 1)) = aS (h (m + 1)) (h (m + 2)) p (w / 4 ^ k) := by
        rw [w64_id (x := aS (h (m + 1)) (h (m + 2)) p (w / 4 ^ (k + 1)) * 10) (by omega) (by omega), w64_id (by omega) (by omega), ha]
        omega
      simp only [r1, r2, r3, r4, r5, r6, r7, e1, e2, true_and]
      refine ⟨by omega, by omega, by omega, by omega, ?_⟩
      rw [← hs, w32_id (by omega) (by omega)]
      exact ih (by omega)
  have := key (wlen w) (Nat.le_refl _)
  rw [div_top, dS_0, aS_0] at this
  show p_M_tell_13 _ _ _ _ _ _ (w32 ((wlen w : Int) - 1)) _ _ _
  rw [w32_id (by omega) (by omega)]
  exact this
