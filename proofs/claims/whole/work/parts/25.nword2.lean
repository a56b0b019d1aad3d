/-! where words lead in the reference's rows, what they answer -/
/-- the reference's two rows -/
def nrow (hr : HP) (n : Nat) : Prop := ai_ok n 138 12 ∧ hr 138 20 = 147 ∧ hr 138 21 = 148 ∧ ai_ok n 147 50 ∧ ai_ok n 148 50 ∧ ai_l 147 = 96 ∧ ai_l 148 = 96
theorem sp_N_leadsTo {Q : RP} {b p : Int} {w n : Nat} {hr h : HP} (hr0 : nrow hr n) (hb : 0 ≤ b ∧ b ≤ 72) (hm : mok (fun a => h 147 (b + a)) (fun a => h 148 (b + a))) (hp : 0 ≤ p ∧ p < 8) (hw : w < 4 ^ 15) (hk : wok 3 w) (hQ : Q (0, dS (fun a => h 147 (b + a)) p w) n hr h) : f_N_leadsTo [(2, 138), (0, b), (0, p), (0, (w : Int))] n hr h Q := by
  obtain ⟨r1, r2, r3, r4, r5, r6, r7⟩ := hr0
  have h15 : wlen w ≤ 15 := wlen_le.mpr hw
  apply e_N_leadsTo
  apply sp_N_long1 (by omega)
  have key : ∀ (j k : Nat), j + k = wlen w → p_N_leadsTo_12 (n + 0) (ai_q 0 n Q) 138 b (w : Int) (wlen w : Int) (dS (fun a => h 147 (b + a)) p (w / 4 ^ k)) (j : Int) n hr h := by
    intro j k
    induction k generalizing j with
    | zero =>
      intro hj
      apply b_N_leadsTo_12
      refine ⟨fun _ => q_at rfl (by simpa using hQ), fun z => by omega⟩
    | succ k ih =>
      intro hj
      apply b_N_leadsTo_12
      refine ⟨fun z => by omega, fun _ => ⟨r1, ?_⟩⟩
      apply sp_N_inputAt hw h15 (by omega)
      rw [show wlen w - 1 - j = k by omega]
      have hd := dS_in hm hp (wok_divp (k + 1) hk)
      have hkk := (wok_s (div_ne (by omega))).mp (wok_divp k hk)
      have hs := dS_s (fun a => h 147 (b + a)) p (div_ne (w := w) (k := k) (by omega))
      rw [← div_s] at hs
      have e1 : w32 (w32 (b + w32 (3 * dS (fun a => h 147 (b + a)) p (w / 4 ^ (k + 1)))) + (((w / 4 ^ k % 4 : Nat) : Int) - 1)) = b + (3 * dS (fun a => h 147 (b + a)) p (w / 4 ^ (k + 1)) + ((w / 4 ^ k % 4 : Nat) : Int) - 1) := by
        rw [w32_id (x := 3 * dS (fun a => h 147 (b + a)) p (w / 4 ^ (k + 1))) (by omega) (by omega), w32_id (x := b + 3 * dS (fun a => h 147 (b + a)) p (w / 4 ^ (k + 1))) (by omega) (by omega), w32_id (by omega) (by omega)]
        omega
      simp only [r1, r2, r3, r4, r5, r6, r7, e1, true_and]
      refine ⟨by omega, by omega, ?_⟩
      rw [← hs, w32_id (by omega) (by omega), show (j : Int) + 1 = ((j + 1 : Nat) : Int) by omega]
      exact ih (j + 1) (by omega)
  have := key 0 (wlen w) (by omega)
  rw [div_top, dS_0] at this
  exact this
theorem sp_N_answers {Q : RP} {b p : Int} {w n : Nat} {hr h : HP} (hr0 : nrow hr n) (hb : 0 ≤ b ∧ b ≤ 72) (hm : mok (fun a => h 147 (b + a)) (fun a => h 148 (b + a))) (hp : 0 ≤ p ∧ p < 8) (hw : w < 4 ^ 15) (hk : wok 3 w) (hQ : Q (1, aS (fun a => h 147 (b + a)) (fun a => h 148 (b + a)) p w) n hr h) : f_N_answers [(2, 138), (0, b), (0, p), (0, (w : Int))] n hr h Q := by
  obtain ⟨r1, r2, r3, r4, r5, r6, r7⟩ := hr0
  have h15 : wlen w ≤ 15 := wlen_le.mpr hw
  apply e_N_answers
  apply sp_N_long1 (by omega)
  have key : ∀ (j k : Nat), j + k = wlen w → p_N_answers_15 (n + 0) (ai_q 0 n Q) 138 b (w : Int) (wlen w : Int) (dS (fun a => h 147 (b + a)) p (w / 4 ^ k)) (aS (fun a => h 147 (b + a)) (fun a => h 148 (b + a)) p (w / 4 ^ k)) (j : Int) n hr h := by
    intro j k
    induction k generalizing j with
    | zero =>
      intro hj
      apply b_N_answers_15
      refine ⟨fun _ => q_at rfl (by simpa using hQ), fun z => by omega⟩
    | succ k ih =>
      intro hj
      apply b_N_answers_15
      refine ⟨fun z => by omega, fun _ => ?_⟩
      apply sp_N_inputAt hw h15 (by omega)
      rw [show wlen w - 1 - j = k by omega]
      have hd := dS_in hm hp (wok_divp (k + 1) hk)
      have hkk := (wok_s (div_ne (by omega))).mp (wok_divp k hk)
      have hs := dS_s (fun a => h 147 (b + a)) p (div_ne (w := w) (k := k) (by omega))
      have ha := aS_s (fun a => h 147 (b + a)) (fun a => h 148 (b + a)) p (div_ne (w := w) (k := k) (by omega))
      have hb2 := aS_15 hm hp (divp_lt (k := k + 1) hw) (wok_divp (k + 1) hk)
      rw [← div_s] at hs ha
      have e1 : w32 (w32 (b + w32 (3 * dS (fun a => h 147 (b + a)) p (w / 4 ^ (k + 1)))) + (((w / 4 ^ k % 4 : Nat) : Int) - 1)) = b + (3 * dS (fun a => h 147 (b + a)) p (w / 4 ^ (k + 1)) + ((w / 4 ^ k % 4 : Nat) : Int) - 1) := by
        rw [w32_id (x := 3 * dS (fun a => h 147 (b + a)) p (w / 4 ^ (k + 1))) (by omega) (by omega), w32_id (x := b + 3 * dS (fun a => h 147 (b + a)) p (w / 4 ^ (k + 1))) (by omega) (by omega), w32_id (by omega) (by omega)]
        omega
      have ho := (hm (3 * dS (fun a => h 147 (b + a)) p (w / 4 ^ (k + 1)) + ((w / 4 ^ k % 4 : Nat) : Int) - 1) (by omega) (by omega)).2
      dsimp only at ho
      have e2 : w64 (w64 (10 * aS (fun a => h 147 (b + a)) (fun a => h 148 (b + a)) p (w / 4 ^ (k + 1))) + h 148 (b + (3 * dS (fun a => h 147 (b + a)) p (w / 4 ^ (k + 1)) + ((w / 4 ^ k % 4 : Nat) : Int) - 1))) = aS (fun a => h 147 (b + a)) (fun a => h 148 (b + a)) p (w / 4 ^ k) := by
        rw [w64_id (x := 10 * aS (fun a => h 147 (b + a)) (fun a => h 148 (b + a)) p (w / 4 ^ (k + 1))) (by omega) (by omega), w64_id (by omega) (by omega), ha]
      simp only [r1, r2, r3, r4, r5, r6, r7, e1, e2, true_and]
      refine ⟨by omega, by omega, by omega, by omega, ?_⟩
      rw [← hs, w32_id (by omega) (by omega), show (j : Int) + 1 = ((j + 1 : Nat) : Int) by omega]
      exact ih (j + 1) (by omega)
  have := key 0 (wlen w) (by omega)
  rw [div_top, dS_0, aS_0] at this
  exact this
