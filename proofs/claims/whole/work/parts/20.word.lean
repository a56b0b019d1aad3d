/-! words: how long, their inputs, where they lead, what they answer (class and reference) -/
theorem shr_1 {x : Int} (h0 : 0 ≤ x) (h : x ≤ 2147483647) : i_shr x 1 = x / 2 := shr_i (k := 1) (by decide) h0 h
theorem shr_2 {x : Int} (h0 : 0 ≤ x) (h : x ≤ 2147483647) : i_shr x 2 = x / 4 := shr_i (k := 2) (by decide) h0 h
theorem shr_3 {x : Int} (h0 : 0 ≤ x) (h : x ≤ 2147483647) : i_shr x 3 = x / 8 := shr_i (k := 3) (by decide) h0 h
theorem shr_4 {x : Int} (h0 : 0 ≤ x) (h : x ≤ 2147483647) : i_shr x 4 = x / 16 := shr_i (k := 4) (by decide) h0 h
theorem shr_5 {x : Int} (h0 : 0 ≤ x) (h : x ≤ 2147483647) : i_shr x 5 = x / 32 := shr_i (k := 5) (by decide) h0 h
theorem shr_6 {x : Int} (h0 : 0 ≤ x) (h : x ≤ 2147483647) : i_shr x 6 = x / 64 := shr_i (k := 6) (by decide) h0 h
theorem shr_8 {x : Int} (h0 : 0 ≤ x) (h : x ≤ 2147483647) : i_shr x 8 = x / 256 := shr_i (k := 8) (by decide) h0 h
theorem shr_12 {x : Int} (h0 : 0 ≤ x) (h : x ≤ 2147483647) : i_shr x 12 = x / 4096 := shr_i (k := 12) (by decide) h0 h
theorem shr_16 {x : Int} (h0 : 0 ≤ x) (h : x ≤ 2147483647) : i_shr x 16 = x / 65536 := shr_i (k := 16) (by decide) h0 h
theorem shr_20 {x : Int} (h0 : 0 ≤ x) (h : x ≤ 2147483647) : i_shr x 20 = x / 1048576 := shr_i (k := 20) (by decide) h0 h
theorem shl_2 {x : Int} (h0 : 0 ≤ x) (h : x * 4 ≤ 2147483647) : i_shl x 2 = x * 4 := shl_i (k := 2) (by decide) h0 h
theorem shl_3 {x : Int} (h0 : 0 ≤ x) (h : x * 8 ≤ 2147483647) : i_shl x 3 = x * 8 := shl_i (k := 3) (by decide) h0 h
theorem shl_4 {x : Int} (h0 : 0 ≤ x) (h : x * 16 ≤ 2147483647) : i_shl x 4 = x * 16 := shl_i (k := 4) (by decide) h0 h
theorem shl_6 {x : Int} (h0 : 0 ≤ x) (h : x * 64 ≤ 2147483647) : i_shl x 6 = x * 64 := shl_i (k := 6) (by decide) h0 h
theorem shl_8 {x : Int} (h0 : 0 ≤ x) (h : x * 256 ≤ 2147483647) : i_shl x 8 = x * 256 := shl_i (k := 8) (by decide) h0 h
theorem shl_12 {x : Int} (h0 : 0 ≤ x) (h : x * 4096 ≤ 2147483647) : i_shl x 12 = x * 4096 := shl_i (k := 12) (by decide) h0 h
theorem q_at {al n : Nat} {Q : RP} {r : AV} {hr h : HP} (e : al = 0) (hQ : Q r n hr h) : ai_q al n Q r n hr h := ⟨by omega, hQ⟩
theorem p24 (k : Nat) : 2 ^ (2 * k) = 4 ^ k := by rw [Nat.pow_mul]
theorem d4 {w k : Nat} : w / 4 ^ k = 0 ↔ w < 4 ^ k := Nat.div_eq_zero_iff_lt (Nat.pow_pos (by decide))
theorem sp_B_lengthOf {Q : RP} {w n : Nat} {hr h : HP} (hw : w < 4 ^ 15) (hQ : Q (0, (wlen w : Int)) n hr h) : f_B_lengthOf [(0, (w : Int))] n hr h Q := by
  apply e_B_lengthOf
  have key : ∀ (m k : Nat), k ≤ wlen w → wlen w - k = m → p_B_lengthOf_2 (n + 0) (ai_q 0 n Q) (w : Int) (k : Int) n hr h := by
    have h15 : wlen w ≤ 15 := wlen_le.mpr hw
    intro m
    induction m with
    | zero =>
      intro k h1 h2
      have hk : k = wlen w := by omega
      apply b_B_lengthOf_2
      refine ⟨fun _ => q_at rfl (by rw [hk]; exact hQ), fun h3 => ?_⟩
      have e : w32 (2 * (k : Int)) = ((2 * k : Nat) : Int) := by rw [w32_id (by omega) (by omega)]; omega
      rw [e, shr_n (by omega) (by omega)]
      have h0 : w / 2 ^ (2 * k) = 0 := by
        rw [p24, d4]
        exact wlen_le.mp (by omega)
      refine ⟨fun _ => q_at rfl (by rw [hk]; exact hQ), fun h4 => ?_⟩
      rw [h0] at h4
      exact (h4 rfl).elim
    | succ m ih =>
      intro k h1 h2
      apply b_B_lengthOf_2
      refine ⟨fun h3 => by omega, fun h3 => ?_⟩
      have e : w32 (2 * (k : Int)) = ((2 * k : Nat) : Int) := by rw [w32_id (by omega) (by omega)]; omega
      rw [e, shr_n (by omega) (by omega)]
      have h0 : w / 2 ^ (2 * k) ≠ 0 := by
        rw [p24]
        intro q
        have := (@wlen_le k w).mpr (d4.mp q)
        omega
      refine ⟨fun h4 => by omega, fun _ => ?_⟩
      rw [show w32 ((k : Int) + 1) = ((k + 1 : Nat) : Int) by rw [w32_id (by omega) (by omega)]; omega]
      exact ih (k + 1) (by omega) (by omega)
  exact key (wlen w) 0 (by omega) (by omega)
theorem sp_B_inputAt {Q : RP} {w k n : Nat} {hr h : HP} (hw : w < 4 ^ 15) (hk : k < 15) (hQ : Q (0, ((w / 4 ^ k % 4 : Nat) : Int) - 1) n hr h) : f_B_inputAt [(0, (w : Int)), (0, (k : Int))] n hr h Q := by
  apply e_B_inputAt
  refine q_at rfl ?_
  have e : w32 (2 * (k : Int)) = ((2 * k : Nat) : Int) := by rw [w32_id (by omega) (by omega)]; omega
  rw [e, shr_n (by omega) (by omega), p24]
  have hq := Nat.div_le_self w (4 ^ k)
  generalize w / 4 ^ k = q at hq hQ ⊢
  rw [and_3 (by omega) (by omega), w32_id (by omega) (by omega)]
  rw [show ((q % 4 : Nat) : Int) = (q : Int) % 4 by omega] at hQ
  exact hQ
/-- a word's inputs from the last places on -/
theorem div_s (w k : Nat) : w / 4 ^ (k + 1) = w / 4 ^ k / 4 := by rw [Nat.pow_succ, Nat.div_div_eq_div_mul]
theorem div_top {w : Nat} : w / 4 ^ wlen w = 0 := by
  exact d4.mpr (wlen_le.mp (Nat.le_refl _))
theorem div_ne {w k : Nat} (hk : k < wlen w) : w / 4 ^ k ≠ 0 := by
  intro q
  have := (@wlen_le k w).mpr (d4.mp q)
  omega
/-- the rows of a machine's cell -/
def mrow (hr : HP) (m : Int) (n : Nat) : Prop := ai_ok n m 1 ∧ hr m 0 = m + 1 ∧ hr m 1 = m + 2 ∧ ai_ok n (m + 1) 50 ∧ ai_ok n (m + 2) 50 ∧ ai_l (m + 1) = 24 ∧ ai_l (m + 2) = 24
theorem sp_M_go {Q : RP} {m p : Int} {w n : Nat} {hr h : HP} (hr0 : mrow hr m n) (hm : mok (h (m + 1)) (h (m + 2))) (hp : 0 ≤ p ∧ p < 8) (hw : w < 4 ^ 15) (hk : wok 3 w) (hQ : Q (0, dS (h (m + 1)) p w) n hr h) : f_M_go [(2, m), (0, p), (0, (w : Int))] n hr h Q := by
  obtain ⟨r1, r2, r3, r4, r5, r6, r7⟩ := hr0
  have h15 : wlen w ≤ 15 := wlen_le.mpr hw
  apply e_M_go
  apply sp_B_lengthOf hw
  have key : ∀ (k : Nat), k ≤ wlen w → p_M_go_10 (n + 0) (ai_q 0 n Q) m (w : Int) (dS (h (m + 1)) p (w / 4 ^ k)) ((k : Int) - 1) n hr h := by
    intro k
    induction k with
    | zero =>
      intro _
      apply b_M_go_10
      refine ⟨fun _ => q_at rfl (by simpa using hQ), fun z => by omega⟩
    | succ k ih =>
      intro hkl
      apply b_M_go_10
      refine ⟨fun z => by omega, fun _ => ⟨r1, ?_⟩⟩
      rw [show ((k + 1 : Nat) : Int) - 1 = (k : Int) by omega]
      apply sp_B_inputAt hw (by omega)
      have hd := dS_in hm hp (wok_divp (k + 1) hk)
      have hkk := (wok_s (div_ne (by omega))).mp (wok_divp k hk)
      have hs := dS_s (h (m + 1)) p (div_ne (w := w) (k := k) (by omega))
      rw [← div_s] at hs
      show ai_ok n (hr m 0) 50 ∧ _
      rw [r2, r6, w32_id (x := dS (h (m + 1)) p (w / 4 ^ (k + 1)) * 3) (by omega) (by omega), w32_id (x := dS (h (m + 1)) p (w / 4 ^ (k + 1)) * 3 + (((w / 4 ^ k % 4 : Nat) : Int) - 1)) (by omega) (by omega), w32_id (by omega) (by omega)]
      refine ⟨r4, by omega, by omega, ?_⟩
      have := ih (by omega)
      rw [hs] at this
      rw [show dS (h (m + 1)) p (w / 4 ^ (k + 1)) * 3 + (((w / 4 ^ k % 4 : Nat) : Int) - 1) = 3 * dS (h (m + 1)) p (w / 4 ^ (k + 1)) + ((w / 4 ^ k % 4 : Nat) : Int) - 1 by omega]
      exact this
  have := key (wlen w) (Nat.le_refl _)
  rw [div_top, dS_0] at this
  show p_M_go_10 _ _ _ _ _ (w32 ((wlen w : Int) - 1)) _ _ _
  rw [w32_id (by omega) (by omega)]
  exact this
