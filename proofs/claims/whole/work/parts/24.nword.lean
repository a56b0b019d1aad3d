/-! words in the reference -/
theorem sp_N_long1 {Q : RP} {w n : Nat} {hr h : HP} (hw : w < 2 ^ 31) (hQ : Q (0, (wlen w : Int)) n hr h) : f_N_long1 [(0, (w : Int))] n hr h Q := by
  apply e_N_long1
  have hl : wlen w ≤ 16 := wlen_le.mpr (Nat.lt_of_lt_of_le hw (by decide))
  have key : ∀ (v : Nat), v ≤ w → wlen v ≤ wlen w → p_N_long1_4 (n + 0) (ai_q 0 n Q) ((wlen w : Int) - (wlen v : Int)) (v : Int) n hr h := by
    intro v
    induction v using Nat.strongRecOn with
    | ind v ih =>
      intro hv hvl
      apply b_N_long1_4
      refine ⟨fun z => q_at rfl ?_, fun z => ?_⟩
      · have : v = 0 := by omega
        subst this
        rw [wlen_0]
        simpa using hQ
      · have hs := wlen_s (w := v) (by omega)
        rw [shr_2 (by omega) (by omega), w32_id (by omega) (by omega)]
        have := ih (v / 4) (by omega) (by omega) (by omega)
        rw [show (wlen w : Int) - (wlen (v / 4) : Int) = (wlen w : Int) - (wlen v : Int) + 1 by omega, show ((v / 4 : Nat) : Int) = (v : Int) / 4 by omega] at this
        exact this
  have := key w (Nat.le_refl _) (Nat.le_refl _)
  rw [Int.sub_self] at this
  exact this
theorem sp_N_inputAt {Q : RP} {w m k n : Nat} {hr h : HP} (hw : w < 4 ^ 15) (hm : m ≤ 15) (hk : k < m) (hQ : Q (0, ((w / 4 ^ (m - 1 - k) % 4 : Nat) : Int) - 1) n hr h) : f_N_inputAt [(0, (w : Int)), (0, (m : Int)), (0, (k : Int))] n hr h Q := by
  apply e_N_inputAt
  refine q_at rfl ?_
  have e : w32 (2 * w32 (w32 ((m : Int) - 1) - (k : Int))) = ((2 * (m - 1 - k) : Nat) : Int) := by
    rw [w32_id (x := (m : Int) - 1) (by omega) (by omega), w32_id (x := (m : Int) - 1 - (k : Int)) (by omega) (by omega), w32_id (by omega) (by omega)]
    omega
  rw [e, shr_n (by omega) (by omega), p24]
  have hq := Nat.div_le_self w (4 ^ (m - 1 - k))
  generalize w / 4 ^ (m - 1 - k) = q at hq hQ ⊢
  rw [and_3 (by omega) (by omega), w32_id (by omega) (by omega)]
  rw [show ((q % 4 : Nat) : Int) = (q : Int) % 4 by omega] at hQ
  exact hQ
