-- deps: 18 19 20 21 23 24 25 28 29
/-! the reference's small methods -/
theorem b10 : ((1 : Int) = 0) = False := by decide
theorem b11 : ((1 : Int) ≠ 0) = True := by decide
theorem b12 : ((0 : Int) = 0) = True := by decide
theorem b13 : ((0 : Int) ≠ 0) = False := by decide
section
variable {Q : RP} {n : Nat} {hr h : HP}
theorem sp_N_states (W : NW n hr) (hQ : Q (0, h 140 0) n hr h) : f_N_states [(2, 138)] n hr h Q := by
  apply e_N_states
  simp only [n0 W, nr_3 W, true_and]
  exact ⟨by decide, by decide, q_at rfl hQ⟩
theorem sp_N_inputs (W : NW n hr) (hQ : Q (0, h 140 1) n hr h) : f_N_inputs [(2, 138)] n hr h Q := by
  apply e_N_inputs
  simp only [n0 W, nr_3 W, true_and]
  exact ⟨by decide, by decide, q_at rfl hQ⟩
theorem sp_N_places (W : NW n hr) (hQ : Q (0, w32 (h 140 0 + h 140 2)) n hr h) : f_N_places [(2, 138)] n hr h Q := by
  apply e_N_places
  simp only [n0 W, nr_3 W, true_and]
  exact ⟨by decide, by decide, by decide, by decide, q_at rfl hQ⟩
theorem sp_N_extra (W : NW n hr) (hQ : Q (0, if h 140 3 = 0 then 0 else w32 (h 140 3 - 1)) n hr h) : f_N_extra [(2, 138)] n hr h Q := by
  apply e_N_extra
  simp only [n0 W, nr_3 W, true_and]
  refine ⟨by decide, by decide, fun z => ⟨by decide, by decide, q_at rfl ?_⟩, fun z => q_at rfl ?_⟩
  · rwa [if_neg z] at hQ
  · rwa [if_pos z] at hQ
theorem sp_N_reading {k : Int} (W : NW n hr) (hk : 0 ≤ k ∧ k < 5) (hQ : Q (0, h 140 (5 + k)) n hr h) : f_N_reading [(2, 138), (0, k)] n hr h Q := by
  apply e_N_reading
  rw [w32_id (by omega) (by omega)]
  simp only [n0 W, nr_3 W, true_and]
  exact ⟨by omega, by omega, q_at rfl hQ⟩
theorem sp_N_readPlaces (W : NW n hr) (hQ : Q (0, w32 (h 140 5 + h 140 7)) n hr h) : f_N_readPlaces [(2, 138)] n hr h Q := by
  apply e_N_readPlaces
  refine ⟨n0 W, sp_N_reading W (by omega) ⟨n0 W, sp_N_reading W (by omega) (q_at rfl ?_)⟩⟩
  exact hQ
theorem sp_N_isReached {s : Int} (W : NW n hr) (hs : 0 ≤ s ∧ s < 6) (h1 : 0 ≤ h 149 s → Q (0, 1) n hr h) (h0 : h 149 s < 0 → Q (0, 0) n hr h) : f_N_isReached [(2, 138), (0, s)] n hr h Q := by
  apply e_N_isReached
  simp only [n0 W, nr_22 W, true_and, true_or, or_true]
  exact ⟨hs.1, hs.2, fun z => q_at rfl (h0 z), fun z => q_at rfl (h1 z)⟩
theorem sp_N_isState {s : Int} (W : NW n hr) (h1 : 0 ≤ s ∧ s < h 140 0 → Q (0, 1) n hr h) (h0 : ¬ (0 ≤ s ∧ s < h 140 0) → Q (0, 0) n hr h) : f_N_isState [(2, 138), (0, s)] n hr h Q := by
  apply e_N_isState
  simp only [n0 W, true_and, true_or, or_true]
  refine ⟨fun z => q_at rfl (h0 (by omega)), fun z => sp_N_states W ⟨fun z2 => q_at rfl (h0 ?_), fun z2 => q_at rfl (h1 ?_)⟩⟩
  · dsimp only at z2; omega
  · dsimp only at z2; omega
theorem sp_N_isPlace {s : Int} (W : NW n hr) (h1 : 0 ≤ s ∧ s < w32 (h 140 0 + h 140 2) → Q (0, 1) n hr h) (h0 : ¬ (0 ≤ s ∧ s < w32 (h 140 0 + h 140 2)) → Q (0, 0) n hr h) : f_N_isPlace [(2, 138), (0, s)] n hr h Q := by
  apply e_N_isPlace
  simp only [n0 W, true_and, true_or, or_true]
  refine ⟨fun z => q_at rfl (h0 (by omega)), fun z => sp_N_places W ⟨fun z2 => q_at rfl (h0 ?_), fun z2 => q_at rfl (h1 ?_)⟩⟩
  · dsimp only at z2; omega
  · dsimp only at z2; omega
theorem sp_N_isInput {s : Int} (W : NW n hr) (h1 : 0 ≤ s ∧ s < h 140 1 → Q (0, 1) n hr h) (h0 : ¬ (0 ≤ s ∧ s < h 140 1) → Q (0, 0) n hr h) : f_N_isInput [(2, 138), (0, s)] n hr h Q := by
  apply e_N_isInput
  simp only [n0 W, true_and, true_or, or_true]
  refine ⟨fun z => q_at rfl (h0 (by omega)), fun z => sp_N_inputs W ⟨fun z2 => q_at rfl (h0 ?_), fun z2 => q_at rfl (h1 ?_)⟩⟩
  · dsimp only at z2; omega
  · dsimp only at z2; omega
theorem sp_N_isOne {s : Int} (h1 : s = 0 ∨ s = 1 → Q (0, 1) n hr h) (h0 : ¬ (s = 0 ∨ s = 1) → Q (0, 0) n hr h) : f_N_isOne [(0, s)] n hr h Q := by
  apply e_N_isOne
  simp only [true_and, true_or, or_true]
  exact ⟨fun z => q_at rfl (h1 (by omega)), fun z => ⟨fun z2 => q_at rfl (h0 (by omega)), fun z2 => q_at rfl (h1 (by omega))⟩⟩
theorem sp_N_thrown (W : NW n hr) (hQ : Q (0, h 138 0) n hr h) : f_N_thrown [(2, 138)] n hr h Q := by
  apply e_N_thrown
  exact ⟨n0 W, q_at rfl hQ⟩
theorem sp_N_isSmall {c : Int} (h1 : 97 ≤ c ∧ c ≤ 122 → Q (0, 1) n hr h) (h0 : ¬ (97 ≤ c ∧ c ≤ 122) → Q (0, 0) n hr h) : f_N_isSmall [(0, c)] n hr h Q := by
  apply e_N_isSmall
  simp only [true_and, true_or, or_true]
  exact ⟨fun z => q_at rfl (h0 (by omega)), fun z => ⟨fun z2 => q_at rfl (h0 (by omega)), fun z2 => q_at rfl (h1 (by omega))⟩⟩
theorem sp_N_isDigit {c : Int} (h1 : 48 ≤ c ∧ c ≤ 57 → Q (0, 1) n hr h) (h0 : ¬ (48 ≤ c ∧ c ≤ 57) → Q (0, 0) n hr h) : f_N_isDigit [(0, c)] n hr h Q := by
  apply e_N_isDigit
  simp only [true_and, true_or, or_true]
  exact ⟨fun z => q_at rfl (h0 (by omega)), fun z => ⟨fun z2 => q_at rfl (h0 (by omega)), fun z2 => q_at rfl (h1 (by omega))⟩⟩
theorem sp_N_here (W : NW n hr) (ha : 0 ≤ h 138 12 ∧ h 138 11 ≤ 700) (hQ : Q (0, if h 138 12 < h 138 11 then h 139 (h 138 12) else -1) n hr h) : f_N_here [(2, 138)] n hr h Q := by
  apply e_N_here
  simp only [n0 W, nr_1 W, true_and]
  refine ⟨fun z => q_at rfl ?_, fun z => ⟨by omega, by omega, q_at rfl ?_⟩⟩
  · rwa [if_neg (by omega)] at hQ
  · rwa [if_pos (by omega)] at hQ
theorem sp_N_testAt {t k : Int} (W : NW n hr) (ht : 0 ≤ t ∧ t < 6) (hk : 0 ≤ k ∧ k < 1300) (hQ : Q (0, h 161 (1300 * t + k)) n hr h) : f_N_testAt [(2, 138), (0, t), (0, k)] n hr h Q := by
  apply e_N_testAt
  rw [w32_id (x := 1300 * t) (by omega) (by omega), w32_id (by omega) (by omega)]
  simp only [n0 W, nr_38 W, true_and]
  exact ⟨by omega, by omega, q_at rfl hQ⟩
end
