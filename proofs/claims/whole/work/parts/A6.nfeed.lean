-- deps: 18 19 20 21 22 23 24 25 26 27 28 29 30 31 32 33 34 35 36 37 38 39 40 41 42 43 44 45 46 47 48 49 50 51 52 53 54 55 56 57 58 59 60 61 62 63 64 65 66 67 68 69 70 71 72 73 74 75 76 77 78 79 80 81 82 83 84 85 86 87 88 91 92 93 94 95 96 97 9S 9T 9U 9V 9W 9X 9Y 9Z A0 A1 A2 A3 A4 A5
/-! bytes of numbers; the tape is fed; the reference takes a text -/
theorem b8_bm (x : Int) : i_b8 x = ((Int32.ofInt x).toInt).bmod 256 := by
  unfold i_b8; rw [Int8.toInt_toInt32, Int32.toInt_toInt8]
theorem b8_id {z : Int} (h1 : -128 ≤ z) (h2 : z ≤ 127) : i_b8 z = z := by
  rw [b8_bm, of_i32 ⟨by omega, by omega⟩]
  unfold Int.bmod
  dsimp only
  split <;> omega
theorem and_255u (x : Int) : i_and x 255 = (((Int32.ofInt x).toBitVec.toNat % 256 : Nat) : Int) := by
  have e : (Int32.ofInt x &&& Int32.ofInt 255).toBitVec.toNat = (Int32.ofInt x).toBitVec.toNat % 256 := by
    rw [Int32.toBitVec_and, BitVec.toNat_and]
    exact Nat.and_two_pow_sub_one_eq_mod _ 8
  have m : (Int32.ofInt x &&& Int32.ofInt 255).toBitVec.msb = false := by
    rw [BitVec.msb_eq_false_iff_two_mul_lt, e]; omega
  show (Int32.ofInt x &&& Int32.ofInt 255).toBitVec.toInt = _
  rw [BitVec.toInt_eq_toNat_of_msb m, e]
theorem b8_sg (x : Int) : i_b8 x = sg8 (i_and x 255) := by
  rw [b8_bm, and_255u]
  generalize Int32.ofInt x = y
  have h1 : y.toInt = (y.toBitVec.toNat : Int) ∨ y.toInt = (y.toBitVec.toNat : Int) - 4294967296 := by
    show y.toBitVec.toInt = _ ∨ y.toBitVec.toInt = _
    rw [BitVec.toInt_eq_toNat_cond]
    split
    · exact Or.inl rfl
    · exact Or.inr rfl
  have h2 := sg8_c ((y.toBitVec.toNat % 256 : Nat) : Int)
  unfold Int.bmod
  dsimp only
  split <;> omega
/-- the k-th byte of a number -/
def by8 (a : Int) (k : Nat) : Int := i_and (i_shr a (24 - 8 * (k : Int))) 255
theorem by8_b (a : Int) (k : Nat) : 0 ≤ by8 a k ∧ by8 a k < 256 := by
  unfold by8; rw [and_255u]; omega
/-- five numbers on the tape -/
def fdT (T : Int → Int) (L : Nat) (A : Nat → Int) (j : Int) : Int := if (L : Int) ≤ j ∧ j < (L : Int) + 20 then by8 (A ((j - (L : Int)).toNat / 4)) ((j - (L : Int)).toNat % 4) else T j
def fdA (a b c d e : Int) (k : Nat) : Int := if k = 0 then a else if k = 1 then b else if k = 2 then c else if k = 3 then d else e
theorem fdT_b {T : Int → Int} {L : Nat} {A : Nat → Int} (h : ∀ j : Int, 0 ≤ j → j < 700 → 0 ≤ T j ∧ T j < 256) : ∀ j : Int, 0 ≤ j → j < 700 → 0 ≤ fdT T L A j ∧ fdT T L A j < 256 := fun j a b => by
  unfold fdT
  split
  · exact by8_b _ _
  · exact h j a b
section
variable {Q : RP} {n : Nat} {hr h : HP} {T : Int → Int} {N : Nat} {s : DS}
theorem sp_N_feed {L : Nat} {a b c d e : Int} (W : NW n hr) (P : TPn T h) (eL : h 138 2 = (L : Int)) (hL : L ≤ 700) (h0 : 680 < L → Q (0, -1) n hr (ai_up h 138 0 0)) (h1 : L ≤ 680 → ∀ h1, EX [139] [(138, 0), (138, 2)] h h1 → TPn (fdT T L (fdA a b c d e)) h1 → h1 138 2 = ((L + 20 : Nat) : Int) → Q (0, ((L + 20 : Nat) : Int)) n hr h1) : f_N_feed [(2, 138), (0, a), (0, b), (0, c), (0, d), (0, e)] n hr h Q := by
  have g2 : (ai_up h 138 0 0) 138 2 = (L : Int) := by rw [up_oth (by omega)]; exact eL
  apply e_N_feed
  simp only [n0 W, g2, true_and]
  refine ⟨fun q => ?_, fun q => (by first | exact q_at rfl (h0 (by omega)) | exact (h0 (by omega)))⟩
  have H := h1 (by omega)
  have main := lupN (N := 20) (P := fun k => ∀ h1, EX [139] [(138, 0)] h h1 → h1 138 2 = (L : Int) → (∀ j : Int, 0 ≤ j → j < 700 → h1 139 j = if (L : Int) ≤ j ∧ j < (L : Int) + (k : Int) then by8 (fdA a b c d e ((j - (L : Int)).toNat / 4)) ((j - (L : Int)).toNat % 4) else T j) → p_N_feed_20 (n + 0) (ai_q 0 n Q) 138 a b c d e (k : Int) n hr h1) ?_ ?_
  · refine main _ (EX_upp EX_rf (by decide)) g2 fun j j1 j2 => ?_
    rw [up_oth (by omega), if_neg (by omega)]; exact (P j j1 j2).2
  · intro h1 e1 c2 g
    refine b_N_feed_20 ⟨fun _ => ?_, fun y => by omega⟩
    have e20 : (L : Int) + 20 = ((L + 20 : Nat) : Int) := by omega
    simp (disch := omega) only [n0 W, c2, w32_id, up_same, e20, true_and]
    refine q_at rfl (H _ (EX_upp (EX_le e1 (by decide) (by decide)) (by decide)) (fun j j1 j2 => ⟨fdT_b (fun j a b => (P j a b).1) j j1 j2, ?_⟩) up_same)
    rw [up_oth (by omega), g j j1 j2]
    rfl
  · intro k hk ih h1 e1 c2 g
    have er : i_rem (k : Int) 4 = ((k % 4 : Nat) : Int) := by rw [rem_i (by omega) (by omega) (by omega) (by omega)]; omega
    have e8 : w32 (24 - w32 (8 * ((k % 4 : Nat) : Int))) = 24 - 8 * ((k % 4 : Nat) : Int) := by rw [w32_id (x := 8 * ((k % 4 : Nat) : Int)) (by omega) (by omega), w32_id (by omega) (by omega)]
    have st : ∀ v : Int, v = fdA a b c d e (k / 4) → p_N_feed_20 (n + 0) (ai_q 0 n Q) 138 a b c d e ((k : Int) + 1) n hr (ai_up h1 139 ((L : Int) + (k : Int)) (i_and (i_shr v (24 - 8 * ((k % 4 : Nat) : Int))) 255)) := fun v ev => by
      refine ih _ (EX_upc e1 (by decide)) (by rw [up_oth (by omega)]; exact c2) fun j j1 j2 => ?_
      by_cases y : j = (L : Int) + (k : Int)
      · subst y
        rw [up_same, if_pos (by omega), show ((L : Int) + (k : Int) - (L : Int)).toNat = k by omega, ← ev]
        rfl
      · rw [up_oth (by omega), g j j1 j2]
        by_cases z : (L : Int) ≤ j ∧ j < (L : Int) + (k : Int)
        · rw [if_pos z, if_pos (by omega)]
        · rw [if_neg z, if_neg (by omega)]
    refine b_N_feed_20 ⟨fun y => by omega, fun _ => ?_⟩
    simp (disch := omega) only [n0 W, nr_1 W, c2, er, e8, w32_id, true_and]
    unfold fdA at st
    refine ⟨fun y4 => ⟨fun y8 => ⟨fun y12 => ⟨fun y16 => ⟨by omega, by omega, by omega, st e ?_⟩, fun y16 => ⟨by omega, by omega, by omega, st d ?_⟩⟩, fun y12 => ⟨by omega, by omega, by omega, st c ?_⟩⟩, fun y8 => ⟨by omega, by omega, by omega, st b ?_⟩⟩, fun y4 => ⟨by omega, by omega, by omega, st a ?_⟩⟩
    · rw [if_neg (by omega), if_neg (by omega), if_neg (by omega), if_neg (by omega)]
    · rw [if_neg (by omega), if_neg (by omega), if_neg (by omega), if_pos (by omega)]
    · rw [if_neg (by omega), if_neg (by omega), if_pos (by omega)]
    · rw [if_neg (by omega), if_pos (by omega)]
    · rw [if_pos (by omega)]
theorem sp_R_take {L k : Nat} {A : Nat → Int} (V : CW n hr) (hk : k < 5) (hL : L + 20 ≤ 700) (e2 : h 1 2 = ((L + 4 * k : Nat) : Int)) (P : ∀ j : Int, 0 ≤ j → j < 700 → h 2 j = sg8 (if (L : Int) ≤ j ∧ j < (L : Int) + 4 * (k : Int) then by8 (A ((j - (L : Int)).toNat / 4)) ((j - (L : Int)).toNat % 4) else T j)) (hQ : ∀ h1, EX [2] [(1, 2)] h h1 → h1 1 2 = ((L + 4 * (k + 1) : Nat) : Int) → (∀ j : Int, 0 ≤ j → j < 700 → h1 2 j = sg8 (if (L : Int) ≤ j ∧ j < (L : Int) + 4 * ((k + 1 : Nat) : Int) then by8 (A ((j - (L : Int)).toNat / 4)) ((j - (L : Int)).toNat % 4) else T j)) → Q (9, 0) n hr h1) : f_R_take [(2, 1), (0, A k)] n hr h Q := by
  apply e_R_take
  have main := lupN (N := 4) (P := fun i => ∀ h1, EX [2] [(1, 2)] h h1 → h1 1 2 = ((L + 4 * k + i : Nat) : Int) → (∀ j : Int, 0 ≤ j → j < 700 → h1 2 j = sg8 (if (L : Int) ≤ j ∧ j < (L : Int) + 4 * (k : Int) + (i : Int) then by8 (A ((j - (L : Int)).toNat / 4)) ((j - (L : Int)).toNat % 4) else T j)) → p_R_take_3 (n + 0) (ai_q 0 n Q) 1 (A k) (24 - 8 * (i : Int)) n hr h1) ?_ ?_
  · refine main h EX_rf e2 fun j j1 j2 => ?_
    rw [P j j1 j2]
    simp only [Int.natCast_zero, Int.add_zero]
  · intro h1 e1 c2 g
    refine b_R_take_3 ⟨fun _ => q_at rfl (hQ h1 e1 (by rw [c2]; omega) fun j j1 j2 => ?_), fun y => by omega⟩
    rw [g j j1 j2, show (L : Int) + 4 * (k : Int) + ((4 : Nat) : Int) = (L : Int) + 4 * ((k + 1 : Nat) : Int) by omega]
  · intro i hi ih h1 e1 c2 g
    have bb := by8_b (A k) i
    have sc := sg8_c (by8 (A k) i)
    have e8 : i_b8 (i_b8 (i_shr (A k) (24 - 8 * (i : Int)))) = sg8 (by8 (A k) i) := by
      have := b8_sg (i_shr (A k) (24 - 8 * (i : Int)))
      have e : i_and (i_shr (A k) (24 - 8 * (i : Int))) 255 = by8 (A k) i := rfl
      rw [e] at this
      rw [this, b8_id (by omega) (by omega)]
    refine b_R_take_3 ⟨fun y => by omega, fun _ => ?_⟩
    simp (disch := omega) only [ok_1 V.1, cr_1_0 V, c2, e8, up_oth, w32_id, true_and]
    refine ⟨fun y => by omega, fun _ => ⟨by omega, by omega, ?_⟩⟩
    rw [show 24 - 8 * (i : Int) + -8 = 24 - 8 * ((i + 1 : Nat) : Int) by omega]
    refine ih _ (EX_upp (EX_upc e1 (by decide)) (by decide)) (by rw [up_same]; omega) fun j j1 j2 => ?_
    rw [up_oth (by omega)]
    by_cases y : j = ((L + 4 * k + i : Nat) : Int)
    · subst y
      rw [up_same, if_pos (by omega), show (((L + 4 * k + i : Nat) : Int) - (L : Int)).toNat = 4 * k + i by omega, show (4 * k + i) / 4 = k by omega, show (4 * k + i) % 4 = i by omega]
    · rw [up_oth (by omega), g j j1 j2]
      by_cases z : (L : Int) ≤ j ∧ j < (L : Int) + 4 * (k : Int) + (i : Int)
      · rw [if_pos z, if_pos (by omega)]
      · rw [if_neg z, if_neg (by omega)]
theorem sp_B_feed {L : Nat} {a b c d e : Int} (V : CW n hr) (P : TPc T h) (eL : h 1 2 = (L : Int)) (hL : L ≤ 700) (h0 : 680 < L → Q (0, -1) n hr h) (h1 : L ≤ 680 → ∀ h1, EX [2] [(1, 2)] h h1 → TPc (fdT T L (fdA a b c d e)) h1 → h1 1 2 = ((L + 20 : Nat) : Int) → Q (0, ((L + 20 : Nat) : Int)) n hr h1) : f_B_feed [(2, 0), (0, a), (0, b), (0, c), (0, d), (0, e)] n hr h Q := by
  apply e_B_feed
  simp (disch := omega) only [ok_0 V.1, cr_0_0 V, eL, w32_id, true_and]
  refine ⟨fun q => ?_, fun q => (by first | exact q_at rfl (h0 (by omega)) | exact (h0 (by omega)))⟩
  have H := h1 (by omega)
  refine sp_R_take (T := T) (L := L) (k := 0) (A := fdA a b c d e) V (by decide) (by omega) eL (fun j j1 j2 => by rw [if_neg (by omega)]; exact (P j j1 j2).2) fun h1 e1 c1 g1 => ?_
  refine ⟨ok_0 V.1, ?_⟩
  rw [(cr_0_0 V).1]
  refine ⟨ok_1 V.1, sp_R_take (T := T) (L := L) (k := 1) (A := fdA a b c d e) V (by decide) (by omega) c1 g1 fun h2 e2 c2 g2 => ?_⟩
  refine ⟨ok_0 V.1, ?_⟩
  rw [(cr_0_0 V).1]
  refine ⟨ok_1 V.1, sp_R_take (T := T) (L := L) (k := 2) (A := fdA a b c d e) V (by decide) (by omega) c2 g2 fun h3 e3 c3 g3 => ?_⟩
  refine ⟨ok_0 V.1, ?_⟩
  rw [(cr_0_0 V).1]
  refine ⟨ok_1 V.1, sp_R_take (T := T) (L := L) (k := 3) (A := fdA a b c d e) V (by decide) (by omega) c3 g3 fun h4 e4 c4 g4 => ?_⟩
  refine ⟨ok_0 V.1, ?_⟩
  rw [(cr_0_0 V).1]
  refine ⟨ok_1 V.1, sp_R_take (T := T) (L := L) (k := 4) (A := fdA a b c d e) V (by decide) (by omega) c4 g4 fun h5 e5 c5 g5 => ?_⟩
  have H5 := H h5 (EX_tr (EX_tr (EX_tr (EX_tr e1 e2) e3) e4) e5) (fun j j1 j2 => ⟨fdT_b (fun j a b => (P j a b).1) j j1 j2, ?_⟩) c5
  · simp only [ok_0 V.1, cr_0_0 V, c5, true_and]
    exact (by first | exact q_at rfl (H5) | exact (H5))
  · rw [g5 j j1 j2]; rfl
theorem dA_row {h1 : HP} (O : dOK s) (D : NTd s h1) : (∀ a : Int, 0 ≤ a → a < 18 → 0 ≤ h1 143 a ∧ h1 143 a ≤ (dM s : Int)) ∧ (∀ a : Int, 0 ≤ a → a < 18 → h1 143 a ≠ 0 → 0 ≤ h1 144 a ∧ h1 144 a ≤ 9) ∧ (∀ a : Int, 0 ≤ a → a < 18 → h1 143 a ≠ 0 → a % 3 < ((dJ s).length : Int)) ∧ (∀ a : Int, 0 ≤ a → a < 24 → 0 ≤ h1 145 a ∧ h1 145 a ≤ 8) ∧ r24 (lT (dM s) (h1 143)) (tM s) ∧ r24 (lO (dM s) (h1 143) (h1 144)) (oM s) := by
  obtain ⟨⟨o1, o2, o3, o4, o5⟩, oA, oB', -⟩ := O
  have ra : ∀ a : Int, 0 ≤ a → a < 18 → (dA s a = -1 ∧ h1 143 a = 0) ∨ (dA s a ≠ -1 ∧ h1 143 a = dA s a / 16 + 1 ∧ h1 144 a = dA s a % 16 ∧ a / 3 < (dM s : Int) ∧ a % 3 < ((dJ s).length : Int) ∧ 0 ≤ dA s a ∧ dA s a / 16 < (dM s : Int) ∧ dA s a % 16 ≤ 9) := fun a a1 a2 => by
    have := D.2.2.2.1 a a1 a2
    rw [Int.zero_add] at this
    rcases oA a a1 (by omega) with q | q
    · exact Or.inl ⟨q, this.1 q⟩
    · have ne : dA s a ≠ -1 := by omega
      exact Or.inr ⟨ne, (this.2 ne).1, (this.2 ne).2, q⟩
  have big : ∀ a : Int, 18 ≤ a → a < 24 → dA s a = -1 := fun a a1 a2 => by
    rcases oA a (by omega) a2 with q | q
    · exact q
    · omega
  refine ⟨fun a a1 a2 => ?_, fun a a1 a2 a3 => ?_, fun a a1 a2 a3 => ?_, fun a a1 a2 => ?_, fun a a1 a2 => ?_, fun a a1 a2 => ?_⟩
  · have := ra a a1 a2; omega
  · have := ra a a1 a2; omega
  · have := ra a a1 a2; omega
  · have := D.2.2.2.2 a a1 a2
    rw [Int.zero_add] at this
    rcases oB' a a1 a2 with q | q
    · have := this.1 q; omega
    · have := (this.2 (by omega)).1; omega
  · unfold lT tM
    by_cases y : a < 18
    · rcases ra a a1 y with q | q
      · rw [if_neg (fun r => r.2 q.2), if_pos q.1]
      · rw [if_pos ⟨q.2.2.2.1, by omega⟩, if_neg q.1]; omega
    · rw [if_neg (fun r => by omega), if_pos (big a (by omega) a2)]
  · unfold lO oM
    by_cases y : a < 18
    · rcases ra a a1 y with q | q
      · rw [if_neg (fun r => r.2 q.2), if_pos q.1]
      · rw [if_pos ⟨q.2.2.2.1, by omega⟩, if_neg q.1]; exact q.2.2.1
    · rw [if_neg (fun r => by omega), if_pos (big a (by omega) a2)]
theorem dB_row {h1 : HP} (O : dOK s) (D : NTd s h1) : r24 (lX (h1 145) (lT (dM s) (h1 143))) (tB s) ∧ r24 (lY (h1 145) (h1 146) (lO (dM s) (h1 143) (h1 144))) (oB s) := by
  have A := dA_row O D
  obtain ⟨⟨o1, o2, o3, o4, o5⟩, oA, oB', -⟩ := O
  have rb : ∀ a : Int, 0 ≤ a → a < 24 → (dB s a = -1 ∧ h1 145 a = 0) ∨ (dB s a ≠ -1 ∧ h1 145 a = dB s a / 16 + 1 ∧ h1 146 a = dB s a % 16 ∧ 0 ≤ dB s a) := fun a a1 a2 => by
    have := D.2.2.2.2 a a1 a2
    rw [Int.zero_add] at this
    rcases oB' a a1 a2 with q | q
    · exact Or.inl ⟨q, this.1 q⟩
    · have ne : dB s a ≠ -1 := by omega
      exact Or.inr ⟨ne, (this.2 ne).1, (this.2 ne).2, q.2.2.1⟩
  refine ⟨fun a a1 a2 => ?_, fun a a1 a2 => ?_⟩
  · unfold lX tB
    rcases rb a a1 a2 with q | q
    · rw [if_neg (fun r => r q.2), if_pos q.1]; exact A.2.2.2.2.1 a a1 a2
    · rw [if_pos (by omega), if_neg q.1]; omega
  · unfold lY oB
    rcases rb a a1 a2 with q | q
    · rw [if_neg (fun r => r q.2), if_pos q.1]; exact A.2.2.2.2.2 a a1 a2
    · rw [if_pos (by omega), if_neg q.1]; exact q.2.2.1
end
