-- deps: 18 19 20 26 29 36 38 48 51 9C
/-! bits of a whole number of 64; the reference counts them -/
def lb (x : Int) (i : Nat) : Bool := (Int64.ofInt x).toBitVec.getLsbD i
theorem lb_b (y : Int64) (i : Nat) : lb y.toInt i = y.toBitVec.getLsbD i := by
  unfold lb; rw [Int64.ofInt_toInt]
theorem lb_and (x y : Int) (i : Nat) : lb (l_and x y) i = (lb x i && lb y i) := by
  unfold l_and; rw [lb_b, Int64.toBitVec_and, BitVec.getLsbD_and]; rfl
theorem lb_or (x y : Int) (i : Nat) : lb (l_or x y) i = (lb x i || lb y i) := by
  unfold l_or; rw [lb_b, Int64.toBitVec_or, BitVec.getLsbD_or]; rfl
theorem lb_xor (x y : Int) (i : Nat) : lb (l_xor x y) i = (lb x i != lb y i) := by
  unfold l_xor; rw [lb_b, Int64.toBitVec_xor, BitVec.getLsbD_xor]; rfl
theorem lb_m1 {i : Nat} (h : i < 64) : lb (-1) i = true := by
  have : ∀ i : Nat, i < 64 → lb (-1) i = true := by decide +kernel
  exact this i h
theorem lb_not (x : Int) {i : Nat} (h : i < 64) : lb (l_xor x (-1)) i = !lb x i := by
  rw [lb_xor, lb_m1 h]; cases lb x i <;> rfl
theorem lb_0 (i : Nat) : lb 0 i = false := by
  unfold lb
  rw [show Int64.ofInt 0 = 0 by decide]
  exact BitVec.getLsbD_zero
theorem lb_shl1 {k i : Nat} (hk : k < 64) (hi : i < 64) : lb (l_shl 1 (k : Int)) i = decide (i = k) := by
  have : ∀ k : Nat, k < 64 → ∀ i : Nat, i < 64 → lb (l_shl 1 (k : Int)) i = decide (i = k) := by decide +kernel
  exact this k hk i hi
theorem i64_r (y : Int64) : -9223372036854775808 ≤ y.toInt ∧ y.toInt ≤ 9223372036854775807 := by
  have h1 := y.minValue_le_toInt
  have h2 := y.toInt_le
  have e1 : Int64.minValue.toInt = -9223372036854775808 := by decide
  have e2 : Int64.maxValue.toInt = 9223372036854775807 := by decide
  omega
theorem l_and_r (x y : Int) : -9223372036854775808 ≤ l_and x y ∧ l_and x y ≤ 9223372036854775807 := i64_r _
def U6 (x : Int) : Nat := (Int64.ofInt x).toBitVec.toNat
theorem U6_lt (x : Int) : U6 x < 2 ^ 64 := (Int64.ofInt x).toBitVec.isLt
theorem U6_lb (x : Int) (i : Nat) : lb x i = (U6 x).testBit i := by
  unfold lb U6; rw [BitVec.testBit_toNat]
theorem U6_0 {x : Int} (hx : -9223372036854775808 ≤ x ∧ x ≤ 9223372036854775807) : U6 x = 0 ↔ x = 0 := by
  have e : (Int64.ofInt x).toBitVec.toInt = x := of_i64 hx
  constructor
  · intro h
    unfold U6 at h
    rw [BitVec.toInt_eq_toNat_of_lt (by omega), h] at e
    exact e.symm
  · intro h; subst h; rfl
theorem U6_dec {x : Int} (h : 0 < U6 x) : U6 (l_and x (w64 (x - 1))) = (U6 x &&& (U6 x - 1)) := by
  have a := U6_lt x
  have e : U6 (w64 (x - 1)) = U6 x - 1 := by
    unfold U6 w64 at *
    rw [Int64.ofInt_toInt, Int64.ofInt_sub, Int64.toBitVec_sub, BitVec.toNat_sub]
    show (18446744073709551616 - 1 + _) % 18446744073709551616 = _
    omega
  rw [← e]
  unfold U6 l_and
  rw [Int64.ofInt_toInt, Int64.toBitVec_and, BitVec.toNat_and]
theorem cntB_1 (P : Nat → Bool) (n : Nat) : cntB P (n + 1) = (if P 0 = true then 1 else 0) + cntB (fun i => P (1 + i)) n := by
  rw [show n + 1 = 1 + n by omega, cntB_add]
  congr 1
  exact Nat.zero_add _
theorem cnt_low : ∀ n u, 0 < u → u < 2 ^ n → cntB (fun i => (u &&& (u - 1)).testBit i) n + 1 = cntB (fun i => u.testBit i) n
  | 0, u, h, h2 => by rw [Nat.pow_zero] at h2; omega
  | n + 1, u, h, h2 => by
    rw [Nat.pow_succ] at h2
    have sh : ∀ x i : Nat, x.testBit (1 + i) = (x / 2).testBit i := fun x i => by
      rw [show x / 2 = x / 2 ^ 1 from rfl, tb_div]
    have dv : (u &&& (u - 1)) / 2 = (u / 2 &&& (u - 1) / 2) := Nat.and_div_two_pow (n := 1)
    have md : (u &&& (u - 1)) % 2 = (u % 2 &&& (u - 1) % 2) := Nat.and_mod_two_pow (n := 1)
    rw [cntB_1, cntB_1]
    simp only [sh, dv, Nat.testBit_zero, md]
    by_cases z : u % 2 = 0
    · have ih := cnt_low n (u / 2) (by omega) (by omega)
      rw [show (u - 1) / 2 = u / 2 - 1 by omega, show (u - 1) % 2 = 1 by omega, z, show (0 &&& 1 : Nat) = 0 from rfl]
      simp only [Nat.zero_ne_one, decide_false, Bool.false_eq_true, if_false]
      omega
    · rw [show (u - 1) / 2 = u / 2 by omega, show (u - 1) % 2 = 0 by omega, show u % 2 = 1 by omega, Nat.and_self, show (1 &&& 0 : Nat) = 0 from rfl]
      simp only [Nat.zero_ne_one, decide_false, Bool.false_eq_true, if_false, decide_true, if_true]
      omega
section
variable {Q : RP} {n : Nat} {hr h : HP}
theorem cntB_z {P : Nat → Bool} (h : ∀ i, P i = false) : ∀ n, cntB P n = 0
  | 0 => rfl
  | n + 1 => by rw [cntB_s, cntB_z h n, h n]; rfl
theorem sp_N_bits {v : Int} (hv : -9223372036854775808 ≤ v ∧ v ≤ 9223372036854775807) (hQ : Q (0, (cntB (fun i => lb v i) 64 : Int)) n hr h) : f_N_bits [(1, v)] n hr h Q := by
  apply e_N_bits
  have key : ∀ c : Nat, ∀ w : Int, (-9223372036854775808 ≤ w ∧ w ≤ 9223372036854775807) → cntB (fun i => (U6 w).testBit i) 64 = c → ∀ k : Nat, k + c = cntB (fun i => lb v i) 64 → p_N_bits_4 (n + 0) (ai_q 0 n Q) (k : Int) w n hr h := by
    intro c
    induction c with
    | zero =>
      intro w hw hc k hk
      have z : U6 w = 0 := by
        rcases Nat.eq_zero_or_pos (U6 w) with q | q
        · exact q
        · have := cnt_low 64 (U6 w) q (U6_lt w); omega
      rw [Nat.add_zero] at hk
      rw [← hk] at hQ
      exact b_N_bits_4 ⟨fun _ => q_at rfl hQ, fun q => (q (lcmp0.mpr ((U6_0 hw).mp z))).elim⟩
    | succ c ih =>
      intro w hw hc k hk
      have p : 0 < U6 w := by
        rcases Nat.eq_zero_or_pos (U6 w) with q | q
        · rw [q, cntB_z (fun i => Nat.zero_testBit i)] at hc; omega
        · exact q
      have cl := cnt_low 64 (U6 w) p (U6_lt w)
      have c64 := cntB_le (fun i => lb v i) 64
      refine b_N_bits_4 ⟨fun q => ?_, fun _ => ?_⟩
      · have := (U6_0 hw).mpr (lcmp0.mp q); omega
      · rw [w32_id (by omega) (by omega)]
        exact ih (l_and w (w64 (w - 1))) (l_and_r _ _) (by rw [U6_dec p]; omega) (k + 1) (by omega)
  refine key _ v hv ?_ 0 (by rw [Nat.zero_add])
  exact cntB_ext fun i hi => (U6_lb v i).symm
end
