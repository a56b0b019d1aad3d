-- deps: 19.num 26.first
/-! bits of a whole number of 32 -/
def bt (x : Int) (i : Nat) : Bool := (Int32.ofInt x).toBitVec.getLsbD i
theorem bt_b (y : Int32) (i : Nat) : bt y.toInt i = y.toBitVec.getLsbD i := by
  unfold bt; rw [Int32.ofInt_toInt]
theorem bt_and (x y : Int) (i : Nat) : bt (i_and x y) i = (bt x i && bt y i) := by
  unfold i_and; rw [bt_b, Int32.toBitVec_and, BitVec.getLsbD_and]; rfl
theorem bt_or (x y : Int) (i : Nat) : bt (i_or x y) i = (bt x i || bt y i) := by
  unfold i_or; rw [bt_b, Int32.toBitVec_or, BitVec.getLsbD_or]; rfl
theorem bt_xor (x y : Int) (i : Nat) : bt (i_xor x y) i = (bt x i != bt y i) := by
  unfold i_xor; rw [bt_b, Int32.toBitVec_xor, BitVec.getLsbD_xor]; rfl
theorem bt_m1 {i : Nat} (h : i < 32) : bt (-1) i = true := by
  have : ∀ i : Nat, i < 32 → bt (-1) i = true := by decide +kernel
  exact this i h
theorem bt_not (x : Int) {i : Nat} (h : i < 32) : bt (i_xor x (-1)) i = !bt x i := by
  rw [bt_xor, bt_m1 h]; cases bt x i <;> rfl
theorem bt_0 (i : Nat) : bt 0 i = false := by
  unfold bt
  rw [show Int32.ofInt 0 = 0 by decide]
  exact BitVec.getLsbD_zero
theorem bt_n (x : Nat) {i : Nat} (h : i < 32) : bt (x : Int) i = x.testBit i := by
  unfold bt
  rw [nI_int]
  show (BitVec.ofNat 32 x).getLsbD i = _
  rw [BitVec.getLsbD_ofNat]
  simp [h]
theorem bt_shl1 {k i : Nat} (hk : k < 32) (hi : i < 32) : bt (i_shl 1 (k : Int)) i = decide (i = k) := by
  have : ∀ k : Nat, k < 32 → ∀ i : Nat, i < 32 → bt (i_shl 1 (k : Int)) i = decide (i = k) := by decide +kernel
  exact this k hk i hi
theorem bt_shr0 (x : Int) {k : Nat} (hk : k < 32) : bt (i_shr x (k : Int)) 0 = bt x k := by
  unfold i_shr
  rw [bt_b, nI_int, Int32.toBitVec_shiftRight]
  have e : (BitVec.smod (nI k &&& 31).toBitVec 32).toNat = k := sh_amt k hk
  show (BitVec.sshiftRight _ (BitVec.smod (nI k &&& 31).toBitVec 32).toNat).getLsbD 0 = _
  rw [e, BitVec.getLsbD_sshiftRight]
  simp [hk, bt]
theorem bt_top (x : Int) {i : Nat} (h : 32 ≤ i) : bt x i = false := BitVec.getLsbD_of_ge _ _ h
theorem bt_ext {x y : Int} (hx : -2147483648 ≤ x ∧ x ≤ 2147483647) (hy : -2147483648 ≤ y ∧ y ≤ 2147483647) (h : ∀ i, i < 32 → bt x i = bt y i) : x = y := by
  have e : Int32.ofInt x = Int32.ofInt y := by
    apply Int32.toBitVec_inj.mp
    exact BitVec.eq_of_getLsbD_eq fun i hi => h i hi
  rw [← of_i32 hx, ← of_i32 hy, e]
theorem i32_r (y : Int32) : -2147483648 ≤ y.toInt ∧ y.toInt ≤ 2147483647 := by
  have h1 := y.minValue_le_toInt
  have h2 := y.toInt_le
  have e1 : Int32.minValue.toInt = -2147483648 := by decide
  have e2 : Int32.maxValue.toInt = 2147483647 := by decide
  omega
theorem or_r (x y : Int) : -2147483648 ≤ i_or x y ∧ i_or x y ≤ 2147483647 := i32_r _
theorem and_r (x y : Int) : -2147483648 ≤ i_and x y ∧ i_and x y ≤ 2147483647 := i32_r _
theorem shl_r (x y : Int) : -2147483648 ≤ i_shl x y ∧ i_shl x y ≤ 2147483647 := i32_r _
theorem and1_b (y : Int) : i_and y 1 = if bt y 0 = true then 1 else 0 := by
  refine bt_ext (and_r _ _) (by split <;> omega) fun i hi => ?_
  have e : bt 1 i = decide (i = 0) := by
    have : ∀ i : Nat, i < 32 → bt 1 i = decide (i = 0) := by decide +kernel
    exact this i hi
  rw [bt_and, e]
  by_cases z : i = 0
  · subst z
    cases h : bt y 0
    · simp [bt_0]
    · simp
      decide +kernel
  · simp [z]
    cases h : bt y 0
    · simp [bt_0]
    · simp [e, z]
/-- a bit is looked at -/
theorem bit_at (x : Int) {k : Nat} (hk : k < 32) : i_and (i_shr x (k : Int)) 1 = if bt x k = true then 1 else 0 := by
  rw [and1_b, bt_shr0 x hk]
theorem bit_n {x k : Nat} (hk : k < 32) : i_and (i_shr (x : Int) (k : Int)) 1 = if x.testBit k = true then 1 else 0 := by
  rw [bit_at _ hk, bt_n x hk]
theorem bit_z {x : Int} {k : Nat} (hk : k < 32) : i_and x (i_shl 1 (k : Int)) = 0 ↔ bt x k = false := by
  constructor
  · intro h
    have := bt_and x (i_shl 1 (k : Int)) k
    rw [h, bt_0, bt_shl1 hk hk] at this
    simpa using this.symm
  · intro h
    refine bt_ext (and_r _ _) (by omega) fun i hi => ?_
    rw [bt_and, bt_shl1 hk hi, bt_0]
    by_cases z : i = k
    · subst z; simp [h]
    · simp [z]
theorem shl1_n {k : Nat} (hk : k < 31) : i_shl 1 (k : Int) = ((2 ^ k : Nat) : Int) := by
  have : ∀ k : Nat, k < 31 → i_shl 1 (k : Int) = ((2 ^ k : Nat) : Int) := by decide +kernel
  exact this k hk
/-- a bit more -/
theorem or_bit {x k : Nat} (hx : x < 2 ^ 31) (hk : k < 31) : i_or (x : Int) (i_shl 1 (k : Int)) = ((x ||| 2 ^ k : Nat) : Int) := by
  rw [shl1_n hk, or_n hx (Nat.pow_lt_pow_right (by decide) hk)]
theorem tb_or (x k i : Nat) : (x ||| 2 ^ k).testBit i = (x.testBit i || decide (i = k)) := by
  rw [Nat.testBit_or, Nat.testBit_two_pow]
  congr 1
  by_cases z : k = i
  · simp [z]
  · simp [z, Ne.symm z]
/-- without a bit -/
def mdiff (x y : Nat) : Nat := x ^^^ (x &&& y)
theorem tb_mdiff (x y i : Nat) : (mdiff x y).testBit i = (x.testBit i && !y.testBit i) := by
  unfold mdiff
  rw [Nat.testBit_xor, Nat.testBit_and]
  cases x.testBit i <;> cases y.testBit i <;> rfl
theorem lt_of_tb {x k : Nat} (h : ∀ i, k ≤ i → x.testBit i = false) : x < 2 ^ k := Nat.lt_pow_two_of_testBit x h
theorem tb_lt {x k i : Nat} (h : x < 2 ^ k) (hi : k ≤ i) : x.testBit i = false := Nat.testBit_lt_two_pow (Nat.lt_of_lt_of_le h (Nat.pow_le_pow_right (by decide) hi))
theorem mdiff_le {x y k : Nat} (h : x < 2 ^ k) : mdiff x y < 2 ^ k := lt_of_tb fun i hi => by rw [tb_mdiff, tb_lt h hi]; rfl
theorem and_not {x y : Nat} (hx : x < 2 ^ 31) : i_and (x : Int) (i_xor (y : Int) (-1)) = ((mdiff x y : Nat) : Int) := by
  have h2 : mdiff x y < 2 ^ 31 := mdiff_le hx
  refine bt_ext (and_r _ _) (by omega) fun i hi => ?_
  rw [bt_and, bt_not _ hi, bt_n _ hi, bt_n _ hi, bt_n _ hi, tb_mdiff]
theorem and_xn {x y : Nat} (hx : x < 2 ^ 31) (hy : y < 2 ^ 31) : i_and (x : Int) (y : Int) = ((x &&& y : Nat) : Int) := and_n hx hy
theorem tb_ext {x y : Nat} (h : ∀ i, x.testBit i = y.testBit i) : x = y := Nat.eq_of_testBit_eq h
theorem tb_0 (i : Nat) : (0 : Nat).testBit i = false := Nat.zero_testBit i
/-- the bits f s of all s with P, below n -/
def orA (P : Nat → Bool) (f : Nat → Nat) : Nat → Nat
  | 0 => 0
  | n + 1 => if P n = true then orA P f n ||| 2 ^ f n else orA P f n
theorem tb_orA (P : Nat → Bool) (f : Nat → Nat) : ∀ n i, ((orA P f n).testBit i = true ↔ ∃ s, s < n ∧ P s = true ∧ f s = i)
  | 0, i => by
    show (0 : Nat).testBit i = true ↔ _
    rw [tb_0]
    exact ⟨fun h => (by cases h), fun ⟨s, h, _⟩ => by omega⟩
  | n + 1, i => by
    have ih := tb_orA P f n i
    show (if P n = true then orA P f n ||| 2 ^ f n else orA P f n).testBit i = true ↔ _
    split
    · rename_i hp
      rw [tb_or, Bool.or_eq_true, ih, decide_eq_true_eq]
      constructor
      · rintro (⟨s, h1, h2⟩ | h)
        · exact ⟨s, by omega, h2⟩
        · exact ⟨n, by omega, hp, h.symm⟩
      · rintro ⟨s, h1, h2, h3⟩
        by_cases z : s = n
        · subst z; exact Or.inr h3.symm
        · exact Or.inl ⟨s, by omega, h2, h3⟩
    · rename_i hp
      rw [ih]
      constructor
      · rintro ⟨s, h1, h2⟩
        exact ⟨s, by omega, h2⟩
      · rintro ⟨s, h1, h2, h3⟩
        by_cases z : s = n
        · subst z; exact (hp h2).elim
        · exact ⟨s, by omega, h2, h3⟩
theorem orA_lt {P : Nat → Bool} {f : Nat → Nat} {k : Nat} {n : Nat} (hf : ∀ s, s < n → P s = true → f s < k) : orA P f n < 2 ^ k := lt_of_tb fun i hi => by
  cases h : (orA P f n).testBit i
  · rfl
  · obtain ⟨s, h1, h2, h3⟩ := (tb_orA P f n i).mp h
    have := hf s h1 h2
    omega
theorem orA_ext {P R : Nat → Bool} {f g : Nat → Nat} : ∀ {n : Nat}, (∀ s, s < n → P s = R s ∧ (P s = true → f s = g s)) → orA P f n = orA R g n
  | 0, _ => rfl
  | n + 1, h => by
    have ih := orA_ext (n := n) fun s hs => h s (by omega)
    have := h n (by omega)
    show (if P n = true then _ else _) = (if R n = true then _ else _)
    rw [ih, ← this.1]
    split
    · rename_i hp; rw [this.2 hp]
    · rfl
/-- how many of the first n -/
def cntB (P : Nat → Bool) : Nat → Nat
  | 0 => 0
  | n + 1 => cntB P n + if P n = true then 1 else 0
theorem cntB_le (P : Nat → Bool) : ∀ n, cntB P n ≤ n
  | 0 => Nat.le_refl 0
  | n + 1 => by
    have := cntB_le P n
    show cntB P n + (if P n = true then 1 else 0) ≤ n + 1
    split <;> omega
theorem cntB_ext {P R : Nat → Bool} : ∀ {n : Nat}, (∀ s, s < n → P s = R s) → cntB P n = cntB R n
  | 0, _ => rfl
  | n + 1, h => by
    show cntB P n + _ = cntB R n + _
    rw [cntB_ext fun s hs => h s (by omega), h n (by omega)]
