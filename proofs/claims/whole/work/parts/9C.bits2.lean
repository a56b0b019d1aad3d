-- deps: 18 19 20 26 29 38 48 51
/-! how many bits, of all 32, of all 64 -/
/-- the bits as a number -/
def U (x : Int) : Nat := (Int32.ofInt x).toBitVec.toNat
theorem U_lt (x : Int) : U x < 4294967296 := (Int32.ofInt x).toBitVec.isLt
theorem U_and (x y : Int) : U (i_and x y) = U x &&& U y := by
  unfold U i_and; rw [Int32.ofInt_toInt, Int32.toBitVec_and, BitVec.toNat_and]
theorem U_w (x : Int) : U (w32 x) = U x := by
  unfold U w32; rw [Int32.ofInt_toInt]
theorem U_add (x y : Int) : U (x + y) = (U x + U y) % 4294967296 := by
  unfold U; rw [Int32.ofInt_add, Int32.toBitVec_add, BitVec.toNat_add]
theorem U_sub (x y : Int) (h : U y ≤ U x) : U (x - y) = U x - U y := by
  have a := U_lt x
  have b := U_lt y
  unfold U at *
  rw [Int32.ofInt_sub, Int32.toBitVec_sub, BitVec.toNat_sub]
  show (4294967296 - _ + _) % 4294967296 = _
  omega
theorem U_ushr (x : Int) {k : Nat} (hk : k < 32) : U (i_ushr x (k : Int)) = U x / 2 ^ k := by
  unfold U i_ushr
  rw [Int32.ofInt_toInt, nI_int]
  show ((Int32.ofInt x).toUInt32 >>> ((nI k).toUInt32 &&& Int32.toUInt32 31)).toBitVec.toNat = _
  rw [UInt32.toBitVec_shiftRight]
  have e := sh_amu k hk
  rw [BitVec.ushiftRight_eq', e, BitVec.toNat_ushiftRight, Nat.shiftRight_eq_div_pow]
  rfl
theorem U_small {x : Int} (hx : -2147483648 ≤ x ∧ x ≤ 2147483647) (h : U x < 2147483648) : x = (U x : Int) := by
  have e : (Int32.ofInt x).toInt = x := of_i32 hx
  have b : (Int32.ofInt x).toBitVec.toInt = x := e
  unfold U at h ⊢
  rw [BitVec.toInt_eq_toNat_of_lt (by omega)] at b
  exact b.symm
theorem U_bt (x : Int) (i : Nat) : bt x i = (U x).testBit i := by
  unfold bt U; rw [BitVec.testBit_toNat]
/-- masks of n bytes -/
def mskN (m : Nat) : Nat → Nat
  | 0 => 0
  | n + 1 => m + 256 * mskN m n
theorem and_cat {a b c d : Nat} (ha : a < 256) (hc : c < 256) : (a + 256 * b) &&& (c + 256 * d) = (a &&& c) + 256 * (b &&& d) := by
  have h1 := Nat.and_mod_two_pow (a := a + 256 * b) (b := c + 256 * d) (n := 8)
  have h2 := Nat.and_div_two_pow (a := a + 256 * b) (b := c + 256 * d) (n := 8)
  rw [show (2 : Nat) ^ 8 = 256 from rfl] at h1 h2
  rw [show (a + 256 * b) % 256 = a by omega, show (c + 256 * d) % 256 = c by omega] at h1
  rw [show (a + 256 * b) / 256 = b by omega, show (c + 256 * d) / 256 = d by omega] at h2
  omega
def s1 (a : Nat) : Nat := a - (a / 2 &&& 85)
def s2 (a : Nat) : Nat := (a &&& 51) + (a / 4 &&& 51)
def s3 (a : Nat) : Nat := (a + a / 16) &&& 15
def S1 (n x : Nat) : Nat := x - (x / 2 &&& mskN 85 n)
def S2 (n x : Nat) : Nat := (x &&& mskN 51 n) + (x / 4 &&& mskN 51 n)
def S3 (n x : Nat) : Nat := (x + x / 16) &&& mskN 15 n
theorem S1_c {n a r : Nat} (ha : a < 256) : S1 (n + 1) (a + 256 * r) = s1 a + 256 * S1 n r := by
  have k : ∀ a : Nat, a < 256 → ∀ b : Nat, b < 2 → (a / 2 + 128 * b) &&& 85 = a / 2 &&& 85 := by decide +kernel
  have e : (a + 256 * r) / 2 = (a / 2 + 128 * (r % 2)) + 256 * (r / 2) := by omega
  unfold S1 s1
  rw [show mskN 85 (n + 1) = 85 + 256 * mskN 85 n from rfl, e, and_cat (by omega) (by decide), k a ha _ (Nat.mod_lt _ (by decide))]
  have := Nat.and_le_left (n := a / 2) (m := 85)
  have := Nat.and_le_left (n := r / 2) (m := mskN 85 n)
  omega
theorem S2_c {n a r : Nat} (ha : a < 256) : S2 (n + 1) (a + 256 * r) = s2 a + 256 * S2 n r := by
  have k : ∀ a : Nat, a < 256 → ∀ b : Nat, b < 4 → (a / 4 + 64 * b) &&& 51 = a / 4 &&& 51 := by decide +kernel
  have e : (a + 256 * r) / 4 = (a / 4 + 64 * (r % 4)) + 256 * (r / 4) := by omega
  unfold S2 s2
  rw [show mskN 51 (n + 1) = 51 + 256 * mskN 51 n from rfl, e, and_cat ha (by decide), and_cat (by omega) (by decide), k a ha _ (Nat.mod_lt _ (by decide))]
  omega
theorem S3_c {n a r : Nat} (ha : a ≤ 68) (hr : r % 16 ≤ 4) : S3 (n + 1) (a + 256 * r) = s3 a + 256 * S3 n r := by
  have k : ∀ a : Nat, a < 69 → ∀ b : Nat, b < 5 → (a + (a / 16 + 16 * b)) &&& 15 = (a + a / 16) &&& 15 := by decide +kernel
  have e : a + 256 * r + (a + 256 * r) / 16 = (a + (a / 16 + 16 * (r % 16))) + 256 * (r + r / 16) := by omega
  unfold S3 s3
  rw [show mskN 15 (n + 1) = 15 + 256 * mskN 15 n from rfl, e, and_cat (by omega) (by decide), k a (by omega) _ (by omega)]
/-- bits of a byte -/
def pb (a : Nat) : Nat := s3 (s2 (s1 a))
theorem pb_f : ∀ a : Nat, a < 256 → s1 a < 256 ∧ s2 (s1 a) ≤ 68 ∧ s2 (s1 a) % 16 ≤ 4 ∧ pb a ≤ 8 ∧ pb a = cntB (fun i => a.testBit i) 8 := by decide +kernel
theorem S_c {n a r : Nat} (ha : a < 256) (h : S2 n (S1 n r) % 16 ≤ 4) : S3 (n + 1) (S2 (n + 1) (S1 (n + 1) (a + 256 * r))) = pb a + 256 * S3 n (S2 n (S1 n r)) ∧ S2 (n + 1) (S1 (n + 1) (a + 256 * r)) % 16 ≤ 4 := by
  obtain ⟨f1, f2, f3, f4, f5⟩ := pb_f a ha
  rw [S1_c ha, S2_c f1, S3_c f2 h]
  exact ⟨rfl, by omega⟩
theorem S_0 : S3 0 (S2 0 (S1 0 0)) = 0 ∧ S2 0 (S1 0 0) % 16 ≤ 4 := ⟨rfl, by decide⟩
theorem S_4 {a b c d : Nat} (ha : a < 256) (hb : b < 256) (hc : c < 256) (hd : d < 256) : S3 4 (S2 4 (S1 4 (a + 256 * (b + 256 * (c + 256 * (d + 256 * 0)))))) = pb a + 256 * (pb b + 256 * (pb c + 256 * pb d)) := by
  have x0 := S_0
  have x1 := S_c (n := 0) hd x0.2
  have x2 := S_c (n := 1) hc x1.2
  have x3 := S_c (n := 2) hb x2.2
  have x4 := S_c (n := 3) ha x3.2
  rw [x4.1, x3.1, x2.1, x1.1, x0.1]
  omega
theorem cntB_add (P : Nat → Bool) (a : Nat) : ∀ b, cntB P (a + b) = cntB P a + cntB (fun i => P (a + i)) b
  | 0 => rfl
  | b + 1 => by
    rw [show a + (b + 1) = (a + b) + 1 by omega, cntB_s, cntB_s, cntB_add P a b]; omega
theorem cnt_byte {a r m : Nat} (ha : a < 256) : cntB (fun i => (a + 256 * r).testBit i) (8 + m) = cntB (fun i => a.testBit i) 8 + cntB (fun i => r.testBit i) m := by
  rw [cntB_add]
  congr 1
  · refine cntB_ext fun i hi => ?_
    have : (a + 256 * r) % 2 ^ 8 = a := by show (a + 256 * r) % 256 = a; omega
    rw [show a.testBit i = ((a + 256 * r) % 2 ^ 8).testBit i by rw [this], Nat.testBit_mod_two_pow]
    simp [hi]
  · refine cntB_ext fun i hi => ?_
    have : (a + 256 * r) / 2 ^ 8 = r := by show (a + 256 * r) / 256 = r; omega
    rw [show r.testBit i = ((a + 256 * r) / 2 ^ 8).testBit i by rw [this], tb_div]
theorem pc_4 {a b c d : Nat} (ha : a < 256) (hb : b < 256) (hc : c < 256) (hd : d < 256) : cntB (fun i => (a + 256 * (b + 256 * (c + 256 * (d + 256 * 0)))).testBit i) 32 = pb a + pb b + pb c + pb d := by
  rw [show (32 : Nat) = 8 + (8 + (8 + (8 + 0))) from rfl, cnt_byte ha, cnt_byte hb, cnt_byte hc, cnt_byte hd]
  rw [(pb_f a ha).2.2.2.2, (pb_f b hb).2.2.2.2, (pb_f c hc).2.2.2.2, (pb_f d hd).2.2.2.2]
  show _ + (_ + (_ + (_ + 0))) = _
  omega
theorem bcX_32 {x : Int} : bcX x = (cntB (fun i => bt x i) 32 : Int) := by
  have hu := U_lt x
  obtain ⟨a, b, c, d, ha, hb, hc, hd, e⟩ : ∃ a b c d : Nat, a < 256 ∧ b < 256 ∧ c < 256 ∧ d < 256 ∧ U x = a + 256 * (b + 256 * (c + 256 * (d + 256 * 0))) := ⟨U x % 256, U x / 256 % 256, U x / 65536 % 256, U x / 16777216, by omega, by omega, by omega, by omega, by omega⟩
  have q := pc_4 ha hb hc hd
  have s := S_4 ha hb hc hd
  rw [← e] at q s
  have fa := (pb_f a ha).2.2.2.1
  have fb := (pb_f b hb).2.2.2.1
  have fc := (pb_f c hc).2.2.2.1
  have fd := (pb_f d hd).2.2.2.1
  have hq : cntB (fun i => bt x i) 32 = pb a + pb b + pb c + pb d := by
    rw [← q]; exact cntB_ext fun i hi => U_bt x i
  rw [hq]
  -- the steps
  have t1 : U (w32 (x - i_and (i_ushr x 1) 1431655765)) = S1 4 (U x) := by
    have g : U (i_and (i_ushr x 1) 1431655765) = (U x / 2 &&& mskN 85 4) := by
      rw [U_and, show (1 : Int) = ((1 : Nat) : Int) from rfl, U_ushr x (by decide)]; rfl
    have l := Nat.and_le_left (n := U x / 2) (m := mskN 85 4)
    rw [U_w, U_sub _ _ (by rw [g]; omega), g]; rfl
  unfold bcX
  generalize w32 (x - i_and (i_ushr x 1) 1431655765) = y1 at *
  have l1 : U y1 ≤ U x := by rw [t1]; unfold S1; omega
  have t2 : U (w32 (i_and y1 858993459 + i_and (i_ushr y1 2) 858993459)) = S2 4 (U y1) := by
    have g1 : U (i_and y1 858993459) = (U y1 &&& mskN 51 4) := by rw [U_and]; rfl
    have g2 : U (i_and (i_ushr y1 2) 858993459) = (U y1 / 4 &&& mskN 51 4) := by
      rw [U_and, show (2 : Int) = ((2 : Nat) : Int) from rfl, U_ushr y1 (by decide)]; rfl
    have m1 := Nat.and_le_right (n := U y1) (m := mskN 51 4)
    have m2 := Nat.and_le_right (n := U y1 / 4) (m := mskN 51 4)
    have mm : mskN 51 4 = 858993459 := rfl
    rw [U_w, U_add, g1, g2]
    unfold S2
    rw [Nat.mod_eq_of_lt (by omega)]
  generalize w32 (i_and y1 858993459 + i_and (i_ushr y1 2) 858993459) = y2 at *
  have l2 : U y2 ≤ 1717986918 := by
    rw [t2]; unfold S2
    have m1 := Nat.and_le_right (n := U y1) (m := mskN 51 4)
    have m2 := Nat.and_le_right (n := U y1 / 4) (m := mskN 51 4)
    have mm : mskN 51 4 = 858993459 := rfl
    omega
  have t3 : U (i_and (w32 (y2 + i_ushr y2 4)) 252645135) = S3 4 (U y2) := by
    rw [U_and, U_w, U_add, show (4 : Int) = ((4 : Nat) : Int) from rfl, U_ushr y2 (by decide)]
    unfold S3
    rw [show (2 : Nat) ^ 4 = 16 from rfl, Nat.mod_eq_of_lt (by omega)]; rfl
  generalize i_and (w32 (y2 + i_ushr y2 4)) 252645135 = y3 at *
  rw [t2, t1, s] at t3
  have t4 : U (w32 (y3 + i_ushr y3 8)) = U y3 + U y3 / 256 := by
    rw [U_w, U_add, show (8 : Int) = ((8 : Nat) : Int) from rfl, U_ushr y3 (by decide), show (2 : Nat) ^ 8 = 256 from rfl, Nat.mod_eq_of_lt (by omega)]
  generalize w32 (y3 + i_ushr y3 8) = y4 at *
  have t5 : U (w32 (y4 + i_ushr y4 16)) = U y4 + U y4 / 65536 := by
    rw [U_w, U_add, show (16 : Int) = ((16 : Nat) : Int) from rfl, U_ushr y4 (by decide), show (2 : Nat) ^ 16 = 65536 from rfl, Nat.mod_eq_of_lt (by omega)]
  generalize w32 (y4 + i_ushr y4 16) = y5 at *
  have t6 : U (i_and y5 63) = pb a + pb b + pb c + pb d := by
    rw [U_and, show U 63 = 2 ^ 6 - 1 from rfl, Nat.and_two_pow_sub_one_eq_mod, show (2 : Nat) ^ 6 = 64 from rfl]
    generalize pb a = A at *
    generalize pb b = B at *
    generalize pb c = C at *
    generalize pb d = D at *
    have h3 : U y3 / 256 = B + 256 * (C + 256 * D) := by omega
    have h4 : U y4 = (A + B) + 256 * ((B + C) + 256 * ((C + D) + 256 * D)) := by omega
    have h5 : U y4 / 65536 = (C + D) + 256 * D := by omega
    have h6 : U y5 = (A + B + C + D) + 64 * (4 * ((B + C + D) + 256 * ((C + D) + 256 * D))) := by omega
    rw [h6, Nat.add_mul_mod_self_left, Nat.mod_eq_of_lt (by omega)]
  rw [U_small (and_r y5 63) (by rw [t6]; omega), t6]
section
variable {Q : RP} {n : Nat} {hr h : HP}
theorem sp_J_bits {x : Int} (hQ : Q (0, (cntB (fun i => bt x i) 32 : Int)) n hr h) : f_J_bitCount [(0, x)] n hr h Q := by
  apply e_J_bitCount
  have e := bcX_32 (x := x)
  unfold bcX at e
  rw [e]
  exact q_at rfl hQ
end
