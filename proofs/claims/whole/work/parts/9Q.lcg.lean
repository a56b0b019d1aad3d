-- deps: 18 19 20 26 29
/-! words by chance, pure -/
def lcg (x : Int) : Int := i_and (w32 (w32 (x * 1103515245) + 12345)) 2147483647
theorem lcg_b (x : Int) : 0 ≤ lcg x ∧ lcg x ≤ 2147483647 := by
  have r := and_r (w32 (w32 (x * 1103515245) + 12345)) 2147483647
  refine ⟨?_, r.2⟩
  unfold lcg i_and
  generalize Int32.ofInt (w32 (w32 (x * 1103515245) + 12345)) = y
  have e : (y &&& Int32.ofInt 2147483647).toBitVec.msb = false := by
    rw [Int32.toBitVec_and, BitVec.msb_and]
    have : (Int32.ofInt 2147483647).toBitVec.msb = false := by decide
    rw [this, Bool.and_false]
  have : (y &&& Int32.ofInt 2147483647).toInt = (y &&& Int32.ofInt 2147483647).toBitVec.toInt := rfl
  rw [this, BitVec.toInt_eq_toNat_of_msb e]
  exact Int.natCast_nonneg _
def lcd (I : Nat) (x : Int) : Nat := (lcg x / 65536 % (I : Int)).toNat
theorem lcd_e {I : Nat} (hI : 0 < I) (x : Int) : lcg x / 65536 % (I : Int) = (lcd I x : Int) ∧ lcd I x < I := by
  have b := lcg_b x
  have h1 : 0 ≤ lcg x / 65536 % (I : Int) := Int.emod_nonneg _ (by omega)
  have h2 : lcg x / 65536 % (I : Int) < (I : Int) := Int.emod_lt_of_pos _ (by omega)
  unfold lcd
  omega
def chS (I : Nat) (x : Int) : Nat → Nat × Int
  | 0 => (0, x)
  | i + 1 => (4 * (chS I x i).1 + lcd I (chS I x i).2 + 1, lcg (chS I x i).2)
theorem chS_ok {I : Nat} (hI : 0 < I) (h3 : I ≤ 3) (x : Int) : ∀ i, wok I (chS I x i).1 ∧ wlen (chS I x i).1 = i
  | 0 => ⟨wok_0 I, wlen_0⟩
  | i + 1 => by
    have ih := chS_ok hI h3 x i
    have d := (lcd_e hI (chS I x i).2).2
    show wok I (4 * (chS I x i).1 + lcd I (chS I x i).2 + 1) ∧ wlen (4 * (chS I x i).1 + lcd I (chS I x i).2 + 1) = i + 1
    rw [wok_cc (by omega), wlen_c _ (by omega)]
    exact ⟨⟨d, ih.1⟩, by omega⟩
/-- how many of so many words are answered otherwise; the number drawn last -/
def chR (I m : Nat) (t o t' o' : Int → Int) (x : Int) : Nat → Nat × Int
  | 0 => (0, x)
  | w + 1 => ((chR I m t o t' o' x w).1 + if aS t o 0 (chS I (chR I m t o t' o' x w).2 m).1 = aS t' o' 0 (chS I (chR I m t o t' o' x w).2 m).1 then 0 else 1, (chS I (chR I m t o t' o' x w).2 m).2)
theorem chR_le {I m : Nat} {t o t' o' : Int → Int} {x : Int} : ∀ w, (chR I m t o t' o' x w).1 ≤ w
  | 0 => Nat.le_refl _
  | w + 1 => by
    have ih := chR_le (I := I) (m := m) (t := t) (o := o) (t' := t') (o' := o') (x := x) w
    show _ + (if _ then _ else _) ≤ _
    split <;> omega
