-- deps: 18 19 20 26 29 34 40 48 51 62
/-! places that are reached, by sweeps -/
def rvA (t : Int → Int) (p x : Nat) : Nat → Nat
  | 0 => x
  | i + 1 => if (rvA t p x i).testBit p = true then rvA t p x i ||| 2 ^ (t (3 * (p : Int) + (i : Int))).toNat else rvA t p x i
def rvP (I : Nat) (t : Int → Int) (x : Nat) : Nat → Nat
  | 0 => x
  | p + 1 => rvA t p (rvP I t x p) I
def rvR (N I : Nat) (t : Int → Int) (x : Nat) : Nat → Nat
  | 0 => x
  | r + 1 => rvP I t (rvR N I t x r) N
theorem rvA_in {t : Int → Int} {p x b : Nat} (hb : x.testBit b = true) : ∀ i, (rvA t p x i).testBit b = true
  | 0 => hb
  | i + 1 => by
    have ih := rvA_in (t := t) (p := p) hb i
    show (if _ then _ else _ : Nat).testBit b = true
    split
    · rw [Nat.testBit_or, ih]; rfl
    · exact ih
theorem rvA_no {t : Int → Int} {p x : Nat} (hb : ¬ x.testBit p = true) : ∀ i, rvA t p x i = x
  | 0 => rfl
  | i + 1 => by
    have ih := rvA_no (t := t) hb i
    show (if _ then _ else _ : Nat) = x
    rw [ih, if_neg hb]
theorem rvA_st {t : Int → Int} {p x i : Nat} (hb : ¬ (rvA t p x i).testBit p = true) (j : Nat) : rvA t p x j = rvA t p x i := by
  have h : ¬ x.testBit p = true := fun q => hb (rvA_in q i)
  rw [rvA_no h, rvA_no h]
theorem rvA_lt {N : Nat} {t : Int → Int} (hc : clo N t) {p x : Nat} (hp : p < N) (hx : x < 2 ^ N) : ∀ i, i ≤ 3 → rvA t p x i < 2 ^ N
  | 0, _ => hx
  | i + 1, hi => by
    have ih := rvA_lt hc hp hx i (by omega)
    have c := hc (p : Int) i (by omega) (by omega) (by omega)
    show (if _ then _ else _ : Nat) < 2 ^ N
    split
    · exact Nat.or_lt_two_pow ih (Nat.pow_lt_pow_right (by decide) (by omega))
    · exact ih
theorem rvP_in {I : Nat} {t : Int → Int} {x b : Nat} (hb : x.testBit b = true) : ∀ p, (rvP I t x p).testBit b = true
  | 0 => hb
  | p + 1 => rvA_in (rvP_in hb p) I
theorem rvP_lt {N I : Nat} (hI : I ≤ 3) {t : Int → Int} (hc : clo N t) {x : Nat} (hx : x < 2 ^ N) : ∀ p, p ≤ N → rvP I t x p < 2 ^ N
  | 0, _ => hx
  | p + 1, hp => rvA_lt hc (by omega) (rvP_lt hI hc hx p (by omega)) I hI
theorem rvR_lt {N I : Nat} (hI : I ≤ 3) {t : Int → Int} (hc : clo N t) {x : Nat} (hx : x < 2 ^ N) : ∀ r, rvR N I t x r < 2 ^ N
  | 0 => hx
  | r + 1 => rvP_lt hI hc (rvR_lt hI hc hx r) N (Nat.le_refl _)
theorem rv_grow {N x y : Nat} (hx : x < 2 ^ N) (hy : y < 2 ^ N) (h : ∀ b, x.testBit b = true → y.testBit b = true) (hn : y ≠ x) : cntB (fun i => x.testBit i) N < cntB (fun i => y.testBit i) N := by
  obtain ⟨b, h1, h2⟩ : ∃ b, ¬ x.testBit b = true ∧ y.testBit b = true := Classical.byContradiction fun q => hn (tb_ext fun i => by
    cases h3 : x.testBit i with
    | true => exact h i h3
    | false =>
      cases h4 : y.testBit i with
      | false => rfl
      | true => exact absurd ⟨i, by rw [h3]; decide, h4⟩ q)
  have hb : b < N := Nat.lt_of_not_le fun q => by rw [tb_lt hy q] at h2; cases h2
  exact (cntB_lt (P := fun i => x.testBit i) (R := fun i => y.testBit i) h h1 h2 N).2 hb
def rv0 (N : Nat) : Nat := if 0 < N then 1 else 0
theorem rv0_lt (N : Nat) : rv0 N < 2 ^ N := by
  unfold rv0
  split
  · exact Nat.one_lt_two_pow (by omega)
  · exact Nat.pow_pos (by decide)
theorem rv_fix {N I : Nat} (hN : 0 < N) (hI : I ≤ 3) {t : Int → Int} (hc : clo N t) : ∀ r, rvR N I t (rv0 N) (r + 1) = rvR N I t (rv0 N) r ∨ r + 1 ≤ cntB (fun i => (rvR N I t (rv0 N) r).testBit i) N
  | 0 => by
    refine Or.inr ?_
    have h1 : (fun i => (rvR N I t (rv0 N) 0).testBit i) 0 = true := by
      show (rv0 N).testBit 0 = true
      unfold rv0; rw [if_pos hN]; rfl
    have := (cntB_lt (P := fun _ => false) (R := fun i => (rvR N I t (rv0 N) 0).testBit i) (b := 0) (fun _ q => by cases q) (by decide) h1 N).2 hN
    omega
  | r + 1 => by
    rcases rv_fix hN hI hc r with h | h
    · refine Or.inl ?_
      show rvP I t (rvR N I t (rv0 N) (r + 1)) N = _
      rw [h]; exact h
    · by_cases z : rvR N I t (rv0 N) (r + 1) = rvR N I t (rv0 N) r
      · refine Or.inl ?_
        show rvP I t (rvR N I t (rv0 N) (r + 1)) N = _
        rw [z]; exact z
      · have := rv_grow (rvR_lt hI hc (rv0_lt N) r) (rvR_lt hI hc (rv0_lt N) (r + 1)) (fun b hb => rvP_in hb N) z
        exact Or.inr (by omega)
/-- all that is reached -/
def RCH (N I : Nat) (t : Int → Int) : Nat := rvR N I t (rv0 N) N
theorem RCH_ge {N I : Nat} (hI : I ≤ 3) {t : Int → Int} (hc : clo N t) : ∀ k, rvR N I t (rv0 N) (N + k) = RCH N I t
  | 0 => rfl
  | k + 1 => by
    have ih := RCH_ge hI hc k
    show rvP I t (rvR N I t (rv0 N) (N + k)) N = _
    rw [ih]
    by_cases hN : 0 < N
    · rcases rv_fix hN hI hc N with h | h
      · exact h
      · have := cntB_le (fun i => (rvR N I t (rv0 N) N).testBit i) N
        omega
    · have e : N = 0 := by omega
      subst e; rfl
theorem RCH_8 {N I : Nat} (hN : N ≤ 8) (hI : I ≤ 3) {t : Int → Int} (hc : clo N t) : rvR N I t (rv0 N) 8 = RCH N I t := by
  have := RCH_ge hI hc (8 - N)
  rwa [show N + (8 - N) = 8 by omega] at this
theorem RCH_lt {N I : Nat} (hN : N ≤ 8) (hI : I ≤ 3) {t : Int → Int} (hc : clo N t) : RCH N I t < 256 := by
  have := rvR_lt hI hc (rv0_lt N) N
  have h2 : (2 : Nat) ^ N ≤ 2 ^ 8 := Nat.pow_le_pow_right (by decide) hN
  unfold RCH; omega
theorem rvR_256 {N I : Nat} (hN : N ≤ 8) (hI : I ≤ 3) {t : Int → Int} (hc : clo N t) (r : Nat) : rvR N I t (rv0 N) r < 256 := by
  have := rvR_lt hI hc (rv0_lt N) r
  have h2 : (2 : Nat) ^ N ≤ 2 ^ 8 := Nat.pow_le_pow_right (by decide) hN
  omega
theorem rvP_256 {N I : Nat} (hN : N ≤ 8) (hI : I ≤ 3) {t : Int → Int} (hc : clo N t) (r : Nat) {p : Nat} (hp : p ≤ N) : rvP I t (rvR N I t (rv0 N) r) p < 256 := by
  have := rvP_lt hI hc (rvR_lt hI hc (rv0_lt N) r) p hp
  have h2 : (2 : Nat) ^ N ≤ 2 ^ 8 := Nat.pow_le_pow_right (by decide) hN
  omega
theorem rvA_256 {N I : Nat} (hN : N ≤ 8) (hI : I ≤ 3) {t : Int → Int} (hc : clo N t) (r : Nat) {p i : Nat} (hp : p < N) (hi : i ≤ I) : rvA t p (rvP I t (rvR N I t (rv0 N) r) p) i < 256 := by
  have := rvA_lt hc hp (rvP_lt hI hc (rvR_lt hI hc (rv0_lt N) r) p (by omega)) i (by omega)
  have h2 : (2 : Nat) ^ N ≤ 2 ^ 8 := Nat.pow_le_pow_right (by decide) hN
  omega
/-- the arcs that two machines don't share -/
def dfA (t o t' o' : Int → Int) (p : Nat) : Nat → Nat
  | 0 => 0
  | i + 1 => dfA t o t' o' p i + if t' (3 * (p : Int) + (i : Int)) ≠ t (3 * (p : Int) + (i : Int)) ∨ o' (3 * (p : Int) + (i : Int)) ≠ o (3 * (p : Int) + (i : Int)) then 1 else 0
def dfP (I : Nat) (t o t' o' : Int → Int) : Nat → Nat
  | 0 => 0
  | p + 1 => dfP I t o t' o' p + dfA t o t' o' p I
theorem dfA_le {t o t' o' : Int → Int} {p : Nat} : ∀ i, dfA t o t' o' p i ≤ i
  | 0 => Nat.le_refl _
  | i + 1 => by
    have ih := dfA_le (t := t) (o := o) (t' := t') (o' := o') (p := p) i
    show _ + (if _ then _ else _) ≤ _
    split <;> omega
theorem dfP_le {I : Nat} (hI : I ≤ 3) {t o t' o' : Int → Int} : ∀ p, dfP I t o t' o' p ≤ 3 * p
  | 0 => Nat.le_refl _
  | p + 1 => by
    have ih := dfP_le hI (t := t) (o := o) (t' := t') (o' := o') p
    have a := dfA_le (t := t) (o := o) (t' := t') (o' := o') (p := p) I
    show _ + _ ≤ _
    omega
