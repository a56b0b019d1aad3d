-- deps: 18 19 20 26 29
/-! a text's pieces, pure -/
def isB (c : Int) : Bool := decide (c = 10 ∨ c = 32)
def isL (c : Int) : Bool := decide (97 ≤ c ∧ c ≤ 122)
def isD (c : Int) : Bool := decide (48 ≤ c ∧ c ≤ 57)
theorem isB_i {c : Int} : isB c = true ↔ c = 10 ∨ c = 32 := by unfold isB; exact decide_eq_true_iff
theorem isL_i {c : Int} : isL c = true ↔ 97 ≤ c ∧ c ≤ 122 := by unfold isL; exact decide_eq_true_iff
theorem isD_i {c : Int} : isD c = true ↔ 48 ≤ c ∧ c ≤ 57 := by unfold isD; exact decide_eq_true_iff
/-- where a run ends -/
def rn (P : Int → Bool) (T : Int → Int) (n a : Nat) : Nat := if h : a < n ∧ P (T (a : Int)) = true then rn P T n (a + 1) else a
termination_by n - a
decreasing_by omega
section
variable {P : Int → Bool} {T : Int → Int} {n : Nat}
theorem rn_y {a : Nat} (h : a < n ∧ P (T (a : Int)) = true) : rn P T n a = rn P T n (a + 1) := by rw [rn, dif_pos h]
theorem rn_n {a : Nat} (h : ¬ (a < n ∧ P (T (a : Int)) = true)) : rn P T n a = a := by rw [rn, dif_neg h]
theorem rn_b : ∀ (m a : Nat), n - a = m → a ≤ n → a ≤ rn P T n a ∧ rn P T n a ≤ n ∧ (rn P T n a < n → ¬ P (T ((rn P T n a : Nat) : Int)) = true) ∧ ∀ i, a ≤ i → i < rn P T n a → P (T (i : Int)) = true
  | 0, a, h1, h2 => by
    rw [rn_n (by omega)]
    exact ⟨Nat.le_refl _, h2, fun q => by omega, fun i a b => by omega⟩
  | m + 1, a, h1, h2 => by
    by_cases h : a < n ∧ P (T (a : Int)) = true
    · rw [rn_y h]
      obtain ⟨b1, b2, b3, b4⟩ := rn_b m (a + 1) (by omega) (by omega)
      refine ⟨by omega, b2, b3, fun i i1 i2 => ?_⟩
      by_cases z : i = a
      · subst z; exact h.2
      · exact b4 i (by omega) i2
    · rw [rn_n h]
      exact ⟨Nat.le_refl _, h2, fun q z => h ⟨q, z⟩, fun i a b => by omega⟩
theorem rn_bd {a : Nat} (h : a ≤ n) : a ≤ rn P T n a ∧ rn P T n a ≤ n ∧ (rn P T n a < n → ¬ P (T ((rn P T n a : Nat) : Int)) = true) ∧ ∀ i, a ≤ i → i < rn P T n a → P (T (i : Int)) = true := rn_b _ a rfl h
theorem rn_in {a i : Nat} (h : a ≤ n) (h1 : a ≤ i) (h2 : i ≤ rn P T n a) : rn P T n i = rn P T n a := by
  have key : ∀ d, a + d ≤ rn P T n a → rn P T n (a + d) = rn P T n a := by
    intro d
    induction d with
    | zero => intro _; rfl
    | succ d ih =>
      intro q
      have b := rn_bd (P := P) (T := T) h
      rw [← ih (by omega), rn_y (a := a + d) ⟨by omega, b.2.2.2 _ (by omega) (by omega)⟩]
      rfl
  have := key (i - a) (by omega)
  rwa [show a + (i - a) = i by omega] at this
end
/-- a name's number, letter by letter; nothing behind e -/
def nv (T : Int → Int) (p e : Nat) : Nat → Nat
  | 0 => 0
  | k + 1 => 32 * nv T p e k + if p + k < e then (T ((p : Int) + (k : Int)) - 96).toNat else 0
theorem nv_lt {T : Int → Int} {p e : Nat} (h : ∀ i, p ≤ i → i < e → isL (T (i : Int)) = true) : ∀ k, nv T p e k < 32 ^ k
  | 0 => Nat.lt_of_lt_of_eq Nat.zero_lt_one (Nat.pow_zero 32).symm
  | k + 1 => by
    have ih := nv_lt h k
    show 32 * nv T p e k + (if _ then _ else _) < _
    rw [Nat.pow_succ]
    split
    · next q =>
      have := isL_i.mp (h (p + k) (by omega) q)
      rw [show ((p + k : Nat) : Int) = (p : Int) + (k : Int) by omega] at this
      obtain ⟨c, hc⟩ := Int.eq_ofNat_of_zero_le (show 0 ≤ T ((p : Int) + (k : Int)) - 96 by omega)
      rw [hc, Int.toNat_natCast]
      omega
    · omega
theorem nv_y {T : Int → Int} {p e k : Nat} (h : p + k < e) : nv T p e (k + 1) = 32 * nv T p e k + (T ((p : Int) + (k : Int)) - 96).toNat := by
  show 32 * nv T p e k + (if _ then _ else _) = _
  rw [if_pos h]
theorem nv_n {T : Int → Int} {p e k : Nat} (h : ¬ p + k < e) : nv T p e (k + 1) = 32 * nv T p e k := by
  show 32 * nv T p e k + (if _ then _ else _) = _
  rw [if_neg h]; rfl
theorem nv_pad {T : Int → Int} {p e m : Nat} (h : e ≤ p + m) : ∀ d, nv T p e (m + d) = nv T p e m * 32 ^ d
  | 0 => by simp
  | d + 1 => by
    have ih := nv_pad (T := T) h d
    show nv T p e (m + d + 1) = _
    rw [nv_n (by omega), ih, Nat.pow_succ, Nat.mul_comm 32, Nat.mul_assoc]
/-- a numeral's number; it grows no more beyond 99999 -/
def nb (T : Int → Int) (p : Nat) : Nat → Nat
  | 0 => 0
  | k + 1 => if 99999 < nb T p k then nb T p k else 10 * nb T p k + (T ((p : Int) + (k : Int)) - 48).toNat
theorem nb_s (T : Int → Int) (p k : Nat) : nb T p (k + 1) = if 99999 < nb T p k then nb T p k else 10 * nb T p k + (T ((p : Int) + (k : Int)) - 48).toNat := rfl
theorem nb_lt {T : Int → Int} {p : Nat} : ∀ k, (∀ i, p ≤ i → i < p + k → isD (T (i : Int)) = true) → nb T p k < 1000000
  | 0, _ => show 0 < 1000000 by omega
  | k + 1, h => by
    have ih := nb_lt (T := T) (p := p) k fun i a b => h i a (by omega)
    rw [nb_s]
    split
    · exact ih
    · next q =>
      have := isD_i.mp (h (p + k) (by omega) (by omega))
      rw [show ((p + k : Nat) : Int) = (p : Int) + (k : Int) by omega] at this
      obtain ⟨c, hc⟩ := Int.eq_ofNat_of_zero_le (show 0 ≤ T ((p : Int) + (k : Int)) - 48 by omega)
      rw [hc, Int.toNat_natCast]
      omega
/-- a piece: its kind (0 none is left, 1 a word or a name, 2 a number, 3 ;, 4 none of these), its value, its place, what is behind it -/
abbrev TK := Nat × Nat × Nat × Nat
def tkL (T : Int → Int) (n p : Nat) : TK := (if rn isL T n p ≤ p + 6 then 1 else 4, nv T p (rn isL T n p) 6, p, rn isL T n p)
def tkD (T : Int → Int) (n p : Nat) : TK := (2, nb T p (rn isD T n p - p), p, rn isD T n p)
def tkO (T : Int → Int) (p : Nat) : TK := (if T (p : Int) = 59 then 3 else 4, 0, p, p + 1)
def tkP (T : Int → Int) (n p : Nat) : TK := if n ≤ p then (0, 0, p, p) else if isL (T (p : Int)) = true then tkL T n p else if isD (T (p : Int)) = true then tkD T n p else tkO T p
def tok (T : Int → Int) (n a : Nat) : TK := tkP T n (rn isB T n a)
theorem tkP_0 {T : Int → Int} {n p : Nat} (h : n ≤ p) : tkP T n p = (0, 0, p, p) := if_pos h
theorem tkP_L {T : Int → Int} {n p : Nat} (h : p < n) (l : isL (T (p : Int)) = true) : tkP T n p = tkL T n p := by
  unfold tkP; rw [if_neg (by omega), if_pos l]
theorem tkP_D {T : Int → Int} {n p : Nat} (h : p < n) (l : ¬ isL (T (p : Int)) = true) (d : isD (T (p : Int)) = true) : tkP T n p = tkD T n p := by
  unfold tkP; rw [if_neg (by omega), if_neg l, if_pos d]
theorem tkP_O {T : Int → Int} {n p : Nat} (h : p < n) (l : ¬ isL (T (p : Int)) = true) (d : ¬ isD (T (p : Int)) = true) : tkP T n p = tkO T p := by
  unfold tkP; rw [if_neg (by omega), if_neg l, if_neg d]
theorem tok_b {T : Int → Int} {n a : Nat} (ha : a ≤ n) : (tok T n a).2.2.1 ≤ n ∧ a ≤ (tok T n a).2.2.1 ∧ (tok T n a).2.2.1 ≤ (tok T n a).2.2.2 ∧ (tok T n a).2.2.2 ≤ n ∧ ((tok T n a).1 ≠ 0 → (tok T n a).2.2.1 < (tok T n a).2.2.2) ∧ (tok T n a).1 ≤ 4 ∧ ((tok T n a).1 = 1 → (tok T n a).2.1 < 1073741824) ∧ ((tok T n a).1 = 2 → (tok T n a).2.1 < 1000000) := by
  have b := rn_bd (P := isB) (T := T) ha
  unfold tok
  generalize rn isB T n a = p at *
  rcases Nat.lt_or_ge p n with h | h
  · by_cases l : isL (T (p : Int)) = true
    · rw [tkP_L h l]
      have e := rn_bd (P := isL) (T := T) (n := n) (a := p) (by omega)
      have e2 : p < rn isL T n p := by
        have := rn_bd (P := isL) (T := T) (n := n) (a := p + 1) (by omega)
        rw [rn_y ⟨h, l⟩]; omega
      have v := nv_lt (T := T) (p := p) (e := rn isL T n p) e.2.2.2 6
      unfold tkL
      dsimp only
      refine ⟨by omega, by omega, by omega, e.2.1, fun _ => e2, ?_, fun _ => by have : (32 : Nat) ^ 6 = 1073741824 := by decide
                                                                                omega, fun q => ?_⟩
      · split <;> omega
      · exfalso; revert q; split <;> omega
    · by_cases d : isD (T (p : Int)) = true
      · rw [tkP_D h l d]
        have e := rn_bd (P := isD) (T := T) (n := n) (a := p) (by omega)
        have e2 : p < rn isD T n p := by
          have := rn_bd (P := isD) (T := T) (n := n) (a := p + 1) (by omega)
          rw [rn_y ⟨h, d⟩]; omega
        have v := nb_lt (T := T) (p := p) (rn isD T n p - p) fun i i1 i2 => e.2.2.2 i i1 (by omega)
        unfold tkD
        dsimp only
        exact ⟨by omega, by omega, by omega, e.2.1, fun _ => e2, by omega, fun q => by omega, fun _ => v⟩
      · rw [tkP_O h l d]
        unfold tkO
        dsimp only
        refine ⟨by omega, by omega, by omega, by omega, fun _ => by omega, ?_, fun q => ?_, fun q => ?_⟩
        · split <;> omega
        · exfalso; revert q; split <;> omega
        · exfalso; revert q; split <;> omega
  · rw [tkP_0 h]
    dsimp only
    exact ⟨by omega, by omega, by omega, by omega, fun q => absurd rfl q, by omega, fun q => by omega, fun q => by omega⟩
/-- which word of the language a name's number is -/
def wi (v : Nat) : Int := if v = 658559136 then 0 else if v = 317216384 then 1 else if v = 452531200 then 2 else if v = 52527104 then 3 else if v = 695520896 then 4 else if v = 193611808 then 5 else if v = 642945024 then 6 else -1
