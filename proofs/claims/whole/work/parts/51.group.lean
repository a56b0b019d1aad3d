-- deps: 18 19 20 21 23 24 25 26 27 28 29 22 30 31 32 33 34 35 36 37 38 39 40 41 42 43 44 45 46 47 48
/-! groups of states with like answers: pure -/
section
variable {S I : Nat} {t o : Int → Int}
/-- those of a set that answer as s does -/
def LK (S : Nat) (o : Int → Int) (set s i : Nat) : Nat := orA (fun x => set.testBit x && decide (o (3 * (x : Int) + (i : Int)) = o (3 * (s : Int) + (i : Int)))) (fun x => x) S
def FAs (S : Nat) (t : Int → Int) (set i : Nat) : Nat := orA (fun x => set.testBit x) (fun x => (t (3 * (x : Int) + (i : Int))).toNat) S
def FAz (S : Nat) (t : Int → Int) (set i : Nat) : Nat := if popc (FAs S t set i) < 2 then 0 else FAs S t set i
theorem LK_tb {set s i x : Nat} : (LK S o set s i).testBit x = true ↔ x < S ∧ set.testBit x = true ∧ o (3 * (x : Int) + (i : Int)) = o (3 * (s : Int) + (i : Int)) := by
  unfold LK
  rw [tb_orA]
  constructor
  · rintro ⟨y, h1, h2, h3⟩
    have h3' : y = x := h3
    subst h3'
    rw [Bool.and_eq_true, decide_eq_true_eq] at h2
    exact ⟨h1, h2.1, h2.2⟩
  · rintro ⟨h1, h2, h3⟩
    exact ⟨x, h1, by rw [Bool.and_eq_true, decide_eq_true_eq]; exact ⟨h2, h3⟩, rfl⟩
theorem LK_lt (hS : S ≤ 6) (set s i : Nat) : LK S o set s i < 64 := orA_lt (k := 6) fun x h1 _ => by show x < 6; omega
theorem FAs_tb {set i y : Nat} : (FAs S t set i).testBit y = true ↔ ∃ x, x < S ∧ set.testBit x = true ∧ (t (3 * (x : Int) + (i : Int))).toNat = y := tb_orA _ _ _ _
theorem FAs_lt (hS : S ≤ 6) (hc : clo S t) {set i : Nat} (hi : i < 3) : FAs S t set i < 64 := orA_lt (k := 6) fun x h1 _ => by
  have := hc (x : Int) i (by omega) (by omega) hi
  show (t (3 * (x : Int) + (i : Int))).toNat < 6
  omega
theorem FAz_lt (hS : S ≤ 6) (hc : clo S t) {set i : Nat} (hi : i < 3) : FAz S t set i < 64 := by
  unfold FAz; split
  · omega
  · exact FAs_lt hS hc hi
def two (m : Nat) : Prop := ∃ x y, x ≠ y ∧ m.testBit x = true ∧ m.testBit y = true
theorem popc_two {m : Nat} (hm : m < 2 ^ 32) : ¬ popc m < 2 ↔ two m := by
  rw [popc_2 hm]
  constructor
  · intro h
    refine Classical.byContradiction fun q => h fun a b ha hb => Classical.byContradiction fun z => q ⟨a, b, z, ha, hb⟩
  · rintro ⟨x, y, h1, h2, h3⟩ h
    exact h1 (h x y h2 h3)
theorem two_ne {m : Nat} (h : two m) : m ≠ 0 := by
  rintro rfl
  obtain ⟨x, y, _, h2, _⟩ := h
  rw [tb_0] at h2; cases h2
theorem FAz_two (hS : S ≤ 6) (hc : clo S t) {set i : Nat} (hi : i < 3) : (two (FAs S t set i) → FAz S t set i = FAs S t set i) ∧ (¬ two (FAs S t set i) → FAz S t set i = 0) := by
  have := FAs_lt hS hc (set := set) hi
  have p := popc_two (m := FAs S t set i) (by omega)
  unfold FAz
  constructor
  · intro h; rw [if_neg (p.mpr h)]
  · intro h; rw [if_pos (Classical.byContradiction fun q => h (p.mp q))]
theorem FAz_ne (hS : S ≤ 6) (hc : clo S t) {set i : Nat} (hi : i < 3) (h : FAz S t set i ≠ 0) : two (FAs S t set i) ∧ FAz S t set i = FAs S t set i := by
  obtain ⟨a, b⟩ := FAz_two hS hc (set := set) hi
  by_cases z : two (FAs S t set i)
  · exact ⟨z, a z⟩
  · exact (h (b z)).elim
/-! how many bits, by and by -/
theorem popc_or (M b : Nat) (hb : b < 32) : popc (M ||| 2 ^ b) = popc M + if M.testBit b = true then 0 else 1 := by
  have key : ∀ n, cntB (fun i => (M ||| 2 ^ b).testBit i) n = cntB (fun i => M.testBit i) n + if b < n ∧ ¬ M.testBit b = true then 1 else 0 := by
    intro n
    induction n with
    | zero => rw [if_neg (by omega)]; rfl
    | succ n ih =>
      show cntB _ n + (if (M ||| 2 ^ b).testBit n = true then 1 else 0) = cntB _ n + (if M.testBit n = true then 1 else 0) + _
      rw [ih, tb_or]
      by_cases z : n = b
      · subst z
        have e1 : (n == n || M.testBit n) = true := by simp
        have e2 : (M.testBit n || decide (n = n)) = true := by simp
        rw [if_neg (show ¬ (n < n ∧ ¬ M.testBit n = true) by omega), if_pos e2]
        by_cases y : M.testBit n = true
        · rw [if_pos y, if_neg (show ¬ (n < n + 1 ∧ ¬ M.testBit n = true) from fun q => q.2 y)]
        · rw [if_neg y, if_pos (show n < n + 1 ∧ ¬ M.testBit n = true from ⟨by omega, y⟩)]
      · have e : (M.testBit n || decide (n = b)) = M.testBit n := by simp [z]
        have e2 : (if b < n ∧ ¬ M.testBit b = true then 1 else 0) = (if b < n + 1 ∧ ¬ M.testBit b = true then 1 else 0 : Nat) := by
          by_cases y : b < n ∧ ¬ M.testBit b = true
          · rw [if_pos y, if_pos ⟨by omega, y.2⟩]
          · rw [if_neg y, if_neg (fun q => y ⟨by omega, q.2⟩)]
        rw [e, e2]; omega
  show cntB _ 32 = cntB _ 32 + _
  rw [key]
  by_cases y : M.testBit b = true
  · rw [if_neg (fun q => q.2 y), if_pos y]
  · rw [if_pos ⟨hb, y⟩, if_neg y]
theorem orA_s {P : Nat → Bool} {f : Nat → Nat} {n : Nat} : orA P f (n + 1) = if P n = true then orA P f n ||| 2 ^ f n else orA P f n := rfl
theorem cntB_s {P : Nat → Bool} {n : Nat} : cntB P (n + 1) = cntB P n + if P n = true then 1 else 0 := rfl
/-- what is told apart as far as n stays apart -/
theorem orA_cnt {P : Nat → Bool} {f : Nat → Nat} (hf : ∀ x, f x < 32) : ∀ n, popc (orA P f n) ≤ cntB P n ∧ (popc (orA P f n) < cntB P n ↔ ∃ x y, x < y ∧ y < n ∧ P x = true ∧ P y = true ∧ f x = f y)
  | 0 => ⟨by show cntB (fun i => (0 : Nat).testBit i) 32 ≤ 0; decide, ⟨fun h => absurd h (by show ¬ _ < 0; omega), fun ⟨x, y, h1, h2, _⟩ => by omega⟩⟩
  | n + 1 => by
    obtain ⟨i1, i2⟩ := orA_cnt hf n
    have ext : (∃ x y, x < y ∧ y < n + 1 ∧ P x = true ∧ P y = true ∧ f x = f y) ↔ (∃ x y, x < y ∧ y < n ∧ P x = true ∧ P y = true ∧ f x = f y) ∨ (P n = true ∧ ∃ x, x < n ∧ P x = true ∧ f x = f n) := by
      constructor
      · rintro ⟨x, y, h1, h2, h3, h4, h5⟩
        by_cases z : y = n
        · subst z; exact Or.inr ⟨h4, x, h1, h3, h5⟩
        · exact Or.inl ⟨x, y, h1, by omega, h3, h4, h5⟩
      · rintro (⟨x, y, h1, h2, h3⟩ | ⟨h4, x, h1, h3, h5⟩)
        · exact ⟨x, y, h1, by omega, h3⟩
        · exact ⟨x, n, h1, by omega, h3, h4, h5⟩
    rw [ext, orA_s, cntB_s]
    have tb := tb_orA P f n (f n)
    have po := popc_or (orA P f n) (f n) (hf n)
    by_cases z : P n = true
    · rw [if_pos z, if_pos z, po]
      clear po
      generalize popc (orA P f n) = u at i1 i2 ⊢
      generalize cntB P n = v at i1 i2 ⊢
      by_cases y : (orA P f n).testBit (f n) = true
      · rw [if_pos y]
        exact ⟨Nat.le_succ_of_le i1, ⟨fun _ => Or.inr ⟨z, tb.mp y⟩, fun _ => Nat.lt_succ_of_le i1⟩⟩
      · rw [if_neg y]
        refine ⟨Nat.succ_le_succ i1, ⟨fun h => Or.inl (i2.mp (Nat.lt_of_succ_lt_succ h)), fun h => ?_⟩⟩
        rcases h with h | ⟨_, x, a, b, c⟩
        · exact Nat.succ_lt_succ (i2.mpr h)
        · exact (y (tb.mpr ⟨x, a, b, c⟩)).elim
    · rw [if_neg z, if_neg z]
      clear po
      generalize popc (orA P f n) = u at i1 i2 ⊢
      generalize cntB P n = v at i1 i2 ⊢
      exact ⟨i1, ⟨fun h => Or.inl (i2.mp h), fun h => by
        rcases h with h | ⟨a, _⟩
        · exact i2.mpr h
        · exact (z a).elim⟩⟩
/-- two of a set that come together -/
def mrg (t : Int → Int) (set i : Nat) : Prop := ∃ x y, x ≠ y ∧ set.testBit x = true ∧ set.testBit y = true ∧ t (3 * (x : Int) + (i : Int)) = t (3 * (y : Int) + (i : Int))
theorem popc_cnt {m n : Nat} (hm : m < 2 ^ n) (hn : n ≤ 32) : popc m = cntB (fun i => m.testBit i) n := by
  have : ∀ d, cntB (fun i => m.testBit i) (n + d) = cntB (fun i => m.testBit i) n := by
    intro d
    induction d with
    | zero => rfl
    | succ d ih =>
      show cntB _ (n + d) + _ = _
      have e : (fun i => m.testBit i) (n.add d) = false := tb_lt hm (Nat.le_add_right n d)
      rw [ih, e]; rfl
  have := this (32 - n)
  rw [show n + (32 - n) = 32 by omega] at this
  exact this
theorem mrg_iff (hS : S ≤ 6) (hc : clo S t) {set i : Nat} (hi : i < 3) (hset : ∀ x, set.testBit x = true → x < S) : (max 1 (popc (FAz S t set i)) < popc set) ↔ mrg t set i := by
  have hset2 : set < 2 ^ S := lt_of_tb fun j hj => by
    cases h : set.testBit j
    · rfl
    · have := hset j h; omega
  have e1 : popc set = cntB (fun x => set.testBit x) S := popc_cnt hset2 (by omega)
  obtain ⟨a1, a2⟩ := orA_cnt (P := fun x => set.testBit x && decide (x < S)) (f := fun x => if x < S then (t (3 * (x : Int) + (i : Int))).toNat else 0) (fun x => by
    show (if x < S then (t (3 * (x : Int) + (i : Int))).toNat else 0) < 32
    split
    · have := hc (x : Int) i (by omega) (by omega) hi; omega
    · omega) S
  have e2 : orA (fun x => set.testBit x && decide (x < S)) (fun x => if x < S then (t (3 * (x : Int) + (i : Int))).toNat else 0) S = FAs S t set i := orA_ext fun s hs => ⟨by simp [hs], fun _ => if_pos hs⟩
  have e3 : cntB (fun x => set.testBit x && decide (x < S)) S = cntB (fun x => set.testBit x) S := cntB_ext fun s hs => by simp [hs]
  rw [e2, e3, ← e1] at a1 a2
  have m1 : mrg t set i ↔ ∃ x y, x < y ∧ y < S ∧ (set.testBit x && decide (x < S)) = true ∧ (set.testBit y && decide (y < S)) = true ∧ (if x < S then (t (3 * (x : Int) + (i : Int))).toNat else 0) = if y < S then (t (3 * (y : Int) + (i : Int))).toNat else 0 := by
    have nat : ∀ x y : Nat, x < S → y < S → ((t (3 * (x : Int) + (i : Int))).toNat = (t (3 * (y : Int) + (i : Int))).toNat ↔ t (3 * (x : Int) + (i : Int)) = t (3 * (y : Int) + (i : Int))) := fun x y hx hy => by
      have := hc (x : Int) i (by omega) (by omega) hi
      have := hc (y : Int) i (by omega) (by omega) hi
      omega
    constructor
    · rintro ⟨x, y, h1, h2, h3, h4⟩
      have hx := hset x h2
      have hy := hset y h3
      rcases Nat.lt_or_ge x y with z | z
      · exact ⟨x, y, z, hy, by simp [h2, hx], by simp [h3, hy], by rw [if_pos hx, if_pos hy]; exact (nat x y hx hy).mpr h4⟩
      · exact ⟨y, x, by omega, hx, by simp [h3, hy], by simp [h2, hx], by rw [if_pos hx, if_pos hy]; exact (nat y x hy hx).mpr h4.symm⟩
    · rintro ⟨x, y, h1, h2, h3, h4, h5⟩
      rw [Bool.and_eq_true, decide_eq_true_eq] at h3 h4
      rw [if_pos h3.2, if_pos h4.2] at h5
      exact ⟨x, y, by omega, h3.1, h4.1, (nat x y h3.2 h4.2).mp h5⟩
  rw [m1, ← a2]
  obtain ⟨z1, z2⟩ := FAz_two hS hc (set := set) hi
  have lt := FAs_lt hS hc (set := set) hi
  have ptw := popc_two (m := FAs S t set i) (by omega)
  have p0 : popc 0 = 0 := by decide
  by_cases y : two (FAs S t set i)
  · rw [z1 y]
    have := ptw.mpr y
    omega
  · rw [z2 y, p0]
    have le : popc (FAs S t set i) < 2 := Classical.byContradiction fun q => y (ptw.mp q)
    by_cases y2 : popc set < 2
    · -- one or none: as many ends
      refine ⟨fun q => by omega, fun q => ?_⟩
      have : popc set = 1 := by omega
      obtain ⟨x, y3, h1, h2, h3, h4, h5⟩ := (a2.mp q)
      rw [Bool.and_eq_true, decide_eq_true_eq] at h3 h4
      have := (popc_2 (x := set) (by have : 2 ^ S ≤ 2 ^ 6 := Nat.pow_le_pow_right (by decide) hS; omega)).mp y2 x y3 h3.1 h4.1
      omega
    · omega
end
