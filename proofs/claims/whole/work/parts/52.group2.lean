-- deps: 18 19 20 21 23 24 25 26 27 28 29 22 30 31 32 33 34 35 36 37 38 39 40 41 42 43 44 45 46 47 48 51
/-! groups behind an input: pure -/
section
variable {S I : Nat} {t o : Int → Int}
def gL (S : Nat) (o : Int → Int) (g i : Nat) : Nat → Nat
  | 0 => g
  | k + 1 => if (gL S o g i k).testBit k = true then mdiff (gL S o g i k) (LK S o (gL S o g i k) k i) else gL S o g i k
def wG (F g : Nat) : Nat := if g = F % 64 ∨ g = F / 64 % 64 ∨ g = F / 4096 % 64 then F else if F % 64 < g then g + F % 64 * 64 + F / 64 % 64 * 4096 else if F / 64 % 64 < g then F % 64 + g * 64 + F / 64 % 64 * 4096 else F % 64 + F / 64 % 64 * 64 + g * 4096
def gN (S : Nat) (t o : Int → Int) (g i nx : Nat) : Nat → Nat
  | 0 => nx
  | k + 1 => if (gL S o g i k).testBit k = true then (if FAz S t (LK S o (gL S o g i k) k i) i = 0 then gN S t o g i nx k else wG (gN S t o g i nx k) (FAz S t (LK S o (gL S o g i k) k i) i)) else gN S t o g i nx k
def gD (S : Nat) (t o : Int → Int) (g i k : Nat) : Prop := ∃ y, y < k ∧ (gL S o g i y).testBit y = true ∧ mrg t (LK S o (gL S o g i y) y i) i
def GN (S : Nat) (t o : Int → Int) (F i : Nat) : Nat := gN S t o (F / 4096 % 64) i (gN S t o (F / 64 % 64) i (gN S t o (F % 64) i 0 S) S) S
def GD (S : Nat) (t o : Int → Int) (F i : Nat) : Prop := gD S t o (F % 64) i S ∨ gD S t o (F / 64 % 64) i S ∨ gD S t o (F / 4096 % 64) i S
noncomputable def GT (S : Nat) (t o : Int → Int) (ap : Bool) (F i : Nat) : Nat := if 262144 ≤ F then 262144 else @ite Nat (ap = true ∧ GD S t o F i) (Classical.propDecidable _) 262144 (GN S t o F i)
theorem GT_d (ap : Bool) (j : Nat) : GT S t o ap 262144 j = 262144 := if_pos (Nat.le_refl _)
theorem gL_tb (g i : Nat) (hg : ∀ x, g.testBit x = true → x < S) : ∀ k x, (gL S o g i k).testBit x = true ↔ g.testBit x = true ∧ ∀ y, y < k → g.testBit y = true → o (3 * (y : Int) + (i : Int)) ≠ o (3 * (x : Int) + (i : Int))
  | 0, x => ⟨fun h => ⟨h, fun y hy => by omega⟩, fun h => h.1⟩
  | k + 1, x => by
    have ih := gL_tb g i hg k
    show (if (gL S o g i k).testBit k = true then mdiff (gL S o g i k) (LK S o (gL S o g i k) k i) else gL S o g i k).testBit x = true ↔ _
    by_cases z : (gL S o g i k).testBit k = true
    · rw [if_pos z, tb_mdiff, Bool.and_eq_true, ih x]
      have zk := (ih k).mp z
      constructor
      · rintro ⟨⟨a, b⟩, c⟩
        refine ⟨a, fun y hy hgy e => ?_⟩
        by_cases w : y = k
        · subst w
          have : (LK S o (gL S o g i y) y i).testBit x = true := LK_tb.mpr ⟨hg x a, (ih x).mpr ⟨a, b⟩, e.symm⟩
          rw [this] at c; cases c
        · exact b y (by omega) hgy e
      · rintro ⟨a, b⟩
        refine ⟨⟨a, fun y hy => b y (by omega)⟩, ?_⟩
        cases h : (LK S o (gL S o g i k) k i).testBit x
        · rfl
        · exact absurd (LK_tb.mp h).2.2.symm (b k (by omega) zk.1)
    · rw [if_neg z, ih x]
      constructor
      · rintro ⟨a, b⟩
        refine ⟨a, fun y hy hgy e => ?_⟩
        by_cases w : y = k
        · subst w
          refine z ((ih y).mpr ⟨hgy, fun v hv hgv e2 => ?_⟩)
          exact b v hv hgv (e2.trans e)
        · exact b y (by omega) hgy e
      · rintro ⟨a, b⟩
        exact ⟨a, fun y hy => b y (by omega)⟩
/-- the first of its output -/
def fstO (o : Int → Int) (g i y : Nat) : Prop := g.testBit y = true ∧ ∀ z, z < y → g.testBit z = true → o (3 * (z : Int) + (i : Int)) ≠ o (3 * (y : Int) + (i : Int))
theorem LK_f {g i k : Nat} (hg : ∀ x, g.testBit x = true → x < S) (h : fstO o g i k) : LK S o (gL S o g i k) k i = LK S o g k i := tb_ext fun x => by
  have a := LK_tb (S := S) (o := o) (set := gL S o g i k) (s := k) (i := i) (x := x)
  have b := LK_tb (S := S) (o := o) (set := g) (s := k) (i := i) (x := x)
  have e : (LK S o (gL S o g i k) k i).testBit x = true ↔ (LK S o g k i).testBit x = true := by
    rw [a, b, gL_tb g i hg]
    constructor
    · rintro ⟨h1, ⟨h2, _⟩, h3⟩; exact ⟨h1, h2, h3⟩
    · rintro ⟨h1, h2, h3⟩
      exact ⟨h1, ⟨h2, fun y hy hgy e => h.2 y hy hgy (e.trans h3)⟩, h3⟩
  cases h1 : (LK S o (gL S o g i k) k i).testBit x <;> cases h2 : (LK S o g k i).testBit x
  · rfl
  · rw [h1, h2] at e; exact absurd (e.mpr rfl) (by decide)
  · rw [h1, h2] at e; exact absurd (e.mp rfl) (by decide)
  · rfl
theorem fst_ex {g i x : Nat} (hx : g.testBit x = true) : ∃ y, fstO o g i y ∧ y ≤ x ∧ o (3 * (y : Int) + (i : Int)) = o (3 * (x : Int) + (i : Int)) := by
  obtain ⟨y, h1, h2⟩ := pk_least (fun y => g.testBit y = true ∧ o (3 * (y : Int) + (i : Int)) = o (3 * (x : Int) + (i : Int))) ⟨x, hx, rfl⟩
  refine ⟨y, ⟨h1.1, fun z hz hgz e => h2 z hz ⟨hgz, e.trans h1.2⟩⟩, Nat.le_of_not_lt fun q => h2 x q ⟨hx, rfl⟩, h1.2⟩
theorem LK_same {g i x y : Nat} (h : o (3 * (y : Int) + (i : Int)) = o (3 * (x : Int) + (i : Int))) : LK S o g y i = LK S o g x i := by
  unfold LK; rw [h]
/-! three fields, in order, each once -/
def memF (F m : Nat) : Prop := m = F % 64 ∨ m = F / 64 % 64 ∨ m = F / 4096 % 64
def okF (F : Nat) : Prop := F < 262144 ∧ (F / 64 % 64 = 0 ∨ F / 64 % 64 < F % 64) ∧ (F / 4096 % 64 = 0 ∨ F / 4096 % 64 < F / 64 % 64)
theorem wG_ok {F g : Nat} (h : okF F) (hg : g < 64) (h0 : g ≠ 0) (h3 : F / 4096 % 64 = 0 ∨ memF F g) : okF (wG F g) ∧ ∀ m, m ≠ 0 → (memF (wG F g) m ↔ memF F m ∨ m = g) := by
  obtain ⟨a1, a2, a3⟩ := h
  unfold wG
  by_cases z : g = F % 64 ∨ g = F / 64 % 64 ∨ g = F / 4096 % 64
  · rw [if_pos z]
    refine ⟨⟨a1, a2, a3⟩, fun m _ => ⟨Or.inl, fun q => ?_⟩⟩
    rcases q with q | q
    · exact q
    · subst q; exact z
  · rw [if_neg z]
    have c0 : F / 4096 % 64 = 0 := h3.elim id fun q => (z q).elim
    generalize ha : F % 64 = a at *
    generalize hb : F / 64 % 64 = b at *
    have la : a < 64 := by omega
    have lb : b < 64 := by omega
    have mem0 : ∀ m, m ≠ 0 → (memF F m ↔ m = a ∨ m = b) := by
      intro m hm
      unfold memF
      rw [ha, hb, c0]
      constructor
      · rintro (q | q | q)
        · exact Or.inl q
        · exact Or.inr q
        · exact (hm q).elim
      · rintro (q | q)
        · exact Or.inl q
        · exact Or.inr (Or.inl q)
    by_cases y : a < g
    · rw [if_pos y]
      have e1 : (g + a * 64 + b * 4096) % 64 = g := by omega
      have e2 : (g + a * 64 + b * 4096) / 64 % 64 = a := by omega
      have e3 : (g + a * 64 + b * 4096) / 4096 % 64 = b := by omega
      refine ⟨⟨by omega, by omega, by omega⟩, fun m hm => ?_⟩
      rw [mem0 m hm]; unfold memF; rw [e1, e2, e3]; omega
    · rw [if_neg y]
      by_cases y2 : b < g
      · rw [if_pos y2]
        have e1 : (a + g * 64 + b * 4096) % 64 = a := by omega
        have e2 : (a + g * 64 + b * 4096) / 64 % 64 = g := by omega
        have e3 : (a + g * 64 + b * 4096) / 4096 % 64 = b := by omega
        refine ⟨⟨by omega, by omega, by omega⟩, fun m hm => ?_⟩
        rw [mem0 m hm]; unfold memF; rw [e1, e2, e3]; omega
      · rw [if_neg y2]
        have e1 : (a + b * 64 + g * 4096) % 64 = a := by omega
        have e2 : (a + b * 64 + g * 4096) / 64 % 64 = b := by omega
        have e3 : (a + b * 64 + g * 4096) / 4096 % 64 = g := by omega
        refine ⟨⟨by omega, by omega, by omega⟩, fun m hm => ?_⟩
        rw [mem0 m hm]; unfold memF; rw [e1, e2, e3]; omega
def noFour (U : Nat → Prop) : Prop := ∀ a b c d, U a → U b → U c → U d → a ≠ b → a ≠ c → a ≠ d → b ≠ c → b ≠ d → c ≠ d → False
theorem gN_ok {U : Nat → Prop} (hno : noFour U) (hS : S ≤ 6) (hc : clo S t) {g i nx : Nat} (hi : i < 3) (hg : ∀ x, g.testBit x = true → x < S) (hx : okF nx) (hxU : ∀ m, m ≠ 0 → memF nx m → U m) (hU : ∀ y, y < S → fstO o g i y → FAz S t (LK S o g y i) i ≠ 0 → U (FAz S t (LK S o g y i) i)) : ∀ k, k ≤ S → okF (gN S t o g i nx k) ∧ ∀ m, m ≠ 0 → (memF (gN S t o g i nx k) m ↔ memF nx m ∨ ∃ y, y < k ∧ fstO o g i y ∧ m = FAz S t (LK S o g y i) i)
  | 0, _ => ⟨hx, fun m hm => ⟨Or.inl, fun q => q.elim id fun ⟨y, hy, _⟩ => by omega⟩⟩
  | k + 1, hk => by
    obtain ⟨i1, i2⟩ := gN_ok hno hS hc hi hg hx hxU hU k (by omega)
    have tbk := gL_tb (S := S) (o := o) g i hg k k
    have same : ¬ (fstO o g i k ∧ FAz S t (LK S o g k i) i ≠ 0) → ∀ m, m ≠ 0 → (memF nx m ∨ (∃ y, y < k ∧ fstO o g i y ∧ m = FAz S t (LK S o g y i) i) ↔ memF nx m ∨ ∃ y, y < k + 1 ∧ fstO o g i y ∧ m = FAz S t (LK S o g y i) i) := by
      intro z m hm
      constructor
      · rintro (q | ⟨y, h1, h2⟩)
        · exact Or.inl q
        · exact Or.inr ⟨y, by omega, h2⟩
      · rintro (q | ⟨y, h1, h2, h3⟩)
        · exact Or.inl q
        · by_cases e : y = k
          · subst e; exact (z ⟨h2, by rw [← h3]; exact hm⟩).elim
          · exact Or.inr ⟨y, by omega, h2, h3⟩
    show okF (if (gL S o g i k).testBit k = true then (if FAz S t (LK S o (gL S o g i k) k i) i = 0 then gN S t o g i nx k else wG (gN S t o g i nx k) (FAz S t (LK S o (gL S o g i k) k i) i)) else gN S t o g i nx k) ∧ ∀ m, m ≠ 0 → (memF (if (gL S o g i k).testBit k = true then (if FAz S t (LK S o (gL S o g i k) k i) i = 0 then gN S t o g i nx k else wG (gN S t o g i nx k) (FAz S t (LK S o (gL S o g i k) k i) i)) else gN S t o g i nx k) m ↔ _)
    by_cases z : (gL S o g i k).testBit k = true
    · have f : fstO o g i k := tbk.mp z
      rw [if_pos z, LK_f hg f]
      by_cases z2 : FAz S t (LK S o g k i) i = 0
      · rw [if_pos z2]
        exact ⟨i1, fun m hm => (i2 m hm).trans (same (fun q => q.2 z2) m hm)⟩
      · rw [if_neg z2]
        have Ug := hU k (by omega) f z2
        have U0 : ∀ m, m ≠ 0 → memF (gN S t o g i nx k) m → U m := by
          intro m hm q
          rcases (i2 m hm).mp q with q | ⟨y, h1, h2, h3⟩
          · exact hxU m hm q
          · rw [h3] at hm ⊢; exact hU y (by omega) h2 hm
        have h3 : gN S t o g i nx k / 4096 % 64 = 0 ∨ memF (gN S t o g i nx k) (FAz S t (LK S o g k i) i) := by
          refine Classical.byContradiction fun q => ?_
          have q1 : gN S t o g i nx k / 4096 % 64 ≠ 0 := fun e => q (Or.inl e)
          have q2 : ¬ memF (gN S t o g i nx k) (FAz S t (LK S o g k i) i) := fun e => q (Or.inr e)
          obtain ⟨b1, b2, b3⟩ := i1
          have n2 : gN S t o g i nx k / 64 % 64 ≠ 0 := by omega
          have n1 : gN S t o g i nx k % 64 ≠ 0 := by omega
          exact hno _ _ _ _ (U0 _ n1 (Or.inl rfl)) (U0 _ n2 (Or.inr (Or.inl rfl))) (U0 _ q1 (Or.inr (Or.inr rfl))) Ug (by omega) (by omega) (fun e => q2 (Or.inl e.symm)) (by omega) (fun e => q2 (Or.inr (Or.inl e.symm))) (fun e => q2 (Or.inr (Or.inr e.symm)))
        obtain ⟨c1, c2⟩ := wG_ok i1 (FAz_lt hS hc hi) z2 h3
        refine ⟨c1, fun m hm => (c2 m hm).trans ?_⟩
        rw [i2 m hm]
        constructor
        · rintro ((q | ⟨y, h1, h2⟩) | q)
          · exact Or.inl q
          · exact Or.inr ⟨y, by omega, h2⟩
          · exact Or.inr ⟨k, by omega, f, q⟩
        · rintro (q | ⟨y, h1, h2, hh⟩)
          · exact Or.inl (Or.inl q)
          · by_cases e : y = k
            · subst e; exact Or.inr hh
            · exact Or.inl (Or.inr ⟨y, by omega, h2, hh⟩)
    · rw [if_neg z]
      exact ⟨i1, fun m hm => (i2 m hm).trans (same (fun q => z (tbk.mpr q.1)) m hm)⟩
end
