-- deps: 18 19 20 21 23 24 25 26 27 28 29 22 30 31 32 33 34 35 36 37 38 39 40 41 47 48 50 51 52 53 55 58
/-! the reference: trees -/
/-- who is at which place at a depth -/
def VK (S : Nat) (h : HP) (D set : Nat) : Prop := (∀ a : Nat, a < 6 → h 168 (6 * (D : Int) + (a : Int)) = -1 ∨ ∃ p : Nat, p < S ∧ h 168 (6 * (D : Int) + (a : Int)) = (p : Int)) ∧ (∀ a b : Nat, a < b → b < 6 → h 168 (6 * (D : Int) + (a : Int)) = h 168 (6 * (D : Int) + (b : Int)) → h 168 (6 * (D : Int) + (a : Int)) = -1) ∧ ∀ p : Nat, set.testBit p = true ↔ ∃ a : Nat, a < 6 ∧ h 168 (6 * (D : Int) + (a : Int)) = (p : Int)
/-- those that answer so -/
def AL (o : Int → Int) (h : HP) (D i : Nat) (v : Int) (a : Nat) : Prop := h 168 (6 * (D : Int) + (a : Int)) ≠ -1 ∧ o (3 * h 168 (6 * (D : Int) + (a : Int)) + (i : Int)) = v
theorem cntP_2 {P : Nat → Prop} : ∀ {n : Nat}, 2 ≤ cntP P n ↔ ∃ a b, a < b ∧ b < n ∧ P a ∧ P b
  | 0 => ⟨fun h => absurd h (by show ¬ 2 ≤ 0; omega), fun ⟨a, b, h1, h2, _⟩ => by omega⟩
  | n + 1 => by
    have one : ∀ m, 1 ≤ cntP P m ↔ ∃ a, a < m ∧ P a := by
      intro m
      induction m with
      | zero => exact ⟨fun h => absurd h (by show ¬ 1 ≤ 0; omega), fun ⟨a, h, _⟩ => by omega⟩
      | succ m ih =>
        by_cases z : P m
        · rw [cntP_y z]; exact ⟨fun _ => ⟨m, by omega, z⟩, fun _ => by omega⟩
        · rw [cntP_n z, ih]
          exact ⟨fun ⟨a, h1, h2⟩ => ⟨a, by omega, h2⟩, fun ⟨a, h1, h2⟩ => ⟨a, by
            by_cases e : a = m
            · subst e; exact (z h2).elim
            · omega, h2⟩⟩
    have ih := cntP_2 (P := P) (n := n)
    by_cases z : P n
    · rw [cntP_y z]
      constructor
      · intro h
        obtain ⟨a, h1, h2⟩ := (one n).mp (by omega)
        exact ⟨a, n, h1, by omega, h2, z⟩
      · rintro ⟨a, b, h1, h2, h3, h4⟩
        have := (one n).mpr ⟨a, by omega, h3⟩
        omega
    · rw [cntP_n z, ih]
      constructor
      · rintro ⟨a, b, h1, h2, h3, h4⟩; exact ⟨a, b, h1, by omega, h3, h4⟩
      · rintro ⟨a, b, h1, h2, h3, h4⟩
        refine ⟨a, b, h1, ?_, h3, h4⟩
        by_cases e : b = n
        · subst e; exact (z h4).elim
        · omega
section
variable {Q : RP} {n : Nat} {hr h : HP} {S I : Nat} {t o : Int → Int}
theorem sp_N_answersSo {D set i : Nat} {v : Int} (W : NW n hr) (T : TV S I t o) (X : NX S I t o h) (hD : D ≤ 7) (hi : i < I) (hV : VK S h D set) (ht : h 169 (D : Int) = (i : Int)) (hh : h 170 (D : Int) = v) (hQ : ∀ h1, EX [168] [] h h1 → (∀ j : Int, (j < 6 * ((D + 1 : Nat) : Int) ∨ 6 * ((D + 2 : Nat) : Int) ≤ j) → h1 168 j = h 168 j) → (∀ a : Nat, a < 6 → (AL o h D i v a → h1 168 (6 * ((D + 1 : Nat) : Int) + (a : Int)) = t (3 * h 168 (6 * (D : Int) + (a : Int)) + (i : Int))) ∧ (¬ AL o h D i v a → h1 168 (6 * ((D + 1 : Nat) : Int) + (a : Int)) = -1)) → Q (0, (cntP (AL o h D i v) 6 : Int)) n hr h1) : f_N_answersSo [(2, 138), (0, (D : Int))] n hr h Q := by
  obtain ⟨hS, hI, hm, hc, hTT⟩ := T
  apply e_N_answersSo
  have := lupN (N := 6) (P := fun k => ∀ h1, EX [168] [] h h1 → (∀ j : Int, (j < 6 * ((D + 1 : Nat) : Int) ∨ 6 * ((D + 2 : Nat) : Int) ≤ j) → h1 168 j = h 168 j) → (∀ a : Nat, a < k → (AL o h D i v a → h1 168 (6 * ((D + 1 : Nat) : Int) + (a : Int)) = t (3 * h 168 (6 * (D : Int) + (a : Int)) + (i : Int))) ∧ (¬ AL o h D i v a → h1 168 (6 * ((D + 1 : Nat) : Int) + (a : Int)) = -1)) → p_N_answersSo_4 (n + 0) (ai_q 0 n Q) 138 (D : Int) (cntP (AL o h D i v) k : Int) (k : Int) n hr h1) ?_ ?_
  · exact this h EX_rf (fun _ _ => rfl) (fun a ha => by omega)
  · intro h1 e1 e2 e3
    exact b_N_answersSo_4 ⟨fun _ => q_at rfl (hQ h1 e1 e2 e3), fun z => by omega⟩
  · intro k hk ih h1 e1 e2 e3
    have X1 := NX_fr X e1 (by decide) (by decide)
    have hcl := cntP_le (AL o h D i v) k
    have ek : h1 168 (6 * (D : Int) + (k : Int)) = h 168 (6 * (D : Int) + (k : Int)) := e2 _ (by omega)
    have et : h1 169 (D : Int) = (i : Int) := by rw [EX_fn e1 (c := 169) (by decide) (by decide)]; exact ht
    have eh : h1 170 (D : Int) = v := by rw [EX_fn e1 (c := 170) (by decide) (by decide)]; exact hh
    have go : ∀ v' : Int, (AL o h D i v k → v' = t (3 * h 168 (6 * (D : Int) + (k : Int)) + (i : Int))) → (¬ AL o h D i v k → v' = -1) → p_N_answersSo_4 (n + 0) (ai_q 0 n Q) 138 (D : Int) (cntP (AL o h D i v) (k + 1) : Int) ((k : Int) + 1) n hr (ai_up h1 168 (6 * ((D : Int) + 1) + (k : Int)) v') := by
      intro v' q1 q2
      refine ih _ (EX_upc e1 (by decide)) (fun j hj => by rw [up_oth (Or.inr (by omega))]; exact e2 j hj) fun a ha => ?_
      by_cases y : a = k
      · subst y
        rw [show 6 * ((D + 1 : Nat) : Int) + (a : Int) = 6 * ((D : Int) + 1) + (a : Int) by omega, up_same]
        exact ⟨q1, q2⟩
      · rw [up_oth (Or.inr (by omega))]; exact e3 a (by omega)
    have no : ¬ AL o h D i v k → p_N_answersSo_4 (n + 0) (ai_q 0 n Q) 138 (D : Int) (cntP (AL o h D i v) k : Int) ((k : Int) + 1) n hr (ai_up h1 168 (6 * ((D : Int) + 1) + (k : Int)) (-1)) := fun q => by
      have := go (-1) (fun g => (q g).elim) (fun _ => rfl)
      rwa [cntP_n q] at this
    refine b_N_answersSo_4 ⟨fun z => by omega, fun _ => ?_⟩
    rcases hV.1 k hk with q | ⟨p, p1, p2⟩
    · simp (disch := omega) only [n0 W, nr_51 W, nr_52 W, w32_id, ek, et, q, Int.add_zero, b10, b11, b12, b13, true_implies, false_implies, true_and, and_true, ne_eq, not_true_eq_false]
      repeat (refine ⟨by omega, ?_⟩)
      exact no fun g => g.1 q
    · have g1 := X1.2.2.1 (3 * (p : Int) + (i : Int)) (by omega) (by omega)
      have g2 := X1.2.2.2 (3 * (p : Int) + (i : Int)) (by omega) (by omega)
      have pn : ¬ ((p : Int) = -1) := by omega
      simp (disch := omega) only [n0 W, nr_51 W, nr_52 W, nr_53 W, nr_20 W, nr_21 W, w32_id, ek, et, eh, p2, pn, Int.add_zero, Int.zero_add, g1, g2, b10, b11, b12, b13, true_implies, false_implies, true_and, and_true, ne_eq, not_true_eq_false, not_false_eq_true]
      repeat (refine ⟨by omega, ?_⟩)
      refine ⟨fun z => ?_, fun z => ?_⟩
      · repeat (refine ⟨by omega, ?_⟩)
        refine no fun g => z ?_
        have := g.2; rw [p2] at this; exact this
      · repeat (refine ⟨by omega, ?_⟩)
        have al : AL o h D i v k := ⟨by rw [p2]; omega, by rw [p2]; exact z⟩
        have := go (t (3 * (p : Int) + (i : Int))) (fun _ => by rw [p2]) (fun g => (g al).elim)
        rw [cntP_y al] at this
        exact this
theorem sp_N_leftAt {D : Nat} (W : NW n hr) (hD : D ≤ 8) (h1 : (∀ a b : Nat, a < b → b < 6 → h 168 (6 * (D : Int) + (a : Int)) = h 168 (6 * (D : Int) + (b : Int)) → h 168 (6 * (D : Int) + (a : Int)) = -1) → Q (0, (cntP (fun a => h 168 (6 * (D : Int) + (a : Int)) ≠ -1) 6 : Int)) n hr h) (h0 : ¬ (∀ a b : Nat, a < b → b < 6 → h 168 (6 * (D : Int) + (a : Int)) = h 168 (6 * (D : Int) + (b : Int)) → h 168 (6 * (D : Int) + (a : Int)) = -1) → Q (0, -1) n hr h) : f_N_leftAt [(2, 138), (0, (D : Int))] n hr h Q := by
  apply e_N_leftAt
  have := lupN (N := 6) (P := fun k => (∀ a b : Nat, a < b → b < k → h 168 (6 * (D : Int) + (a : Int)) = h 168 (6 * (D : Int) + (b : Int)) → h 168 (6 * (D : Int) + (a : Int)) = -1) → p_N_leftAt_4 (n + 0) (ai_q 0 n Q) 138 (D : Int) (cntP (fun a => h 168 (6 * (D : Int) + (a : Int)) ≠ -1) k : Int) (k : Int) n hr h) ?_ ?_
  · exact this fun a b _ hb => by omega
  · intro e
    exact b_N_leftAt_4 ⟨fun _ => q_at rfl (h1 e), fun z => by omega⟩
  · intro k hk ih e
    have hcl := cntP_le (fun a : Nat => h 168 (6 * (D : Int) + (a : Int)) ≠ -1) k
    refine b_N_leftAt_4 ⟨fun z => by omega, fun _ => ?_⟩
    simp (disch := omega) only [n0 W, nr_51 W, w32_id, true_and]
    repeat (refine ⟨by omega, ?_⟩)
    refine ⟨fun z => ?_, fun z => ?_⟩
    · have loop := lupN (N := k) (P := fun b => (∀ a : Nat, a < b → h 168 (6 * (D : Int) + (a : Int)) ≠ h 168 (6 * (D : Int) + (k : Int))) → p_N_leftAt_38 (n + 0) (ai_q 0 n Q) 138 (D : Int) ((cntP (fun a => h 168 (6 * (D : Int) + (a : Int)) ≠ -1) k : Int) + 1) (k : Int) (h 168 (6 * (D : Int) + (k : Int))) (b : Int) n hr h) ?_ ?_
      · exact loop fun a ha => by omega
      · intro e2
        refine b_N_leftAt_38 ⟨fun _ => ?_, fun z => by omega⟩
        rw [w32_id (by omega) (by omega)]
        have := ih fun a b hab hb hh => by
          by_cases y : b = k
          · subst y; exact (e2 a hab hh).elim
          · exact e a b hab (by omega) hh
        rw [cntP_y (P := fun a : Nat => h 168 (6 * (D : Int) + (a : Int)) ≠ -1) z] at this
        exact this
      · intro b hb ihb e2
        refine b_N_leftAt_38 ⟨fun z => by omega, fun _ => ?_⟩
        simp (disch := omega) only [n0 W, nr_51 W, w32_id, true_and]
        repeat (refine ⟨by omega, ?_⟩)
        refine ⟨fun q => ihb fun a ha => ?_, fun q => ?_⟩
        · by_cases y : a = b
          · subst y; exact q
          · exact e2 a (by omega)
        · have := h0 fun g => z (by rw [← q]; exact g b k hb hk q)
          exact (by first | exact q_at rfl (this) | exact (this))
    · have := ih fun a b hab hb hh => by
        by_cases y : b = k
        · subst y; rw [hh]; exact z
        · exact e a b hab (by omega) hh
      rw [cntP_n (P := fun a : Nat => h 168 (6 * (D : Int) + (a : Int)) ≠ -1) (fun q => q z)] at this
      exact this
end
