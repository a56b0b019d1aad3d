-- deps: 18 19 20 21 23 24 25 26 27 28 29 22 30 31 32 33 34 35 36 67 68 70 73
/-! the reference: a row of tests -/
/-- w put into a row at place p -/
def ins (L : List Nat) (p w : Nat) : List Nat := L.take p ++ w :: L.drop p
theorem ins_at {L : List Nat} {p w j v : Nat} (hp : p ≤ L.length) : (ins L p w)[j]? = some v ↔ (j < p ∧ L[j]? = some v) ∨ (j = p ∧ v = w) ∨ (p < j ∧ L[j - 1]? = some v) := by
  have lt : (L.take p).length = p := by rw [List.length_take]; omega
  unfold ins
  rcases Nat.lt_trichotomy j p with z | z | z
  · rw [List.getElem?_append_left (by omega), List.getElem?_take_of_lt z]
    exact ⟨fun q => Or.inl ⟨z, q⟩, fun q => by rcases q with q | q | q <;> first | exact q.2 | omega⟩
  · subst z
    rw [List.getElem?_append_right (by omega), lt, Nat.sub_self]
    exact ⟨fun q => Or.inr (Or.inl ⟨rfl, by cases q; rfl⟩), fun q => by
      rcases q with q | q | q
      · omega
      · rw [q.2]; rfl
      · omega⟩
  · rw [List.getElem?_append_right (by omega), lt, show j - p = (j - 1 - p) + 1 by omega, List.getElem?_cons_succ, List.getElem?_drop, show p + (j - 1 - p) = j - 1 by omega]
    exact ⟨fun q => Or.inr (Or.inr ⟨z, q⟩), fun q => by rcases q with q | q | q <;> first | exact q.2 | omega⟩
theorem ins_len {L : List Nat} {p w : Nat} (hp : p ≤ L.length) : (ins L p w).length = L.length + 1 := by
  unfold ins; rw [List.length_append, List.length_cons, List.length_take, List.length_drop]; omega
theorem ins_asc {L : List Nat} {p w : Nat} (hp : p ≤ L.length) (h : asc L) (h1 : ∀ j v : Nat, L[j]? = some v → j < p → v < w) (h2 : ∀ j v : Nat, L[j]? = some v → p ≤ j → w < v) : asc (ins L p w) := by
  intro i j a b hij hi hj
  rcases (ins_at hp).mp hi with ⟨a1, a2⟩ | ⟨a1, a2⟩ | ⟨a1, a2⟩ <;> rcases (ins_at hp).mp hj with ⟨b1, b2⟩ | ⟨b1, b2⟩ | ⟨b1, b2⟩
  · exact h i j a b hij a2 b2
  · subst b2; exact h1 i a a2 a1
  · exact h i (j - 1) a b (by omega) a2 b2
  · omega
  · omega
  · subst a2; exact h2 (j - 1) b b2 (by omega)
  · omega
  · omega
  · exact h (i - 1) (j - 1) a b (by omega) a2 b2
theorem ins_mem {L : List Nat} {p w x : Nat} : x ∈ ins L p w ↔ x ∈ L ∨ x = w := by
  unfold ins
  rw [List.mem_append, List.mem_cons]
  constructor
  · rintro (q | q | q)
    · exact Or.inl (List.mem_of_mem_take q)
    · exact Or.inr q
    · exact Or.inl (List.mem_of_mem_drop q)
  · rintro (q | q)
    · rw [← List.take_append_drop p L] at q
      rcases List.mem_append.mp q with q | q
      · exact Or.inl q
      · exact Or.inr (Or.inr q)
    · exact Or.inr (Or.inl q)
section
variable {Q : RP} {n : Nat} {hr h : HP} {L : List Nat}
/-- the row of suite t -/
def RW (h : HP) (t : Nat) (L : List Nat) : Prop := h 162 (t : Int) = (L.length : Int) ∧ rowL (h 161) (1300 * (t : Int)) L
theorem sp_N_tsAt {t k : Nat} (W : NW n hr) (ht : t < 6) (hk : k < 1300) (hQ : Q (0, h 161 (1300 * (t : Int) + (k : Int))) n hr h) : f_N_testAt [(2, 138), (0, (t : Int)), (0, (k : Int))] n hr h Q := by
  apply e_N_testAt
  simp (disch := omega) only [n0 W, nr_38 W, w32_id, true_and]
  repeat (refine ⟨by omega, ?_⟩)
  exact (by first | exact q_at rfl (hQ) | exact (hQ))
theorem half (a b : Nat) (hb : a + b ≤ 3000) : i_div ((a : Int) + (b : Int)) 2 = (((a + b) / 2 : Nat) : Int) := by
  rw [div_i (by omega) (by omega) (by omega) (by omega)]
  omega
theorem sp_N_placeFor {t w : Nat} (W : NW n hr) (ht : t < 6) (R : RW h t L) (hl : L.length ≤ 1300) (hA : asc L) (hQ : ∀ p, p ≤ L.length → (∀ j v : Nat, L[j]? = some v → j < p → v < w) → (∀ j v : Nat, L[j]? = some v → p ≤ j → w ≤ v) → Q (0, (p : Int)) n hr h) : f_N_placeFor [(2, 138), (0, (t : Int)), (0, (w : Int))] n hr h Q := by
  apply e_N_placeFor
  have key : ∀ m low high : Nat, high - low ≤ m → low ≤ high → high ≤ L.length → (∀ j v : Nat, L[j]? = some v → j < low → v < w) → (∀ j v : Nat, L[j]? = some v → high ≤ j → w ≤ v) → p_N_placeFor_10 (n + 0) (ai_q 0 n Q) 138 (t : Int) (w : Int) (low : Int) (high : Int) n hr h := by
    intro m
    induction m with
    | zero =>
      intro low high a b c d e
      have : low = high := by omega
      subst this
      exact b_N_placeFor_10 ⟨fun _ => q_at rfl (hQ low c d e), fun z => by omega⟩
    | succ m ih =>
      intro low high a b c d e
      by_cases z : low = high
      · subst z
        exact b_N_placeFor_10 ⟨fun _ => q_at rfl (hQ low c d e), fun z => by omega⟩
      · refine b_N_placeFor_10 ⟨fun z => by omega, fun _ => ?_⟩
        rw [w32_id (by omega) (by omega), half _ _ (by omega)]
        generalize hmid : (low + high) / 2 = mid
        have hv := List.getElem?_eq_getElem (l := L) (i := mid) (by omega)
        generalize L[mid] = v at hv
        have rv := R.2 mid v hv
        refine ⟨by decide, n0 W, ?_⟩
        refine sp_N_tsAt W ht (by omega) ?_
        rw [rv]
        refine ⟨fun y => ?_, fun y => ?_⟩
        · refine ih low mid (by omega) (by omega) (by omega) d fun j u hj hju => ?_
          by_cases g : j = mid
          · subst g; rw [hv] at hj; cases hj; dsimp only at y; omega
          · have := hA mid j v u (by omega) hv hj
            dsimp only at y; omega
        · rw [w32_id (by omega) (by omega)]
          refine ih (mid + 1) high (by omega) (by omega) c (fun j u hj hju => ?_) e
          by_cases g : j = mid
          · subst g; rw [hv] at hj; cases hj; dsimp only at y; omega
          · have := hA j mid u v (by omega) hj hv
            dsimp only at y; omega
  simp (disch := omega) only [n0 W, nr_39 W, R.1, true_and]
  repeat (refine ⟨by omega, ?_⟩)
  exact key L.length 0 L.length (by omega) (by omega) (Nat.le_refl _) (fun j v hj hjl => by omega) fun j v hj hjl => by have := (List.getElem?_eq_some_iff.mp hj).1; omega
end
