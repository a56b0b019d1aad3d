-- deps: 18 19 20 21 23 24 25 26 27 28 29 22 30 31 32 33 34 35 36 67 68 70 73
/-! the reference: a row of tests -/
/-- w put into a row at place p -/
def ins (L : List Nat) (p w : Nat) : List Nat := L.take p ++ w :: L.drop p
theorem ins_at {L : List Nat} {p w j v : Nat} (hp : p ≤ L.length) : (ins L p w)[j]? = some v ↔ (j < p ∧ L[j]? = some v) ∨ (j = p ∧ v = w) ∨ (p < j ∧ L[j - 1]? = some v) := by
  have lt : (L.take p).length = p := by rw [List.length_take]; omega
  unfold ins
  rcases Nat.lt_trichotomy j p with z | z | z
  · rw [List.getElem?_append_left (by omega), List.getElem?_take_of_lt z]
    exact ⟨fun q => Or.inl ⟨z, q⟩, fun q => by rcases q with q | q | q <;> first | exact q.2 | omega⟩
  · subst z
    rw [List.getElem?_append_right (by omega), lt, Nat.sub_self]
    exact ⟨fun q => Or.inr (Or.inl ⟨rfl, by cases q; rfl⟩), fun q => by
      rcases q with q | q | q
      · omega
      · rw [q.2]; rfl
      · omega⟩
  · rw [List.getElem?_append_right (by omega), lt, show j - p = (j - 1 - p) + 1 by omega, List.getElem?_cons_succ, List.getElem?_drop, show p + (j - 1 - p) = j - 1 by omega]
    exact ⟨fun q => Or.inr (Or.inr ⟨z, q⟩), fun q => by rcases q with q | q | q <;> first | exact q.2 | omega⟩
theorem ins_len {L : List Nat} {p w : Nat} (hp : p ≤ L.length) : (ins L p w).length = L.length + 1 := by
  unfold ins; rw [List.length_append, List.length_cons, List.length_take, List.length_drop]; omega
theorem ins_asc {L : List Nat} {p w : Nat} (hp : p ≤ L.length) (h : asc L) (h1 : ∀ j v : Nat, L[j]? = some v → j < p → v < w) (h2 : ∀ j v : Nat, L[j]? = some v → p ≤ j → w < v) : asc (ins L p w) := by
  intro i j a b hij hi hj
  rcases (ins_at hp).mp hi with ⟨a1, a2⟩ | ⟨a1, a2⟩ | ⟨a1, a2⟩ <;> rcases (ins_at hp).mp hj with ⟨b1, b2⟩ | ⟨b1, b2⟩ | ⟨b1, b2⟩
  · exact h i j a b hij a2 b2
  · subst b2; exact h1 i a a2 a1
  · exact h i (j - 1) a b (by omega) a2 b2
  · omega
  · omega
  · subst a2; exact h2 (j - 1) b b2 (by omega)
  · omega
  · omega
  · exact h (i - 1) (j - 1) a b (by omega) a2 b2
theorem ins_mem {L : List Nat} {p w x : Nat} : x ∈ ins L p w ↔ x ∈ L ∨ x = w := by
  unfold ins
  rw [List.mem_append, List.mem_cons]
  constructor
  · rintro (q | q | q)
    · exact Or.inl (List.mem_of_mem_take q)
    · exact Or.inr q
    · exact Or.inl (List.mem_of_mem_drop q)
  · rintro (q | q)
    · rw [← List.take_append_drop p L] at q
      rcases List.mem_append.mp q with q | q
      · exact Or.inl q
      · exact Or.inr (Or.inr q)
    · exact Or.inr (Or.inl q)
section
variable {Q : RP} {n : Nat} {hr h : HP} {L : List Nat}
/-- the row of suite t -/
def RW (h : HP) (t : Nat) (L : List Nat) : Prop := h 162 (t : Int) = (L.length : Int) ∧ rowL (h 161) (1300 * (t : Int)) L
theorem sp_N_tsAt {t k : Nat} (W : NW n hr) (ht : t < 6) (hk : k < 1300) (hQ : Q (0, h 161 (1300 * (t : Int) + (k : Int))) n hr h) : f_N_testAt [(2, 138), (0, (t : Int)), (0, (k : Int))] n hr h Q := by
  apply e_N_testAt
  simp (disch := omega) only [n0 W, nr_38 W, w32_id, true_and]
  repeat (refine ⟨by omega, ?_⟩)
  exact (by first | exact q_at rfl (hQ) | exact (hQ))
theorem half (a b : Nat) (hb : a + b ≤ 3000) : i_div ((a : Int) + (b : Int)) 2 = (((a + b) / 2 : Nat) : Int) := by
  rw [div_i (by omega) (by omega) (by omega) (by omega)]
  omega
theorem sp_N_placeFor {t w : Nat} (W : NW n hr) (ht : t < 6) (R : RW h t L) (hl : L.length ≤ 1300) (hA : asc L) (hQ : ∀ p, p ≤ L.length → (∀ j v : Nat, L[j]? = some v → j < p → v < w) → (∀ j v : Nat, L[j]? = some v → p ≤ j → w ≤ v) → Q (0, (p : Int)) n hr h) : f_N_placeFor [(2, 138), (0, (t : Int)), (0, (w : Int))] n hr h Q := by
  apply e_N_placeFor
  have key : ∀ m low high : Nat, high - low ≤ m → low ≤ high → high ≤ L.length → (∀ j v : Nat, L[j]? = some v → j < low → v < w) → (∀ j v : Nat, L[j]? = some v → high ≤ j → w ≤ v) → p_N_placeFor_10 (n + 0) (ai_q 0 n Q) 138 (t : Int) (w : Int) (low : Int) (high : Int) n hr h := by
    intro m
    induction m with
    | zero =>
      intro low high a b c d e
      have : low = high := by omega
      subst this
      exact b_N_placeFor_10 ⟨fun _ => q_at rfl (hQ low c d e), fun z => by omega⟩
    | succ m ih =>
      intro low high a b c d e
      by_cases z : low = high
      · subst z
        exact b_N_placeFor_10 ⟨fun _ => q_at rfl (hQ low c d e), fun z => by omega⟩
      · refine b_N_placeFor_10 ⟨fun z => by omega, fun _ => ?_⟩
        rw [w32_id (by omega) (by omega), half _ _ (by omega)]
        generalize hmid : (low + high) / 2 = mid
        have hv := List.getElem?_eq_getElem (l := L) (i := mid) (by omega)
        generalize L[mid] = v at hv
        have rv := R.2 mid v hv
        refine ⟨by decide, n0 W, ?_⟩
        refine sp_N_tsAt W ht (by omega) ?_
        rw [rv]
        refine ⟨fun y => ?_, fun y => ?_⟩
        · refine ih low mid (by omega) (by omega) (by omega) d fun j u hj hju => ?_
          by_cases g : j = mid
          · subst g; rw [hv] at hj; cases hj; dsimp only at y; omega
          · have := hA mid j v u (by omega) hv hj
            dsimp only at y; omega
        · rw [w32_id (by omega) (by omega)]
          refine ih (mid + 1) high (by omega) (by omega) c (fun j u hj hju => ?_) e
          by_cases g : j = mid
          · subst g; rw [hv] at hj; cases hj; dsimp only at y; omega
          · have := hA j mid u v (by omega) hj hv
            dsimp only at y; omega
  simp (disch := omega) only [n0 W, nr_39 W, R.1, true_and]
  repeat (refine ⟨by omega, ?_⟩)
  exact key L.length 0 L.length (by omega) (by omega) (Nat.le_refl _) (fun j v hj hjl => by omega) fun j v hj hjl => by have := (List.getElem?_eq_some_iff.mp hj).1; omega
/-- only the row of suite t -/
def fxA (t : Nat) (h h1 : HP) : Prop := EX [161, 162] [] h h1 ∧ (∀ j : Int, (j < 1300 * (t : Int) ∨ 1300 * (t : Int) + 1300 ≤ j) → h1 161 j = h 161 j) ∧ ∀ j : Int, j ≠ (t : Int) → h1 162 j = h 162 j
theorem fxA_rf {t : Nat} : fxA t h h := ⟨EX_rf, fun _ _ => rfl, fun _ _ => rfl⟩
theorem fxA_tr {t : Nat} {h h1 h2 : HP} (a : fxA t h h1) (b : fxA t h1 h2) : fxA t h h2 := ⟨EX_tr a.1 b.1, fun j q => (b.2.1 j q).trans (a.2.1 j q), fun j q => (b.2.2 j q).trans (a.2.2 j q)⟩
theorem sp_N_adds {t w : Nat} (W : NW n hr) (ht : t < 6) (R : RW h t L) (hl : L.length < 1300) (hA : asc L) (hQ : ∀ h1 L', fxA t h h1 → RW h1 t L' → asc L' → (∀ x, x ∈ L' ↔ x ∈ L ∨ x = w) → L'.length ≤ L.length + 1 → Q (9, 0) n hr h1) : f_N_adds [(2, 138), (0, (t : Int)), (0, (w : Int))] n hr h Q := by
  apply e_N_adds
  refine ⟨n0 W, sp_N_placeFor W ht R (by omega) hA fun p p1 p2 p3 => ?_⟩
  have shift : w ∉ L → (∀ j v : Nat, L[j]? = some v → p ≤ j → w < v) → p_N_adds_36 (n + 0) (ai_q 0 n Q) 138 (t : Int) (w : Int) (p : Int) (L.length : Int) n hr h := by
    intro nw p4
    have key : ∀ m i : Nat, i - p ≤ m → p ≤ i → i ≤ L.length → ∀ h1, fxA t h h1 → h1 162 (t : Int) = (L.length : Int) → (∀ j v : Nat, L[j]? = some v → j < i → h1 161 (1300 * (t : Int) + (j : Int)) = (v : Int)) → (∀ j v : Nat, L[j]? = some v → i ≤ j → h1 161 (1300 * (t : Int) + (j : Int) + 1) = (v : Int)) → p_N_adds_36 (n + 0) (ai_q 0 n Q) 138 (t : Int) (w : Int) (p : Int) (i : Int) n hr h1 := by
      have last : ∀ h1, fxA t h h1 → h1 162 (t : Int) = (L.length : Int) → (∀ j v : Nat, L[j]? = some v → j < p → h1 161 (1300 * (t : Int) + (j : Int)) = (v : Int)) → (∀ j v : Nat, L[j]? = some v → p ≤ j → h1 161 (1300 * (t : Int) + (j : Int) + 1) = (v : Int)) → p_N_adds_36 (n + 0) (ai_q 0 n Q) 138 (t : Int) (w : Int) (p : Int) (p : Int) n hr h1 := by
        intro h1 f1 l1 a1 b1
        refine b_N_adds_36 ⟨fun _ => ?_, fun z => by omega⟩
        simp (disch := omega) only [n0 W, nr_38 W, nr_39 W, up_oth, l1, w32_id, true_and]
        repeat (refine ⟨by omega, ?_⟩)
        refine (hQ (ai_up (ai_up h1 161 (1300 * (t : Int) + (p : Int)) (w : Int)) 162 (t : Int) ((L.length : Int) + 1)) (ins L p w) (fxA_tr f1 ⟨EX_upc (EX_upc EX_rf (by decide)) (by decide), fun j hj => ?_, fun j hj => ?_⟩) ⟨?_, fun j v hj => ?_⟩ (ins_asc p1 hA p2 p4) (fun x => ins_mem) (by rw [ins_len p1]; omega))
        · simp (disch := omega) only [up_oth]
        · simp (disch := omega) only [up_oth]
        · rw [up_same, ins_len p1]; omega
        · rcases (ins_at p1).mp hj with ⟨c1, c2⟩ | ⟨c1, c2⟩ | ⟨c1, c2⟩
          · simp (disch := omega) only [up_oth]
            exact a1 j v c2 c1
          · subst c1; subst c2
            simp (disch := omega) only [up_oth, up_same]
          · simp (disch := omega) only [up_oth]
            have := b1 (j - 1) v c2 (by omega)
            rw [show 1300 * (t : Int) + ((j - 1 : Nat) : Int) + 1 = 1300 * (t : Int) + (j : Int) by omega] at this
            exact this
      intro m
      induction m with
      | zero =>
        intro i a b c h1 f1 l1 a1 b1
        have : i = p := by omega
        subst this
        exact last h1 f1 l1 a1 b1
      | succ m ih =>
        intro i a b c h1 f1 l1 a1 b1
        by_cases z : i = p
        · subst z
          exact last h1 f1 l1 a1 b1
        · obtain ⟨i', rfl⟩ : ∃ i', i = i' + 1 := ⟨i - 1, by omega⟩
          have hv := List.getElem?_eq_getElem (l := L) (i := i') (by omega)
          generalize L[i'] = v at hv
          have e1 := a1 i' v hv (by omega)
          have ei : 1300 * (t : Int) + ((i' + 1 : Nat) : Int) - 1 = 1300 * (t : Int) + (i' : Int) := by omega
          refine b_N_adds_36 ⟨fun z => by omega, fun _ => ?_⟩
          simp (disch := omega) only [n0 W, nr_38 W, w32_id, ei, e1, true_and]
          repeat (refine ⟨by omega, ?_⟩)
          rw [show ((i' + 1 : Nat) : Int) + -1 = (i' : Int) by omega]
          refine ih i' (by omega) (by omega) (by omega) _ (fxA_tr f1 ⟨EX_upc EX_rf (by decide), fun j hj => ?_, fun j hj => ?_⟩) ?_ (fun j u hj hji => ?_) fun j u hj hji => ?_
          · simp (disch := omega) only [up_oth]
          · simp (disch := omega) only [up_oth]
          · simp (disch := omega) only [up_oth]; exact l1
          · simp (disch := omega) only [up_oth]
            exact a1 j u hj (by omega)
          · by_cases g : j = i'
            · subst g
              rw [hv] at hj; cases hj
              rw [show 1300 * (t : Int) + ((j + 1 : Nat) : Int) = 1300 * (t : Int) + (j : Int) + 1 by omega, up_same]
            · simp (disch := omega) only [up_oth]
              exact b1 j u hj (by omega)
    exact key L.length L.length (by omega) p1 (Nat.le_refl _) h fxA_rf R.1 (fun j v hj _ => R.2 j v hj) fun j v hj hjl => by have := (List.getElem?_eq_some_iff.mp hj).1; omega
  simp (disch := omega) only [n0 W, nr_39 W, R.1, true_and]
  repeat (refine ⟨by omega, ?_⟩)
  refine ⟨fun z => ?_, fun z => ?_⟩
  · repeat (refine ⟨by omega, ?_⟩)
    refine shift (fun q => ?_) fun j v hj hjp => by have := (List.getElem?_eq_some_iff.mp hj).1; omega
    obtain ⟨j, hj⟩ := mem_at.mp q
    have := (List.getElem?_eq_some_iff.mp hj).1
    have := p2 j w hj (by omega)
    omega
  · have hv := List.getElem?_eq_getElem (l := L) (i := p) (by omega)
    generalize L[p] = v at hv
    have rv := R.2 p v hv
    refine sp_N_tsAt W ht (by omega) ?_
    rw [rv]
    refine ⟨fun y => ?_, fun y => ?_⟩
    · dsimp only at y
      simp (disch := omega) only [n0 W, nr_39 W, R.1, true_and]
      repeat (refine ⟨by omega, ?_⟩)
      have wv := p3 p v hv (by omega)
      have p4 : ∀ j u : Nat, L[j]? = some u → p ≤ j → w < u := fun j u hj hjp => by
        by_cases g : j = p
        · subst g; rw [hv] at hj; cases hj; omega
        · have := hA p j v u (by omega) hv hj; omega
      refine shift (fun q => ?_) p4
      obtain ⟨j, hj⟩ := mem_at.mp q
      by_cases g : j < p
      · have := p2 j w hj g; omega
      · have := p4 j w hj (by omega); omega
    · dsimp only at y
      have e : v = w := by omega
      subst e
      exact q_at rfl (hQ h L fxA_rf R hA (fun x => ⟨Or.inl, fun q => q.elim id fun q => by rw [q]; exact List.mem_of_getElem? hv⟩) (by omega))
/-- one word behind another -/
theorem sp_N_behind {u b : Nat} (hb : wok 3 b) (hl : wlen u + wlen b ≤ 14) (hQ : Q (0, (cat u b : Int)) n hr h) : f_N_behind [(0, (u : Int)), (0, (b : Int))] n hr h Q := by
  have hw := wl15 (show wlen b ≤ 15 by omega)
  apply e_N_behind
  refine sp_N_long1 (by have := wlen_le.mp (show wlen b ≤ 14 by omega); have e : (4 : Nat) ^ 14 = 268435456 := (by decide); omega) ?_
  have key : ∀ (k j : Nat), j + k = wlen b → p_N_behind_10 (n + 0) (ai_q 0 n Q) (b : Int) (cat u (b / 4 ^ k) : Int) (wlen b : Int) (j : Int) n hr h := by
    intro k
    induction k with
    | zero =>
      intro j hj
      rw [Nat.pow_zero, Nat.div_one]
      exact b_N_behind_10 ⟨fun _ => q_at rfl hQ, fun z => by omega⟩
    | succ k ih =>
      intro j hj
      obtain ⟨v, i, i1, i2, i3, i4⟩ := wok_ne (m := 3) (by omega) (wok_divp k hb) (div_ne (w := b) (k := k) (by omega))
      have ev : b / 4 ^ (k + 1) = v := by rw [div_s, i4]; omega
      have ei : b / 4 ^ k % 4 = i + 1 := by rw [i4]; omega
      have ih := ih (j + 1) (by omega)
      rw [i4, cat_c _ _ i2] at ih
      rw [ev]
      have cb : cat u (4 * v + i + 1) < 268435456 := by
        have e1 := cat_div (h := u) (m := 3) (by omega) hb k (by omega)
        have e2 : cat u (4 * v + i + 1) ≤ cat u b := by rw [← i4, ← e1.1]; exact Nat.div_le_self _ _
        have e3 : cat u b < 4 ^ (wlen u + wlen b) := by
          unfold cat
          have a := wlen_le.mp (Nat.le_refl (wlen u))
          have c := wlen_le.mp (Nat.le_refl (wlen b))
          rw [Nat.pow_add]
          generalize 4 ^ wlen b = B at c
          generalize 4 ^ wlen u = A at a
          have : (u + 1) * B ≤ A * B := Nat.mul_le_mul_right _ (by omega)
          rw [Nat.succ_mul] at this
          omega
        have e4 : 4 ^ (wlen u + wlen b) ≤ 4 ^ 14 := Nat.pow_le_pow_right (by decide) hl
        have e5 : (4 : Nat) ^ 14 = 268435456 := by decide
        omega
      rw [cat_c _ _ i2] at cb
      refine b_N_behind_10 ⟨fun z => by omega, fun _ => ?_⟩
      refine sp_N_inputAt hw (by omega) (by omega) ?_
      rw [show wlen b - 1 - j = k by omega, ei, show ((i + 1 : Nat) : Int) - 1 = (i : Int) by omega]
      simp (disch := omega) only [w32_id]
      rw [show 4 * (cat u v : Int) + (i : Int) + 1 = ((4 * cat u v + i + 1 : Nat) : Int) by omega, show (j : Int) + 1 = ((j + 1 : Nat) : Int) by omega]
      exact ih
  have := key (wlen b) 0 (by omega)
  rw [div_top, cat_0] at this
  exact this
end
