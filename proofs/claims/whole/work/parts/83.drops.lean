-- deps: 18 19 20 21 23 24 25 26 22 27 29 30 31 34 35 38 39 67 68 70 73
/-! tests with which another one begins go, pure -/
/-- the j-th word of L is a beginning of another one before k -/
def BG (L : List Nat) (k j : Nat) : Prop := ∃ k' v d : Nat, k' < k ∧ L[k']? = some v ∧ v ≠ 0 ∧ 1 ≤ d ∧ L[j]? = some (v / 4 ^ d)
/-- the words that stay, of the first k -/
noncomputable def FLs (L : List Nat) (P : Nat → Prop) : Nat → List Nat
  | 0 => []
  | k + 1 => @ite _ (P k) (Classical.propDecidable _) (FLs L P k) (FLs L P k ++ [L[k]?.getD 0])
theorem FLs_y {L : List Nat} {P : Nat → Prop} {k : Nat} (h : P k) : FLs L P (k + 1) = FLs L P k := if_pos h
theorem FLs_n {L : List Nat} {P : Nat → Prop} {k v : Nat} (h : ¬ P k) (hv : L[k]? = some v) : FLs L P (k + 1) = FLs L P k ++ [v] := by
  rw [FLs, if_neg h, hv]; rfl
theorem FLs_len {L : List Nat} {P : Nat → Prop} : ∀ k, (FLs L P k).length ≤ k
  | 0 => Nat.le_refl 0
  | k + 1 => by
    have ih := FLs_len (L := L) (P := P) k
    rw [FLs]; split
    · omega
    · rw [List.length_append, List.length_singleton]; omega
theorem FLs_mem {L : List Nat} {P : Nat → Prop} {x : Nat} : ∀ k, k ≤ L.length → (x ∈ FLs L P k ↔ ∃ j, j < k ∧ ¬ P j ∧ L[j]? = some x)
  | 0, _ => ⟨fun h => (by cases h), fun ⟨j, h, _⟩ => by omega⟩
  | k + 1, hk => by
    have ih := FLs_mem (L := L) (P := P) (x := x) k (by omega)
    have hv := List.getElem?_eq_getElem (l := L) (i := k) (by omega)
    generalize L[k] = v at hv
    by_cases z : P k
    · rw [FLs_y z, ih]
      exact ⟨fun ⟨j, a, b⟩ => ⟨j, by omega, b⟩, fun ⟨j, a, b, c⟩ => ⟨j, Nat.lt_of_le_of_ne (by omega) fun q => b (q ▸ z), b, c⟩⟩
    · rw [FLs_n z hv, List.mem_append, ih, List.mem_singleton]
      constructor
      · rintro (⟨j, a, b⟩ | q)
        · exact ⟨j, by omega, b⟩
        · exact ⟨k, by omega, z, by rw [q]; exact hv⟩
      · rintro ⟨j, a, b, c⟩
        by_cases y : j = k
        · subst y; rw [hv] at c; cases c; exact Or.inr rfl
        · exact Or.inl ⟨j, by omega, b, c⟩
theorem FLs_asc {L : List Nat} {P : Nat → Prop} (hA : asc L) : ∀ k, k ≤ L.length → asc (FLs L P k)
  | 0, _ => asc_0
  | k + 1, hk => by
    have ih := FLs_asc (P := P) hA k (by omega)
    have hv := List.getElem?_eq_getElem (l := L) (i := k) (by omega)
    generalize L[k] = v at hv
    by_cases z : P k
    · rw [FLs_y z]; exact ih
    · rw [FLs_n z hv]
      refine asc_add ih fun x hx => ?_
      obtain ⟨j, a, b, c⟩ := (FLs_mem k (by omega)).mp hx
      exact hA j k x v a c hv
theorem LF_BG {I : Nat} {A L : List Nat} {BH : Nat → List Nat} {n : Nat} (hI : I ≤ 3) (hA : okA I A) (hB : okB I BH) (hL : ∀ x, x ∈ L ↔ WD I A BH n x) {j x : Nat} (hj : L[j]? = some x) : LF I A BH n x ↔ ¬ BG L L.length j := by
  have wx := (hL x).mp (List.mem_of_getElem? hj)
  constructor
  · rintro ⟨_, h2⟩ ⟨k', v, d, k1, k2, k3, k4, k5⟩
    rw [hj] at k5
    have ex : x = v / 4 ^ d := by cases k5; rfl
    have wv := (hL v).mp (List.mem_of_getElem? k2)
    have vo := (WD_ok hI hA hB wv).1
    have child : ∀ c, v / 4 ^ c ≠ 0 → v / 4 ^ (c + 1) = x → False := by
      intro c c0 cx
      obtain ⟨u, i, i1, i2, i3, i4⟩ := wok_ne hI (wok_divp c vo) c0
      have : u = x := by rw [← cx, div_s, i4]; omega
      subst this
      exact h2 i i1 ⟨v, c, wv, i4.symm⟩
    obtain ⟨c, rfl⟩ : ∃ c, d = c + 1 := ⟨d - 1, by omega⟩
    by_cases z : v / 4 ^ c = 0
    · have x0 : x = 0 := by rw [ex, div_s, z]
      have wl : wlen v ≠ 0 := by rw [wlen_s k3]; omega
      obtain ⟨m, hm⟩ : ∃ m, wlen v = m + 1 := ⟨wlen v - 1, by omega⟩
      exact child m (div_ne (by omega)) (by rw [← hm, div_top, x0])
    · exact child c z ex.symm
  · intro nb
    refine ⟨wx, fun i hi ⟨v, k, h1, h2⟩ => nb ?_⟩
    obtain ⟨k', hk'⟩ := mem_at.mp ((hL v).mpr h1)
    refine ⟨k', v, k + 1, (List.getElem?_eq_some_iff.mp hk').1, hk', fun q => ?_, by omega, ?_⟩
    · rw [q, Nat.zero_div] at h2; omega
    · rw [hj, div_s, ← h2]; congr 1; omega
