-- deps: 18 19 20 21 23 24 25 26 22 27 29 30 31 34 35 38 39 67 68 70
/-! a tree level by level, pure -/
def asc (l : List Nat) : Prop := ∀ i j a b : Nat, i < j → l[i]? = some a → l[j]? = some b → a < b
theorem asc_nod {l : List Nat} (h : asc l) : nod l := fun i j hij hj g => by
  have ei : l[i]? = some l[i] := List.getElem?_eq_getElem (by omega)
  have := h i j _ _ hij ei (g ▸ ei)
  omega
theorem asc_add {l : List Nat} {v : Nat} (h : asc l) (hv : ∀ x ∈ l, x < v) : asc (l ++ [v]) := by
  intro i j a b hij hi hj
  rcases at_add.mp hj with ⟨b1, b2⟩ | ⟨b1, b2⟩
  · rcases at_add.mp hi with ⟨a1, a2⟩ | ⟨a1, a2⟩
    · exact h i j a b hij a2 b2
    · omega
  · rcases at_add.mp hi with ⟨a1, a2⟩ | ⟨a1, a2⟩
    · rw [b2]; exact hv a (List.mem_of_getElem? a2)
    · omega
theorem asc_inv {l : List Nat} (h : asc l) {i j a b : Nat} (hi : l[i]? = some a) (hj : l[j]? = some b) (hab : a < b) : i < j := by
  rcases Nat.lt_trichotomy i j with q | q | q
  · exact q
  · subst q; rw [hi] at hj; cases hj; omega
  · have := h j i b a q hj hi; omega
theorem asc_0 : asc [] := fun i j a b _ h => by cases h
theorem asc_1 (v : Nat) : asc [v] := asc_add asc_0 fun x hx => by cases hx
/-- two ascending rows with the same members -/
theorem asc_eq : ∀ {l m : List Nat}, asc l → asc m → (∀ x, x ∈ l ↔ x ∈ m) → l = m := by
  have tl : ∀ {a : Nat} {l : List Nat}, asc (a :: l) → asc l ∧ ∀ x ∈ l, a < x := by
    intro a l h
    refine ⟨fun i j x y hij hi hj => h (i + 1) (j + 1) x y (by omega) (by simpa using hi) (by simpa using hj), fun x hx => ?_⟩
    obtain ⟨k, hk⟩ := mem_at.mp hx
    exact h 0 (k + 1) a x (by omega) rfl (by simpa using hk)
  intro l
  induction l with
  | nil =>
    intro m _ _ h
    cases m with
    | nil => rfl
    | cons b m => exact absurd ((h b).mpr List.mem_cons_self) (by simp)
  | cons a l ih =>
    intro m hl hm h
    cases m with
    | nil => exact absurd ((h a).mp List.mem_cons_self) (by simp)
    | cons b m =>
      obtain ⟨l1, l2⟩ := tl hl
      obtain ⟨m1, m2⟩ := tl hm
      have ab : a = b := by
        rcases List.mem_cons.mp ((h a).mp List.mem_cons_self) with q | q
        · exact q
        · rcases List.mem_cons.mp ((h b).mpr List.mem_cons_self) with q2 | q2
          · exact q2.symm
          · have := l2 b q2; have := m2 a q; omega
      subst ab
      rw [ih l1 m1 fun x => ?_]
      constructor
      · intro hx
        rcases List.mem_cons.mp ((h x).mp (List.mem_cons_of_mem _ hx)) with q | q
        · have := l2 x hx; omega
        · exact q
      · intro hx
        rcases List.mem_cons.mp ((h x).mpr (List.mem_cons_of_mem _ hx)) with q | q
        · have := m2 x hx; omega
        · exact q
/-- the nodes os found so far, the tests lf, when the node hd is looked at with input i -/
def PO (I : Nat) (ws os lf : List Nat) (hd i : Nat) : Prop := (asc os ∧ os[0]? = some 0 ∧ ∀ w ∈ os, w ∈ ws) ∧ (∀ k w i' : Nat, os[k]? = some w → i' < I → (k < hd ∨ (k = hd ∧ i' < i)) → 4 * w + i' + 1 ∈ ws → 4 * w + i' + 1 ∈ os) ∧ (∀ w : Nat, os[hd]? = some w → ∀ v ∈ os, v < 4 * w + i + 1) ∧ asc lf ∧ ∀ w, w ∈ lf ↔ ∃ k : Nat, k < hd ∧ os[k]? = some w ∧ ∀ i', i' < I → 4 * w + i' + 1 ∉ ws
section
variable {I : Nat} {ws os lf : List Nat} {hd i w : Nat}
theorem PO_0 (h : 0 ∈ ws) : PO I ws [0] [] 0 0 := by
  refine ⟨⟨asc_1 0, rfl, fun w hw => by rw [List.mem_singleton.mp hw]; exact h⟩, fun k w i' _ _ hk => by omega, fun w hw v hv => ?_, asc_0, fun w => ⟨fun h => (by cases h), fun ⟨k, hk, _⟩ => by omega⟩⟩
  have := List.mem_singleton.mp hv; omega
theorem PO_no (H : PO I ws os lf hd i) (hw : os[hd]? = some w) (hc : 4 * w + i + 1 ∉ ws) : PO I ws os lf hd (i + 1) := by
  obtain ⟨h1, h2, h3, h4, h5⟩ := H
  refine ⟨h1, fun k w' i' a b c d => ?_, fun w' a v hv => ?_, h4, h5⟩
  · by_cases z : k = hd ∧ i' = i
    · obtain ⟨rfl, rfl⟩ := z
      rw [hw] at a; cases a
      exact (hc d).elim
    · exact h2 k w' i' a b (by omega) d
  · have := h3 w' a v hv; omega
theorem PO_yes (H : PO I ws os lf hd i) (hw : os[hd]? = some w) (hc : 4 * w + i + 1 ∈ ws) : 4 * w + i + 1 ∉ os ∧ PO I ws (os ++ [4 * w + i + 1]) lf hd (i + 1) := by
  obtain ⟨⟨h1, h0, h1'⟩, h2, h3, h4, h5⟩ := H
  have lh := (List.getElem?_eq_some_iff.mp hw).1
  have old : ∀ k : Nat, k ≤ hd → (os ++ [4 * w + i + 1])[k]? = os[k]? := fun k hk => List.getElem?_append_left (by omega)
  refine ⟨fun q => by have := h3 w hw _ q; omega, ⟨asc_add h1 (h3 w hw), by rw [old 0 (by omega)]; exact h0, fun v hv => ?_⟩, fun k w' i' a b c d => ?_, fun w' a v hv => ?_, h4, fun w' => ?_⟩
  · rcases List.mem_append.mp hv with q | q
    · exact h1' v q
    · rw [List.mem_singleton.mp q]; exact hc
  · rw [old k (by omega)] at a
    by_cases z : k = hd ∧ i' = i
    · obtain ⟨rfl, rfl⟩ := z
      rw [hw] at a; cases a
      exact List.mem_append_right _ (List.mem_singleton.mpr rfl)
    · exact List.mem_append_left _ (h2 k w' i' a b (by omega) d)
  · rw [old hd (by omega)] at a
    rw [hw] at a; cases a
    rcases List.mem_append.mp hv with q | q
    · have := h3 w hw v q; omega
    · have := List.mem_singleton.mp q; omega
  · rw [h5 w']
    constructor
    · rintro ⟨k, a, b, c⟩; exact ⟨k, a, by rw [old k (by omega)]; exact b, c⟩
    · rintro ⟨k, a, b, c⟩; exact ⟨k, a, by rw [old k (by omega)] at b; exact b, c⟩
theorem PO_nx (hI : I ≤ 3) (H : PO I ws os lf hd I) (hw : os[hd]? = some w) : (∀ k w' i' : Nat, os[k]? = some w' → i' < I → (k < hd + 1 ∨ (k = hd + 1 ∧ i' < 0)) → 4 * w' + i' + 1 ∈ ws → 4 * w' + i' + 1 ∈ os) ∧ ∀ w' : Nat, os[hd + 1]? = some w' → ∀ v ∈ os, v < 4 * w' + 0 + 1 := by
  obtain ⟨⟨h1, h0, h1'⟩, h2, h3, h4, h5⟩ := H
  refine ⟨fun k w' i' a b c d => h2 k w' i' a b (by omega) d, fun w' a v hv => ?_⟩
  have := h1 hd (hd + 1) w w' (by omega) hw a
  have := h3 w hw v hv
  omega
theorem PO_end (hI : I ≤ 3) (H : PO I ws os lf hd I) (hw : os[hd]? = some w) {i' : Nat} (hi : i' < I) (hc : 4 * w + i' + 1 ∈ ws) : PO I ws os lf (hd + 1) 0 := by
  obtain ⟨pa, pb⟩ := PO_nx hI H hw
  obtain ⟨h1, h2, h3, h4, h5⟩ := H
  refine ⟨h1, pa, pb, h4, fun w' => ?_⟩
  rw [h5 w']
  constructor
  · rintro ⟨k, a, b⟩; exact ⟨k, by omega, b⟩
  · rintro ⟨k, a, b, c⟩
    by_cases z : k = hd
    · subst z
      rw [hw] at b; cases b
      exact (c i' hi hc).elim
    · exact ⟨k, by omega, b, c⟩
theorem PO_leaf (hI : I ≤ 3) (H : PO I ws os lf hd I) (hw : os[hd]? = some w) (hc : ∀ i', i' < I → 4 * w + i' + 1 ∉ ws) : w ∉ lf ∧ PO I ws os (lf ++ [w]) (hd + 1) 0 := by
  obtain ⟨pa, pb⟩ := PO_nx hI H hw
  obtain ⟨⟨h1, h0, h1'⟩, h2, h3, h4, h5⟩ := H
  have lt : ∀ x ∈ lf, x < w := fun x hx => by
    obtain ⟨k, k1, k2, _⟩ := (h5 x).mp hx
    exact h1 k hd x w k1 k2 hw
  refine ⟨fun q => by have := lt w q; omega, ⟨h1, h0, h1'⟩, pa, pb, asc_add h4 lt, fun w' => ?_⟩
  rw [List.mem_append, h5 w', List.mem_singleton]
  constructor
  · rintro (⟨k, a, b⟩ | e)
    · exact ⟨k, by omega, b⟩
    · rw [e]; exact ⟨hd, by omega, hw, hc⟩
  · rintro ⟨k, a, b, c⟩
    by_cases z : k = hd
    · subst z
      rw [hw] at b; cases b
      exact Or.inr rfl
    · exact Or.inl ⟨k, by omega, b, c⟩
theorem PO_fin (hI : I ≤ 3) (H : PO I ws os lf hd 0) (hl : os.length ≤ hd) (hcl : ∀ w ∈ ws, w / 4 ∈ ws) (hok : ∀ w ∈ ws, wok I w) : (∀ x, x ∈ os ↔ x ∈ ws) ∧ ∀ x, x ∈ lf ↔ x ∈ ws ∧ ∀ i', i' < I → 4 * x + i' + 1 ∉ ws := by
  obtain ⟨⟨h1, h0, h1'⟩, h2, h3, h4, h5⟩ := H
  have all : ∀ x, wok I x → x ∈ ws → x ∈ os := by
    refine w_ind hI (fun _ => mem_at.mpr ⟨0, h0⟩) fun v j a1 a2 a3 ih hx => ?_
    have hv := hcl _ hx
    rw [show (4 * v + j + 1) / 4 = v by omega] at hv
    obtain ⟨k, hk⟩ := mem_at.mp (ih hv)
    have := (List.getElem?_eq_some_iff.mp hk).1
    exact h2 k v j hk a1 (Or.inl (by omega)) hx
  have os_ws : ∀ x, x ∈ os ↔ x ∈ ws := fun x => ⟨h1' x, fun q => all x (hok x q) q⟩
  refine ⟨os_ws, fun x => ?_⟩
  rw [h5 x]
  constructor
  · rintro ⟨k, a, b, c⟩; exact ⟨h1' x (List.mem_of_getElem? b), c⟩
  · rintro ⟨a, c⟩
    obtain ⟨k, hk⟩ := mem_at.mp ((os_ws x).mpr a)
    exact ⟨k, by have := (List.getElem?_eq_some_iff.mp hk).1; omega, hk, c⟩
end
