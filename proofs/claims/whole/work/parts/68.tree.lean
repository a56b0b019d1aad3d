-- deps: 18 19 20 21 23 24 25 26 22 27 29 30 31 34 67
/-! a suite's tree, pure: rows of places against the list of its words -/
def nod (ws : List Nat) : Prop := ∀ i j : Nat, i < j → j < ws.length → ws[i]? ≠ ws[j]?
theorem nod_at {ws : List Nat} (h : nod ws) {i j x : Nat} (hi : ws[i]? = some x) (hj : ws[j]? = some x) : i = j := by
  have a := (List.getElem?_eq_some_iff.mp hi).1
  have b := (List.getElem?_eq_some_iff.mp hj).1
  rcases Nat.lt_trichotomy i j with q | q | q
  · exact (h i j q b (hi.trans hj.symm)).elim
  · exact q
  · exact (h j i q a (hj.trans hi.symm)).elim
theorem mem_at {ws : List Nat} {x : Nat} : x ∈ ws ↔ ∃ k : Nat, ws[k]? = some x := by
  constructor
  · intro h
    obtain ⟨k, hk, e⟩ := List.mem_iff_getElem.mp h
    exact ⟨k, by rw [List.getElem?_eq_getElem hk, e]⟩
  · rintro ⟨k, h⟩
    exact List.mem_of_getElem? h
theorem at_add {ws : List Nat} {v k x : Nat} : (ws ++ [v])[k]? = some x ↔ (k < ws.length ∧ ws[k]? = some x) ∨ (k = ws.length ∧ x = v) := by
  rw [List.getElem?_append]
  by_cases z : k < ws.length
  · rw [if_pos z]
    exact ⟨fun h => Or.inl ⟨z, h⟩, fun h => h.elim (fun h => h.2) fun h => by omega⟩
  · rw [if_neg z]
    by_cases y : k = ws.length
    · subst y
      rw [Nat.sub_self]
      refine ⟨fun h => Or.inr ⟨rfl, ?_⟩, fun h => h.elim (fun h => (z h.1).elim) fun h => by rw [h.2]; rfl⟩
      cases h; rfl
    · refine ⟨fun h => ?_, fun h => h.elim (fun h => (z h.1).elim) fun h => (y h.1).elim⟩
      have := (List.getElem?_eq_some_iff.mp h).1
      simp only [List.length_singleton] at this; omega
theorem nod_add {ws : List Nat} {v : Nat} (h : nod ws) (hv : v ∉ ws) : nod (ws ++ [v]) := by
  intro i j hij hj g
  rw [List.length_append, List.length_singleton] at hj
  have ei : (ws ++ [v])[i]? = some ((ws ++ [v])[i]'(by rw [List.length_append, List.length_singleton]; omega)) := List.getElem?_eq_getElem _
  generalize ((ws ++ [v])[i]'(by rw [List.length_append, List.length_singleton]; omega)) = x at ei
  rw [ei] at g
  rcases at_add.mp ei with ⟨a1, a2⟩ | ⟨a1, a2⟩
  · rcases at_add.mp g.symm with ⟨b1, b2⟩ | ⟨b1, b2⟩
    · exact h i j hij b1 (a2.trans b2.symm)
    · subst b2; exact hv (mem_at.mpr ⟨i, a2⟩)
  · omega
/-- f: where one comes from a node with an input (3 a node), g: a node's state -/
def TRr (I : Nat) (t f g : Int → Int) (ws : List Nat) : Prop := ws[0]? = some 0 ∧ nod ws ∧ (∀ w ∈ ws, w / 4 ∈ ws) ∧ ∀ k w : Nat, ws[k]? = some w → wok I w ∧ g (k : Int) = dS t 0 w ∧ ∀ i : Nat, i < 3 → (∃ j : Nat, 0 < j ∧ ws[j]? = some (4 * w + i + 1) ∧ f (3 * (k : Int) + (i : Int)) = (j : Int)) ∨ (4 * w + i + 1 ∉ ws ∧ f (3 * (k : Int) + (i : Int)) = 0)
theorem TRr_0 {I : Nat} {t f g : Int → Int} (hf : f 0 = 0 ∧ f 1 = 0 ∧ f 2 = 0) (hg : g 0 = 0) : TRr I t f g [0] := by
  refine ⟨rfl, fun i j h1 h2 => by simp at h2; omega, fun w hw => ?_, fun k w hk => ?_⟩
  · rw [List.mem_singleton.mp hw]; exact List.mem_singleton.mpr rfl
  · have a := (List.getElem?_eq_some_iff.mp hk).1
    have k0 : k = 0 := by simp at a; omega
    subst k0
    cases hk
    refine ⟨wok_0 I, by rw [dS_0]; exact hg, fun i hi => Or.inr ⟨fun q => by have := List.mem_singleton.mp q; omega, ?_⟩⟩
    rcases (by omega : i = 0 ∨ i = 1 ∨ i = 2) with rfl | rfl | rfl
    · exact hf.1
    · exact hf.2.1
    · exact hf.2.2
theorem TRr_add {I : Nat} {t f g f' g' : Int → Int} {ws : List Nat} {k w i : Nat} (H : TRr I t f g ws) (hk : ws[k]? = some w) (hi : i < I) (hi3 : i < 3) (hn : 4 * w + i + 1 ∉ ws) (f1 : f' (3 * (k : Int) + (i : Int)) = (ws.length : Int)) (f2 : ∀ j : Int, 0 ≤ j → j < 3 → f' (3 * (ws.length : Int) + j) = 0) (f3 : ∀ a : Int, a ≠ 3 * (k : Int) + (i : Int) → a < 3 * (ws.length : Int) → f' a = f a) (g1 : g' (ws.length : Int) = t (3 * g (k : Int) + (i : Int))) (g2 : ∀ a : Int, a < (ws.length : Int) → g' a = g a) : TRr I t f' g' (ws ++ [4 * w + i + 1]) := by
  obtain ⟨h0, hN, hcl, hr⟩ := H
  have lk := (List.getElem?_eq_some_iff.mp hk).1
  obtain ⟨wk, gk, rk⟩ := hr k w hk
  refine ⟨at_add.mpr (Or.inl ⟨by omega, h0⟩), nod_add hN hn, fun x hx => ?_, fun k' w' hk' => ?_⟩
  · rcases List.mem_append.mp hx with q | q
    · exact List.mem_append_left _ (hcl x q)
    · rw [List.mem_singleton.mp q, show (4 * w + i + 1) / 4 = w by omega]
      exact List.mem_append_left _ (mem_at.mpr ⟨k, hk⟩)
  · rcases at_add.mp hk' with ⟨a1, a2⟩ | ⟨a1, a2⟩
    · obtain ⟨wk', gk', rk'⟩ := hr k' w' a2
      refine ⟨wk', by rw [g2 _ (by omega)]; exact gk', fun i' hi' => ?_⟩
      by_cases z : k' = k ∧ i' = i
      · obtain ⟨z1, z2⟩ := z
        subst z1; subst z2
        have ew : w' = w := by rw [a2] at hk; cases hk; rfl
        subst ew
        exact Or.inl ⟨ws.length, by omega, at_add.mpr (Or.inr ⟨rfl, rfl⟩), f1⟩
      · rw [f3 _ (by omega) (by omega)]
        rcases rk' i' hi' with ⟨j, j1, j2, j3⟩ | ⟨j1, j2⟩
        · exact Or.inl ⟨j, j1, at_add.mpr (Or.inl ⟨(List.getElem?_eq_some_iff.mp j2).1, j2⟩), j3⟩
        · refine Or.inr ⟨fun q => ?_, j2⟩
          rcases List.mem_append.mp q with q | q
          · exact j1 q
          · have e := List.mem_singleton.mp q
            have e1 : w' = w := by omega
            have e2 : i' = i := by omega
            subst e1
            exact z ⟨nod_at hN a2 hk, e2⟩
    · subst a1; subst a2
      refine ⟨(wok_cc hi3).mpr ⟨hi, wk⟩, by rw [g1, gk, dS_c _ _ _ hi3], fun i' hi' => Or.inr ⟨fun q => ?_, ?_⟩⟩
      · rcases List.mem_append.mp q with q | q
        · have := hcl _ q
          rw [show (4 * (4 * w + i + 1) + i' + 1) / 4 = 4 * w + i + 1 by omega] at this
          exact hn this
        · have := List.mem_singleton.mp q; omega
      · exact f2 _ (by omega) (by omega)
