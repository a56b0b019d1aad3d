/-! the small machine's values and cells, and the real ones -/
def ai_tyc (a k : Nat) : FieldType := match a with
  | 0 => tyX0 k
  | 1 => tyX1 k
  | 2 => tyX2 k
  | 3 => tyX3 k
  | 4 => tyX4 k
  | 5 => tyX5 k
  | 6 => tyX6 k
  | 7 => tyX7 k
  | 8 => tyX8 k
  | 9 => tyX9 k
  | 10 => tyX10 k
  | 11 => tyX11 k
  | _ => tyX12 k
def ai_tt : FieldType → Nat
  | .int => 0
  | .long => 1
  | .boolean => 3
  | _ => 2
def ai_ft (a k : Nat) : Nat := ai_tt (ai_tyc a k)
def ai_nf (a : Nat) : Nat := match ai_nth vwCl a with
  | some (_, _, N) => N
  | none => 0
theorem nth_eq {α : Type} : ∀ (l : List α) (k : Nat), ai_nth l k = l[k]?
  | [], k => by simp [ai_nth]
  | a :: l, 0 => by simp [ai_nth]
  | a :: l, k + 1 => by simp [ai_nth, nth_eq l k]
theorem set_eq {α : Type} : ∀ (l : List α) (k : Nat) (v : α), ai_set l k v = l.set k v
  | [], k, v => by simp [ai_set]
  | a :: l, 0, v => by simp [ai_set]
  | a :: l, k + 1, v => by simp [ai_set, set_eq l k v]
/-- what holds of a class by its place -/
def ai_clf (a : Nat) (q : vw_C) : Prop := (∀ k, k < q.2.2 → parseFieldDescriptor (q.2.1 k).2.2.1 = some (ai_tyc a k)) ∧ (∀ i, i < q.2.2 → ∀ j, j < q.2.2 → i ≠ j → (q.2.1 i).2.1 ≠ (q.2.1 j).2.1) ∧ (∀ w ∈ u_ws q.1 q.2.1 q.2.2, w ∈ lw_tbl) ∧ (∀ k, k < q.2.2 → (q.2.1 k).1 = q.1)
theorem cl_ok : ∀ (a : Nat) (q : vw_C), vwCl[a]? = some q → ai_clf a q := by
  intro a q h
  match a, h with
  | 0, h => cases h; exact ⟨tyX0_ok, nmX0, iw_0, by decide +kernel⟩
  | 1, h => cases h; exact ⟨tyX1_ok, nmX1, iw_1, by decide +kernel⟩
  | 2, h => cases h; exact ⟨tyX2_ok, nmX2, iw_2, by decide +kernel⟩
  | 3, h => cases h; exact ⟨tyX3_ok, nmX3, iw_3, by decide +kernel⟩
  | 4, h => cases h; exact ⟨tyX4_ok, nmX4, iw_4, by decide +kernel⟩
  | 5, h => cases h; exact ⟨tyX5_ok, nmX5, iw_5, by decide +kernel⟩
  | 6, h => cases h; exact ⟨tyX6_ok, nmX6, iw_6, by decide +kernel⟩
  | 7, h => cases h; exact ⟨tyX7_ok, nmX7, iw_7, by decide +kernel⟩
  | 8, h => cases h; exact ⟨tyX8_ok, nmX8, iw_8, by decide +kernel⟩
  | 9, h => cases h; exact ⟨tyX9_ok, nmX9, iw_9, by decide +kernel⟩
  | 10, h => cases h; exact ⟨tyX10_ok, nmX10, iw_10, by decide +kernel⟩
  | 11, h => cases h; exact ⟨tyX11_ok, nmX11, iw_11, by decide +kernel⟩
  | 12, h => cases h; exact ⟨tyX12_ok, nmX12, iw_12, by decide +kernel⟩
  | k + 13, h => simp [vwCl] at h
