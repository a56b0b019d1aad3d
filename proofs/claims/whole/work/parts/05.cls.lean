/-! the small machine's values and cells, and the real ones -/
/-- the tables' words that go to any callee -/
def ai_gd (w : Jvm.Cond) : Bool := goodWord w || (match w with
  | .methodLinkNest _ _ _ _ => true
  | .fieldLinkNest _ _ _ _ _ _ => true
  | .arrayOver (.object _) => true
  | _ => false)
def ai_gw : List Jvm.Cond := lw_tbl.filter ai_gd
theorem gd_warm {w : Jvm.Cond} (h : ai_gd w = true) {args a' : Array Value} {s U : State} (hW : s.WarmedH U.vm) (hb : w.before args s = true) : w.before a' U = true := by
  unfold ai_gd at h
  rcases Bool.or_eq_true _ _ ▸ h with h | h
  · exact word_at hW (good_of_word h) hb
  · split at h
    · exact (va_Nw.warmM hW (va_Nw.of rfl hb)).use rfl
    · exact (va_Nw.warmF hW (va_Nw.of rfl hb)).use rfl
    · exact ((va_AO.of hb).moved hW.alike).use
    · cases h
theorem gw_mem {w : Jvm.Cond} (h : w ∈ lw_tbl) (g : ai_gd w = true) : w ∈ ai_gw := List.mem_filter.mpr ⟨h, g⟩
theorem gw_sub {w : Jvm.Cond} (h : w ∈ ai_gw) : w ∈ lw_tbl := (List.mem_filter.mp h).1
theorem gw_warm {w : Jvm.Cond} (h : w ∈ ai_gw) {args a' : Array Value} {s U : State} (hW : s.WarmedH U.vm) (hb : w.before args s = true) : w.before a' U = true := gd_warm (List.mem_filter.mp h).2 hW hb
theorem gw_ws {l : List Jvm.Cond} (h : ∀ w ∈ l, w ∈ lw_tbl) (g : l.all ai_gd = true) : ∀ w ∈ l, w ∈ ai_gw := fun w hw => gw_mem (h w hw) (List.all_eq_true.mp g w hw)
def ai_tyc (a k : Nat) : FieldType := match a with
  | 0 => tyX0 k
  | 1 => tyX1 k
  | 2 => tyX2 k
  | 3 => tyX3 k
  | 4 => tyX4 k
  | 5 => tyX5 k
  | 6 => tyX6 k
  | 7 => tyX7 k
  | 8 => tyX8 k
  | 9 => tyX9 k
  | 10 => tyX10 k
  | 11 => tyX11 k
  | _ => tyX12 k
def ai_tt : FieldType → Nat
  | .int => 0
  | .long => 1
  | .boolean => 3
  | _ => 2
def ai_ft (a k : Nat) : Nat := ai_tt (ai_tyc a k)
def ai_nf (a : Nat) : Nat := match ai_nth vwCl a with
  | some (_, _, N) => N
  | none => 0
theorem nth_eq {α : Type} : ∀ (l : List α) (k : Nat), ai_nth l k = l[k]?
  | [], k => by simp [ai_nth]
  | a :: l, 0 => by simp [ai_nth]
  | a :: l, k + 1 => by simp [ai_nth, nth_eq l k]
theorem set_eq {α : Type} : ∀ (l : List α) (k : Nat) (v : α), ai_set l k v = l.set k v
  | [], k, v => by simp [ai_set]
  | a :: l, 0, v => by simp [ai_set]
  | a :: l, k + 1, v => by simp [ai_set, set_eq l k v]
/-- what holds of a class by its place -/
def ai_clf (a : Nat) (q : vw_C) : Prop := (∀ k, k < q.2.2 → parseFieldDescriptor (q.2.1 k).2.2.1 = some (ai_tyc a k)) ∧ (∀ i, i < q.2.2 → ∀ j, j < q.2.2 → i ≠ j → (q.2.1 i).2.1 ≠ (q.2.1 j).2.1) ∧ (∀ w ∈ u_ws q.1 q.2.1 q.2.2, w ∈ ai_gw) ∧ (∀ k, k < q.2.2 → (q.2.1 k).1 = q.1)
theorem cl_ok : ∀ (a : Nat) (q : vw_C), vwCl[a]? = some q → ai_clf a q := by
  intro a q h
  match a, h with
  | 0, h => cases h; exact ⟨tyX0_ok, nmX0, gw_ws iw_0 (by decide +kernel), by decide +kernel⟩
  | 1, h => cases h; exact ⟨tyX1_ok, nmX1, gw_ws iw_1 (by decide +kernel), by decide +kernel⟩
  | 2, h => cases h; exact ⟨tyX2_ok, nmX2, gw_ws iw_2 (by decide +kernel), by decide +kernel⟩
  | 3, h => cases h; exact ⟨tyX3_ok, nmX3, gw_ws iw_3 (by decide +kernel), by decide +kernel⟩
  | 4, h => cases h; exact ⟨tyX4_ok, nmX4, gw_ws iw_4 (by decide +kernel), by decide +kernel⟩
  | 5, h => cases h; exact ⟨tyX5_ok, nmX5, gw_ws iw_5 (by decide +kernel), by decide +kernel⟩
  | 6, h => cases h; exact ⟨tyX6_ok, nmX6, gw_ws iw_6 (by decide +kernel), by decide +kernel⟩
  | 7, h => cases h; exact ⟨tyX7_ok, nmX7, gw_ws iw_7 (by decide +kernel), by decide +kernel⟩
  | 8, h => cases h; exact ⟨tyX8_ok, nmX8, gw_ws iw_8 (by decide +kernel), by decide +kernel⟩
  | 9, h => cases h; exact ⟨tyX9_ok, nmX9, gw_ws iw_9 (by decide +kernel), by decide +kernel⟩
  | 10, h => cases h; exact ⟨tyX10_ok, nmX10, gw_ws iw_10 (by decide +kernel), by decide +kernel⟩
  | 11, h => cases h; exact ⟨tyX11_ok, nmX11, gw_ws iw_11 (by decide +kernel), by decide +kernel⟩
  | 12, h => cases h; exact ⟨tyX12_ok, nmX12, gw_ws iw_12 (by decide +kernel), by decide +kernel⟩
  | k + 13, h => simp [vwCl] at h
