-- deps: 18 19 20 21 23 24 25 26 27 28 29 22 30 31 32 33 34 35 38 39 40 41 42 43 44 45 46 47 48 49 50 62 63 64 67 68 69 70 71 72 73 74 75 76
/-! the class: no suite is known -/
section
variable {Q : RP} {n : Nat} {hr h : HP} {S I : Nat} {t o : Int → Int}
theorem sp_E_clear {x : Int} (hx : ai_ok n x 8) (hQ : Q (9, 0) n hr (ai_up (ai_up (ai_up h x 7 0) x 8 0) x 9 0)) : f_E_clear [(2, x)] n hr h Q := by
  apply e_E_clear
  simp only [hx, true_and, or_true, true_or]
  exact (by first | exact q_at rfl (hQ) | exact (hQ))
/-- the suites' cells in their order -/
def sc (k : Nat) : Int := if k < 3 then 46 + 14 * (k : Int) else if k < 6 then 53 + 14 * ((k : Int) - 3) else 88 + 7 * ((k : Int) - 6)
theorem hr_36k (V : CW n hr) {k : Nat} (hk : k < 8) : hr 36 (k : Int) = sc k ∧ ai_ok n (sc k) 8 := by
  rcases (by omega : k = 0 ∨ k = 1 ∨ k = 2 ∨ k = 3 ∨ k = 4 ∨ k = 5 ∨ k = 6 ∨ k = 7) with rfl | rfl | rfl | rfl | rfl | rfl | rfl | rfl
  · exact ⟨(cr_36_0 V).1, ok_46 V.1⟩
  · exact ⟨(cr_36_1 V).1, ok_60 V.1⟩
  · exact ⟨(cr_36_2 V).1, ok_74 V.1⟩
  · exact ⟨(cr_36_3 V).1, ok_53 V.1⟩
  · exact ⟨(cr_36_4 V).1, ok_67 V.1⟩
  · exact ⟨(cr_36_5 V).1, ok_81 V.1⟩
  · exact ⟨(cr_36_6 V).1, ok_88 V.1⟩
  · exact ⟨(cr_36_7 V).1, ok_95 V.1⟩
theorem sc_b {k : Nat} (hk : k < 8) : 46 ≤ sc k ∧ sc k ≤ 95 := by unfold sc; split <;> (try split) <;> omega
theorem sc_i {j k : Nat} (hj : j < 8) (hk : k < 8) (h : sc j = sc k) : j = k := by unfold sc at h; split at h <;> split at h <;> (try split at h) <;> (try split at h) <;> omega
/-- only fields of suites' cells and how many more states are looked for -/
def fxR (h h1 : HP) : Prop := ∀ c j : Int, ¬ (c = 35 ∧ j = 11) → ¬ (46 ≤ c ∧ c ≤ 95 ∧ (j = 7 ∨ j = 8 ∨ j = 9) ∧ ∃ k : Nat, k < 8 ∧ c = sc k) → h1 c j = h c j
theorem sp_T_renew {e : Int} (V : CW n hr) (hQ : ∀ h1, fxR h h1 → h1 35 11 = e → (∀ k : Nat, k < 8 → h1 (sc k) 7 = 0 ∧ h1 (sc k) 8 = 0 ∧ h1 (sc k) 9 = 0) → Q (9, 0) n hr h1) : f_T_renew [(2, 35), (0, e)] n hr h Q := by
  apply e_T_renew
  have := lupN (N := 8) (P := fun k => ∀ h1, fxR h h1 → h1 35 11 = e → (∀ j : Nat, j < k → h1 (sc j) 7 = 0 ∧ h1 (sc j) 8 = 0 ∧ h1 (sc j) 9 = 0) → p_T_renew_7 (n + 0) (ai_q 0 n Q) 35 (k : Int) n hr h1) ?_ ?_
  · simp only [ok_35 V.1, true_and]
    refine this _ (fun c j a b => ?_) (by rw [up_same]) fun j hj => by omega
    rw [up_oth]
    omega
  · intro h1 a b c
    refine b_T_renew_7 ?_
    simp only [ok_35 V.1, cr_35_3 V, true_and]
    exact ⟨fun _ => q_at rfl (hQ h1 a b c), fun z => by omega⟩
  · intro k hk ih h1 a b c
    have hk36 := hr_36k V hk
    have sb := sc_b hk
    refine b_T_renew_7 ?_
    simp only [ok_35 V.1, cr_35_3 V, hk36, true_and]
    refine ⟨fun z => by omega, fun _ => ?_⟩
    repeat (refine ⟨by omega, ?_⟩)
    refine sp_E_clear hk36.2 ?_
    rw [w32_id (by omega) (by omega)]
    refine ih _ (fun c' j' g1 g2 => ?_) ?_ fun j hj => ?_
    · have nn : ¬ (c' = sc k ∧ (j' = 7 ∨ j' = 8 ∨ j' = 9)) := fun q => g2 ⟨by omega, by omega, q.2, k, hk, q.1⟩
      rw [up_oth (by omega), up_oth (by omega), up_oth (by omega)]
      exact a c' j' g1 g2
    · simp (disch := omega) only [up_oth]; exact b
    · by_cases z : j = k
      · subst z
        simp (disch := omega) only [up_oth, up_same]
        exact ⟨trivial, trivial, trivial⟩
      · have ne : sc j ≠ sc k := fun q => z (sc_i (by omega) hk q)
        have := c j (by omega)
        simp (disch := omega) only [up_oth]
        exact this
end
