-- deps: 18 19 20 21 23 24 25 26 27 28 29 22 30 31 32 33 34 35 40 41 45 46 67 68
/-! the class: a suite's tree grows -/
section
variable {Q : RP} {n : Nat} {hr h : HP} {S I : Nat} {t o : Int → Int} {P : Nat → Prop} {ws : List Nat}
def TRw (I : Nat) (t : Int → Int) (h : HP) (ws : List Nat) : Prop := h 35 10 = (ws.length : Int) ∧ TRr I t (h 37) (h 38) ws
/-- words with P are few -/
def fewP (P : Nat → Prop) : Prop := ∀ l : List Nat, nod l → (∀ x ∈ l, P x) → l.length ≤ 4550
theorem CX_69 {h1 : HP} (X : CX S I t o h) (e : EX [37, 38, 41] [(35, 9), (35, 10)] h h1) : CX S I t o h1 := CX_fr X e (by decide) (by decide)
theorem sp_T_growChild {k w i : Nat} (V : CW n hr) (T : TV S I t o) (hS0 : 0 < S) (X : CX S I t o h) (R : TRw I t h ws) (F : fewP P) (hP : ∀ x ∈ ws, P x) (hk : ws[k]? = some w) (hi : i < I) (hw : P (4 * w + i + 1)) (hQ : ∀ h1 ws' (j : Nat), EX [37, 38] [(35, 10)] h h1 → TRw I t h1 ws' → (∀ x, x ∈ ws' ↔ x ∈ ws ∨ x = 4 * w + i + 1) → (∀ k x : Nat, ws[k]? = some x → ws'[k]? = some x) → ws'[j]? = some (4 * w + i + 1) → Q (0, (j : Int)) n hr h1) : f_T_growChild [(2, 35), (0, (k : Int)), (0, (i : Int))] n hr h Q := by
  obtain ⟨hS, hI, hm, hc, hT⟩ := T
  have R0 := R
  obtain ⟨R1, R2⟩ := R
  have lk := (List.getElem?_eq_some_iff.mp hk).1
  have l4 : ws.length ≤ 4550 := F ws R2.2.1 hP
  obtain ⟨wk, gk, rk⟩ := R2.2.2.2 k w hk
  have ea : (k : Int) * 3 + (i : Int) = 3 * (k : Int) + (i : Int) := by omega
  have d := dS_cl hI (clo_m hI hc) (p := (0 : Int)) (by omega) w wk
  apply e_T_growChild
  simp (disch := omega) only [ok_35 V.1, cr_35_4 V, cr_35_5 V, cr_35_0 V, cr_13_0 V, ok_13 V.1, w32_id, ea, true_and]
  repeat (refine ⟨by omega, ?_⟩)
  rcases rk i (by omega) with ⟨j, j1, j2, j3⟩ | ⟨j1, j2⟩
  · rw [j3]
    refine ⟨fun _ => ?_, fun z => by omega⟩
    repeat (refine ⟨by omega, ?_⟩)
    exact (by first | exact q_at rfl (hQ h ws j EX_rf R0 (fun x => ⟨Or.inl, fun q => q.elim id fun q => by rw [q]; exact mem_at.mpr ⟨j, j2⟩⟩) (fun _ _ q => q) j2) | exact (hQ h ws j EX_rf R0 (fun x => ⟨Or.inl, fun q => q.elim id fun q => by rw [q]; exact mem_at.mpr ⟨j, j2⟩⟩) (fun _ _ q => q) j2))
  · rw [j2]
    refine ⟨fun z => absurd rfl z, fun _ => ?_⟩
    have l5 : ws.length < 4550 := by
      have := F (ws ++ [4 * w + i + 1]) (nod_add R2.2.1 j1) fun x hx => (List.mem_append.mp hx).elim (hP x) fun q => by rw [List.mem_singleton.mp q]; exact hw
      rw [List.length_append, List.length_singleton] at this; omega
    rw [R1]
    refine ⟨fun z => by omega, fun _ => ?_⟩
    have r14 := X.2.2.1 (3 * dS t 0 w + (i : Int)) (by omega) (by omega)
    have ed : dS t 0 w * 3 + (i : Int) = 3 * dS t 0 w + (i : Int) := by omega
    simp (disch := omega) only [up_oth, R1, gk, w32_id, ed, r14]
    repeat (refine ⟨by omega, ?_⟩)
    generalize hh0 : ai_up (ai_up h 37 (3 * (k : Int) + (i : Int)) (ws.length : Int)) 38 (ws.length : Int) (t (3 * dS t 0 w + (i : Int))) = h0
    have z10 : h0 35 10 = (ws.length : Int) := by rw [← hh0]; simp (disch := omega) only [up_oth]; exact R1
    refine b_T_growChild_65 ⟨fun z => by omega, fun _ => ?_⟩
    simp (disch := omega) only [ok_35 V.1, cr_35_4 V, z10, w32_id, true_and]
    repeat (refine ⟨by omega, ?_⟩)
    refine b_T_growChild_65 ⟨fun z => by omega, fun _ => ?_⟩
    simp (disch := omega) only [ok_35 V.1, cr_35_4 V, up_oth, z10, w32_id, true_and]
    repeat (refine ⟨by omega, ?_⟩)
    refine b_T_growChild_65 ⟨fun z => by omega, fun _ => ?_⟩
    simp (disch := omega) only [ok_35 V.1, cr_35_4 V, up_oth, z10, w32_id, true_and]
    repeat (refine ⟨by omega, ?_⟩)
    refine b_T_growChild_65 ⟨fun _ => ?_, fun z => by omega⟩
    have e37 : h0 37 (3 * (k : Int) + (i : Int)) = (ws.length : Int) := by rw [← hh0]; simp (disch := omega) only [up_oth, up_same]
    simp (disch := omega) only [ok_35 V.1, cr_35_4 V, up_oth, z10, e37, w32_id, true_and]
    repeat (refine ⟨by omega, ?_⟩)
    refine hQ _ (ws ++ [4 * w + i + 1]) ws.length ?_ ⟨?_, ?_⟩ (fun x => by rw [List.mem_append, List.mem_singleton]) (fun k' x q => at_add.mpr (Or.inl ⟨(List.getElem?_eq_some_iff.mp q).1, q⟩)) (at_add.mpr (Or.inr ⟨rfl, rfl⟩))
    · rw [← hh0]
      exact EX_upp (EX_upc (EX_upc (EX_upc (EX_upc (EX_upc EX_rf (by decide)) (by decide)) (by decide)) (by decide)) (by decide)) (by decide)
    · rw [up_same, List.length_append, List.length_singleton]; omega
    · refine TRr_add R2 hk hi (by omega) j1 ?_ (fun j a1 a2 => ?_) (fun a a1 a2 => ?_) ?_ (fun a a1 => ?_)
      · simp (disch := omega) only [up_oth, e37]
      · rw [← hh0]
        rcases (by omega : j = 0 ∨ j = 1 ∨ j = 2) with rfl | rfl | rfl
        · rw [show 3 * (ws.length : Int) + 0 = (ws.length : Int) * 3 + 0 by omega]
          simp (disch := omega) only [up_oth, up_same]
        · rw [show 3 * (ws.length : Int) + 1 = (ws.length : Int) * 3 + (0 + 1) by omega]
          simp (disch := omega) only [up_oth, up_same]
        · rw [show 3 * (ws.length : Int) + 2 = (ws.length : Int) * 3 + (0 + 1 + 1) by omega]
          simp (disch := omega) only [up_oth, up_same]
      · rw [← hh0]; simp (disch := omega) only [up_oth]
      · rw [← hh0]; simp (disch := omega) only [up_oth, up_same]; rw [gk]
      · rw [← hh0]; simp (disch := omega) only [up_oth]
end
