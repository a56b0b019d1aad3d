-- deps: 18 19 20 21 23 24 25 26 27 28 29 22 30 31 32 33 34 35 38 39 40 41 42 43 44 45 46 47 48 49 50 62 63 64 67 68 69 70 71 72 73 74
/-! the class: planned suites -/
/-- the ascending row of what has P -/
noncomputable def srt (P : Nat → Prop) : List Nat := @dite _ (∃ l, asc l ∧ ∀ x, x ∈ l ↔ P x) (Classical.propDecidable _) (fun h => h.choose) fun _ => []
theorem srt_of {P : Nat → Prop} {l : List Nat} (h1 : asc l) (h2 : ∀ x, x ∈ l ↔ P x) : srt P = l := by
  have ex : ∃ l, asc l ∧ ∀ x, x ∈ l ↔ P x := ⟨l, h1, h2⟩
  unfold srt
  rw [dif_pos ex]
  exact asc_eq ex.choose_spec.1 h1 fun x => (ex.choose_spec.2 x).trans (h2 x).symm
/-- the cell of a planned suite -/
def tc (su e : Nat) : Int := 46 + 14 * (e : Int) + 7 * (su : Int)
section
variable {Q : RP} {n : Nat} {hr h : HP} {S I : Nat} {t o : Int → Int}
/-- words of nodes; tests -/
noncomputable def NDs (S I : Nat) (t o : Int → Int) (su e : Nat) : List Nat := srt (ND I (ALs I t S) (BHf S I t o su) e)
noncomputable def LFs (S I : Nat) (t o : Int → Int) (su e : Nat) : List Nat := srt (LF I (ALs I t S) (BHf S I t o su) e)
def TKn (S I : Nat) (t o : Int → Int) (h : HP) (su e : Nat) : Prop := h (tc su e) 9 = 1 ∧ ((S = 0 ∧ h (tc su e) 7 = 0 ∧ h (tc su e) 8 = 0) ∨ (0 < S ∧ TXo t o h (tc su e) (NDs S I t o su e) ∧ TXl h (tc su e) (NDs S I t o su e) (LFs S I t o su e) ∧ TXw h (tc su e) (LFs S I t o su e)))
def TSu (S I : Nat) (t o : Int → Int) (h : HP) (su e : Nat) : Prop := (h (tc su e) 9 = 0 ∧ h (tc su e) 7 = 0 ∧ h (tc su e) 8 = 0) ∨ TKn S I t o h su e
theorem tr_c (V : CW n hr) {su e : Nat} (hs : su < 2) (he : e < 3) : trow hr (tc su e) n ((26 * mH e : Nat) : Int) ((5 * mH e : Nat) : Int) := by
  rcases (by omega : su = 0 ∨ su = 1) with rfl | rfl <;> rcases (by omega : e = 0 ∨ e = 1 ∨ e = 2) with rfl | rfl | rfl
  · exact tr_46 V
  · exact tr_60 V
  · exact tr_74 V
  · exact tr_53 V
  · exact tr_67 V
  · exact tr_81 V
theorem hr_36 (V : CW n hr) {su e : Nat} (hs : su < 2) (he : e < 3) : hr 36 ((su : Int) * 3 + (e : Int)) = tc su e := by
  rcases (by omega : su = 0 ∨ su = 1) with rfl | rfl <;> rcases (by omega : e = 0 ∨ e = 1 ∨ e = 2) with rfl | rfl | rfl
  · exact (cr_36_0 V).1
  · exact (cr_36_1 V).1
  · exact (cr_36_2 V).1
  · exact (cr_36_3 V).1
  · exact (cr_36_4 V).1
  · exact (cr_36_5 V).1
theorem tc_b {su e : Nat} (hs : su < 2) (he : e < 3) : 46 ≤ tc su e ∧ tc su e ≤ 81 := by unfold tc; omega
def fxP (x : Int) (h h1 : HP) : Prop := EX [37, 38, 39, 40, 41, x + 1, x + 2, x + 3, x + 4, x + 5, x + 6] [(35, 9), (35, 10), (x, 7), (x, 8), (x, 9)] h h1
theorem sp_T_planned {su e : Nat} (V : CW n hr) (T : TV S I t o) (X : CX S I t o h) (C : CTr S I t o h) (hsu : su < 2) (he : e < 3) (P : TSu S I t o h su e) (hQ : ∀ h1, fxP (tc su e) h h1 → TKn S I t o h1 su e → Q (2, tc su e) n hr h1) : f_T_planned [(2, 35), (0, (su : Int)), (0, (e : Int))] n hr h Q := by
  have TT := T
  obtain ⟨hS, hI, hm, hc, hT⟩ := T
  have R := tr_c V hsu he
  have hx := tc_b hsu he
  apply e_T_planned
  simp (disch := omega) only [ok_35 V.1, cr_35_3 V, w32_id, hr_36 V hsu he, R.1, true_and]
  repeat (refine ⟨by omega, ?_⟩)
  rcases P with ⟨P9, P7, P8⟩ | P
  · refine ⟨fun z => (z P9).elim, fun _ => ?_⟩
    have u13 : ∀ c : Int, c < 46 → (ai_up h (tc su e) 9 1) c = h c := fun c hc => by funext q; simp (disch := omega) only [up_oth]
    have X1 : CX S I t o (ai_up h (tc su e) 9 1) := by
      unfold CX; rw [u13 13 (by omega), u13 14 (by omega), u13 15 (by omega)]; exact X
    have e1 : EX [] [(tc su e, 9)] h (ai_up h (tc su e) 9 1) := EX_upp EX_rf (by simp)
    have C1 : CTr S I t o (ai_up h (tc su e) 9 1) := CTr_fr C e1 (by simp; omega)
    simp (disch := omega) only [ok_35 V.1, cr_35_0 V, ok_13 V.1, X1.1, true_and, or_true]
    refine ⟨fun z => ?_, fun z => ?_⟩
    · have H := hQ _ (EX_le e1 (by simp) (by simp)) ⟨?_, Or.inl ⟨by omega, ?_, ?_⟩⟩
      · exact (by first | exact q_at rfl (H) | exact (H))
      · rw [up_same]
      · simp (disch := omega) only [up_oth]; exact P7
      · simp (disch := omega) only [up_oth]; exact P8
    · have hS0 : 0 < S := by omega
      have okA := ALs_ok hS hS0 hI hc
      have okB := BHf_ok (o := o) hS hS0 hI hm hc su
      have mb := mH_b e
      refine sp_T_grow V TT hS0 X1 C1 hsu he fun h2 ws e2 r2 m2 => ?_
      have a2 : ∀ c : Int, 42 ≤ c → h2 c = (ai_up h (tc su e) 9 1) c := fun c hc => EX_sy e2 (by simp; omega) (fun j => by simp; omega)
      have cld : ∀ y : Nat, (y ∈ ws ∧ ∀ i, i < I → 4 * y + i + 1 ∉ ws) → LF I (ALs I t S) (BHf S I t o su) e y := fun y q => LF_of hI okA okB ((m2 y).mp q.1) fun i hi g => q.2 i hi ((m2 _).mpr g)
      refine ⟨ok_35 V.1, ?_⟩
      refine sp_T_pour V (x := tc su e) (by omega) R TT hS0 (CX_69 X1 (EX_le e2 (by decide) (by decide))) r2 ⟨by omega, fun l l1 l2 => ?_⟩ ⟨by omega, fun l l1 l2 => ?_⟩ (fun w hw => ?_) ?_ ?_ fun h3 os lf ph q1 q2 q3 q4 q5 => ?_
      · have := nod_len l1 fun y hy => ND_L hI okA okB ((m2 y).mp (l2 y hy))
        have := NDL_len hI okA okB he
        omega
      · have := nod_len l1 fun y hy => WD_L hI okA (cld y (l2 y hy)).1
        have := WDL_len hI okA okB he
        omega
      · have := (ND_ok hI okA okB ((m2 w).mp hw)).2
        omega
      · rw [a2 _ (by omega)]; simp (disch := omega) only [up_oth]; exact P7
      · rw [a2 _ (by omega)]; simp (disch := omega) only [up_oth]; exact P8
      · have eN : NDs S I t o su e = os := srt_of q1 fun x => (q2 x).trans (m2 x)
        have eL : LFs S I t o su e = lf := srt_of q4 fun x => by
          rw [q5 x]
          exact ⟨cld x, fun g => ⟨(m2 x).mpr (ND_W g.1), fun i hi y => g.2 i hi ((m2 _).mp y)⟩⟩
        have H := hQ h3 (EX_tr (EX_le e1 (by simp) (by simp)) (EX_tr (EX_le e2 (by simp) (by simp)) (EX_le ph.1 (by simp) (by simp)))) ⟨?_, Or.inr ⟨hS0, ?_⟩⟩
        · exact (by first | exact q_at rfl (H) | exact (H))
        · rw [ph.1 _ 9 (by simp <;> omega) (by simp <;> omega), a2 _ (by omega), up_same]
        · rw [eN, eL]; exact ph.2.2
  · refine ⟨fun _ => (by first | exact q_at rfl (hQ h EX_rf P) | exact (hQ h EX_rf P)), fun z => ?_⟩
    rw [P.1] at z; omega
end
