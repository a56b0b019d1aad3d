-- deps: 18 19 20 21 23 24 25 26 27 28 29 22 30 31 32 33 34 35 36 37 38 39 40 41 42
/-! the class: separators, kinds, splitters -/
section
variable {Q : RP} {n : Nat} {hr h : HP} {S I : Nat} {t o : Int → Int}
theorem sp_A_learnSeparators (V : CW n hr) (T : TV S I t o) (X : CX S I t o h) (hQ : ∀ h1, EX [21] [] h h1 → (∀ a b : Nat, a < S → b < S → h1 21 (6 * (a : Int) + (b : Int)) = SPr I t o (a : Int) (b : Int)) → Q (9, 0) n hr h1) : f_A_learnSeparators [(2, 19)] n hr h Q := by
  have TT := T
  obtain ⟨hS, hI, hm, hc, hTT⟩ := T
  apply e_A_learnSeparators
  simp only [ok_19 V.1, cr_19_2 V, true_and]
  refine sp_J_fill (ok_21 V.1) ?_
  rw [l_21]
  have main := lupN (N := 5) (P := fun l => ∀ h1, EX [21] [] h h1 → tabS I S t o l 0 0 h1 → p_A_learnSeparators_11 (n + 0) (ai_q 0 n Q) 19 ((l + 1 : Nat) : Int) n hr h1) ?_ ?_
  · refine main _ (EX_fl EX_rf (by decide)) fun c d hc1 hd => ?_
    rw [fl_in (by omega) (by omega)]
    have z0 : sepT I t o (c : Int) (d : Int) 0 (-2) := Or.inr ⟨rfl, fun w w1 w2 => by
      have : w < 4 ^ 0 := wlen_le.mp w2
      have : w = 0 := by simpa using this
      subst this; rw [aS_0, aS_0]⟩
    refine ⟨Or.inl z0, fun q => ?_, by rw [fl_in (by omega) (by omega)]⟩
    rcases q with q | ⟨q1, q2⟩ | ⟨q1, q2⟩
    · subst q; exact Or.inr ⟨rfl, fun w _ _ => rfl⟩
    · omega
    · omega
  · intro h1 e1 e2
    refine b_A_learnSeparators_11 ⟨fun _ => q_at rfl (hQ h1 e1 fun a b ha hb => ?_), fun z => by omega⟩
    rcases (e2 a b ha hb).1 with q | q
    · exact sepT_5 hI hS hm hc (by omega) (by omega) q
    · rcases q with q | ⟨q1, q2⟩
      · exact q.1
      · exact sepT_5 hI hS hm hc (by omega) (by omega) (Or.inr ⟨q1, noS_le q2 (by omega)⟩)
  · intro l hl ihl h1 e1 e2
    refine b_A_learnSeparators_11 ⟨fun z => by omega, fun _ => ?_⟩
    have := lupN (N := S) (P := fun a => ∀ h1, EX [21] [] h h1 → tabS I S t o l a 0 h1 → p_A_learnSeparators_19 (n + 0) (ai_q 0 n Q) 19 ((l + 1 : Nat) : Int) (a : Int) n hr h1) ?_ ?_
    · exact this h1 e1 e2
    · intro h1 e1 e2
      have X1 := CX_fr X e1 (by decide) (by decide)
      refine b_A_learnSeparators_19 ?_
      simp (disch := omega) only [ok_19 V.1, cr_19_0 V, ok_13 V.1, X1.1, w32_id, true_and]
      refine ⟨fun _ => ?_, fun z => by omega⟩
      refine ihl h1 e1 fun c d hc1 hd => ?_
      have := (e2 c d hc1 hd).2.1 (by omega)
      refine ⟨Or.inl this, fun q => ?_, (e2 c d hc1 hd).2.2⟩
      rcases q with q | ⟨q1, q2⟩ | ⟨q1, q2⟩
      · subst q
        rcases this with ⟨y1, w, y2, y3, _⟩ | ⟨y1, y2⟩
        · rw [SPr_rf] at y1; omega
        · exact Or.inr ⟨y1, fun w _ _ => rfl⟩
      · omega
      · omega
    · intro a ha iha h1 e1 e2
      have X1 := CX_fr X e1 (by decide) (by decide)
      refine b_A_learnSeparators_19 ?_
      simp (disch := omega) only [ok_19 V.1, cr_19_0 V, ok_13 V.1, X1.1, w32_id, true_and]
      refine ⟨fun z => by omega, fun _ => ?_⟩
      have := lupNa (N := S) (P := fun b => ∀ h1, EX [21] [] h h1 → tabS I S t o l a b h1 → p_A_learnSeparators_34 (n + 0) (ai_q 0 n Q) 19 ((l + 1 : Nat) : Int) (a : Int) (b : Int) n hr h1) (a + 1) (by omega) ?_ ?_
      · refine this h1 e1 (tabS_le e2 fun c d q1 q2 q3 => by omega)
      · intro h1 e1 e2
        have X1 := CX_fr X e1 (by decide) (by decide)
        refine b_A_learnSeparators_34 ?_
        simp (disch := omega) only [ok_19 V.1, cr_19_0 V, ok_13 V.1, X1.1, w32_id, true_and]
        refine ⟨fun _ => iha h1 e1 (tabS_le e2 fun c d q1 q2 q3 => by omega), fun z => by omega⟩
      · intro b hab hb ihb h1 e1 e2
        have X1 := CX_fr X e1 (by decide) (by decide)
        refine b_A_learnSeparators_34 ?_
        simp (disch := omega) only [ok_19 V.1, cr_19_0 V, ok_13 V.1, X1.1, w32_id, true_and]
        refine ⟨fun z => by omega, fun _ => ?_⟩
        obtain ⟨t1, t2⟩ := e2 a b ha hb
        obtain ⟨t3, _⟩ := e2 b a hb ha
        refine sp_A_areAlike V (by omega) (by omega) (fun z => ?_) (fun z => ?_)
        · refine ⟨fun q => absurd q (by decide), fun _ => ?_⟩
          simp (disch := omega) only [ok_19 V.1, cr_19_2 V, true_and]
          have h0 : noS I t o (a : Int) (b : Int) l := by
            rcases t1 with q | q
            · exact sepT_no q z
            · exact noS_le (sepT_no q z) (by omega)
          refine sp_A_separatorOfLength V TT X1 ha hb (by omega) (fun c d hc1 hd => (e2 c d hc1 hd).1) h0 fun r hr1 => ?_
          have hm3 : (a : Int) * 6 = 6 * (a : Int) := Int.mul_comm _ _
          have hm4 : (b : Int) * 6 = 6 * (b : Int) := Int.mul_comm _ _
          simp (disch := omega) only [ok_19 V.1, cr_19_2 V, w32_id, hm3, hm4, true_and]
          repeat (refine ⟨by omega, ?_⟩)
          refine ihb _ (EX_upc (EX_upc e1 (by decide)) (by decide)) fun c d hc1 hd => ?_
          by_cases y1 : c = a ∧ d = b
          · rw [y1.1, y1.2, up_oth (Or.inr (by omega)), up_same, up_same]
            exact ⟨Or.inr hr1, fun _ => hr1, rfl⟩
          · by_cases y2 : c = b ∧ d = a
            · rw [y2.1, y2.2, up_same, up_oth (Or.inr (by omega)), up_same]
              exact ⟨Or.inr (sepT_sy hr1), fun _ => sepT_sy hr1, rfl⟩
            · rw [up_oth (Or.inr (by omega)), up_oth (Or.inr (by omega)), up_oth (Or.inr (by omega)), up_oth (Or.inr (by omega))]
              refine ⟨(e2 c d hc1 hd).1, fun q => (e2 c d hc1 hd).2.1 (by omega), (e2 c d hc1 hd).2.2⟩
        · refine ⟨fun _ => ?_, fun q => absurd rfl q⟩
          have sa : sepT I t o (a : Int) (b : Int) (l + 1) (h1 21 (6 * (a : Int) + (b : Int))) := by
            rcases t1 with q | q
            · exact sepT_s q z
            · exact q
          have sb : sepT I t o (b : Int) (a : Int) (l + 1) (h1 21 (6 * (b : Int) + (a : Int))) := by
            rw [← t2.2]; exact sepT_sy sa
          refine ihb h1 e1 fun c d hc1 hd => ⟨(e2 c d hc1 hd).1, fun q => ?_, (e2 c d hc1 hd).2.2⟩
          by_cases y1 : c = a ∧ d = b
          · rw [y1.1, y1.2]; exact sa
          · by_cases y2 : c = b ∧ d = a
            · rw [y2.1, y2.2]; exact sb
            · exact (e2 c d hc1 hd).2.1 (by omega)
end
