-- deps: 18 19 20 21 22 23 24 25 26 27 28 29 30 31 32 33 34 35 36 37 38 39 40 41 42 43 44 45 46 47 48 49 50 51 52 53 54 55 56 57 58 59 60 61 62 63 64 65 66 67 68 69 70 71 72 73 74 75 76 77 78 79 80 81 82 83 84 85 86 87 88 91 92 93 94 95 96 97 9S 9T 9U 9V 9W 9X 9Y A0 A1 A2 A3 A4
/-! the reference: a text is taken over; feed, fault, named -/
section
variable {Q : RP} {n : Nat} {hr h : HP} {T : Int → Int} {N : Nat} {s : DS}
/-- what was told -/
def NTd (s : DS) (h : HP) : Prop := (h 140 0 = (dM s : Int) ∧ h 140 0 + h 140 2 = ((dN s).length : Int) ∧ h 140 1 = ((dJ s).length : Int) ∧ h 140 3 = dX s ∧ h 140 4 = dD s) ∧ rowL (h 141) 0 (dN s) ∧ rowL (h 142) 0 (dJ s) ∧ NRow 143 144 0 18 (dA s) h ∧ NRow 145 146 0 24 (dB s) h
theorem NTd_fr {h1 : HP} (H : NTd s h) (e : ∀ c : Int, 140 ≤ c → c ≤ 146 → h1 c = h c) : NTd s h1 := by
  unfold NTd NRow
  rw [e 140 (by decide) (by decide), e 141 (by decide) (by decide), e 142 (by decide) (by decide), e 143 (by decide) (by decide), e 144 (by decide) (by decide), e 145 (by decide) (by decide), e 146 (by decide) (by decide)]
  exact H
/-- while a text is read the one before stays -/
theorem NTd_X {h1 : HP} (O : dOK s) (e : fxRn h h1) (H : NTd s h) : NTd s h1 := by
  obtain ⟨⟨o1, o2, o3, o4, o5⟩, -⟩ := O
  obtain ⟨f1, f2, f3, f4, f5, f6⟩ := e
  obtain ⟨⟨a1, a2, a3, a4, a5⟩, b1, b2, b3, b4⟩ := H
  refine ⟨⟨?_, ?_, ?_, ?_, ?_⟩, fun j w hj => ?_, fun j w hj => ?_, fun a c1 c2 => ?_, fun a c1 c2 => ?_⟩
  · rw [f2 0 (by decide)]; exact a1
  · rw [f2 0 (by decide), f2 2 (by decide)]; exact a2
  · rw [f2 1 (by decide)]; exact a3
  · rw [f2 3 (by decide)]; exact a4
  · rw [f2 4 (by decide)]; exact a5
  · have := (List.getElem?_eq_some_iff.mp hj).1
    rw [f3 _ (by omega)]; exact b1 j w hj
  · have := (List.getElem?_eq_some_iff.mp hj).1
    rw [f4 _ (by omega)]; exact b2 j w hj
  · rw [(f5 (0 + a) (by omega)).1, (f5 (0 + a) (by omega)).2]; exact b3 a c1 c2
  · rw [(f6 (0 + a) (by omega)).1, (f6 (0 + a) (by omega)).2]; exact b4 a c1 c2
theorem sp_N_takeText (W : NW n hr) (O : dOK s) (D : NDr s h) (hQ : ∀ h1, EX [140, 141, 142, 143, 144, 145, 146] [] h h1 → NTd s h1 → Q (9, 0) n hr h1) : f_N_takeText [(2, 138)] n hr h Q := by
  obtain ⟨⟨o1, o2, o3, o4, o5⟩, -⟩ := O
  apply e_N_takeText
  have L1 := lupN (N := 5) (P := fun k => ∀ h1, EX [140] [] h h1 → (∀ j : Int, 0 ≤ j → j < (k : Int) → h1 140 j = h 140 (5 + j)) → (∀ j : Int, 5 ≤ j → h1 140 j = h 140 j) → p_N_takeText_2 (n + 0) (ai_q 0 n Q) 138 (k : Int) n hr h1) ?_ ?_
  · exact L1 h EX_rf (fun j a b => by omega) fun _ _ => rfl
  · intro h1 e1 g1 _
    refine b_N_takeText_2 ⟨fun _ => ?_, fun q => by omega⟩
    have L2 := lupN (N := 8) (P := fun k => ∀ h2, EX [141] [] h1 h2 → (∀ j : Int, 0 ≤ j → j < (k : Int) → h2 141 j = h1 141 (8 + j)) → (∀ j : Int, 8 ≤ j → h2 141 j = h1 141 j) → p_N_takeText_26 (n + 0) (ai_q 0 n Q) 138 (k : Int) n hr h2) ?_ ?_
    · exact L2 h1 EX_rf (fun j a b => by omega) fun _ _ => rfl
    · intro h2 e2 g2 _
      refine b_N_takeText_26 ⟨fun _ => ?_, fun q => by omega⟩
      have L3 := lupN (N := 3) (P := fun k => ∀ h3, EX [142] [] h2 h3 → (∀ j : Int, 0 ≤ j → j < (k : Int) → h3 142 j = h2 142 (3 + j)) → (∀ j : Int, 3 ≤ j → h3 142 j = h2 142 j) → p_N_takeText_55 (n + 0) (ai_q 0 n Q) 138 (k : Int) n hr h3) ?_ ?_
      · exact L3 h2 EX_rf (fun j a b => by omega) fun _ _ => rfl
      · intro h3 e3 g3 _
        refine b_N_takeText_55 ⟨fun _ => ?_, fun q => by omega⟩
        have L4 := lupN (N := 18) (P := fun k => ∀ h4, EX [143, 144] [] h3 h4 → (∀ j : Int, 0 ≤ j → j < (k : Int) → h4 143 j = h3 143 (18 + j) ∧ h4 144 j = h3 144 (18 + j)) → (∀ j : Int, 18 ≤ j → h4 143 j = h3 143 j ∧ h4 144 j = h3 144 j) → p_N_takeText_82 (n + 0) (ai_q 0 n Q) 138 (k : Int) n hr h4) ?_ ?_
        · exact L4 h3 EX_rf (fun j a b => by omega) fun _ _ => ⟨rfl, rfl⟩
        · intro h4 e4 g4 _
          refine b_N_takeText_82 ⟨fun _ => ?_, fun q => by omega⟩
          have L5 := lupN (N := 24) (P := fun k => ∀ h5, EX [145, 146] [] h4 h5 → (∀ j : Int, 0 ≤ j → j < (k : Int) → h5 145 j = h4 145 (24 + j) ∧ h5 146 j = h4 146 (24 + j)) → (∀ j : Int, 24 ≤ j → h5 145 j = h4 145 j ∧ h5 146 j = h4 146 j) → p_N_takeText_126 (n + 0) (ai_q 0 n Q) 138 (k : Int) n hr h5) ?_ ?_
          · exact L5 h4 EX_rf (fun j a b => by omega) fun _ _ => ⟨rfl, rfl⟩
          · intro h5 e5 g5 _
            refine b_N_takeText_126 ⟨fun _ => ?_, fun q => by omega⟩
            have c0 : ∀ j, h5 140 j = h1 140 j := fun j => by rw [e5 140 j (by decide) (by simp), e4 140 j (by decide) (by simp), e3 140 j (by decide) (by simp), e2 140 j (by decide) (by simp)]
            have c1 : ∀ j, h5 141 j = h2 141 j := fun j => by rw [e5 141 j (by decide) (by simp), e4 141 j (by decide) (by simp), e3 141 j (by decide) (by simp)]
            have c2 : ∀ j, h5 142 j = h3 142 j := fun j => by rw [e5 142 j (by decide) (by simp), e4 142 j (by decide) (by simp)]
            have c3 : ∀ j, h5 143 j = h4 143 j ∧ h5 144 j = h4 144 j := fun j => ⟨e5 143 j (by decide) (by simp), e5 144 j (by decide) (by simp)⟩
            have d1 : ∀ j, h1 141 j = h 141 j := fun j => e1 141 j (by decide) (by simp)
            have d2 : ∀ j, h2 142 j = h 142 j := fun j => by rw [e2 142 j (by decide) (by simp), e1 142 j (by decide) (by simp)]
            have d3 : ∀ j, h3 143 j = h 143 j ∧ h3 144 j = h 144 j := fun j => by rw [e3 143 j (by decide) (by simp), e2 143 j (by decide) (by simp), e1 143 j (by decide) (by simp), e3 144 j (by decide) (by simp), e2 144 j (by decide) (by simp), e1 144 j (by decide) (by simp)]; exact ⟨rfl, rfl⟩
            have d4 : ∀ j, h4 145 j = h 145 j ∧ h4 146 j = h 146 j := fun j => by rw [e4 145 j (by decide) (by simp), e3 145 j (by decide) (by simp), e2 145 j (by decide) (by simp), e1 145 j (by decide) (by simp), e4 146 j (by decide) (by simp), e3 146 j (by decide) (by simp), e2 146 j (by decide) (by simp), e1 146 j (by decide) (by simp)]; exact ⟨rfl, rfl⟩
            refine q_at rfl (hQ h5 (EX_tr (EX_tr (EX_tr (EX_tr (EX_le e1 (by decide) (by decide)) (EX_le e2 (by decide) (by decide))) (EX_le e3 (by decide) (by decide))) (EX_le e4 (by decide) (by decide))) (EX_le e5 (by decide) (by decide))) ⟨⟨?_, ?_, ?_, ?_, ?_⟩, fun j w hj => ?_, fun j w hj => ?_, fun a a1 a2 => ?_, fun a a1 a2 => ?_⟩)
            · rw [c0, g1 0 (by decide) (by decide)]; exact D.1.1
            · rw [c0, c0, g1 0 (by decide) (by decide), g1 2 (by decide) (by decide)]; exact D.1.2.1
            · rw [c0, g1 1 (by decide) (by decide)]; exact D.1.2.2
            · rw [c0, g1 3 (by decide) (by decide)]; exact D.2.1.1
            · rw [c0, g1 4 (by decide) (by decide)]; exact D.2.1.2.1
            · have := (List.getElem?_eq_some_iff.mp hj).1
              rw [c1, g2 _ (by omega) (by omega), d1, Int.zero_add]; exact D.2.2.1 j w hj
            · have := (List.getElem?_eq_some_iff.mp hj).1
              rw [c2, g3 _ (by omega) (by omega), d2, Int.zero_add]; exact D.2.2.2.1 j w hj
            · rw [(c3 _).1, (c3 _).2, Int.zero_add, (g4 a a1 a2).1, (g4 a a1 a2).2, (d3 _).1, (d3 _).2]; exact D.2.2.2.2.1 a a1 a2
            · rw [Int.zero_add, (g5 a a1 a2).1, (g5 a a1 a2).2, (d4 _).1, (d4 _).2]; exact D.2.2.2.2.2 a a1 a2
          · intro k hk ih h5 e5 g5 k5
            refine b_N_takeText_126 ⟨fun q => by omega, fun _ => ?_⟩
            simp (disch := omega) only [n0 W, nr_8 W, nr_9 W, w32_id, up_oth, true_and]
            refine ⟨by omega, by omega, by omega, by omega, by omega, by omega, by omega, by omega, ih _ (EX_upc (EX_upc e5 (by decide)) (by decide)) (fun j a b => ?_) fun j a => ?_⟩
            · by_cases y : j = (k : Int)
              · subst y; simp (disch := omega) only [up_oth, up_same]; exact k5 _ (by omega)
              · simp (disch := omega) only [up_oth]; exact g5 j a (by omega)
            · simp (disch := omega) only [up_oth]; exact k5 j a
        · intro k hk ih h5 e5 g5 k5
          refine b_N_takeText_82 ⟨fun q => by omega, fun _ => ?_⟩
          simp (disch := omega) only [n0 W, nr_6 W, nr_7 W, w32_id, up_oth, true_and]
          refine ⟨by omega, by omega, by omega, by omega, by omega, by omega, by omega, by omega, ih _ (EX_upc (EX_upc e5 (by decide)) (by decide)) (fun j a b => ?_) fun j a => ?_⟩
          · by_cases y : j = (k : Int)
            · subst y; simp (disch := omega) only [up_oth, up_same]; exact k5 _ (by omega)
            · simp (disch := omega) only [up_oth]; exact g5 j a (by omega)
          · simp (disch := omega) only [up_oth]; exact k5 j a
      · intro k hk ih h5 e5 g5 k5
        refine b_N_takeText_55 ⟨fun q => by omega, fun _ => ?_⟩
        simp (disch := omega) only [n0 W, nr_5 W, w32_id, true_and]
        refine ⟨by omega, by omega, by omega, by omega, ih _ (EX_upc e5 (by decide)) (fun j a b => ?_) fun j a => ?_⟩
        · by_cases y : j = (k : Int)
          · subst y; rw [up_same]; exact k5 _ (by omega)
          · rw [up_oth (by omega)]; exact g5 j a (by omega)
        · rw [up_oth (by omega)]; exact k5 j a
    · intro k hk ih h5 e5 g5 k5
      refine b_N_takeText_26 ⟨fun q => by omega, fun _ => ?_⟩
      simp (disch := omega) only [n0 W, nr_4 W, w32_id, true_and]
      refine ⟨by omega, by omega, by omega, by omega, ih _ (EX_upc e5 (by decide)) (fun j a b => ?_) fun j a => ?_⟩
      · by_cases y : j = (k : Int)
        · subst y; rw [up_same]; exact k5 _ (by omega)
        · rw [up_oth (by omega)]; exact g5 j a (by omega)
      · rw [up_oth (by omega)]; exact k5 j a
  · intro k hk ih h5 e5 g5 k5
    refine b_N_takeText_2 ⟨fun q => by omega, fun _ => ⟨n0 W, n0 W, sp_N_reading W (by omega) ?_⟩⟩
    dsimp only
    simp (disch := omega) only [n0 W, nr_3 W, w32_id, true_and]
    refine ⟨by omega, by omega, ih _ (EX_upc e5 (by decide)) (fun j a b => ?_) fun j a => ?_⟩
    · by_cases y : j = (k : Int)
      · subst y; rw [up_same]; exact k5 _ (by omega)
      · rw [up_oth (by omega)]; exact g5 j a (by omega)
    · rw [up_oth (by omega)]; exact k5 j a
theorem sp_N_fault {w : Int} (W : NW n hr) (hQ : Q (0, if w = 0 then h 138 18 else if w = 1 then h 138 19 else -1) n hr (ai_up h 138 0 0)) : f_N_fault [(2, 138), (0, w)] n hr h Q := by
  apply e_N_fault
  simp (disch := omega) only [n0 W, up_oth, true_and]
  refine ⟨fun q => ⟨fun q2 => ?_, fun q2 => ?_⟩, fun q => ?_⟩
  · rw [if_neg q, if_neg q2] at hQ; exact (by first | exact q_at rfl (hQ) | exact (hQ))
  · rw [if_neg q, if_pos q2] at hQ; exact (by first | exact q_at rfl (hQ) | exact (hQ))
  · rw [if_pos q] at hQ; exact (by first | exact q_at rfl (hQ) | exact (hQ))
theorem sp_N_named {v : Int} (W : NW n hr) (O : dOK s) (D : NTd s h) (hQ : Q (0, if 0 ≤ fnK (dN s) v 0 then fnK (dN s) v 0 else if 0 ≤ fnK (dJ s) v 0 then 100 + fnK (dJ s) v 0 else -1) n hr (ai_up h 138 0 0)) : f_N_named [(2, 138), (0, v)] n hr h Q := by
  obtain ⟨⟨o1, o2, o3, o4, o5⟩, -⟩ := O
  have D1 : NTd s (ai_up h 138 0 0) := NTd_fr D fun c c1 c2 => by funext j; rw [up_oth (by omega)]
  have fb := fnK_bd (dN s) v
  have gb := fnK_bd (dJ s) v
  apply e_N_named
  simp only [n0 W, true_and]
  refine sp_N_places W ?_
  dsimp only
  rw [D1.1.2.1, w32_id (by omega) (by omega), (nr_4 W).1]
  refine sp_N_found (L := dN s) (nr_4 W).2.1 (by rw [(nr_4 W).2.2]; omega) (by rw [(nr_4 W).2.2]; omega) D1.2.1 ⟨n0 W, n0 W, sp_N_inputs W ?_⟩
  dsimp only
  rw [D1.1.2.2.1, (nr_5 W).1]
  refine sp_N_found (L := dJ s) (nr_5 W).2.1 (by rw [(nr_5 W).2.2]; omega) (by rw [(nr_5 W).2.2]; omega) D1.2.2.1 ⟨fun q => ⟨fun q2 => ?_, fun q2 => ?_⟩, fun q => ?_⟩
  · rw [if_neg (by omega), if_neg (by dsimp only at q2; omega)] at hQ; exact (by first | exact q_at rfl (hQ) | exact (hQ))
  · rw [if_neg (by omega), if_pos (by dsimp only at q2; omega)] at hQ
    dsimp only
    rw [w32_id (by omega) (by omega)]
    exact (by first | exact q_at rfl (hQ) | exact (hQ))
  · rw [if_pos (by omega)] at hQ; exact (by first | exact q_at rfl (hQ) | exact (hQ))
end
