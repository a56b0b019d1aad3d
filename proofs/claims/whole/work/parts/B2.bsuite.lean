-- deps: 18 19 20 21 22 23 24 25 26 27 28 29 30 31 32 33 34 35 36 37 38 39 40 41 42 43 44 45 46 47 48 49 50 51 52 53 54 55 56 57 58 59 60 61 62 63 64 65 66 67 68 69 70 71 72 73 74 75 76 77 78 79 80 81 82 83 84 85 86 87 88 89 90 91 92 93 94 95 96 97 98 99 9A 9B 9C 9D 9E 9F 9G 9H 9I 9J 9K 9L 9M 9N 9O 9P 9Q 9R 9S 9T 9U 9V 9W 9X 9Y 9Z A0 A1 A2 A3 A4 A5 A6 A7 B0 B1
/-! the class's own methods: suites -/
section
variable {Q : RP} {n : Nat} {hr h : HP} {z : ST} {d : Int} {k : Nat}
theorem C4_of {s : DS} {h1 : HP} (H : C4 s h) (a : SC h1) (b : CSg (dM s) (dJ s).length (tM s) (oM s) h1) (c : h1 27 9 = h 27 9) (d : h1 32 = h 32) (e : h1 33 = h 33) (f : h1 34 = h 34) : C4 s h1 := by
  refine ⟨a, b, ?_, ?_⟩
  · unfold CFa; rw [d]; exact H.2.2.1
  · unfold CTt; rw [c, e, f]; exact H.2.2.2
theorem CSg_e {S I : Nat} {t o : Int → Int} {h1 : HP} (H : CSg S I t o h) (e : h1 31 = h 31) : CSg S I t o h1 := by unfold CSg; rw [e]; exact H
theorem sp_B_give {su : Nat} (V : CW n hr) (hd : d = 3 ∨ d = 8) (O : zOK z) (C : CAL z d k h) (hsu : su < 4) (hQ : ∀ h1, (∀ c : Int, 102 ≤ c → h1 c = h c) → CAL z d k h1 → GTs (dM (zS z)) ((dJ (zS z)).length) (tM (zS z)) (oM (zS z)) (sE (zS z)) su h1 → Q (2, gx (sE (zS z)) su) n hr h1) : f_T_give [(2, 35), (0, (su : Int))] n hr h Q := by
  have TT := TV_s O.2.1
  have he := (sE_3 O.2.1).1
  obtain ⟨a1, a2, a3, a4, a5, a6, a7, a8, a9, a10⟩ := C
  by_cases y : su < 2
  · have b := tc_b y he
    have eg : gx (sE (zS z)) su = tc su (sE (zS z)) := if_pos y
    rw [eg] at hQ
    refine sp_T_give_p V TT a2.1 a3 y he a5.1 (a5.2.1 su _ y he) fun h1 e1 k1 => ?_
    unfold fxP at e1
    refine hQ h1 (fun c p => EX_fn (e1) (by simp <;> omega) (by simp <;> omega)) ⟨C1_fr hd a1 (fun c p q => EX_fn (e1) (by simp <;> omega) (by simp <;> omega)), C2_fr a2 (fun c p q => EX_fn (e1) (by simp <;> omega) (by simp <;> omega)), C3_fr a3 (fun c p q => EX_fn (e1) (by simp <;> omega) (by simp <;> omega)), C4_fr a4 (EX_fn e1 (by simp <;> omega) (by simp <;> omega)) (EX_fn e1 (by simp <;> omega) (by simp <;> omega)) (EX_fn e1 (by simp <;> omega) (by simp <;> omega)) (EX_fn e1 (by simp <;> omega) (by simp <;> omega)) (EX_fn e1 (by simp <;> omega) (by simp <;> omega)) (EX_fn e1 (by simp <;> omega) (by simp <;> omega)), ⟨?_, fun su' e' hs' he' => ?_, fun wh hw => ?_⟩, C6_fr a6 (fun c p q => EX_fn (e1) (by simp <;> omega) (by simp <;> omega)), C7_fr a7 (fun c p q => EX_fn (e1) (by simp <;> omega) (by simp <;> omega)), C8_fr a8 (EX_fn e1 (by simp <;> omega) (by simp <;> omega)) (EX_fn e1 (by simp <;> omega) (by simp <;> omega)) (EX_fn e1 (by simp <;> omega) (by simp <;> omega)), C9_fr a9 (e1 0 13 (by simp <;> omega) (by simp <;> omega)) (e1 0 14 (by simp <;> omega) (by simp <;> omega)) (EX_fn e1 (by simp <;> omega) (by simp <;> omega)), C10_fr a10 (e1 0 15 (by simp <;> omega) (by simp <;> omega)) (fun c p q => EX_fn (e1) (by simp <;> omega) (by simp <;> omega))⟩ (GT_of_TKn y k1)
    · rw [e1 35 11 (by simp <;> omega) (by simp <;> omega)]; exact a5.1
    · by_cases w : su' = su ∧ e' = (sE (zS z))
      · obtain ⟨rfl, rfl⟩ := w
        exact Or.inr k1
      · refine TSu_fr (a5.2.1 su' e' hs' he') fun c c1 c2 => EX_fn e1 ?_ ?_
        · unfold tc at *
          simp
          omega
        · unfold tc at *
          simp
          omega
    · refine TWy_fr (a5.2.2 wh hw) fun c c1 c2 => EX_fn e1 ?_ ?_
      · unfold tc tw at *
        simp
        omega
      · unfold tc tw at *
        simp
        omega
  · obtain ⟨wh, rfl⟩ : ∃ wh, su = wh + 2 := ⟨su - 2, by omega⟩
    have hw : wh < 2 := by omega
    have eg : gx (sE (zS z)) (wh + 2) = tw wh := by unfold gx; rw [if_neg y]; rfl
    have b : tw wh = 88 ∨ tw wh = 95 := by unfold tw; omega
    rw [eg] at hQ
    refine sp_T_give_w V TT a2.1 a3.2.2.1 a4.1 a4.2.1 hw (a5.2.2 wh hw) fun h1 e1 s1 g1 k1 => ?_
    unfold fxG at e1
    refine hQ h1 (fun c p => EX_fn (e1) (by simp <;> omega) (by simp <;> omega)) ⟨C1_fr hd a1 (fun c p q => EX_fn (e1) (by simp <;> omega) (by simp <;> omega)), C2_fr a2 (fun c p q => EX_fn (e1) (by simp <;> omega) (by simp <;> omega)), C3_fr a3 (fun c p q => EX_fn (e1) (by simp <;> omega) (by simp <;> omega)), C4_of a4 s1 g1 (e1 27 9 (by simp <;> omega) (by simp <;> omega)) (EX_fn e1 (by simp <;> omega) (by simp <;> omega)) (EX_fn e1 (by simp <;> omega) (by simp <;> omega)) (EX_fn e1 (by simp <;> omega) (by simp <;> omega)), ⟨?_, fun su' e' hs' he' => ?_, fun wh' hw' => ?_⟩, C6_fr a6 (fun c p q => EX_fn (e1) (by simp <;> omega) (by simp <;> omega)), C7_fr a7 (fun c p q => EX_fn (e1) (by simp <;> omega) (by simp <;> omega)), C8_fr a8 (EX_fn e1 (by simp <;> omega) (by simp <;> omega)) (EX_fn e1 (by simp <;> omega) (by simp <;> omega)) (EX_fn e1 (by simp <;> omega) (by simp <;> omega)), C9_fr a9 (e1 0 13 (by simp <;> omega) (by simp <;> omega)) (e1 0 14 (by simp <;> omega) (by simp <;> omega)) (EX_fn e1 (by simp <;> omega) (by simp <;> omega)), C10_fr a10 (e1 0 15 (by simp <;> omega) (by simp <;> omega)) (fun c p q => EX_fn (e1) (by simp <;> omega) (by simp <;> omega))⟩ (GT_of_TWn y k1)
    · rw [e1 35 11 (by simp <;> omega) (by simp <;> omega)]; exact a5.1
    · refine TSu_fr (a5.2.1 su' e' hs' he') fun c c1 c2 => EX_fn e1 ?_ ?_
      · unfold tc at *
        simp
        omega
      · unfold tc at *
        simp
        omega
    · by_cases w : wh' = wh
      · subst w; exact Or.inr k1
      · refine TWy_fr (a5.2.2 wh' hw') fun c c1 c2 => EX_fn e1 ?_ ?_
        · unfold tw at *
          simp
          omega
        · unfold tw at *
          simp
          omega
/-- only the rows at hand were written -/
theorem CAL_s {h1 : HP} {cs : List Int} (hd : d = 3 ∨ d = 8) (C : CAL z d k h) (e : EX cs [] h h1) (a : ∀ c ∈ cs, c = 28 ∨ c = 29 ∨ (36 ≤ c ∧ c ≤ 45) ∨ c = 103 ∨ c = 116 ∨ c = 117 ∨ c = 122) : CAL z d k h1 := by
  have g : ∀ c : Int, ¬ (c = 28 ∨ c = 29 ∨ (36 ≤ c ∧ c ≤ 45) ∨ c = 103 ∨ c = 116 ∨ c = 117 ∨ c = 122) → h1 c = h c := fun c hc => EX_fn e (fun q => hc (a c q)) (by simp)
  obtain ⟨a1, a2, a3, a4, a5, a6, a7, a8, a9, a10⟩ := C
  refine ⟨C1_fr hd a1 fun c p q => g c (by omega), C2_fr a2 fun c p q => g c (by omega), C3_fr a3 fun c p q => g c (by omega), C4_fr a4 (g _ (by omega)) (g _ (by omega)) (g _ (by omega)) (g _ (by omega)) (g _ (by omega)) (g _ (by omega)), C5_fr a5 (by rw [g 35 (by omega)]) fun c p q => g c (by omega), ?_, C7_fr a7 fun c p q => g c (by omega), C8_fr a8 (g _ (by omega)) (g _ (by omega)) (g _ (by omega)), C9_fr a9 (by rw [g 0 (by omega)]) (by rw [g 0 (by omega)]) (g _ (by omega)), C10_fr a10 (by rw [g 0 (by omega)]) fun c p q => g c (by omega)⟩
  unfold C6 CMp CEq EQk CNo CSm CCv CTl
  rw [g 102 (by omega), g 104 (by omega), g 105 (by omega), g 109 (by omega), g 110 (by omega), g 111 (by omega), g 112 (by omega), g 113 (by omega), g 114 (by omega), g 115 (by omega)]
  exact a6
theorem sp_B_sign {s : Int} (V : CW n hr) (hd : d = 3 ∨ d = 8) (O : zOK z) (C : CAL z d k h) (h1 : (0 ≤ s ∧ s < ((dM (zS z)) : Int)) → ∀ h1, (∀ c : Int, 102 ≤ c → h1 c = h c) → CAL z d k h1 → Q (0, SGN (dM (zS z)) ((dJ (zS z)).length) (tM (zS z)) (oM (zS z)) s.toNat) n hr h1) (h0 : ¬ (0 ≤ s ∧ s < ((dM (zS z)) : Int)) → Q (0, -1) n hr h) : f_B_sign [(2, 0), (0, s)] n hr h Q := by
  have TT := TV_s O.2.1
  apply e_B_sign
  refine ⟨ok_0 V.1, sp_B_isState V C.2.1.1.1 (fun q => ⟨fun r => absurd r (by decide), fun _ => ⟨ok_0 V.1, ?_⟩⟩) fun q => ⟨fun _ => (by first | exact q_at rfl (h0 q) | exact (h0 q)), fun r => absurd rfl r⟩⟩
  obtain ⟨i, rfl⟩ := Int.eq_ofNat_of_zero_le q.1
  have H := h1 q
  rw [Int.toNat_natCast] at H
  obtain ⟨a1, a2, a3, a4, a5, a6, a7, a8, a9, a10⟩ := C
  rw [(cr_0_4 V).1]
  refine ⟨ok_27 V.1, sp_S_signOf V TT a2.1 a3.2.2.1 (by omega) a4.1 a4.2.1 fun h2 e2 s2 g2 => ?_⟩
  exact q_at rfl (H h2 (fun c p => EX_fn (e2) (by simp <;> omega) (by simp <;> omega)) ⟨C1_fr hd a1 (fun c p q => EX_fn (e2) (by simp <;> omega) (by simp <;> omega)), C2_fr a2 (fun c p q => EX_fn (e2) (by simp <;> omega) (by simp <;> omega)), C3_fr a3 (fun c p q => EX_fn (e2) (by simp <;> omega) (by simp <;> omega)), C4_of a4 s2 g2 ((e2) _ _ (by decide) (by decide)) (EX_fn (e2) (by decide) (by decide)) (EX_fn (e2) (by decide) (by decide)) (EX_fn (e2) (by decide) (by decide)), C5_fr a5 ((e2) _ _ (by decide) (by decide)) (fun c p q => EX_fn (e2) (by simp <;> omega) (by simp <;> omega)), C6_fr a6 (fun c p q => EX_fn (e2) (by simp <;> omega) (by simp <;> omega)), C7_fr a7 (fun c p q => EX_fn (e2) (by simp <;> omega) (by simp <;> omega)), C8_fr a8 (EX_fn (e2) (by decide) (by decide)) (EX_fn (e2) (by decide) (by decide)) (EX_fn (e2) (by decide) (by decide)), C9_fr a9 ((e2) _ _ (by decide) (by decide)) ((e2) _ _ (by decide) (by decide)) (EX_fn (e2) (by decide) (by decide)), C10_fr a10 ((e2) _ _ (by decide) (by decide)) (fun c p q => EX_fn (e2) (by simp <;> omega) (by simp <;> omega))⟩)
theorem sp_B_suite {su what : Int} (V : CW n hr) (hd : d = 3 ∨ d = 8) (O : zOK z) (C : CAL z d k h) (h0 : ¬ ((0 ≤ su ∧ su ≤ 3) ∧ 0 ≤ what ∧ what ≤ 2) → Q (0, -1) n hr h) (h1 : (0 ≤ su ∧ su ≤ 3) → (0 ≤ what ∧ what ≤ 2) → ∀ h1, (∀ c : Int, 102 ≤ c → h1 c = h c) → CAL z d k h1 → Q (0, vSu (SWl (dM (zS z)) ((dJ (zS z)).length) (tM (zS z)) (oM (zS z)) (sE (zS z)) su.toNat) what) n hr h1) : f_B_suite [(2, 0), (0, su), (0, what)] n hr h Q := by
  obtain ⟨hS, hI, hm, hc, hT⟩ := TV_s O.2.1
  have he := (sE_3 O.2.1).1
  apply e_B_suite
  refine sp_B_isSuite (fun q => ⟨fun r => absurd r (by decide), fun _ => ⟨fun q2 => (by first | exact q_at rfl (h0 (by omega)) | exact (h0 (by omega))), fun q2 => ⟨fun q3 => ⟨ok_0 V.1, ?_⟩, fun q3 => (by first | exact q_at rfl (h0 (by omega)) | exact (h0 (by omega)))⟩⟩⟩) fun q => ⟨fun _ => (by first | exact q_at rfl (h0 (fun r => q r.1)) | exact (h0 (fun r => q r.1))), fun r => absurd rfl r⟩
  obtain ⟨s, rfl⟩ := Int.eq_ofNat_of_zero_le q.1
  have H := h1 q ⟨q2, q3⟩
  rw [Int.toNat_natCast] at H
  rw [(cr_0_5 V).1]
  refine ⟨ok_35 V.1, sp_B_give V hd O C (by omega) fun h2 f2 c2 g2 => ?_⟩
  have H2 := H h2 f2 c2
  unfold vSu at H2
  obtain ⟨nl, tl, R, l1, l2⟩ := gx_row (o := (oM (zS z))) V hS hI hm hc he (show s < 4 by omega)
  have ok := SWl_ok (o := (oM (zS z))) hS hI hm hc (su := s) he
  refine ⟨fun y => ⟨fun y2 => ?_, fun y2 => ?_⟩, fun y => ?_⟩
  · rw [if_neg y, if_neg y2] at H2
    exact ⟨R.1, sp_E_mostInputs R g2.2.1 l2 (by omega) (by first | exact q_at rfl (H2) | exact (H2))⟩
  · rw [if_neg y, if_pos y2] at H2
    exact ⟨R.1, sp_E_inputsInSum R g2.2.1 l2 (by omega) (fun w hw => (ok.2 w hw).2) (by first | exact q_at rfl (H2) | exact (H2))⟩
  · rw [if_pos y] at H2
    refine ⟨R.1, ?_⟩
    rw [g2.2.1.1]
    exact (by first | exact q_at rfl (H2) | exact (H2))
theorem sp_B_test {su x : Int} (V : CW n hr) (hd : d = 3 ∨ d = 8) (O : zOK z) (C : CAL z d k h) (h0 : ¬ ((su = 0 ∨ su = 1) ∧ 0 ≤ x) → Q (0, -1) n hr h) (h1 : (su = 0 ∨ su = 1) → 0 ≤ x → ∀ h1, (∀ c : Int, 102 ≤ c → h1 c = h c) → CAL z d k h1 → Q (0, match (LFr (dM (zS z)) ((dJ (zS z)).length) (tM (zS z)) (oM (zS z)) su.toNat (sE (zS z)))[x.toNat]? with | some v => (v : Int) | none => -2) n hr h1) : f_B_test [(2, 0), (0, su), (0, x)] n hr h Q := by
  obtain ⟨hS, hI, hm, hc, hT⟩ := TV_s O.2.1
  have he := (sE_3 O.2.1).1
  apply e_B_test
  refine sp_B_isPlanned (fun q => ⟨fun r => absurd r (by decide), fun _ => ⟨fun q2 => ⟨ok_0 V.1, ?_⟩, fun q2 => (by first | exact q_at rfl (h0 (by omega)) | exact (h0 (by omega)))⟩⟩) fun q => ⟨fun _ => (by first | exact q_at rfl (h0 (fun r => q r.1)) | exact (h0 (fun r => q r.1))), fun r => absurd rfl r⟩
  obtain ⟨s, rfl⟩ : ∃ s : Nat, su = (s : Int) := ⟨su.toNat, by omega⟩
  obtain ⟨i, rfl⟩ := Int.eq_ofNat_of_zero_le q2
  have H := h1 q q2
  rw [Int.toNat_natCast, Int.toNat_natCast] at H
  rw [(cr_0_5 V).1]
  refine ⟨ok_35 V.1, sp_B_give V hd O C (by omega) fun h2 f2 c2 g2 => ?_⟩
  have H2 := H h2 f2 c2
  obtain ⟨nl, tl, R, l1, l2⟩ := gx_row (o := (oM (zS z))) V hS hI hm hc he (show s < 4 by omega)
  have eW : SWl (dM (zS z)) ((dJ (zS z)).length) (tM (zS z)) (oM (zS z)) (sE (zS z)) s = LFr (dM (zS z)) ((dJ (zS z)).length) (tM (zS z)) (oM (zS z)) s (sE (zS z)) := if_pos (by omega)
  unfold GTs at g2
  rw [eW] at g2 l2
  dsimp only
  rw [g2.2.1.1]
  refine ⟨R.1, fun y => ?_, fun y => ?_⟩
  · rw [List.getElem?_eq_none (by omega)] at H2
    exact (by first | exact q_at rfl (H2) | exact (H2))
  · have hs := List.getElem?_eq_getElem (l := LFr (dM (zS z)) ((dJ (zS z)).length) (tM (zS z)) (oM (zS z)) s (sE (zS z))) (i := i) (by omega)
    rw [hs] at H2
    have gw := g2.2.2 (by omega) i _ hs
    obtain ⟨r0, r1, r2, r3, r4, r5, r6, r7, r8, r9⟩ := R
    simp only [r0, r5, gw, true_and]
    refine ⟨by omega, by omega, ?_⟩
    exact (by first | exact q_at rfl (H2) | exact (H2))
end
