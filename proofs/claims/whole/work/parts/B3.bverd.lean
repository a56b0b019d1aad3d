-- deps: 18 19 20 21 22 23 24 25 26 27 28 29 30 31 32 33 34 35 36 37 38 39 40 41 42 43 44 45 46 47 48 49 50 51 52 53 54 55 56 57 58 59 60 61 62 63 64 65 66 67 68 69 70 71 72 73 74 75 76 77 78 79 80 81 82 83 84 85 86 87 88 89 90 91 92 93 94 95 96 97 98 99 9A 9B 9C 9D 9E 9F 9G 9H 9I 9J 9K 9L 9M 9N 9O 9P 9Q 9R 9S 9T 9U 9V 9W 9X 9Y 9Z A0 A1 A2 A3 A4 A5 A6 A7 B0 B1 B2
/-! the class's own methods: tours, verdicts, whether the two are equal -/
section
variable {Q : RP} {n : Nat} {hr h : HP} {z : ST} {d : Int} {k : Nat}
theorem sp_B_way {wh x : Int} (V : CW n hr) (hd : d = 3 ∨ d = 8) (O : zOK z) (C : CAL z d k h) (h0 : ¬ ((0 ≤ wh ∧ wh < 2) ∧ 0 ≤ x) → Q (0, -1) n hr h) (h1 : ((0 ≤ wh ∧ wh < 2) ∧ 0 ≤ x) → ∀ h1, (∀ c : Int, 102 ≤ c → h1 c = h c) → CAL z d k h1 → Q (0, match (WY (dM (zS z)) ((dJ (zS z)).length) (tM (zS z)) (oM (zS z)) wh.toNat)[x.toNat]? with | some v => (v : Int) | none => -2) n hr h1) : f_B_way [(2, 0), (0, wh), (0, x)] n hr h Q := by
  obtain ⟨hS, hI, hm, hc, hT⟩ := TV_s O.2.1
  have he := (sE_3 O.2.1).1
  apply e_B_way
  refine ⟨fun q => (by first | exact q_at rfl (h0 (by omega)) | exact (h0 (by omega))), fun q => ⟨fun q2 => (by first | exact q_at rfl (h0 (by omega)) | exact (h0 (by omega))), fun q2 => ⟨fun q3 => ⟨ok_0 V.1, ?_⟩, fun q3 => (by first | exact q_at rfl (h0 (by omega)) | exact (h0 (by omega)))⟩⟩⟩
  obtain ⟨w, rfl⟩ := Int.eq_ofNat_of_zero_le q
  obtain ⟨i, rfl⟩ := Int.eq_ofNat_of_zero_le q3
  have H := h1 ⟨⟨q, by omega⟩, q3⟩
  rw [Int.toNat_natCast, Int.toNat_natCast] at H
  rw [(cr_0_5 V).1, w32_id (by omega) (by omega), show 2 + (w : Int) = ((w + 2 : Nat) : Int) by omega]
  refine ⟨ok_35 V.1, sp_B_give V hd O C (by omega) fun h2 f2 c2 g2 => ?_⟩
  have H2 := H h2 f2 c2
  obtain ⟨nl, tl, R, l1, l2⟩ := gx_row (o := (oM (zS z))) V hS hI hm hc he (show w + 2 < 4 by omega)
  obtain ⟨r0, r1, r2, r3, r4, r5, r6, r7, r8, r9⟩ := R
  have ol := (OSs_ok (o := (oM (zS z))) hS hI hm hc (su := w + 2) he).2.2
  rw [if_neg (by omega)] at ol
  dsimp only
  rw [g2.1.1, w32_id (by omega) (by omega)]
  by_cases S0 : (dM (zS z)) = 0
  · have e0 : OSs (dM (zS z)) ((dJ (zS z)).length) (tM (zS z)) (oM (zS z)) (sE (zS z)) (w + 2) = [] := if_pos S0
    have w0 : WY (dM (zS z)) ((dJ (zS z)).length) (tM (zS z)) (oM (zS z)) w = [] := if_pos S0
    rw [w0] at H2
    rw [e0]
    exact ⟨r0, fun _ => (by first | exact q_at rfl (H2) | exact (H2)), fun y => by simp at y; omega⟩
  · have e0 : OSs (dM (zS z)) ((dJ (zS z)).length) (tM (zS z)) (oM (zS z)) (sE (zS z)) (w + 2) = pfx (TOUR (dM (zS z)) ((dJ (zS z)).length) (tM (zS z)) (oM (zS z)) w) := by unfold OSs; rw [if_neg S0, if_neg (by omega)]; rfl
    have w0 : WY (dM (zS z)) ((dJ (zS z)).length) (tM (zS z)) (oM (zS z)) w = TOUR (dM (zS z)) ((dJ (zS z)).length) (tM (zS z)) (oM (zS z)) w := if_neg S0
    have ok := (itW_ok (o := (oM (zS z))) hS (by omega) hI hc w 18).2.2.2
    rw [w0] at H2
    have pl := pfx_len (TOUR (dM (zS z)) ((dJ (zS z)).length) (tM (zS z)) (oM (zS z)) w)
    rw [e0] at ol l1 ⊢
    refine ⟨r0, fun y => ?_, fun y => ?_⟩
    · rw [List.getElem?_eq_none (by omega)] at H2
      exact (by first | exact q_at rfl (H2) | exact (H2))
    · obtain ⟨g, hs⟩ : ∃ g, (TOUR (dM (zS z)) ((dJ (zS z)).length) (tM (zS z)) (oM (zS z)) w)[i]? = some g := ⟨_, List.getElem?_eq_getElem (by omega)⟩
      have il : g < ((dJ (zS z)).length) := ok _ (List.mem_of_getElem? hs)
      rw [hs] at H2
      have hp : (pfx (TOUR (dM (zS z)) ((dJ (zS z)).length) (tM (zS z)) (oM (zS z)) w))[i + 1]? = some (4 * wrd ((TOUR (dM (zS z)) ((dJ (zS z)).length) (tM (zS z)) (oM (zS z)) w).take i) + g + 1) := pfx_at.mpr ⟨by omega, (wrd_tk hs).symm⟩
      rw [← e0] at hp
      have gg := g2.1.2 (i + 1) _ (by omega) hp
      obtain ⟨p, u, j, _, _, j3, ev, _, e2, _⟩ := gg
      have ej : j = g := by
        generalize wrd ((TOUR (dM (zS z)) ((dJ (zS z)).length) (tM (zS z)) (oM (zS z)) w).take i) = ww at ev
        clear hp
        omega
      rw [show ((i + 1 : Nat) : Int) = (i : Int) + 1 by omega] at e2
      simp (disch := omega) only [r0, r2, w32_id, e2, true_and]
      refine ⟨by omega, by omega, ?_⟩
      rw [ej]
      exact (by first | exact q_at rfl (H2) | exact (H2))
theorem sp_B_verdict {su what : Int} (V : CW n hr) (hd : d = 3 ∨ d = 8) (O : zOK z) (C : CAL z d k h) (h0 : ¬ ((0 ≤ su ∧ su ≤ 3) ∧ 0 ≤ what ∧ what ≤ 3) → Q (0, -1) n hr h) (h1 : (0 ≤ su ∧ su ≤ 3) → (0 ≤ what ∧ what ≤ 3) → ∀ h1, (∀ c : Int, 102 ≤ c → h1 c = h c) → CAL z d k h1 → Q (0, vVe (tM (zS z)) (oM (zS z)) (zt z) (zo z) (SWl (dM (zS z)) ((dJ (zS z)).length) (tM (zS z)) (oM (zS z)) (sE (zS z)) su.toNat) what) n hr h1) : f_B_verdict [(2, 0), (0, su), (0, what)] n hr h Q := by
  obtain ⟨hS, hI, hm, hc, hT⟩ := TV_s O.2.1
  have hm' := O.2.2.1.1
  have he := (sE_3 O.2.1).1
  apply e_B_verdict
  refine sp_B_isSuite (fun q => ⟨fun r => absurd r (by decide), fun _ => ⟨fun q2 => (by first | exact q_at rfl (h0 (by omega)) | exact (h0 (by omega))), fun q2 => ⟨fun q3 => ⟨ok_0 V.1, ?_⟩, fun q3 => (by first | exact q_at rfl (h0 (by omega)) | exact (h0 (by omega)))⟩⟩⟩) fun q => ⟨fun _ => (by first | exact q_at rfl (h0 (fun r => q r.1)) | exact (h0 (fun r => q r.1))), fun r => absurd rfl r⟩
  obtain ⟨s, rfl⟩ := Int.eq_ofNat_of_zero_le q.1
  have H := h1 q ⟨q2, q3⟩
  rw [Int.toNat_natCast] at H
  rw [(cr_0_5 V).1]
  refine ⟨ok_35 V.1, sp_B_give V hd O C (by omega) fun h2 f2 c2 g2 => ⟨ok_0 V.1, ?_⟩⟩
  obtain ⟨nl, tl, R, l1, l2⟩ := gx_row (o := (oM (zS z))) V hS hI hm hc he (show s < 4 by omega)
  have ok := OSs_ok (o := (oM (zS z))) hS hI hm hc (su := s) he
  have swo := SWl_ok (o := (oM (zS z))) hS hI hm hc (su := s) he
  have gb := gx_b he (show s < 4 by omega)
  have mh := mH_b (sE (zS z))
  have ol : (OSs (dM (zS z)) ((dJ (zS z)).length) (tM (zS z)) (oM (zS z)) (sE (zS z)) s).length ≤ 4550 := by have := ok.2.2; split at this <;> omega
  rw [(cr_0_2 V).1]
  refine ⟨R.1, sp_E_run_g (t := (tM (zS z))) (o := (oM (zS z))) R gb (mr_16 V) (by omega) hm hm' c2.2.1.2.2.2.1 c2.2.1.2.2.2.2 g2.1 ok.1 ok.2.1 l1 fun h3 e3 A3 => ?_⟩
  have c3 := CAL_s hd c2 e3 (by decide)
  have H3 := H h3 (fun c hc' => by rw [EX_fn e3 (c := c) (by simp <;> omega) (by simp), f2 c hc']) c3
  have G3 : GTs (dM (zS z)) ((dJ (zS z)).length) (tM (zS z)) (oM (zS z)) (sE (zS z)) s h3 := GT_fr he (by omega) g2 fun c a b => EX_fn e3 (by simp <;> omega) (by simp)
  unfold vVe at H3
  refine ⟨fun y => ⟨R.1, ?_⟩, fun y => ?_⟩
  · rw [if_neg y] at H3
    refine sp_E_firstFailure (t := (tM (zS z))) (o := (oM (zS z))) R hm' G3.2.1 l2 (by omega) ol ok.2.1 A3 (fun j j1 j2 j3 => ?_) fun j1 => ?_
    · have ef : fw (fl (tM (zS z)) (oM (zS z)) (zt z) (zo z) (SWl (dM (zS z)) ((dJ (zS z)).length) (tM (zS z)) (oM (zS z)) (sE (zS z)) s)) = (j : Int) := fw_at j2 j3
      obtain ⟨w, w1, w2⟩ := j2
      rw [ef, if_neg (by omega), Int.toNat_natCast, w1] at H3
      have wm := List.mem_of_getElem? w1
      have wk := swo.2 w wm
      have rn := (RN_neg (t := (tM (zS z))) (o := (oM (zS z))) hm' wk.1).mpr w2
      refine ⟨fun _ => ⟨fun y2 => ⟨fun y3 => ⟨ok_0 V.1, ?_⟩, fun y3 => ?_⟩, fun y2 => ?_⟩, fun r => by dsimp only at r; omega⟩
      · rw [if_neg y2, if_neg y3] at H3
        rw [(cr_0_2 V).1]
        rcases ok.1 with o0 | o0
        · exfalso
          obtain ⟨e', -, e2, -⟩ := G3.2.1.2 j w w1
          rw [o0] at e2; cases e2
        · exact ⟨R.1, sp_E_wrongOutput R (mr_16 V) hm hm' c3.2.1.2.2.2.2 G3.1 G3.2.1 o0 ok.2.1 l2 l1 A3 w1 rn wk.2 (by first | exact q_at rfl (H3) | exact (H3))⟩
      · rw [if_neg y2, if_pos y3] at H3
        rcases ok.1 with o0 | o0
        · exfalso
          obtain ⟨e', -, e2, -⟩ := G3.2.1.2 j w w1
          rw [o0] at e2; cases e2
        · exact ⟨R.1, sp_E_wrongPlace R hm hm' G3.1 G3.2.1 o0 ok.2.1 l2 l1 A3 w1 rn wk.2 (by first | exact q_at rfl (H3) | exact (H3))⟩
      · rw [if_pos y2] at H3
        exact (by first | exact q_at rfl (H3) | exact (H3))
    · have ef : fw (fl (tM (zS z)) (oM (zS z)) (zt z) (zo z) (SWl (dM (zS z)) ((dJ (zS z)).length) (tM (zS z)) (oM (zS z)) (sE (zS z)) s)) = -2 := fw_no fun j r => j1 j (fl_lt r) r
      rw [ef, if_pos (by omega)] at H3
      exact ⟨fun r => absurd r (by decide), fun _ => (by first | exact q_at rfl (H3) | exact (H3))⟩
  · rw [if_pos y] at H3
    exact ⟨R.1, sp_E_failures (t := (tM (zS z))) (o := (oM (zS z))) R hm' G3.2.1 l2 (by omega) ol ok.2.1 A3 (by first | exact q_at rfl (H3) | exact (H3))⟩
theorem B_unl {R : RP} (V : CW n hr) (hd : d = 3 ∨ d = 8) (O : zOK z) (C : CAL z d k h) (hQ : ∀ h1, (∀ c : Int, 102 ≤ c → h1 c = h c) → CAL z d k h1 → R (0, vWi (dM (zS z)) ((dJ (zS z)).length) (tM (zS z)) (oM (zS z)) (zt z) (zo z)) n hr h1) : f_S_unlike [(2, 27), (2, 13), (2, 16)] n hr h R := by
  obtain ⟨hS, hI, hm, hc, hT⟩ := TV_s O.2.1
  obtain ⟨⟨o1, o2, o3, o4, o5⟩, -⟩ := O.2.1
  obtain ⟨a1, a2, a3, a4, a5, a6, a7, a8, a9, a10⟩ := C
  refine sp_S_unlike V hI hm O.2.2.1.1 (mr_13 V) (mr_16 V) (by omega) (by omega) a2.1.2.1 a2.1.2.2.1 a2.1.2.2.2 a2.2.2.2.1 a2.2.2.2.2 a4.1 fun h2 e2 s2 => ?_
  have H := hQ h2 (fun c p => EX_fn (e2) (by simp <;> omega) (by simp <;> omega)) ⟨C1_fr hd a1 (fun c p q => EX_fn (e2) (by simp <;> omega) (by simp <;> omega)), C2_fr a2 (fun c p q => EX_fn (e2) (by simp <;> omega) (by simp <;> omega)), C3_fr a3 (fun c p q => EX_fn (e2) (by simp <;> omega) (by simp <;> omega)), C4_of a4 s2 (CSg_e a4.2.1 (EX_fn (e2) (by decide) (by decide))) ((e2) _ _ (by decide) (by decide)) (EX_fn (e2) (by decide) (by decide)) (EX_fn (e2) (by decide) (by decide)) (EX_fn (e2) (by decide) (by decide)), C5_fr a5 ((e2) _ _ (by decide) (by decide)) (fun c p q => EX_fn (e2) (by simp <;> omega) (by simp <;> omega)), C6_fr a6 (fun c p q => EX_fn (e2) (by simp <;> omega) (by simp <;> omega)), C7_fr a7 (fun c p q => EX_fn (e2) (by simp <;> omega) (by simp <;> omega)), C8_fr a8 (EX_fn (e2) (by decide) (by decide)) (EX_fn (e2) (by decide) (by decide)) (EX_fn (e2) (by decide) (by decide)), C9_fr a9 ((e2) _ _ (by decide) (by decide)) ((e2) _ _ (by decide) (by decide)) (EX_fn (e2) (by decide) (by decide)), C10_fr a10 ((e2) _ _ (by decide) (by decide)) (fun c p q => EX_fn (e2) (by simp <;> omega) (by simp <;> omega))⟩
  unfold vWi at H
  rw [a2.1.1, a2.2.1]
  by_cases y : (dM (zS z)) = 0
  · rw [if_pos y] at H
    rw [if_neg (by omega)]; exact H
  · rw [if_neg y] at H
    rw [if_pos (by omega)]; exact H
theorem sp_B_isEqual (V : CW n hr) (hd : d = 3 ∨ d = 8) (O : zOK z) (C : CAL z d k h) (hQ : ∀ h1, (∀ c : Int, 102 ≤ c → h1 c = h c) → CAL z d k h1 → Q (0, if vWi (dM (zS z)) ((dJ (zS z)).length) (tM (zS z)) (oM (zS z)) (zt z) (zo z) = -2 then 1 else 0) n hr h1) : f_B_isEqual [(2, 0)] n hr h Q := by
  apply e_B_isEqual
  simp only [ok_0 V.1, cr_0_4 V, cr_0_1 V, cr_0_2 V, ok_27 V.1, true_and, true_or, or_true]
  refine B_unl V hd O C fun h2 f2 c2 => ?_
  have H := hQ h2 f2 c2
  refine ⟨fun y => ?_, fun y => ?_⟩
  · rw [if_neg y] at H; exact (by first | exact q_at rfl (H) | exact (H))
  · rw [if_pos y] at H; exact (by first | exact q_at rfl (H) | exact (H))
theorem sp_B_witness (V : CW n hr) (hd : d = 3 ∨ d = 8) (O : zOK z) (C : CAL z d k h) (hQ : ∀ h1, (∀ c : Int, 102 ≤ c → h1 c = h c) → CAL z d k h1 → Q (0, vWi (dM (zS z)) ((dJ (zS z)).length) (tM (zS z)) (oM (zS z)) (zt z) (zo z)) n hr h1) : f_B_witness [(2, 0)] n hr h Q := by
  apply e_B_witness
  simp only [ok_0 V.1, cr_0_4 V, cr_0_1 V, cr_0_2 V, ok_27 V.1, true_and]
  exact B_unl V hd O C fun h2 f2 c2 => (by first | exact q_at rfl (hQ h2 f2 c2) | exact (hQ h2 f2 c2))
end
