-- deps: 18 19 20 21 22 23 24 25 26 27 28 29 30 31 32 33 34 35 36 37 38 39 40 41 42 43 44 45 46 47 48 49 50 51 52 53 54 55 56 57 58 59 60 61 62 63 64 65 66 67 68 69 70 71 72 73 74 75 76 77 78 79 80 81 82 83 84 85 86 87 88 89 90 91 92 93 94 95 96 97 98 99 9A 9B 9C 9D 9E 9F 9G 9H 9I 9J 9K 9L 9M 9N 9O 9P 9Q 9R 9S 9T 9U 9V 9W 9X 9Y 9Z A0 A1 A2 A3 A4 A5 A6 A7 B0 B1 B2 B3
/-! the class's own methods: enough, small faults, small machines, trees, words for all -/
section
variable {Q : RP} {n : Nat} {hr h : HP} {z : ST} {d : Int} {k : Nat}
theorem B_pl {su e : Nat} {h1 : HP} (hd : d = 3 ∨ d = 8) (C : CAL z d k h) (y : su < 2) (he : e < 3) (f : fxP (tc su e) h h1) (k1 : TKn (dM (zS z)) ((dJ (zS z)).length) (tM (zS z)) (oM (zS z)) h1 su e) : (∀ c : Int, 102 ≤ c → h1 c = h c) ∧ CAL z d k h1 := by
  have b := tc_b y he
  have e1 := f
  unfold fxP at e1
  obtain ⟨a1, a2, a3, a4, a5, a6, a7, a8, a9, a10⟩ := C
  refine ⟨(fun c p => EX_fn (e1) (by simp <;> omega) (by simp <;> omega)), ⟨C1_fr hd a1 (fun c p q => EX_fn (e1) (by simp <;> omega) (by simp <;> omega)), C2_fr a2 (fun c p q => EX_fn (e1) (by simp <;> omega) (by simp <;> omega)), C3_fr a3 (fun c p q => EX_fn (e1) (by simp <;> omega) (by simp <;> omega)), C4_fr a4 (EX_fn e1 (by simp <;> omega) (by simp <;> omega)) (EX_fn e1 (by simp <;> omega) (by simp <;> omega)) (EX_fn e1 (by simp <;> omega) (by simp <;> omega)) (EX_fn e1 (by simp <;> omega) (by simp <;> omega)) (EX_fn e1 (by simp <;> omega) (by simp <;> omega)) (EX_fn e1 (by simp <;> omega) (by simp <;> omega)), ⟨?_, fun su' e' hs' he' => ?_, fun wh hw => ?_⟩, C6_fr a6 (fun c p q => EX_fn (e1) (by simp <;> omega) (by simp <;> omega)), C7_fr a7 (fun c p q => EX_fn (e1) (by simp <;> omega) (by simp <;> omega)), C8_fr a8 (EX_fn e1 (by simp <;> omega) (by simp <;> omega)) (EX_fn e1 (by simp <;> omega) (by simp <;> omega)) (EX_fn e1 (by simp <;> omega) (by simp <;> omega)), C9_fr a9 (e1 0 13 (by simp <;> omega) (by simp <;> omega)) (e1 0 14 (by simp <;> omega) (by simp <;> omega)) (EX_fn e1 (by simp <;> omega) (by simp <;> omega)), C10_fr a10 (e1 0 15 (by simp <;> omega) (by simp <;> omega)) (fun c p q => EX_fn (e1) (by simp <;> omega) (by simp <;> omega))⟩⟩
  · rw [e1 35 11 (by simp <;> omega) (by simp <;> omega)]; exact a5.1
  · by_cases w : su' = su ∧ e' = e
    · obtain ⟨rfl, rfl⟩ := w
      exact Or.inr k1
    · refine TSu_fr (a5.2.1 su' e' hs' he') fun c c1 c2 => EX_fn e1 ?_ ?_
      · unfold tc at *
        simp
        omega
      · unfold tc at *
        simp
        omega
  · refine TWy_fr (a5.2.2 wh hw) fun c c1 c2 => EX_fn e1 ?_ ?_
    · unfold tc tw at *
      simp
      omega
    · unfold tc tw at *
      simp
      omega
theorem sp_B_enough {su : Int} (V : CW n hr) (hd : d = 3 ∨ d = 8) (O : zOK z) (C : CAL z d k h) (h0 : ¬ (su = 0 ∨ su = 1) → Q (0, -1) n hr h) (h1 : (su = 0 ∨ su = 1) → ∀ h1, (∀ c : Int, 102 ≤ c → h1 c = h c) → CAL z d k h1 → Q (0, vEn (dM (zS z)) ((dJ (zS z)).length) (tM (zS z)) (oM (zS z)) (zt z) (zo z) su.toNat) n hr h1) : f_B_enough [(2, 0), (0, su)] n hr h Q := by
  have TT := TV_s O.2.1
  have TT' := TT
  obtain ⟨hS, hI, hm, hc, hT⟩ := TT'
  apply e_B_enough
  refine sp_B_isPlanned (fun q => ⟨fun _ => ?_, fun r => absurd r (by decide)⟩) fun q => ⟨fun r => absurd rfl r, fun _ => (by first | exact q_at rfl (h0 q) | exact (h0 q))⟩
  obtain ⟨s, rfl⟩ : ∃ s : Nat, su = (s : Int) := ⟨su.toNat, by omega⟩
  have H := h1 q
  rw [Int.toNat_natCast] at H
  have main := lupN (N := 3) (P := fun m => ∀ h2, (∀ c : Int, 102 ≤ c → h2 c = h c) → CAL z d k h2 → (∀ j, j < m → ¬ FA (dM (zS z)) ((dJ (zS z)).length) (tM (zS z)) (oM (zS z)) j s (zt z) (zo z)) → p_B_enough_11 (n + 0) (ai_q 0 n Q) 0 (s : Int) (m : Int) n hr h2) ?_ ?_
  · exact main h (fun _ _ => rfl) C fun j hj => by omega
  · intro h2 f2 c2 g
    refine b_B_enough_11 ⟨fun _ => ?_, fun y => by omega⟩
    have H2 := H h2 f2 c2
    have ev : vEn (dM (zS z)) ((dJ (zS z)).length) (tM (zS z)) (oM (zS z)) (zt z) (zo z) s = -2 := fw_no fun j r => g j r.1 (by
      obtain ⟨w, w1, w2⟩ := r.2
      exact ⟨w, by unfold SWl; rw [if_pos (by omega)]; exact w1, w2⟩)
    rw [ev] at H2
    exact (by first | exact q_at rfl (H2) | exact (H2))
  · intro m hm3 ih h2 f2 c2 g
    refine b_B_enough_11 ⟨fun y => by omega, fun _ => ⟨ok_0 V.1, ?_⟩⟩
    rw [(cr_0_5 V).1]
    refine ⟨ok_35 V.1, sp_T_planned V TT c2.2.1.1 c2.2.2.1 (by omega) hm3 (c2.2.2.2.2.1.2.1 s m (by omega) hm3) fun h3 f3 k3 => ⟨ok_0 V.1, ?_⟩⟩
    have B := B_pl hd c2 (by omega) hm3 f3 k3
    have eg : gx m s = tc s m := if_pos (by omega)
    have G := GT_of_TKn (by omega) k3
    rw [(cr_0_2 V).1]
    have ok8 := (tr_c V (su := s) (by omega) hm3).1
    refine ⟨ok8, ?_⟩
    have go := sp_E_isFailedBy_g (Q := fun r n2 hr2 h2 => (r.2 = 0 → p_B_enough_11 (n + 0) (ai_q 0 n Q) 0 (s : Int) (w32 ((m : Int) + 1)) n2 hr2 h2) ∧ (r.2 ≠ 0 → ai_q 0 n Q (0, (m : Int)) n2 hr2 h2)) V hS hI hc hm3 (show s < 4 by omega) (mr_16 V) (by omega) hm O.2.2.1.1 B.2.2.1.2.2.2.1 B.2.2.1.2.2.2.2 G (fun h4 e4 fa => ?_) fun h4 e4 fa => ?_
    · rw [eg] at go
      exact go
    · have c4 := CAL_s hd B.2 e4 (by decide)
      refine ⟨fun y => absurd y (by decide), fun _ => ?_⟩
      have H2 := H h4 (fun c hc' => by rw [EX_fn e4 (c := c) (by simp <;> omega) (by simp), B.1 c hc', f2 c hc']) c4
      have ev : vEn (dM (zS z)) ((dJ (zS z)).length) (tM (zS z)) (oM (zS z)) (zt z) (zo z) s = (m : Int) := fw_at ⟨hm3, by
        obtain ⟨w, w1, w2⟩ := fa
        unfold SWl at w1; rw [if_pos (by omega)] at w1
        exact ⟨w, w1, w2⟩⟩ fun j hj r => g j hj (by
        obtain ⟨w, w1, w2⟩ := r.2
        exact ⟨w, by unfold SWl; rw [if_pos (by omega)]; exact w1, w2⟩)
      rw [ev] at H2
      exact (by first | exact q_at rfl (H2) | exact (H2))
    · have c4 := CAL_s hd B.2 e4 (by decide)
      refine ⟨fun _ => ?_, fun y => absurd rfl y⟩
      rw [w32_id (by omega) (by omega)]
      refine ih h4 (fun c hc' => by rw [EX_fn e4 (c := c) (by simp <;> omega) (by simp), B.1 c hc', f2 c hc']) c4 fun j hj => ?_
      by_cases y : j = m
      · subst y; exact fa
      · exact g j (by omega)
/-- the small faults' cells and the rows at hand were written -/
theorem CAL_m {h1 : HP} (hd : d = 3 ∨ d = 8) (C : CAL z d k h) (s1 : SC h1) (m1 : C6 (zS z) h1) (g : ∀ c : Int, c ≠ 27 → c ≠ 28 → c ≠ 29 → c ≠ 30 → c ≠ 45 → ¬ (102 ≤ c ∧ c ≤ 117) → h1 c = h c) (g9 : h1 27 9 = h 27 9) : (∀ c : Int, 118 ≤ c → h1 c = h c) ∧ CAL z d k h1 := by
  obtain ⟨a1, a2, a3, a4, a5, a6, a7, a8, a9, a10⟩ := C
  have G : ∀ c : Int, c ≠ 27 ∧ c ≠ 28 ∧ c ≠ 29 ∧ c ≠ 30 ∧ c ≠ 45 ∧ ¬ (102 ≤ c ∧ c ≤ 117) → h1 c = h c := fun c q => g c q.1 q.2.1 q.2.2.1 q.2.2.2.1 q.2.2.2.2.1 q.2.2.2.2.2
  exact ⟨fun c q => G c (by omega), C1_fr hd a1 fun c p q => G c (by omega), C2_fr a2 fun c p q => G c (by omega), C3_fr a3 fun c p q => G c (by omega), C4_of a4 s1 (CSg_e a4.2.1 (G _ (by omega))) g9 (G _ (by omega)) (G _ (by omega)) (G _ (by omega)), C5_fr a5 (by rw [G 35 (by omega)]) fun c p q => G c (by omega), m1, C7_fr a7 fun c p q => G c (by omega), C8_fr a8 (G _ (by omega)) (G _ (by omega)) (G _ (by omega)), C9_fr a9 (by rw [G 0 (by omega)]) (by rw [G 0 (by omega)]) (G _ (by omega)), C10_fr a10 (by rw [G 0 (by omega)]) fun c p q => G c (by omega)⟩
theorem CMx_C (C : CAL z d k h) : CMx (dM (zS z)) ((dJ (zS z)).length) (tM (zS z)) (oM (zS z)) h := ⟨C.2.1.1, C.2.2.2.2.2.1.1⟩
theorem B_equal {R : RP} (V : CW n hr) (hd : d = 3 ∨ d = 8) (O : zOK z) (C : CAL z d k h) (hQ : ∀ h1, (∀ c : Int, 118 ≤ c → h1 c = h c) → CAL z d k h1 → R (0, (cntP (muEq (dM (zS z)) ((dJ (zS z)).length) (tM (zS z)) (oM (zS z))) (UN (dM (zS z)) ((dJ (zS z)).length) (tM (zS z)) (oM (zS z))) : Int)) n hr h1) : f_U_equalOnes [(2, 102)] n hr h R := by
  have TT := TV_s O.2.1
  have a6 := C.2.2.2.2.2.1
  refine sp_U_equalOnes V TT (CMx_C C) C.2.2.2.1.1 a6.2.2.2.2.2 a6.2.1 fun h1 f1 s1 q1 t1 => ?_
  unfold fxE at f1
  have B := CAL_m hd C s1 (h1 := h1) ⟨?_, Or.inr q1, ?_, ?_, ?_, t1⟩ (fun c x1 x2 x3 x4 x5 x6 => EX_fn f1 (by simp <;> omega) (by simp <;> omega)) ((f1) _ _ (by decide) (by decide))
  · exact hQ h1 B.1 B.2
  · unfold CMp; rw [f1 102 15 (by decide) (by decide), EX_fn f1 (c := 109) (by decide) (by decide)]; exact a6.1
  · unfold CNo; rw [EX_fn f1 (c := 111) (by decide) (by decide), EX_fn f1 (c := 112) (by decide) (by decide)]; exact a6.2.2.1
  · unfold CSm; rw [EX_fn f1 (c := 114) (by decide) (by decide), EX_fn f1 (c := 115) (by decide) (by decide)]; exact a6.2.2.2.1
  · unfold CCv; rw [EX_fn f1 (c := 113) (by decide) (by decide)]; exact a6.2.2.2.2.1
theorem C6_M {h1 : HP} (C : CAL z d k h) (f1 : fxM h h1) (t1 : CTl h1) (q1 : CEq (dM (zS z)) ((dJ (zS z)).length) (tM (zS z)) (oM (zS z)) h1) (n1 : CNo (dM (zS z)) ((dJ (zS z)).length) (tM (zS z)) (oM (zS z)) (sE (zS z)) h1) : C6 (zS z) h1 := by
  have a6 := C.2.2.2.2.2.1
  unfold fxM at f1
  refine ⟨?_, q1, n1, ?_, ?_, t1⟩
  · unfold CMp; rw [f1 102 15 (by decide) (by decide), EX_fn f1 (c := 109) (by decide) (by decide)]; exact a6.1
  · unfold CSm; rw [EX_fn f1 (c := 114) (by decide) (by decide), EX_fn f1 (c := 115) (by decide) (by decide)]; exact a6.2.2.2.1
  · unfold CCv; rw [EX_fn f1 (c := 113) (by decide) (by decide)]; exact a6.2.2.2.2.1
theorem CAL_M {h1 : HP} (hd : d = 3 ∨ d = 8) (C : CAL z d k h) (f1 : fxM h h1) (s1 : SC h1) (t1 : CTl h1) (q1 : CEq (dM (zS z)) ((dJ (zS z)).length) (tM (zS z)) (oM (zS z)) h1) (n1 : CNo (dM (zS z)) ((dJ (zS z)).length) (tM (zS z)) (oM (zS z)) (sE (zS z)) h1) : (∀ c : Int, 118 ≤ c → h1 c = h c) ∧ CAL z d k h1 := by
  have m1 := C6_M C f1 t1 q1 n1
  unfold fxM at f1
  exact CAL_m hd C s1 m1 (fun c x1 x2 x3 x4 x5 x6 => EX_fn f1 (by simp <;> omega) (by simp <;> omega)) ((f1) _ _ (by decide) (by decide))
theorem sp_B_mutants {su what : Int} (V : CW n hr) (hd : d = 3 ∨ d = 8) (O : zOK z) (C : CAL z d k h) (h0 : ¬ ((0 ≤ su ∧ su ≤ 3) ∧ 0 ≤ what ∧ what ≤ 4) → Q (0, -1) n hr h) (h1 : (0 ≤ su ∧ su ≤ 3) → (0 ≤ what ∧ what ≤ 4) → ∀ h1, (∀ c : Int, 118 ≤ c → h1 c = h c) → CAL z d k h1 → Q (0, vMs (dM (zS z)) ((dJ (zS z)).length) (tM (zS z)) (oM (zS z)) (sE (zS z)) su.toNat what) n hr h1) : f_B_mutants [(2, 0), (0, su), (0, what)] n hr h Q := by
  have TT := TV_s O.2.1
  have TT' := TT
  obtain ⟨hS, hI, hm, hc, hT⟩ := TT'
  have he := (sE_3 O.2.1).1
  have un := UN_b (o := (oM (zS z))) hm hS hI
  apply e_B_mutants
  refine sp_B_isSuite (fun q => ⟨fun r => absurd r (by decide), fun _ => ⟨fun q2 => (by first | exact q_at rfl (h0 (by omega)) | exact (h0 (by omega))), fun q2 => ⟨fun q3 => ?_, fun q3 => (by first | exact q_at rfl (h0 (by omega)) | exact (h0 (by omega)))⟩⟩⟩) fun q => ⟨fun _ => (by first | exact q_at rfl (h0 (fun r => q r.1)) | exact (h0 (fun r => q r.1))), fun r => absurd rfl r⟩
  obtain ⟨s, rfl⟩ := Int.eq_ofNat_of_zero_le q.1
  have H := h1 q ⟨q2, q3⟩
  rw [Int.toNat_natCast] at H
  unfold vMs at H
  have gxo : ai_ok n (gx (sE (zS z)) s) 8 := by
    obtain ⟨nl, tl, R, l1, l2⟩ := gx_row (o := (oM (zS z))) V hS hI hm hc he (show s < 4 by omega)
    exact R.1
  refine ⟨fun y0 => ⟨fun y1 => ⟨fun y2 => ⟨fun y3 => ?_, fun y3 => ?_⟩, fun y2 => ?_⟩, fun y1 => ?_⟩, fun y0 => ?_⟩
  · rw [if_neg y0, if_neg y1, if_neg y2, if_neg y3] at H
    simp only [ok_0 V.1, cr_0_5 V, true_and]
    refine sp_B_give V hd O C (by omega) fun h2 f2 c2 g2 => ?_
    have a6 := c2.2.2.2.2.2.1
    rw [(cr_0_6 V).1]
    refine ⟨ok_102 V.1, sp_U_firstMissedBy V TT (CMx_C c2) c2.2.2.2.1.1 a6.2.2.2.2.2 a6.2.1 a6.2.2.1 he (by omega) g2 fun h3 f3 s3 t3 q3' n3 => ?_⟩
    have B := CAL_M hd c2 f3 s3 t3 q3' n3
    exact (by first | exact q_at rfl (H h3 (fun c hc' => by rw [B.1 c hc', f2 c (by omega)]) B.2) | exact (H h3 (fun c hc' => by rw [B.1 c hc', f2 c (by omega)]) B.2))
  · rw [if_neg y0, if_neg y1, if_neg y2, if_pos y3] at H
    simp only [ok_0 V.1, cr_0_6 V, ok_102 V.1, true_and]
    refine B_equal V hd O C fun h2 f2 c2 => ?_
    simp only [ok_0 V.1, cr_0_6 V, cr_0_5 V, true_and]
    refine sp_B_give V hd O c2 (by omega) fun h3 f3 c3 g3 => ?_
    have a6 := c3.2.2.2.2.2.1
    refine ⟨ok_102 V.1, sp_U_noticedBy V TT (CMx_C c3) c3.2.2.2.1.1 a6.2.2.2.2.2 a6.2.1 a6.2.2.1 he (by omega) g3 fun h4 f4 s4 t4 q4 n4 => ?_⟩
    have B := CAL_M hd c3 f4 s4 t4 q4 n4
    have H4 := H h4 (fun c hc' => by rw [B.1 c hc', f3 c (by omega), f2 c hc']) B.2
    have all := mu_all (dM (zS z)) ((dJ (zS z)).length) (tM (zS z)) (oM (zS z)) (sE (zS z)) s (UN (dM (zS z)) ((dJ (zS z)).length) (tM (zS z)) (oM (zS z)))
    have ea : vNo (dM (zS z)) ((dJ (zS z)).length) (tM (zS z)) (oM (zS z)) (sE (zS z)) s = cntP (muFl (dM (zS z)) ((dJ (zS z)).length) (tM (zS z)) (oM (zS z)) (sE (zS z)) s) (UN (dM (zS z)) ((dJ (zS z)).length) (tM (zS z)) (oM (zS z))) := rfl
    dsimp only
    rw [C.2.2.2.2.2.1.1.1, w32_id (x := (UN (dM (zS z)) ((dJ (zS z)).length) (tM (zS z)) (oM (zS z)) : Int) - _) (by omega) (by omega), w32_id (by omega) (by omega)]
    rw [show (UN (dM (zS z)) ((dJ (zS z)).length) (tM (zS z)) (oM (zS z)) : Int) - (cntP (muEq (dM (zS z)) ((dJ (zS z)).length) (tM (zS z)) (oM (zS z))) (UN (dM (zS z)) ((dJ (zS z)).length) (tM (zS z)) (oM (zS z))) : Int) - (vNo (dM (zS z)) ((dJ (zS z)).length) (tM (zS z)) (oM (zS z)) (sE (zS z)) s : Int) = (cntP (muMi (dM (zS z)) ((dJ (zS z)).length) (tM (zS z)) (oM (zS z)) (sE (zS z)) s) (UN (dM (zS z)) ((dJ (zS z)).length) (tM (zS z)) (oM (zS z))) : Int) by omega]
    exact (by first | exact q_at rfl (H4) | exact (H4))
  · rw [if_neg y0, if_neg y1, if_pos y2] at H
    simp only [ok_0 V.1, cr_0_6 V, cr_0_5 V, true_and]
    refine sp_B_give V hd O C (by omega) fun h2 f2 c2 g2 => ?_
    have a6 := c2.2.2.2.2.2.1
    refine ⟨ok_102 V.1, sp_U_noticedBy V TT (CMx_C c2) c2.2.2.2.1.1 a6.2.2.2.2.2 a6.2.1 a6.2.2.1 he (by omega) g2 fun h3 f3 s3 t3 q3' n3 => ?_⟩
    have B := CAL_M hd c2 f3 s3 t3 q3' n3
    exact (by first | exact q_at rfl (H h3 (fun c hc' => by rw [B.1 c hc', f2 c (by omega)]) B.2) | exact (H h3 (fun c hc' => by rw [B.1 c hc', f2 c (by omega)]) B.2))
  · rw [if_neg y0, if_pos y1] at H
    simp only [ok_0 V.1, cr_0_6 V, ok_102 V.1, true_and]
    exact B_equal V hd O C fun h2 f2 c2 => (by first | exact q_at rfl (H h2 f2 c2) | exact (H h2 f2 c2))
  · rw [if_pos y0] at H
    simp only [ok_0 V.1, cr_0_6 V, ok_102 V.1, C.2.2.2.2.2.1.1.1, true_and]
    exact (by first | exact q_at rfl (H h (fun _ _ => rfl) C) | exact (H h (fun _ _ => rfl) C))
theorem sp_B_mutant {x what : Int} (V : CW n hr) (O : zOK z) (C : CAL z d k h) (h1 : (0 ≤ x ∧ x < (UN (dM (zS z)) ((dJ (zS z)).length) (tM (zS z)) (oM (zS z)) : Int)) → (0 ≤ what ∧ what ≤ 3) → Q (0, vMu (dM (zS z)) ((dJ (zS z)).length) (tM (zS z)) (oM (zS z)) x.toNat what) n hr h) (h0 : ¬ ((0 ≤ x ∧ x < (UN (dM (zS z)) ((dJ (zS z)).length) (tM (zS z)) (oM (zS z)) : Int)) ∧ 0 ≤ what ∧ what ≤ 3) → Q (0, -1) n hr h) : f_B_mutant [(2, 0), (0, x), (0, what)] n hr h Q := by
  have TT := TV_s O.2.1
  have L := C.2.2.2.2.2.1.1
  apply e_B_mutant
  simp only [ok_0 V.1, cr_0_6 V, ok_102 V.1, true_and]
  refine sp_U_has V L (fun q => ⟨fun r => absurd r (by decide), fun _ => ⟨fun q2 => (by first | exact q_at rfl (h0 (by omega)) | exact (h0 (by omega))), fun q2 => ⟨fun q3 => ⟨ok_0 V.1, ?_⟩, fun q3 => (by first | exact q_at rfl (h0 (by omega)) | exact (h0 (by omega)))⟩⟩⟩) fun q => ⟨fun _ => (by first | exact q_at rfl (h0 (fun r => q r.1)) | exact (h0 (fun r => q r.1))), fun r => absurd rfl r⟩
  obtain ⟨j, rfl⟩ := Int.eq_ofNat_of_zero_le q.1
  have H := h1 q ⟨q2, q3⟩
  rw [Int.toNat_natCast] at H
  rw [(cr_0_6 V).1]
  exact ⟨ok_102 V.1, sp_U_part V TT L (by omega) (by first | exact q_at rfl (H) | exact (H))⟩
theorem sp_B_parts {a b : Int} (V : CW n hr) (hd : d = 3 ∨ d = 8) (O : zOK z) (C : CAL z d k h) (h1 : (0 ≤ a ∧ a < (UN (dM (zS z)) ((dJ (zS z)).length) (tM (zS z)) (oM (zS z)) : Int)) → (0 ≤ b ∧ b < (UN (dM (zS z)) ((dJ (zS z)).length) (tM (zS z)) (oM (zS z)) : Int)) → ∀ h1, (∀ c : Int, 118 ≤ c → h1 c = h c) → CAL z d k h1 → Q (0, UL ((dJ (zS z)).length) (tMu (dM (zS z)) ((dJ (zS z)).length) (tM (zS z)) (oM (zS z)) a.toNat) (oMu (dM (zS z)) ((dJ (zS z)).length) (tM (zS z)) (oM (zS z)) a.toNat) (tMu (dM (zS z)) ((dJ (zS z)).length) (tM (zS z)) (oM (zS z)) b.toNat) (oMu (dM (zS z)) ((dJ (zS z)).length) (tM (zS z)) (oM (zS z)) b.toNat) 0 0) n hr h1) (h0 : ¬ ((0 ≤ a ∧ a < (UN (dM (zS z)) ((dJ (zS z)).length) (tM (zS z)) (oM (zS z)) : Int)) ∧ 0 ≤ b ∧ b < (UN (dM (zS z)) ((dJ (zS z)).length) (tM (zS z)) (oM (zS z)) : Int)) → Q (0, -1) n hr h) : f_B_parts [(2, 0), (0, a), (0, b)] n hr h Q := by
  have TT := TV_s O.2.1
  have a6 := C.2.2.2.2.2.1
  have L := a6.1
  apply e_B_parts
  simp only [ok_0 V.1, cr_0_6 V, ok_102 V.1, true_and]
  refine sp_U_has V L (fun q => ⟨fun r => absurd r (by decide), fun _ => ⟨ok_0 V.1, ?_⟩⟩) fun q => ⟨fun _ => (by first | exact q_at rfl (h0 (fun r => q r.1)) | exact (h0 (fun r => q r.1))), fun r => absurd rfl r⟩
  rw [(cr_0_6 V).1]
  refine ⟨ok_102 V.1, sp_U_has V L (fun q2 => ⟨fun _ => ⟨ok_0 V.1, ?_⟩, fun r => absurd r (by decide)⟩) fun q2 => ⟨fun r => absurd rfl r, fun _ => (by first | exact q_at rfl (h0 (fun r => q2 r.2)) | exact (h0 (fun r => q2 r.2)))⟩⟩
  have H := h1 q q2
  obtain ⟨i, rfl⟩ := Int.eq_ofNat_of_zero_le q.1
  obtain ⟨j, rfl⟩ := Int.eq_ofNat_of_zero_le q2.1
  rw [Int.toNat_natCast, Int.toNat_natCast] at H
  rw [(cr_0_6 V).1]
  refine ⟨ok_102 V.1, sp_U_unlikeOnes V TT (CMx_C C) C.2.2.2.1.1 (by omega) (by omega) fun h2 f2 s2 t2 => ?_⟩
  have f3 := f2
  unfold fxMu at f3
  have B := CAL_M hd C (fxMu_M f2) s2 t2 ?_ ?_
  · exact (by first | exact q_at rfl (H h2 B.1 B.2) | exact (H h2 B.1 B.2))
  · unfold CEq EQk; rw [f3 102 14 (by decide) (by decide), EX_fn f3 (c := 110) (by decide) (by decide)]; exact a6.2.1
  · unfold CNo; rw [EX_fn f3 (c := 111) (by decide) (by decide), EX_fn f3 (c := 112) (by decide) (by decide)]; exact a6.2.2.1
end
