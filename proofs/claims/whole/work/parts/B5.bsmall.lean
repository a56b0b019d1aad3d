-- deps: 18 19 20 21 22 23 24 25 26 27 28 29 30 31 32 33 34 35 36 37 38 39 40 41 42 43 44 45 46 47 48 49 50 51 52 53 54 55 56 57 58 59 60 61 62 63 64 65 66 67 68 69 70 71 72 73 74 75 76 77 78 79 80 81 82 83 84 85 86 87 88 89 90 91 92 93 94 95 96 97 98 99 9A 9B 9C 9D 9E 9F 9G 9H 9I 9J 9K 9L 9M 9N 9O 9P 9Q 9R 9S 9T 9U 9V 9W 9X 9Y 9Z A0 A1 A2 A3 A4 A5 A6 A7 B0 B1 B2 B3 B4
/-! the class's own methods: small machines, what together notices all, trees, words for all -/
section
variable {Q : RP} {n : Nat} {hr h : HP} {z : ST} {d : Int} {k : Nat}
theorem sp_B_small {x su what : Int} (V : CW n hr) (hd : d = 3 ∨ d = 8) (O : zOK z) (C : CAL z d k h) (h0 : ¬ ((1 ≤ x ∧ x ≤ 2) ∧ (su = 0 ∨ su = 1) ∧ (0 ≤ what ∧ what ≤ 2) ∧ 0 < (dM (zS z))) → Q (0, -1) n hr h) (h1 : (1 ≤ x ∧ x ≤ 2) → (su = 0 ∨ su = 1) → (0 ≤ what ∧ what ≤ 2) → 0 < (dM (zS z)) → ∀ h1, (∀ c : Int, 118 ≤ c → h1 c = h c) → CAL z d k h1 → Q (0, vSm (dM (zS z)) ((dJ (zS z)).length) (tM (zS z)) (oM (zS z)) (sE (zS z)) x.toNat su.toNat what) n hr h1) : f_B_small [(2, 0), (0, x), (0, su), (0, what)] n hr h Q := by
  have TT := TV_s O.2.1
  have TT' := TT
  obtain ⟨hS, hI, hm, hc, hT⟩ := TT'
  have he := (sE_3 O.2.1).1
  apply e_B_small
  refine ⟨fun q => (by first | exact q_at rfl (h0 (by omega)) | exact (h0 (by omega))), fun q => ⟨fun q2 => (by first | exact q_at rfl (h0 (by omega)) | exact (h0 (by omega))), fun q2 => ?_⟩⟩
  refine sp_B_isPlanned (fun q3 => ⟨fun r => absurd r (by decide), fun _ => ⟨fun q4 => (by first | exact q_at rfl (h0 (by omega)) | exact (h0 (by omega))), fun q4 => ⟨fun q5 => (by first | exact q_at rfl (h0 (by omega)) | exact (h0 (by omega))), fun q5 => ?_⟩⟩⟩) fun q3 => ⟨fun _ => (by first | exact q_at rfl (h0 (fun r => q3 r.2.1)) | exact (h0 (fun r => q3 r.2.1))), fun r => absurd rfl r⟩
  simp only [ok_0 V.1, cr_0_1 V, ok_13 V.1, C.2.1.1.1, true_and]
  refine ⟨fun q6 => ?_, fun q6 => (by first | exact q_at rfl (h0 (by omega)) | exact (h0 (by omega)))⟩
  have S0 : 0 < (dM (zS z)) := by omega
  obtain ⟨s, rfl⟩ : ∃ s : Nat, su = (s : Int) := ⟨su.toNat, by omega⟩
  obtain ⟨m, rfl⟩ : ∃ m : Nat, x = (m : Int) := ⟨x.toNat, by omega⟩
  have H := h1 ⟨q, q2⟩ q3 ⟨q4, q5⟩ S0
  rw [Int.toNat_natCast, Int.toNat_natCast] at H
  unfold vSm at H
  have fin : ∀ h2 h3, CAL z d k h2 → (∀ c : Int, 102 ≤ c → h2 c = h c) → fxV h2 h3 → SC h3 → CTl h3 → CSm (dM (zS z)) ((dJ (zS z)).length) (tM (zS z)) (oM (zS z)) (sE (zS z)) h3 → (∀ c : Int, 118 ≤ c → h3 c = h c) ∧ CAL z d k h3 := by
    intro h2 h3 c2 f2 f3 s3 t3 n3
    have a6 := c2.2.2.2.2.2.1
    unfold fxV at f3
    have B := CAL_m hd c2 s3 (h1 := h3) ⟨?_, ?_, ?_, n3, ?_, t3⟩ (fun c x1 x2 x3 x4 x5 x6 => EX_fn f3 (by simp <;> omega) (by simp <;> omega)) ((f3) _ _ (by decide) (by decide))
    · exact ⟨fun c hc' => by rw [B.1 c hc', f2 c (by omega)], B.2⟩
    · unfold CMp; rw [f3 102 15 (by decide) (by decide), EX_fn f3 (c := 109) (by decide) (by decide)]; exact a6.1
    · unfold CEq EQk; rw [f3 102 14 (by decide) (by decide), EX_fn f3 (c := 110) (by decide) (by decide)]; exact a6.2.1
    · unfold CNo; rw [EX_fn f3 (c := 111) (by decide) (by decide), EX_fn f3 (c := 112) (by decide) (by decide)]; exact a6.2.2.1
    · unfold CCv; rw [EX_fn f3 (c := 113) (by decide) (by decide)]; exact a6.2.2.2.2.1
  refine ⟨fun y => ?_, fun y => ?_⟩
  · simp only [cr_0_6 V, cr_0_5 V, ok_35 V.1, true_and]
    refine sp_B_give V hd O C (by omega) fun h2 f2 c2 g2 => ?_
    have a6 := c2.2.2.2.2.2.1
    refine ⟨fun y2 => ⟨ok_0 V.1, ?_⟩, fun y2 => ⟨ok_0 V.1, ?_⟩⟩
    · rw [if_neg y, if_neg y2] at H
      rw [(cr_0_6 V).1]
      refine ⟨ok_102 V.1, sp_U_smallEqual V TT S0 c2.2.1.1 c2.2.2.2.1.1 a6.2.2.2.2.2 a6.2.2.2.1 he (by omega) (by omega) g2 fun h3 f3 s3 t3 n3 => ?_⟩
      have B := fin h2 h3 c2 f2 f3 s3 t3 n3
      exact (by first | exact q_at rfl (H h3 B.1 B.2) | exact (H h3 B.1 B.2))
    · rw [if_neg y, if_pos y2] at H
      rw [(cr_0_6 V).1]
      refine ⟨ok_102 V.1, sp_U_smallPassing V TT S0 c2.2.1.1 c2.2.2.2.1.1 a6.2.2.2.2.2 a6.2.2.2.1 he (by omega) (by omega) g2 fun h3 f3 s3 t3 n3 => ?_⟩
      have B := fin h2 h3 c2 f2 f3 s3 t3 n3
      exact (by first | exact q_at rfl (H h3 B.1 B.2) | exact (H h3 B.1 B.2))
  · rw [if_pos y] at H
    simp only [cr_0_6 V, ok_102 V.1, true_and]
    exact sp_U_smallOnes V hI C.2.1.1.2.1 (by omega) (by first | exact q_at rfl (H h (fun _ _ => rfl) C) | exact (H h (fun _ _ => rfl) C))
theorem sp_B_covered {su : Int} (V : CW n hr) (hd : d = 3 ∨ d = 8) (O : zOK z) (C : CAL z d k h) (h0 : ¬ (su = 0 ∨ su = 1) → Q (0, -1) n hr h) (h1 : (su = 0 ∨ su = 1) → ∀ h1, (∀ c : Int, 118 ≤ c → h1 c = h c) → CAL z d k h1 → Q (0, (vCv (dM (zS z)) ((dJ (zS z)).length) (tM (zS z)) (oM (zS z)) (sE (zS z)) su.toNat : Int)) n hr h1) : f_B_covered [(2, 0), (0, su)] n hr h Q := by
  have TT := TV_s O.2.1
  have he := (sE_3 O.2.1).1
  apply e_B_covered
  refine sp_B_isPlanned (fun q => ⟨fun r => absurd r (by decide), fun _ => ?_⟩) fun q => ⟨fun _ => (by first | exact q_at rfl (h0 q) | exact (h0 q)), fun r => absurd rfl r⟩
  obtain ⟨s, rfl⟩ : ∃ s : Nat, su = (s : Int) := ⟨su.toNat, by omega⟩
  have H := h1 q
  rw [Int.toNat_natCast] at H
  simp only [ok_0 V.1, cr_0_6 V, cr_0_5 V, ok_35 V.1, true_and]
  refine sp_B_give V hd O C (by omega) fun h2 f2 c2 g2 => ?_
  have a6 := c2.2.2.2.2.2.1
  refine ⟨ok_102 V.1, sp_U_coveredBy V TT (CMx_C c2) a6.2.2.2.2.2 a6.2.2.2.2.1 he (by omega) g2 fun h3 f3 t3 n3 => ?_⟩
  have B := CAL_m hd c2 (SC_fr c2.2.2.2.1.1 (f3 27 10 (by decide) (by decide)) (EX_fn f3 (by decide) (by decide))) (h1 := h3) ⟨?_, ?_, ?_, ?_, n3, t3⟩ (fun c x1 x2 x3 x4 x5 x6 => EX_fn f3 (by simp <;> omega) (by simp <;> omega)) ((f3) _ _ (by decide) (by decide))
  · exact (by first | exact q_at rfl (H h3 (fun c hc' => by rw [B.1 c hc', f2 c (by omega)]) B.2) | exact (H h3 (fun c hc' => by rw [B.1 c hc', f2 c (by omega)]) B.2))
  · unfold CMp; rw [f3 102 15 (by decide) (by decide), EX_fn f3 (c := 109) (by decide) (by decide)]; exact a6.1
  · unfold CEq EQk; rw [f3 102 14 (by decide) (by decide), EX_fn f3 (c := 110) (by decide) (by decide)]; exact a6.2.1
  · unfold CNo; rw [EX_fn f3 (c := 111) (by decide) (by decide), EX_fn f3 (c := 112) (by decide) (by decide)]; exact a6.2.2.1
  · unfold CSm; rw [EX_fn f3 (c := 114) (by decide) (by decide), EX_fn f3 (c := 115) (by decide) (by decide)]; exact a6.2.2.2.1
theorem sp_B_tree {x w : Int} (V : CW n hr) (hd : d = 3 ∨ d = 8) (O : zOK z) (C : CAL z d k h) (h1 : trq (dM (zS z)) x w → ∀ h1, (∀ c : Int, 102 ≤ c → h1 c = h c) → CAL z d k h1 → Q (0, TRQ (dM (zS z)) ((dJ (zS z)).length) (tM (zS z)) (oM (zS z)) x.toNat w) n hr h1) (h0 : ¬ trq (dM (zS z)) x w → Q (0, -1) n hr h) : f_B_tree [(2, 0), (0, x), (0, w)] n hr h Q := by
  have TT := TV_s O.2.1
  have hS := TT.1
  have p6 : (2 : Nat) ^ (dM (zS z)) ≤ 2 ^ 6 := Nat.pow_le_pow_right (by decide) hS
  have sh : i_shl 1 ((dM (zS z)) : Int) = ((2 ^ (dM (zS z)) : Nat) : Int) := shl1_n (by omega)
  unfold trq at h0 h1
  apply e_B_tree
  simp only [ok_0 V.1, cr_0_1 V, ok_13 V.1, C.2.1.1.1, sh, true_and]
  refine ⟨fun q => (by first | exact q_at rfl (h0 (fun r => by omega)) | exact (h0 (fun r => by omega))), fun q => ⟨fun q2 => (by first | exact q_at rfl (h0 (fun r => by omega)) | exact (h0 (fun r => by omega))), fun q2 => ?_⟩⟩
  obtain ⟨v, rfl⟩ := Int.eq_ofNat_of_zero_le q
  rw [Int.toNat_natCast] at h0 h1
  refine sp_J_bitCount (by omega) ⟨fun q3 => (by first | exact q_at rfl (h0 (fun r => by have := r.2.2.2; dsimp only at q3; omega)) | exact (h0 (fun r => by have := r.2.2.2; dsimp only at q3; omega))), fun q3 => ⟨fun q4 => (by first | exact q_at rfl (h0 (fun r => by omega)) | exact (h0 (fun r => by omega))), fun q4 => ⟨fun q5 => ?_, fun q5 => (by first | exact q_at rfl (h0 (fun r => by omega)) | exact (h0 (fun r => by omega)))⟩⟩⟩
  dsimp only at q3
  have H := h1 ⟨⟨q4, q5⟩, q, q2, by omega⟩
  obtain ⟨a1, a2, a3, a4, a5, a6, a7, a8, a9, a10⟩ := C
  have fin : ∀ h2, EX [33, 34] [(27, 9)] h h2 → CTt (dM (zS z)) ((dJ (zS z)).length) (tM (zS z)) (oM (zS z)) h2 → (∀ c : Int, 102 ≤ c → h2 c = h c) ∧ CAL z d k h2 := by
    intro h2 e2 t2
    refine ⟨(fun c p => EX_fn (e2) (by simp <;> omega) (by simp <;> omega)), C1_fr hd a1 (fun c p q => EX_fn (e2) (by simp <;> omega) (by simp <;> omega)), C2_fr a2 (fun c p q => EX_fn (e2) (by simp <;> omega) (by simp <;> omega)), C3_fr a3 (fun c p q => EX_fn (e2) (by simp <;> omega) (by simp <;> omega)), ⟨SC_fr a4.1 ((e2) _ _ (by decide) (by decide)) (EX_fn (e2) (by decide) (by decide)), CSg_e a4.2.1 (EX_fn (e2) (by decide) (by decide)), ?_, t2⟩, C5_fr a5 ((e2) _ _ (by decide) (by decide)) (fun c p q => EX_fn (e2) (by simp <;> omega) (by simp <;> omega)), C6_fr a6 (fun c p q => EX_fn (e2) (by simp <;> omega) (by simp <;> omega)), C7_fr a7 (fun c p q => EX_fn (e2) (by simp <;> omega) (by simp <;> omega)), C8_fr a8 (EX_fn (e2) (by decide) (by decide)) (EX_fn (e2) (by decide) (by decide)) (EX_fn (e2) (by decide) (by decide)), C9_fr a9 ((e2) _ _ (by decide) (by decide)) ((e2) _ _ (by decide) (by decide)) (EX_fn (e2) (by decide) (by decide)), C10_fr a10 ((e2) _ _ (by decide) (by decide)) (fun c p q => EX_fn (e2) (by simp <;> omega) (by simp <;> omega))⟩
    unfold CFa; rw [EX_fn e2 (c := 32) (by decide) (by decide)]; exact a4.2.2.1
  unfold TRQ at H
  refine ⟨fun y => ?_, fun y => ?_⟩
  · rw [if_neg y] at H
    simp only [ok_0 V.1, cr_0_4 V, ok_27 V.1, true_and]
    refine sp_S_treeInput V TT a2.1 a4.2.2.2 (by omega) fun h2 e2 t2 => ?_
    have B := fin h2 e2 t2
    exact (by first | exact q_at rfl (H h2 B.1 B.2) | exact (H h2 B.1 B.2))
  · rw [if_pos y] at H
    simp only [ok_0 V.1, cr_0_4 V, ok_27 V.1, true_and]
    refine sp_S_treeDepth V TT a2.1 a4.2.2.2 (by omega) fun h2 e2 t2 => ?_
    have B := fin h2 e2 t2
    exact (by first | exact q_at rfl (H h2 B.1 B.2) | exact (H h2 B.1 B.2))
theorem sp_B_word {wh : Int} (V : CW n hr) (hd : d = 3 ∨ d = 8) (O : zOK z) (C : CAL z d k h) (h1 : (0 ≤ wh ∧ wh < 3 ∧ 0 < (dM (zS z))) → ∀ h1, (∀ c : Int, 102 ≤ c → h1 c = h c) → CAL z d k h1 → Q (0, FAw ((dJ (zS z)).length) (tM (zS z)) (oM (zS z)) (RMk (dM (zS z)) ((dJ (zS z)).length) (tM (zS z))) wh.toNat) n hr h1) (h0 : ¬ (0 ≤ wh ∧ wh < 3 ∧ 0 < (dM (zS z))) → Q (0, -1) n hr h) : f_B_word [(2, 0), (0, wh)] n hr h Q := by
  have TT := TV_s O.2.1
  apply e_B_word
  simp only [ok_0 V.1, cr_0_1 V, ok_13 V.1, C.2.1.1.1, true_and]
  refine ⟨fun q => (by first | exact q_at rfl (h0 (by omega)) | exact (h0 (by omega))), fun q => ⟨fun q2 => (by first | exact q_at rfl (h0 (by omega)) | exact (h0 (by omega))), fun q2 => ⟨fun q3 => ?_, fun q3 => (by first | exact q_at rfl (h0 (by omega)) | exact (h0 (by omega)))⟩⟩⟩
  obtain ⟨v, rfl⟩ := Int.eq_ofNat_of_zero_le q
  have H := h1 ⟨q, by omega, by omega⟩
  rw [Int.toNat_natCast] at H
  obtain ⟨a1, a2, a3, a4, a5, a6, a7, a8, a9, a10⟩ := C
  simp only [cr_0_4 V, ok_27 V.1, true_and]
  refine sp_S_wordForAll V TT a2.1 a3.2.2.1 (by omega) a4.1 a4.2.2.1 fun h2 e2 s2 g2 => ?_
  refine q_at rfl (H h2 (fun c p => EX_fn (e2) (by simp <;> omega) (by simp <;> omega)) ⟨C1_fr hd a1 (fun c p q => EX_fn (e2) (by simp <;> omega) (by simp <;> omega)), C2_fr a2 (fun c p q => EX_fn (e2) (by simp <;> omega) (by simp <;> omega)), C3_fr a3 (fun c p q => EX_fn (e2) (by simp <;> omega) (by simp <;> omega)), ⟨s2, CSg_e a4.2.1 (EX_fn (e2) (by decide) (by decide)), g2, ?_⟩, C5_fr a5 ((e2) _ _ (by decide) (by decide)) (fun c p q => EX_fn (e2) (by simp <;> omega) (by simp <;> omega)), C6_fr a6 (fun c p q => EX_fn (e2) (by simp <;> omega) (by simp <;> omega)), C7_fr a7 (fun c p q => EX_fn (e2) (by simp <;> omega) (by simp <;> omega)), C8_fr a8 (EX_fn (e2) (by decide) (by decide)) (EX_fn (e2) (by decide) (by decide)) (EX_fn (e2) (by decide) (by decide)), C9_fr a9 ((e2) _ _ (by decide) (by decide)) ((e2) _ _ (by decide) (by decide)) (EX_fn (e2) (by decide) (by decide)), C10_fr a10 ((e2) _ _ (by decide) (by decide)) (fun c p q => EX_fn (e2) (by simp <;> omega) (by simp <;> omega))⟩)
  unfold CTt; rw [e2 27 9 (by decide) (by decide), EX_fn e2 (c := 33) (by decide) (by decide), EX_fn e2 (c := 34) (by decide) (by decide)]; exact a4.2.2.2
end
