-- deps: 18 19 20 21 23 24 25 26 27 28 29 22 30 31 32 33 34 35 36 37 38 39 40 41 42 43 44 45 46 47 48 49 50 51 62 63 64 65 66 67 68 69 70 71 72 73 74 75 76 77 78 79 80 81 82 83 84 85 86 87 88 89 90 91 92 93 94 95 96 97 9H 9I 9N 9O 9P 9Q
/-! words by chance; the image; the reference -/
section
variable {Q : RP} {n : Nat} {hr h : HP} {S I N : Nat} {t o t' o' : Int → Int}
theorem sp_N_draw (W : NW n hr) (hI : 0 < I) (h3 : I ≤ 3) (hQ : Q (0, (lcd I (h 138 65) : Int)) n hr (ai_up h 138 65 (lcg (h 138 65)))) : f_N_draw [(2, 138), (0, (I : Int))] n hr h Q := by
  have b := lcg_b (h 138 65)
  have d := lcd_e hI (h 138 65)
  apply e_N_draw
  have e : i_and (w32 (w32 (h 138 65 * 1103515245) + 12345)) 2147483647 = lcg (h 138 65) := rfl
  simp (disch := omega) only [n0 W, e, up_same, shr_16, true_and]
  rw [rem_i (by omega) (by omega) (by omega) (by omega), d.1]
  exact ⟨by omega, (by first | exact q_at rfl (hQ) | exact (hQ))⟩
theorem sp_N_chance {x m : Int} {e : Nat} (W : NW n hr) (T : TV S I t o) (B : NB S I t o e h) (hm' : mok t' o') (M : NM 24 t' o' h) (sd : 0 ≤ h 140 4 ∧ h 140 4 ≤ 100000) (h0 : ¬ (-1 ≤ x ∧ (1 ≤ m ∧ m ≤ 15) ∧ 0 < S ∧ 0 < I) → Q (0, -1) n hr (ai_up h 138 0 0)) (h1 : (-1 ≤ x ∧ (1 ≤ m ∧ m ≤ 15) ∧ 0 < S ∧ 0 < I) → ∀ h1, EX [] [(138, 0), (138, 65)] h h1 → Q (0, ((chR I m.toNat t o t' o' (if x = -1 then (if h 140 4 = 0 then 0 else h 140 4 - 1) else x) 10).1 : Int)) n hr h1) : f_N_chance [(2, 138), (0, x), (0, m)] n hr h Q := by
  obtain ⟨hS, hI, hm, hc, hT⟩ := T
  have B1 : NB S I t o e (ai_up h 138 0 0) := NB_1 B
  have g4 : (ai_up h 138 0 0) 140 4 = h 140 4 := up_oth (by omega)
  apply e_N_chance
  refine ⟨n0 W, fun z => (by first | exact q_at rfl (h0 (by omega)) | exact (h0 (by omega))), fun z => ⟨fun z2 => (by first | exact q_at rfl (h0 (by omega)) | exact (h0 (by omega))), fun z2 => ⟨fun z3 => (by first | exact q_at rfl (h0 (by omega)) | exact (h0 (by omega))), fun z3 => ⟨n0 W, ?_⟩⟩⟩⟩
  refine sp_N_states W ?_
  dsimp only
  rw [B1.1.1]
  refine ⟨fun z4 => (by first | exact q_at rfl (h0 (by omega)) | exact (h0 (by omega))), fun z4 => ⟨n0 W, ?_⟩⟩
  refine sp_N_inputs W ?_
  dsimp only
  rw [B1.1.2.1]
  refine ⟨fun z5 => ?_, fun z5 => (by first | exact q_at rfl (h0 (by omega)) | exact (h0 (by omega)))⟩
  have S0 : 0 < S := by omega
  have I0 : 0 < I := by omega
  obtain ⟨m, rfl⟩ := Int.eq_ofNat_of_zero_le (show 0 ≤ m by omega)
  have H := h1 ⟨by omega, by omega, S0, I0⟩
  rw [Int.toNat_natCast] at H
  have go : ∀ (s : Int) (h2 : HP), s = (if x = -1 then (if h 140 4 = 0 then 0 else h 140 4 - 1) else x) → h2 = ai_up (ai_up h 138 0 0) 138 65 s → p_N_chance_76 (n + 0) (ai_q 0 n Q) 138 (m : Int) 0 0 n hr h2 := by
    intro s h2 es e2
    rw [← es] at H
    have E2 : EX [] [(138, 0), (138, 65)] h h2 := by rw [e2]; exact EX_upp (EX_upp EX_rf (by decide)) (by decide)
    have d2 : h2 138 65 = s := by rw [e2, up_same]
    have main := lupN (N := 10) (P := fun w => ∀ h3, EX [] [(138, 0), (138, 65)] h h3 → h3 138 65 = (chR I m t o t' o' s w).2 → p_N_chance_76 (n + 0) (ai_q 0 n Q) 138 (m : Int) ((chR I m t o t' o' s w).1 : Int) (w : Int) n hr h3) ?_ ?_
    · exact main h2 E2 d2
    · intro h3 e3 d3
      exact b_N_chance_76 ⟨fun _ => q_at rfl (H h3 e3), fun y => by omega⟩
    · intro w hw ih h3 e3 d3
      have cl := chR_le (I := I) (m := m) (t := t) (o := o) (t' := t') (o' := o') (x := s) w
      refine b_N_chance_76 ⟨fun y => by omega, fun _ => ?_⟩
      have inner := lupN (N := m) (P := fun i => ∀ h4, EX [] [(138, 0), (138, 65)] h h4 → h4 138 65 = (chS I (chR I m t o t' o' s w).2 i).2 → p_N_chance_89 (n + 0) (ai_q 0 n Q) 138 (m : Int) ((chR I m t o t' o' s w).1 : Int) (w : Int) ((chS I (chR I m t o t' o' s w).2 i).1 : Int) (i : Int) n hr h4) ?_ ?_
      · exact inner h3 e3 d3
      · intro h4 e4 d4
        have ok := chS_ok I0 hI (chR I m t o t' o' s w).2 m
        have B4 := NB_fr B e4 (by decide)
        refine b_N_chance_89 ⟨fun _ => ⟨n0 W, ?_⟩, fun y => by omega⟩
        have eS : chR I m t o t' o' s (w + 1) = ((chR I m t o t' o' s w).1 + if aS t o 0 (chS I (chR I m t o t' o' s w).2 m).1 = aS t' o' 0 (chS I (chR I m t o t' o' s w).2 m).1 then 0 else 1, (chS I (chR I m t o t' o' s w).2 m).2) := rfl
        rw [eS] at ih
        refine sp_N_isPassed W B4.1 hm hm' (NM_fr M (EX_fn e4 (by decide) (by decide)) (EX_fn e4 (by decide) (by decide))) (by omega) (wok_mono hI ok.1) (by omega) (fun q => ?_) (fun q => ?_)
        · rw [if_pos q] at ih
          refine ⟨fun y => absurd y (by decide), fun _ => ?_⟩
          rw [w32_id (by omega) (by omega), w32_id (by omega) (by omega)]
          exact ih h4 e4 d4
        · rw [if_neg q] at ih
          refine ⟨fun _ => ?_, fun y => absurd rfl y⟩
          rw [w32_id (by omega) (by omega), w32_id (by omega) (by omega)]
          exact ih h4 e4 d4
      · intro i hi ih2 h4 e4 d4
        have ok := chS_ok I0 hI (chR I m t o t' o' s w).2 i
        have l := wlen_le.mp (Nat.le_of_eq ok.2)
        have l2 : (4 : Nat) ^ i ≤ 4 ^ 14 := Nat.pow_le_pow_right (by decide) (by omega)
        have l3 : (4 : Nat) ^ 14 = 268435456 := by decide
        have B4 := NB_fr B e4 (by decide)
        have d := (lcd_e I0 (h4 138 65)).2
        refine b_N_chance_89 ⟨fun y => by omega, fun _ => ⟨n0 W, sp_N_inputs W ?_⟩⟩
        dsimp only
        rw [B4.1.2.1]
        refine ⟨n0 W, sp_N_draw W I0 hI ?_⟩
        dsimp only
        rw [w32_id (x := 4 * ((chS I (chR I m t o t' o' s w).2 i).1 : Int)) (by omega) (by omega), w32_id (x := 4 * ((chS I (chR I m t o t' o' s w).2 i).1 : Int) + _) (by omega) (by omega), w32_id (by omega) (by omega), w32_id (by omega) (by omega)]
        have := ih2 (ai_up h4 138 65 (lcg (h4 138 65))) (EX_upp e4 (by decide)) (by rw [up_same, d4]; rfl)
        have eW : ((chS I (chR I m t o t' o' s w).2 (i + 1)).1 : Int) = 4 * ((chS I (chR I m t o t' o' s w).2 i).1 : Int) + (lcd I (chS I (chR I m t o t' o' s w).2 i).2 : Int) + 1 := by
          show ((4 * (chS I (chR I m t o t' o' s w).2 i).1 + lcd I (chS I (chR I m t o t' o' s w).2 i).2 + 1 : Nat) : Int) = _
          omega
        rw [eW, ← d4] at this
        exact this
  have e9 : w32 (h 140 4 - 1) = h 140 4 - 1 := w32_id (by omega) (by omega)
  simp (disch := omega) only [n0 W, nr_3 W, g4, e9, true_and]
  refine ⟨fun z6 => ?_, fun z6 => ?_⟩
  · exact go x _ (by rw [if_neg z6]) rfl
  · repeat (refine ⟨by omega, ?_⟩)
    refine ⟨fun z7 => ?_, fun z7 => ?_⟩
    · repeat (refine ⟨by omega, ?_⟩)
      exact go _ _ (by rw [if_pos z6, if_neg z7]) rfl
    · exact go _ _ (by rw [if_pos z6, if_pos z7]) rfl
/-- the image: the machine, the log -/
def NIm (t o : Int → Int) (LG : List (Nat × Int)) (h : HP) : Prop := KPd 20 t o h ∧ h 138 68 = (LG.length : Int) ∧ ∀ (j w : Nat) (a : Int), LG[j]? = some (w, a) → h 176 (20 + (j : Int)) = (w : Int) ∧ h 177 (20 + (j : Int)) = a
theorem sp_N_keep {LG : List (Nat × Int)} (W : NW n hr) (M : NM 24 t o h) (G : LGn h LG) (hl : LG.length ≤ 20) (hQ : ∀ h1, EX [176, 177, 180] [(138, 0), (138, 68), (138, 69)] h h1 → (∀ j : Int, j < 960 → h1 180 j = h 180 j) → LGn h1 LG → h1 138 69 = 1 → NIm t o LG h1 → Q (0, (LG.length : Int)) n hr h1) : f_N_keep [(2, 138)] n hr h Q := by
  apply e_N_keep
  refine ⟨n0 W, n0 W, ?_⟩
  have M1 : NM 24 t o (ai_up h 138 0 0) := NM_fr M (by funext j; rw [up_oth (by omega)]) (by funext j; rw [up_oth (by omega)])
  refine sp_N_copies0 W (by omega) M1 fun h2 e2 e3 e4 => ?_
  have E2 : EX [176, 177, 180] [(138, 0), (138, 68), (138, 69)] h h2 := EX_tr (EX_upp EX_rf (by decide)) (EX_le e2 (by decide) (by decide))
  have main := lupN (N := 20) (P := fun k => ∀ h3, EX [176, 177] [] h2 h3 → (∀ j : Int, j < 20 → h3 176 j = h2 176 j ∧ h3 177 j = h2 177 j) → (∀ j : Int, 0 ≤ j → j < (k : Int) → h3 176 (20 + j) = h2 176 j ∧ h3 177 (20 + j) = h2 177 j) → p_N_keep_14 (n + 0) (ai_q 0 n Q) 138 (k : Int) n hr h3) ?_ ?_
  · exact main h2 EX_rf (fun _ _ => ⟨rfl, rfl⟩) fun j a b => by omega
  · intro h3 k1 k2 k3
    refine b_N_keep_14 ⟨fun _ => ?_, fun y => by omega⟩
    have g61 : h3 138 61 = (LG.length : Int) := by rw [k1 138 61 (by decide) (by decide), E2 138 61 (by decide) (by decide)]; exact G.1
    have g6 : ∀ j : Int, h2 176 j = h 176 j ∧ h2 177 j = h 177 j := fun j => by
      rw [e2 176 j (by decide) (by simp), e2 177 j (by decide) (by simp), up_oth (by omega), up_oth (by omega)]; exact ⟨rfl, rfl⟩
    simp (disch := omega) only [n0 W, g61, up_oth, up_same, true_and, true_or, or_true]
    have k80 : h3 180 = h2 180 := EX_fn k1 (by decide) (by decide)
    refine q_at rfl (hQ (ai_up (ai_up h3 138 68 (LG.length : Int)) 138 69 1) (EX_upp (EX_upp (EX_tr E2 (EX_le k1 (by decide) (by decide))) (by decide)) (by decide)) (fun j hj => ?_) ⟨?_, fun j w a hj => ?_⟩ ?_ ⟨KPd_fr e4 ?_, ?_, fun j w a hj => ?_⟩)
    · rw [up_oth (by omega), up_oth (by omega), k80, e3 j (by omega), up_oth (by omega)]
    · rw [up_oth (by omega), up_oth (by omega)]; exact g61
    · have jl := (List.getElem?_eq_some_iff.mp hj).1
      have := G.2 j w a hj
      simp (disch := omega) only [up_oth]
      rw [(k2 (j : Int) (by omega)).1, (k2 (j : Int) (by omega)).2, (g6 _).1, (g6 _).2]
      exact this
    · rw [up_same]
    · funext j; rw [up_oth (by omega), up_oth (by omega), k80]
    · rw [up_oth (by omega), up_same]
    · have jl := (List.getElem?_eq_some_iff.mp hj).1
      have := G.2 j w a hj
      simp (disch := omega) only [up_oth]
      rw [(k3 (j : Int) (by omega) (by omega)).1, (k3 (j : Int) (by omega) (by omega)).2, (g6 _).1, (g6 _).2]
      exact this
  · intro k hk ih h3 k1 k2 k3
    refine b_N_keep_14 ⟨fun y => by omega, fun _ => ?_⟩
    have c := k2 (k : Int) (by omega)
    simp (disch := omega) only [n0 W, nr_59 W, nr_60 W, w32_id, up_oth, true_and]
    repeat (refine ⟨by omega, ?_⟩)
    refine ih _ (EX_upc (EX_upc k1 (by decide)) (by decide)) (fun j hj => ?_) fun j j0 j1 => ?_
    · simp (disch := omega) only [up_oth]; exact k2 j hj
    · by_cases y : j = (k : Int)
      · subst y; simp (disch := omega) only [up_oth, up_same]; exact c
      · simp (disch := omega) only [up_oth]; exact k3 j j0 (by omega)
theorem sp_N_back {LG : List (Nat × Int)} (W : NW n hr) (hl : LG.length ≤ 20) (h0 : h 138 69 = 0 → Q (0, -1) n hr (ai_up h 138 0 0)) (h1 : h 138 69 ≠ 0 → NIm t o LG h ∧ ∀ h1, EX [147, 148, 176, 177] [(138, 0), (138, 61), (138, 67)] h h1 → (∀ a : Int, (a < 24 ∨ 48 ≤ a) → h1 147 a = h 147 a ∧ h1 148 a = h 148 a) → NM 24 t o h1 → LGn h1 LG → h1 138 67 = 0 → NIm t o LG h1 → Q (0, (LG.length : Int)) n hr h1) : f_N_back [(2, 138)] n hr h Q := by
  have g69 : (ai_up h 138 0 0) 138 69 = h 138 69 := up_oth (by omega)
  apply e_N_back
  simp only [n0 W, g69, true_and]
  refine ⟨fun z => ?_, fun z => (by first | exact q_at rfl (h0 z) | exact (h0 z))⟩
  obtain ⟨IM, H⟩ := h1 z
  have K1 : KPd 20 t o (ai_up h 138 0 0) := KPd_fr IM.1 (by funext j; rw [up_oth (by omega)])
  refine sp_N_copies1 W (by omega) K1 fun h2 e2 e3 e4 => ?_
  have E2 : EX [147, 148, 176, 177] [(138, 0), (138, 61), (138, 67)] h h2 := EX_tr (EX_upp EX_rf (by decide)) (EX_le e2 (by decide) (by decide))
  have g6 : ∀ j : Int, h2 176 j = h 176 j ∧ h2 177 j = h 177 j := fun j => by
    rw [e2 176 j (by decide) (by simp), e2 177 j (by decide) (by simp), up_oth (by omega), up_oth (by omega)]; exact ⟨rfl, rfl⟩
  have main := lupN (N := 20) (P := fun k => ∀ h3, EX [176, 177] [] h2 h3 → (∀ j : Int, 20 ≤ j → h3 176 j = h2 176 j ∧ h3 177 j = h2 177 j) → (∀ j : Int, 0 ≤ j → j < (k : Int) → h3 176 j = h2 176 (20 + j) ∧ h3 177 j = h2 177 (20 + j)) → p_N_back_23 (n + 0) (ai_q 0 n Q) 138 (k : Int) n hr h3) ?_ ?_
  · exact main h2 EX_rf (fun _ _ => ⟨rfl, rfl⟩) fun j a b => by omega
  · intro h3 k1 k2 k3
    refine b_N_back_23 ⟨fun _ => ?_, fun y => by omega⟩
    have g68 : h3 138 68 = (LG.length : Int) := by rw [k1 138 68 (by decide) (by decide), E2 138 68 (by decide) (by decide)]; exact IM.2.1
    simp (disch := omega) only [n0 W, g68, up_oth, up_same, true_and]
    refine q_at rfl (H (ai_up (ai_up h3 138 61 (LG.length : Int)) 138 67 0) (EX_upp (EX_upp (EX_tr E2 (EX_le k1 (by decide) (by decide))) (by decide)) (by decide)) (fun a ha => ?_) (NM_fr e4 ?_ ?_) ⟨?_, fun j w a hj => ?_⟩ up_same ⟨KPd_fr IM.1 ?_, ?_, fun j w a hj => ?_⟩)
    · rw [up_oth (by omega), up_oth (by omega), up_oth (by omega), up_oth (by omega), EX_fn k1 (c := 147) (by decide) (by decide), EX_fn k1 (c := 148) (by decide) (by decide), (e3 a ha).1, (e3 a ha).2, up_oth (by omega), up_oth (by omega)]
      exact ⟨rfl, rfl⟩
    · funext j; rw [up_oth (by omega), up_oth (by omega), EX_fn k1 (c := 147) (by decide) (by decide)]
    · funext j; rw [up_oth (by omega), up_oth (by omega), EX_fn k1 (c := 148) (by decide) (by decide)]
    · rw [up_oth (by omega), up_same]
    · have jl := (List.getElem?_eq_some_iff.mp hj).1
      have := IM.2.2 j w a hj
      simp (disch := omega) only [up_oth]
      rw [(k3 (j : Int) (by omega) (by omega)).1, (k3 (j : Int) (by omega) (by omega)).2, (g6 _).1, (g6 _).2]
      exact this
    · funext j; rw [up_oth (by omega), up_oth (by omega), EX_fn k1 (c := 180) (by decide) (by decide), e2 180 j (by decide) (by simp), up_oth (by omega)]
    · rw [up_oth (by omega), up_oth (by omega)]; exact g68
    · have jl := (List.getElem?_eq_some_iff.mp hj).1
      have := IM.2.2 j w a hj
      simp (disch := omega) only [up_oth]
      rw [(k2 (20 + (j : Int)) (by omega)).1, (k2 (20 + (j : Int)) (by omega)).2, (g6 _).1, (g6 _).2]
      exact this
  · intro k hk ih h3 k1 k2 k3
    refine b_N_back_23 ⟨fun y => by omega, fun _ => ?_⟩
    have c := k2 (20 + (k : Int)) (by omega)
    simp (disch := omega) only [n0 W, nr_59 W, nr_60 W, w32_id, up_oth, true_and]
    repeat (refine ⟨by omega, ?_⟩)
    refine ih _ (EX_upc (EX_upc k1 (by decide)) (by decide)) (fun j hj => ?_) fun j j0 j1 => ?_
    · simp (disch := omega) only [up_oth]; exact k2 j hj
    · by_cases y : j = (k : Int)
      · subst y; simp (disch := omega) only [up_oth, up_same]; exact c
      · simp (disch := omega) only [up_oth]; exact k3 j j0 (by omega)
theorem sp_N_built {p i w : Int} (W : NW n hr) (hI : I ≤ 3) (hN : N ≤ 8) (eI : h 140 1 = (I : Int)) (eN : h 140 0 + h 140 2 = (N : Int)) (M : NM 24 t o h) (h0 : ¬ ((0 ≤ p ∧ p < (N : Int) ∧ 0 ≤ i ∧ i < (I : Int)) ∧ 0 ≤ w ∧ w ≤ 1) → Q (0, -1) n hr (ai_up h 138 0 0)) (h1 : ((0 ≤ p ∧ p < (N : Int) ∧ 0 ≤ i ∧ i < (I : Int)) ∧ 0 ≤ w ∧ w ≤ 1) → Q (0, if w = 0 then t (3 * p + i) else o (3 * p + i)) n hr (ai_up h 138 0 0)) : f_N_built [(2, 138), (0, p), (0, i), (0, w)] n hr h Q := by
  have eI1 : (ai_up h 138 0 0) 140 1 = (I : Int) := by rw [up_oth (by omega)]; exact eI
  have eN1 : w32 ((ai_up h 138 0 0) 140 0 + (ai_up h 138 0 0) 140 2) = (N : Int) := by rw [up_oth (by omega), up_oth (by omega), eN, w32_id (by omega) (by omega)]
  apply e_N_built
  simp only [n0 W, true_and]
  refine sp_N_isPlace W (fun z => ⟨fun q => absurd q (by decide), fun _ => ?_⟩) (fun z => ⟨fun _ => (by first | exact q_at rfl (h0 (by rw [eN1] at z; omega)) | exact (h0 (by rw [eN1] at z; omega))), fun q => absurd rfl q⟩)
  rw [eN1] at z
  refine ⟨n0 W, sp_N_isInput W (fun z2 => ⟨fun q => absurd q (by decide), fun _ => ?_⟩) (fun z2 => ⟨fun _ => (by first | exact q_at rfl (h0 (by rw [eI1] at z2; omega)) | exact (h0 (by rw [eI1] at z2; omega))), fun q => absurd rfl q⟩)⟩
  rw [eI1] at z2
  have g1 := M.1 (3 * p + i) (by omega) (by omega)
  have g2 := M.2 (3 * p + i) (by omega) (by omega)
  dsimp only at g1 g2
  rw [show 24 + (3 * p + i) = 24 + 3 * p + i by omega] at g1 g2
  refine ⟨fun z4 => (by first | exact q_at rfl (h0 (by omega)) | exact (h0 (by omega))), fun z4 => ⟨fun z5 => ?_, fun z5 => (by first | exact q_at rfl (h0 (by omega)) | exact (h0 (by omega)))⟩⟩
  have H := h1 ⟨⟨by omega, by omega, by omega, by omega⟩, by omega, by omega⟩
  simp (disch := omega) only [n0 W, nr_20 W, nr_21 W, w32_id, up_oth, g1, g2, true_and]
  refine ⟨fun z6 => ?_, fun z6 => ?_⟩
  · rw [if_neg z6] at H
    repeat (refine ⟨by omega, ?_⟩)
    exact (by first | exact q_at rfl (H) | exact (H))
  · rw [if_pos z6] at H
    repeat (refine ⟨by omega, ?_⟩)
    exact (by first | exact q_at rfl (H) | exact (H))
end
