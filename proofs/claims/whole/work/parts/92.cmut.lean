-- deps: 18 19 20 21 23 24 25 26 27 28 29 22 30 31 32 33 34 35 36 38 40 41 45 46 51 91
/-! the class lists small faults, makes and unmakes them -/
section
variable {Q : RP} {n : Nat} {hr h : HP} {S I : Nat} {t o t' o' : Int → Int}
theorem cod {a x y : Int} (ha : 0 ≤ a ∧ a < 24) (hx : 0 ≤ x ∧ x < 16) (hy : 0 ≤ y ∧ y < 16) : i_or (i_or (i_shl a 8) (i_shl x 4)) y = 256 * a + 16 * x + y := by
  obtain ⟨a, rfl⟩ := Int.eq_ofNat_of_zero_le ha.1
  obtain ⟨x, rfl⟩ := Int.eq_ofNat_of_zero_le hx.1
  obtain ⟨y, rfl⟩ := Int.eq_ofNat_of_zero_le hy.1
  rw [shl_8 (by omega) (by omega), shl_4 (by omega) (by omega)]
  have e1 := or_add (a := a) (b := x * 16) (k := 8) (by show x * 16 < 256; omega) (by show a * 256 + x * 16 < 2147483648; omega)
  have e2 := or_add (a := a * 16 + x) (b := y) (k := 4) (by show y < 16; omega) (by show (a * 16 + x) * 16 + y < 2147483648; omega)
  rw [show ((a * 2 ^ 8 : Nat) : Int) = (a : Int) * 256 by show ((a * 256 : Nat) : Int) = _; omega, show ((x * 16 : Nat) : Int) = (x : Int) * 16 by omega] at e1
  rw [e1]
  rw [show (((a * 16 + x) * 2 ^ 4 : Nat) : Int) = ((a * 2 ^ 8 + x * 16 : Nat) : Int) by show (((a * 16 + x) * 16 : Nat) : Int) = ((a * 256 + x * 16 : Nat) : Int); omega] at e2
  rw [e2]
  show (((a * 16 + x) * 16 + y : Nat) : Int) = _
  omega
/-- the first k of them are listed -/
def CMp (S I : Nat) (t o : Int → Int) (h : HP) (k : Nat) : Prop := h 102 15 = (k : Int) ∧ ∀ j : Nat, j < k → h 109 (j : Int) = cMu S I t o j
theorem sp_U_add {k : Nat} {c : Int} (V : CW n hr) (hk : k < 252) (h15 : h 102 15 = (k : Int)) (hQ : Q (9, 0) n hr (ai_up (ai_up h 109 (k : Int) c) 102 15 ((k + 1 : Nat) : Int))) : f_U_add [(2, 102), (0, c)] n hr h Q := by
  apply e_U_add
  simp (disch := omega) only [ok_102 V.1, cr_102_5 V, h15, up_oth, w32_id, true_and]
  refine ⟨fun z => by omega, fun _ => ?_⟩
  repeat (refine ⟨by omega, ?_⟩)
  exact (by first | exact q_at rfl (hQ) | exact (hQ))
theorem CMp_add {k : Nat} {c : Int} (C : CMp S I t o h k) (hc : c = cMu S I t o k) : CMp S I t o (ai_up (ai_up h 109 (k : Int) c) 102 15 ((k + 1 : Nat) : Int)) (k + 1) := by
  refine ⟨by rw [up_same], fun j hj => ?_⟩
  by_cases z : j = k
  · subst z; simp (disch := omega) only [up_oth, up_same]; exact hc
  · simp (disch := omega) only [up_oth]; exact C.2 j (by omega)
theorem EX_add {k : Nat} {c : Int} {h0 : HP} (e : EX [109] [(102, 15)] h0 h) : EX [109] [(102, 15)] h0 (ai_up (ai_up h 109 (k : Int) c) 102 15 ((k + 1 : Nat) : Int)) := EX_upp (EX_upc e (by decide)) (by decide)
theorem sp_U_listArc {s i : Nat} (V : CW n hr) (T : TV S I t o) (X : CX S I t o h) (ht : h 19 11 = tpR o 24) (hs : s < S) (hi : i < I) (hre : 0 ≤ AC I t 0 (s : Int)) (C : CMp S I t o h ((cA (AC I t 0) s * I + i) * UE S o)) (hQ : ∀ h1, EX [109] [(102, 15)] h h1 → CMp S I t o h1 ((cA (AC I t 0) s * I + i) * UE S o + UE S o) → Q (9, 0) n hr h1) : f_U_listArc [(2, 102), (0, (s : Int) * 3 + (i : Int))] n hr h Q := by
  obtain ⟨hS, hI, hm, hc, hT⟩ := T
  have ea : (s : Int) * 3 + (i : Int) = 3 * (s : Int) + (i : Int) := by omega
  rw [ea]
  have c1 := X.2.2.1 (3 * (s : Int) + (i : Int)) (by omega) (by omega)
  have c2 := X.2.2.2 (3 * (s : Int) + (i : Int)) (by omega) (by omega)
  have cl := hc (s : Int) i (by omega) (by omega) (by omega)
  have ml := hm (3 * (s : Int) + (i : Int)) (by omega) (by omega)
  have ue := UE_b (t := t) (S := S) hm hS
  have ub := UN_b hm hS hI
  have tp1 := tpR_1 o 24
  have tp9 := tpR_9 hm 24 (Nat.le_refl _)
  have tpg := tpR_ge (o := o) (c := 3 * s + i) 24 (by omega)
  rw [show ((3 * s + i : Nat) : Int) = 3 * (s : Int) + (i : Int) by omega] at tpg
  have cs := cA_lt (AC I t 0) hs hre
  generalize hB : cA (AC I t 0) s * I + i = B at *
  -- the bound
  have kb : ∀ r, r < UE S o → B * UE S o + r < 252 ∧ (B * UE S o + r) / UE S o = B ∧ (B * UE S o + r) % UE S o = r ∧ B / I = cA (AC I t 0) s ∧ B % I = i := by
    intro r hr
    have b1 : B < cA (AC I t 0) S * I := by
      have : (cA (AC I t 0) s + 1) * I ≤ cA (AC I t 0) S * I := Nat.mul_le_mul_right I (by omega)
      rw [Nat.succ_mul] at this; omega
    have b2 : (B + 1) * UE S o ≤ UN S I t o := Nat.mul_le_mul_right _ b1
    rw [Nat.succ_mul] at b2
    refine ⟨by omega, ?_, ?_, ?_, ?_⟩
    · rw [Nat.mul_comm, Nat.mul_add_div (by omega), Nat.div_eq_of_lt hr]; omega
    · rw [Nat.mul_comm, Nat.mul_add_mod, Nat.mod_eq_of_lt hr]
    · rw [← hB, Nat.mul_comm, Nat.mul_add_div (by omega), Nat.div_eq_of_lt hi]; omega
    · rw [← hB, Nat.mul_comm, Nat.mul_add_mod, Nat.mod_eq_of_lt hi]
  generalize ht0 : t (3 * (s : Int) + (i : Int)) = a at *
  generalize ho0 : o (3 * (s : Int) + (i : Int)) = b at *
  obtain ⟨a, rfl⟩ := Int.eq_ofNat_of_zero_le cl.1
  obtain ⟨b, rfl⟩ := Int.eq_ofNat_of_zero_le ml.2.1
  obtain ⟨T0, hT0⟩ := Int.eq_ofNat_of_zero_le (show 0 ≤ tpR o 24 by omega)
  have isx : ∀ j : Nat, j < S → j ≠ a → isMu S I t o (B * UE S o + (if j < a then j else j - 1)) s i (j : Int) (b : Int) := by
    intro j hj hne
    have rl : (if j < a then j else j - 1) < S - 1 := by split <;> omega
    have k1 := kb (if j < a then j else j - 1) (by omega)
    generalize hr : (if j < a then j else j - 1) = r at *
    refine ⟨hs, hi, hre, ?_, ?_, fun _ => ⟨?_, ho0.symm⟩, fun q => ?_⟩
    · rw [k1.2.1, k1.2.2.2.1]
    · rw [k1.2.1, k1.2.2.2.2]
    · rw [k1.2.2.1, ht0]
      by_cases z : j < a
      · rw [if_pos z] at hr; rw [if_pos (by omega)]; omega
      · rw [if_neg z] at hr; rw [if_neg (by omega)]; omega
    · rw [k1.2.2.1] at q; omega
  have isy : ∀ j : Nat, j ≤ T0 → j ≠ b → isMu S I t o (B * UE S o + (S - 1 + (if j < b then j else j - 1))) s i (a : Int) (j : Int) := by
    intro j hj hne
    have rl : S - 1 + (if j < b then j else j - 1) < UE S o := by split <;> omega
    have k1 := kb _ rl
    generalize hr : (if j < b then j else j - 1) = r at *
    refine ⟨hs, hi, hre, ?_, ?_, fun q => ?_, fun _ => ⟨ht0.symm, ?_⟩⟩
    · rw [k1.2.1, k1.2.2.2.1]
    · rw [k1.2.1, k1.2.2.2.2]
    · rw [k1.2.2.1] at q; omega
    · rw [k1.2.2.1, ho0, show S - 1 + r - (S - 1) = r by omega]
      by_cases z : j < b
      · rw [if_pos z] at hr; rw [if_pos (by omega)]; omega
      · rw [if_neg z] at hr; rw [if_neg (by omega)]; omega
  have code : ∀ {k x y}, isMu S I t o k s i x y → cMu S I t o k = 256 * (3 * (s : Int) + (i : Int)) + 16 * x + y := by
    intro k x y H
    obtain ⟨r1, r2, r3, r4⟩ := mu_e H
    unfold cMu muC
    rw [r1, r2, r3, r4]
  have fr : ∀ {h1 : HP}, EX [109] [(102, 15)] h h1 → CX S I t o h1 ∧ h1 19 11 = tpR o 24 := fun e => ⟨CX_fr X e (by decide) (by decide), by rw [e 19 11 (by decide) (by decide)]; exact ht⟩
  apply e_U_listArc
  simp (disch := omega) only [ok_102 V.1, cr_102_0 V, cr_13_0 V, cr_13_1 V, c1, c2, true_and]
  repeat (refine ⟨by omega, ?_⟩)
  -- outputs
  have outs : ∀ h1, EX [109] [(102, 15)] h h1 → CMp S I t o h1 (B * UE S o + (S - 1)) → p_U_listArc_65 (n + 0) (ai_q 0 n Q) 102 (3 * (s : Int) + (i : Int)) (a : Int) (b : Int) 0 n hr h1 := by
    have loop := lupN (N := T0 + 1) (P := fun j => ∀ h1, EX [109] [(102, 15)] h h1 → CMp S I t o h1 (B * UE S o + (S - 1 + (if j ≤ b then j else j - 1))) → p_U_listArc_65 (n + 0) (ai_q 0 n Q) 102 (3 * (s : Int) + (i : Int)) (a : Int) (b : Int) (j : Int) n hr h1) ?_ ?_
    · intro h1 e1 m1
      refine loop h1 e1 ?_
      rw [if_pos (Nat.zero_le _)]; exact m1
    · intro h1 e1 m1
      refine b_U_listArc_65 ?_
      simp (disch := omega) only [ok_102 V.1, cr_102_1 V, ok_19 V.1, (fr e1).2, true_and]
      refine ⟨fun _ => q_at rfl (hQ h1 e1 ?_), fun z => by omega⟩
      rw [if_neg (by omega)] at m1
      rw [show UE S o = S - 1 + (T0 + 1 - 1) by omega] at m1 ⊢
      exact m1
    · intro j hj ih h1 e1 m1
      refine b_U_listArc_65 ?_
      simp (disch := omega) only [ok_102 V.1, cr_102_1 V, ok_19 V.1, (fr e1).2, true_and]
      refine ⟨fun z => by omega, fun _ => ⟨fun z => ?_, fun z => ?_⟩⟩
      · rw [w32_id (by omega) (by omega)]
        have zj : j = b := by omega
        refine ih h1 e1 ?_
        rw [if_pos (by omega)] at m1
        rw [if_neg (by omega)]
        exact m1
      · rw [cod (by omega) (by omega) (by omega)]
        have iy := isy j (by omega) (by omega)
        have k1 := kb (S - 1 + (if j < b then j else j - 1)) (by split <;> omega)
        rw [show (if j ≤ b then j else j - 1) = (if j < b then j else j - 1) by split <;> split <;> omega] at m1
        refine sp_U_add V k1.1 m1.1 ?_
        rw [w32_id (by omega) (by omega)]
        refine ih _ (EX_add e1) ?_
        rw [show (if j + 1 ≤ b then j + 1 else j + 1 - 1) = (if j < b then j else j - 1) + 1 by split <;> split <;> omega]
        exact CMp_add m1 (code iy).symm
  have loop := lupN (N := S) (P := fun j => ∀ h1, EX [109] [(102, 15)] h h1 → CMp S I t o h1 (B * UE S o + (if j ≤ a then j else j - 1)) → p_U_listArc_23 (n + 0) (ai_q 0 n Q) 102 (3 * (s : Int) + (i : Int)) (a : Int) (b : Int) (j : Int) n hr h1) ?_ ?_
  · refine loop h EX_rf ?_
    rw [if_pos (Nat.zero_le _)]; exact C
  · intro h1 e1 m1
    refine b_U_listArc_23 ?_
    simp (disch := omega) only [ok_102 V.1, cr_102_0 V, ok_13 V.1, (fr e1).1.1, true_and]
    refine ⟨fun _ => outs h1 e1 ?_, fun z => by omega⟩
    rw [if_neg (by omega)] at m1; exact m1
  · intro j hj ih h1 e1 m1
    refine b_U_listArc_23 ?_
    simp (disch := omega) only [ok_102 V.1, cr_102_0 V, ok_13 V.1, (fr e1).1.1, true_and]
    refine ⟨fun z => by omega, fun _ => ⟨fun z => ?_, fun z => ?_⟩⟩
    · rw [w32_id (by omega) (by omega)]
      refine ih h1 e1 ?_
      rw [if_pos (by omega)] at m1
      rw [if_neg (by omega)]
      exact m1
    · rw [cod (by omega) (by omega) (by omega)]
      have ix := isx j hj (by omega)
      have k1 := kb (if j < a then j else j - 1) (by split <;> omega)
      rw [show (if j ≤ a then j else j - 1) = (if j < a then j else j - 1) by split <;> split <;> omega] at m1
      refine sp_U_add V k1.1 m1.1 ?_
      rw [w32_id (by omega) (by omega)]
      refine ih _ (EX_add e1) ?_
      rw [show (if j + 1 ≤ a then j + 1 else j + 1 - 1) = (if j < a then j else j - 1) + 1 by split <;> split <;> omega]
      exact CMp_add m1 (code ix).symm
/-- nothing is known of them -/
def CU0 (h : HP) : Prop := h 102 14 = -9 ∧ (∀ k : Nat, k < 4 → h 111 (k : Int) = -9 ∧ h 114 (k : Int) = -9) ∧ ∀ k : Nat, k < 2 → h 113 (k : Int) = -9
theorem sp_U_list (V : CW n hr) (T : TV S I t o) (X : CX S I t o h) (ht : h 19 11 = tpR o 24) (hre : h 19 8 = (RMk S I t : Int)) (hQ : ∀ h1, EX [109, 111, 113, 114] [(102, 14), (102, 15)] h h1 → CMp S I t o h1 (UN S I t o) → CU0 h1 → Q (9, 0) n hr h1) : f_U_list [(2, 102)] n hr h Q := by
  have TT := T
  obtain ⟨hS, hI, hm, hc, hT⟩ := T
  apply e_U_list
  simp (disch := omega) only [ok_102 V.1, cr_102_7 V, cr_102_9 V, cr_102_10 V, true_and]
  refine sp_J_fill (ok_111 V.1) ?_
  simp (disch := omega) only [ok_102 V.1, cr_102_7 V, cr_102_9 V, cr_102_10 V, true_and]
  refine sp_J_fill (ok_113 V.1) ?_
  simp (disch := omega) only [ok_102 V.1, cr_102_7 V, cr_102_9 V, cr_102_10 V, true_and]
  refine sp_J_fill (ok_114 V.1) ?_
  simp (disch := omega) only [ok_102 V.1, cr_102_7 V, cr_102_9 V, cr_102_10 V, true_and, or_true, true_or]
  generalize hh : ai_up (ai_up (ai_fl (ai_fl (ai_fl h 111 4 fun _ => -9) 113 2 fun _ => -9) 114 4 fun _ => -9) 102 14 (-9)) 102 15 0 = h0
  have e0 : EX [109, 111, 113, 114] [(102, 14), (102, 15)] h h0 := by
    intro c j hc hp
    simp only [List.mem_cons, List.not_mem_nil, or_false, not_or, Prod.mk.injEq] at hc hp
    rw [← hh, up_oth (by omega), up_oth (by omega), fl_out (by omega), fl_out (by omega), fl_out (by omega)]
  have z0 : CU0 h0 := by
    rw [← hh]
    refine ⟨?_, fun k hk => ⟨?_, ?_⟩, fun k hk => ?_⟩
    · simp (disch := omega) only [up_oth, up_same]
    · rw [up_oth (by omega), up_oth (by omega), fl_out (by omega), fl_out (by omega), fl_in (by omega) (by omega)]
    · rw [up_oth (by omega), up_oth (by omega), fl_in (by omega) (by omega)]
    · rw [up_oth (by omega), up_oth (by omega), fl_out (by omega), fl_in (by omega) (by omega)]
  have m0 : CMp S I t o h0 0 := ⟨by rw [← hh, up_same]; rfl, fun j hj => by omega⟩
  have X0 : CX S I t o h0 := CX_fr X e0 (by decide) (by decide)
  have t0 : h0 19 11 = tpR o 24 := by rw [e0 19 11 (by decide) (by decide)]; exact ht
  have r0 : h0 19 8 = (RMk S I t : Int) := by rw [e0 19 8 (by decide) (by decide)]; exact hre
  have fr : ∀ {h1 : HP}, EX [109] [(102, 15)] h0 h1 → CX S I t o h1 ∧ h1 19 11 = tpR o 24 ∧ h1 19 8 = (RMk S I t : Int) := fun e => ⟨CX_fr X0 e (by decide) (by decide), by rw [e 19 11 (by decide) (by decide)]; exact t0, by rw [e 19 8 (by decide) (by decide)]; exact r0⟩
  have done : ∀ h1, EX [109] [(102, 15)] h0 h1 → CMp S I t o h1 (UN S I t o) → Q (9, 0) n hr h1 := fun h1 e m => by
    refine hQ h1 (EX_tr e0 (EX_le e (by decide) (by decide))) m ?_
    unfold CU0
    rw [EX_fn e (c := 111) (by decide) (by decide), EX_fn e (c := 113) (by decide) (by decide), EX_fn e (c := 114) (by decide) (by decide), e 102 14 (by decide) (by decide)]
    exact z0
  have loop := lupN (N := S) (P := fun s => ∀ h1, EX [109] [(102, 15)] h0 h1 → CMp S I t o h1 (cA (AC I t 0) s * I * UE S o) → p_U_list_40 (n + 0) (ai_q 0 n Q) 102 (s : Int) n hr h1) ?_ ?_
  · refine loop h0 EX_rf ?_
    rw [show cA (AC I t 0) 0 = 0 from rfl, Nat.zero_mul, Nat.zero_mul]; exact m0
  · intro h1 e1 m1
    refine b_U_list_40 ?_
    simp (disch := omega) only [ok_102 V.1, cr_102_0 V, ok_13 V.1, (fr e1).1.1, true_and]
    exact ⟨fun _ => q_at rfl (done h1 e1 m1), fun z => by omega⟩
  · intro s hs ih h1 e1 m1
    refine b_U_list_40 ?_
    simp (disch := omega) only [ok_102 V.1, cr_102_0 V, ok_13 V.1, (fr e1).1.1, true_and]
    refine ⟨fun z => by omega, fun _ => ?_⟩
    have lp := lupN (N := I) (P := fun i => ∀ h1, EX [109] [(102, 15)] h0 h1 → CMp S I t o h1 ((cA (AC I t 0) s * I + if 0 ≤ AC I t 0 (s : Int) then i else 0) * UE S o) → p_U_list_53 (n + 0) (ai_q 0 n Q) 102 (s : Int) (i : Int) n hr h1) ?_ ?_
    · refine lp h1 e1 ?_
      rw [show (if 0 ≤ AC I t 0 (s : Int) then 0 else 0) = 0 by split <;> rfl, Nat.add_zero]; exact m1
    · intro h2 e2 m2
      refine b_U_list_53 ?_
      simp (disch := omega) only [ok_102 V.1, cr_102_0 V, ok_13 V.1, (fr e2).1.2.1, w32_id, true_and]
      refine ⟨fun _ => ih h2 e2 ?_, fun z => by omega⟩
      rw [cA_s]
      by_cases z : 0 ≤ AC I t 0 (s : Int)
      · rw [if_pos z] at m2 ⊢; rw [Nat.succ_mul]; exact m2
      · rw [if_neg z] at m2 ⊢; exact m2
    · intro i hi ihi h2 e2 m2
      refine b_U_list_53 ?_
      simp (disch := omega) only [ok_102 V.1, cr_102_0 V, cr_102_1 V, ok_13 V.1, (fr e2).1.2.1, w32_id, true_and]
      refine ⟨fun z => by omega, fun _ => ?_⟩
      refine sp_A_isReached V (fr e2).2.2 (by omega) (fun tb => ?_) (fun tb => ?_)
      · have rc := (RMk_tb S I t s).mp tb
        rw [if_pos rc.2] at m2
        refine ⟨fun z => absurd z (by decide), fun _ => ?_⟩
        (try simp (disch := omega) only [ok_102 V.1, w32_id, true_and])
        refine sp_U_listArc V TT (fr e2).1 (fr e2).2.1 hs hi rc.2 m2 fun h3 e3 m3 => ?_
        refine ihi h3 (EX_tr e2 e3) ?_
        rw [if_pos rc.2, ← Nat.add_assoc, Nat.succ_mul]; exact m3
      · have nr : ¬ 0 ≤ AC I t 0 (s : Int) := fun q => tb ((RMk_tb S I t s).mpr ⟨hs, q⟩)
        rw [if_neg nr] at m2
        refine ⟨fun _ => ihi h2 e2 ?_, fun z => absurd rfl z⟩
        rw [if_neg nr]; exact m2
end
