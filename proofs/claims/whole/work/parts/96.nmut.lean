-- deps: 18 19 20 21 23 24 25 26 27 28 29 22 30 31 32 33 34 35 36 37 38 39 40 47 50 51 91
/-! the reference: small faults one by one -/
section
variable {Q : RP} {n : Nat} {hr h : HP} {S I : Nat} {t o t' o' : Int → Int}
theorem sp_N_mutantMany (W : NW n hr) (T : TV S I t o) (X : NX S I t o h) (P : NP S I t o h) (hQ : Q (0, (UN S I t o : Int)) n hr h) : f_N_mutantMany [(2, 138)] n hr h Q := by
  have TT := T
  obtain ⟨hS, hI, hm, hc, hT⟩ := T
  have ub := UN_b hm hS hI
  have ue := UE_b (t := t) (S := S) hm hS
  have cl := cA_le (AC I t 0) S
  apply e_N_mutantMany
  simp only [n0 W, true_and]
  refine sp_N_states W ?_
  dsimp only
  rw [X.1]
  refine ⟨fun z => ?_, fun z => ?_⟩
  · simp only [n0 W, true_and]
    refine sp_N_inputs W ?_
    simp only [n0 W, true_and]
    refine sp_N_states W ?_
    simp only [n0 W, true_and]
    refine sp_N_top W TT X ?_
    dsimp only
    rw [X.1, X.2.1, P.2.1]
    have e1 : (cA (AC I t 0) S : Int) * (I : Int) = ((cA (AC I t 0) S * I : Nat) : Int) := by rw [Int.natCast_mul]
    have e2 : (S : Int) - 1 + tpR o 24 = (UE S o : Int) := by omega
    rw [e1, w32_id (x := ((cA (AC I t 0) S * I : Nat) : Int)) (by omega) (by omega), w32_id (x := (S : Int) - 1) (by omega) (by omega), e2, w32_id (x := (UE S o : Int)) (by omega) (by omega)]
    have e3 : ((cA (AC I t 0) S * I : Nat) : Int) * (UE S o : Int) = (UN S I t o : Int) := by unfold UN; rw [Int.natCast_mul (cA (AC I t 0) S * I)]
    rw [e3, w32_id (by omega) (by omega)]
    exact (by first | exact q_at rfl (hQ) | exact (hQ))
  · have e : UN S I t o = 0 := by
      have : cA (AC I t 0) S = 0 := by omega
      unfold UN; rw [this, Nat.zero_mul, Nat.zero_mul]
    rw [e] at hQ
    exact (by first | exact q_at rfl (hQ) | exact (hQ))
def fxK (h h1 : HP) : Prop := EX [] [(138, 43), (138, 44), (138, 45), (138, 46)] h h1
theorem sp_N_tellsMutant {k : Nat} (W : NW n hr) (T : TV S I t o) (X : NX S I t o h) (P : NP S I t o h) (hk : k < UN S I t o) (hQ : ∀ h1, fxK h h1 → h1 138 43 = (muS S I t o k : Int) → h1 138 44 = (muI S I t o k : Int) → h1 138 45 = muX S I t o k → h1 138 46 = muY S I t o k → Q (9, 0) n hr h1) : f_N_tellsMutant [(2, 138), (0, (k : Int))] n hr h Q := by
  have TT := T
  obtain ⟨hS, hI, hm, hc, hT⟩ := T
  have ub := UN_b hm hS hI
  have ue := UE_b (t := t) (S := S) hm hS
  have cl := cA_le (AC I t 0) S
  have ud := UN_div hm hS hk
  have mb := mu_b hm hS hI hc hk
  have sp := mu_sp hm hS hk
  have kd : k / UE S o ≤ k := Nat.div_le_self _ _
  have kd2 : k / UE S o / I ≤ k / UE S o := Nat.div_le_self _ _
  have tp := tpR_9 hm 24 (Nat.le_refl _)
  have tp1 := tpR_1 o 24
  apply e_N_tellsMutant
  simp only [n0 W, true_and]
  refine sp_N_states W ?_
  simp only [n0 W, true_and]
  refine sp_N_top W TT X ?_
  dsimp only
  rw [X.1, w32_id (x := (S : Int) - 1) (by omega) (by omega), show (S : Int) - 1 + tpR o 24 = (UE S o : Int) by omega, w32_id (x := (UE S o : Int)) (by omega) (by omega)]
  simp only [n0 W, true_and]
  refine ⟨by omega, ?_⟩
  refine sp_N_inputs W ?_
  simp only [n0 W, true_and]
  have n1 : (k : Int) / (UE S o : Int) = ((k / UE S o : Nat) : Int) := (Int.natCast_ediv _ _).symm
  have n3 : (k : Int) % (UE S o : Int) = ((k % UE S o : Nat) : Int) := (Int.natCast_emod _ _).symm
  rw [X.2.1, div_i (x := (k : Int)) (by omega) (by omega) (by omega) (by omega), n1]
  unfold isMu at sp
  generalize hq : k / UE S o = qq at *
  have n2 : (qq : Int) / (I : Int) = ((qq / I : Nat) : Int) := (Int.natCast_ediv _ _).symm
  have n4 : (qq : Int) % (I : Int) = ((qq % I : Nat) : Int) := (Int.natCast_emod _ _).symm
  have im := Nat.mod_lt qq ud.1
  rw [div_i (x := (qq : Int)) (by omega) (by omega) (by omega) (by omega), n2]
  generalize hq2 : qq / I = q2 at *
  refine ⟨by omega, ?_⟩
  have key : ∀ d s l : Nat, S - s = d → s ≤ S → l + cA (AC I t 0) s = q2 → ∀ h1, fxK h h1 → h1 138 43 = (s : Int) → p_N_tellsMutant_26 (n + 0) (ai_q 0 n Q) 138 (k : Int) (UE S o : Int) (l : Int) n hr h1 := by
    intro d
    induction d with
    | zero =>
      intro s l h1 h2 h3
      have : s = S := by omega
      subst this
      omega
    | succ d ih =>
      intro s l g1 g2 g3 h1 f1 q1
      have X1 := NX_fr X f1 (by decide) (by decide)
      have P1 := NP_fr P f1 (by decide) (by decide)
      have sS : s < S := by omega
      have ac := P1.1 s sS
      refine b_N_tellsMutant_26 ?_
      rw [q1]
      simp only [n0 W, true_and]
      refine sp_N_isReached W (by omega) (fun z => ?_) (fun z => ?_)
      · rw [ac] at z
        have cs : cA (AC I t 0) (s + 1) = cA (AC I t 0) s + 1 := by rw [cA_s, if_pos z]
        refine ⟨fun y => absurd y (by decide), fun _ => ⟨fun y => ?_, fun y => ?_⟩⟩
        · -- here it is
          have l0 : l = 0 := by omega
          subst l0
          have es : muS S I t o k = s := by
            rcases Nat.lt_trichotomy (muS S I t o k) s with q | q | q
            · have := cA_lt (AC I t 0) q sp.2.2.1; have := sp.2.2.2.1; omega
            · exact q
            · have := cA_lt (AC I t 0) q z; have := sp.2.2.2.1; omega
          have ei := sp.2.2.2.2.1
          have x1 := sp.2.2.2.2.2.1
          have x2 := sp.2.2.2.2.2.2
          rw [es] at x1 x2 hQ
          have rm : i_rem (k : Int) (UE S o : Int) = ((k % UE S o : Nat) : Int) := by rw [rem_i (by omega) (by omega) (by omega) (by omega)]; exact n3
          have ri : i_rem (qq : Int) (I : Int) = (muI S I t o k : Int) := by rw [rem_i (by omega) (by omega) (by omega) (by omega), ei]; exact n4
          have i3 : muI S I t o k < 3 := by omega
          generalize muI S I t o k = i at *
          have c1 := X1.2.2.1 (3 * (s : Int) + (i : Int)) (by omega) (by omega)
          have c2 := X1.2.2.2 (3 * (s : Int) + (i : Int)) (by omega) (by omega)
          have ml := hm (3 * (s : Int) + (i : Int)) (by omega) (by omega)
          have ez : 0 + 3 * (s : Int) + (i : Int) = 3 * (s : Int) + (i : Int) := by omega
          refine ⟨by omega, n0 W, ?_⟩
          refine sp_N_inputs W ?_
          dsimp only
          rw [X1.2.1, div_i (x := (k : Int)) (by omega) (by omega) (by omega) (by omega), n1, ri]
          simp (disch := omega) only [n0 W, nr_20 W, nr_21 W, up_oth, up_same, q1, w32_id, ez, c1, c2, rm, true_and]
          repeat (refine ⟨by omega, ?_⟩)
          have f5 : ∀ {a b c}, fxK h (ai_up (ai_up (ai_up h1 138 44 a) 138 45 b) 138 46 c) := EX_upp (EX_upp (EX_upp f1 (by decide)) (by decide)) (by decide)
          have F : ∀ {h5 : HP}, fxK h h5 → h5 140 0 = (S : Int) := fun f => (NX_fr X f (by decide) (by decide)).1
          refine sp_N_states W ?_
          dsimp only
          rw [F f5, w32_id (x := (S : Int) - 1) (by omega) (by omega)]
          generalize hR : k % UE S o = R at *
          refine ⟨fun y => ?_, fun y => ?_⟩
          · -- another output
            have x2 := x2 (by omega)
            simp only [n0 W, true_and]
            refine sp_N_states W ?_
            simp (disch := omega) only [n0 W, nr_21 W, F f5, up_oth, up_same, w32_id, c2, true_and]
            repeat (refine ⟨by omega, ?_⟩)
            refine ⟨fun y2 => ?_, fun y2 => ?_⟩
            · refine sp_N_states W ?_
              simp (disch := omega) only [n0 W, F f5, w32_id, true_and, or_true, true_or]
              refine q_at rfl (hQ _ (EX_upp f5 (by decide)) ?_ ?_ ?_ ?_)
              · simp (disch := omega) only [up_oth]; exact q1
              · simp (disch := omega) only [up_oth, up_same]
              · simp (disch := omega) only [up_oth, up_same]; exact x2.1.symm
              · simp (disch := omega) only [up_same]
                rw [x2.2, if_neg (by omega)]; omega
            · refine sp_N_states W ?_
              simp (disch := omega) only [n0 W, F f5, w32_id, true_and, or_true, true_or]
              refine q_at rfl (hQ _ (EX_upp f5 (by decide)) ?_ ?_ ?_ ?_)
              · simp (disch := omega) only [up_oth]; exact q1
              · simp (disch := omega) only [up_oth, up_same]
              · simp (disch := omega) only [up_oth, up_same]; exact x2.1.symm
              · simp (disch := omega) only [up_same]
                rw [x2.2, if_pos (by omega)]; omega
          · -- another state
            have x1 := x1 (by omega)
            simp (disch := omega) only [n0 W, nr_20 W, up_oth, up_same, w32_id, c1, true_and]
            repeat (refine ⟨by omega, ?_⟩)
            refine ⟨fun y2 => ?_, fun y2 => ?_⟩
            · refine q_at rfl (hQ _ (EX_upp f5 (by decide)) ?_ ?_ ?_ ?_)
              · simp (disch := omega) only [up_oth]; exact q1
              · simp (disch := omega) only [up_oth, up_same]
              · simp (disch := omega) only [up_same]
                rw [x1.1, if_neg (by omega)]
              · simp (disch := omega) only [up_oth, up_same]; exact x1.2.symm
            · refine q_at rfl (hQ _ (EX_upp f5 (by decide)) ?_ ?_ ?_ ?_)
              · simp (disch := omega) only [up_oth]; exact q1
              · simp (disch := omega) only [up_oth, up_same]
              · simp (disch := omega) only [up_same]
                rw [x1.1, if_pos (by omega)]
              · simp (disch := omega) only [up_oth, up_same]; exact x1.2.symm
        · -- on
          simp only [n0 W, q1, true_and]
          refine sp_N_isReached W (by omega) (fun _ => ?_) (fun z2 => by rw [ac] at z2; omega)
          refine ⟨fun y => absurd y (by decide), fun _ => ?_⟩
          simp (disch := omega) only [n0 W, q1, w32_id, true_and, or_true, true_or]
          have := ih (s + 1) (l - 1) (by omega) (by omega) (by omega) (ai_up h1 138 43 ((s : Int) + 1)) (EX_upp f1 (by decide)) (by rw [up_same]; omega)
          rw [show ((l - 1 : Nat) : Int) = (l : Int) - 1 by omega] at this
          exact this
      · rw [ac] at z
        have cs : cA (AC I t 0) (s + 1) = cA (AC I t 0) s := by rw [cA_s, if_neg (by omega)]; rfl
        refine ⟨fun _ => ?_, fun y => absurd rfl y⟩
        simp only [n0 W, q1, true_and]
        refine sp_N_isReached W (by omega) (fun z2 => by rw [ac] at z2; omega) (fun _ => ?_)
        refine ⟨fun _ => ?_, fun y => absurd rfl y⟩
        simp (disch := omega) only [n0 W, q1, w32_id, true_and, or_true, true_or]
        have := ih (s + 1) l (by omega) (by omega) (by omega) (ai_up h1 138 43 ((s : Int) + 1)) (EX_upp f1 (by decide)) (by rw [up_same]; omega)
        rw [Int.sub_zero]
        exact this
  have := key S 0 q2 (by omega) (by omega) (by rw [show cA (AC I t 0) 0 = 0 from rfl]; omega) (ai_up h 138 43 0) (EX_upp EX_rf (by decide)) (by rw [up_same]; rfl)
  exact this
end
