-- deps: 18 19 20 21 23 24 25 26 27 28 29 22 30 31 32 33 34 35 38 39 40 41 42 43 44 45 46 47 48 49 50 51 62 63 64 65 66 67 68 69 70 71 72 73 74 75 76 77 78 79 80 81 82 83 84 85 86 87 88 89 91 92 93 94
/-! the class counts small faults that are equal, that a suite notices -/
section
variable {Q : RP} {n : Nat} {hr h : HP} {S I : Nat} {t o t' o' : Int → Int}
def fxE (h h1 : HP) : Prop := EX [28, 29, 30, 104, 105, 110] [(27, 10), (102, 14), (103, 2), (103, 3)] h h1
theorem fxE_M {h1 : HP} (f : fxE h h1) : fxM h h1 := EX_le f (by decide) (by decide)
theorem fxM_tr {h1 h2 : HP} (a : fxM h h1) (b : fxM h1 h2) : fxM h h2 := EX_tr a b
theorem sp_U_equalOnes (V : CW n hr) (T : TV S I t o) (C : CMx S I t o h) (hc0 : SC h) (tl : CTl h) (E : CEq S I t o h) (hQ : ∀ h1, fxE h h1 → SC h1 → EQk S I t o h1 → CTl h1 → Q (0, (cntP (muEq S I t o) (UN S I t o) : Int)) n hr h1) : f_U_equalOnes [(2, 102)] n hr h Q := by
  have TT := T
  obtain ⟨hS, hI, hm, hc, hT⟩ := T
  have M := mr_13 V
  have M1 := mr_103 V
  have ub := UN_b hm hS hI
  apply e_U_equalOnes
  simp only [ok_102 V.1, true_and]
  refine ⟨fun z => ?_, fun z => ?_⟩
  · rcases E with q | q
    · exact absurd q z
    · rw [q.1]; exact (by first | exact q_at rfl (hQ h EX_rf hc0 q tl) | exact (hQ h EX_rf hc0 q tl))
  · simp (disch := omega) only [ok_102 V.1, cr_102_0 V, cr_102_3 V, true_and]
    have f0 : fxE h (ai_up h 102 14 0) := EX_upp EX_rf (by decide)
    have C0 := CMx_fr C (fxE_M f0)
    have s0 : SC (ai_up h 102 14 0) := SC_fr hc0 (by rw [up_oth (by omega)]) (by funext q; rw [up_oth (by omega)])
    refine sp_M_copy M1 M (by omega) (t := t) (o := o) ⟨C0.1.2.2.1, C0.1.2.2.2⟩ fun h1 e1 r1 p1 i1 => ?_
    have f1 : fxE h h1 := EX_tr f0 (EX_le e1 (by decide) (by decide))
    have loop := lupN (N := UN S I t o) (P := fun k => ∀ h1, fxE h h1 → SC h1 → TRm 103 t o h1 → h1 103 2 = (S : Int) → h1 103 3 = (I : Int) → h1 102 14 = (cntP (muEq S I t o) k : Int) → (∀ j : Nat, j < k → h1 110 (j : Int) = if muEq S I t o j then 1 else 0) → p_U_equalOnes_27 (n + 0) (ai_q 0 n Q) 102 (k : Int) n hr h1) ?_ ?_
    · refine loop h1 f1 (SC_fr s0 (e1 27 10 (by decide) (by decide)) (EX_fn e1 (by decide) (by decide))) r1 (by rw [p1]; exact C0.1.1) (by rw [i1]; exact C0.1.2.1) ?_ fun j hj => by omega
      rw [e1 102 14 (by decide) (by decide), up_same]; rfl
    · intro h2 f2 s2 r2 p2 i2 c2 q2
      have C2 := CMx_fr C (fxE_M f2)
      refine b_U_equalOnes_27 ?_
      simp only [ok_102 V.1, C2.2.1, true_and]
      refine ⟨fun _ => ?_, fun y => by omega⟩
      rw [c2]
      exact (by first | exact q_at rfl (hQ h2 f2 s2 ⟨c2, q2⟩ (CTl_of hm r2)) | exact (hQ h2 f2 s2 ⟨c2, q2⟩ (CTl_of hm r2)))
    · intro k hk ih h2 f2 s2 r2 p2 i2 c2 q2
      have C2 := CMx_fr C (fxE_M f2)
      have cl := cntP_le (muEq S I t o) k
      have mb := mu_b hm hS hI hc hk
      refine b_U_equalOnes_27 ?_
      simp only [ok_102 V.1, cr_102_0 V, cr_102_2 V, cr_102_3 V, ok_27 V.1, C2.2.1, true_and]
      refine ⟨fun y => by omega, fun _ => ?_⟩
      refine sp_U_dress V TT M1 (by omega) C2.2 hk r2 fun h3 e3 r3 => ?_
      have f3 : fxE h h3 := EX_tr f2 (EX_le e3 (by decide) (by decide))
      have C3 := CMx_fr C (fxE_M f3)
      simp only [ok_102 V.1, cr_102_0 V, cr_102_2 V, cr_102_3 V, ok_27 V.1, true_and]
      refine sp_S_unlike V hI hm (mok_Mu hm hS hI hc hk) M M1 (by omega) (by omega) C3.1.2.1 C3.1.2.2.1 C3.1.2.2.2 r3.1 r3.2 (SC_fr s2 (e3 27 10 (by decide) (by decide)) (EX_fn e3 (by decide) (by decide))) fun h4 e4 s4 => ?_
      have f4 : fxE h h4 := EX_tr f3 (EX_le e4 (by decide) (by decide))
      have p4 : h3 103 2 = (S : Int) := by rw [e3 103 2 (by decide) (by decide)]; exact p2
      rw [if_pos ⟨by rw [C3.1.1]; omega, by omega⟩]
      have c4 : h4 102 14 = (cntP (muEq S I t o) k : Int) := by rw [e4 102 14 (by decide) (by decide), e3 102 14 (by decide) (by decide)]; exact c2
      have q4 : ∀ j : Nat, j < k → h4 110 (j : Int) = if muEq S I t o j then 1 else 0 := fun j hj => by
        rw [EX_fn e4 (c := 110) (by decide) (by decide), EX_fn e3 (c := 110) (by decide) (by decide)]; exact q2 j hj
      have r4 : TRm 103 (tMu S I t o k) (oMu S I t o k) h4 := TRm_fr r3 (EX_fn e4 (by decide) (by decide)) (EX_fn e4 (by decide) (by decide))
      -- what follows, with the mark v
      have go : ∀ v : Nat, (v : Int) = (if muEq S I t o k then 1 else 0) → f_U_undress [(2, 102), (2, 103), (0, (k : Int))] n hr (ai_up (ai_up h4 110 (k : Int) (v : Int)) 102 14 (w32 ((cntP (muEq S I t o) k : Int) + (v : Int)))) fun r5 n5 hr5 h5 => p_U_equalOnes_27 (n + 0) (ai_q 0 n Q) 102 (w32 ((k : Int) + 1)) n5 hr5 h5 := by
        intro v hv
        have v1 : v ≤ 1 := by split at hv <;> omega
        have f5 : fxE h (ai_up (ai_up h4 110 (k : Int) (v : Int)) 102 14 (w32 ((cntP (muEq S I t o) k : Int) + (v : Int)))) := EX_upp (EX_upc f4 (by decide)) (by decide)
        have C5 := CMx_fr C (fxE_M f5)
        refine sp_U_undress V TT C5.1 M1 (by omega) C5.2 hk (TRm_fr r4 (by funext q; rw [up_oth (by omega), up_oth (by omega)]) (by funext q; rw [up_oth (by omega), up_oth (by omega)])) fun h6 e6 r6 => ?_
        rw [w32_id (by omega) (by omega)] at e6
        (try dsimp only)
        rw [w32_id (x := (k : Int) + 1) (by omega) (by omega)]
        refine ih h6 (EX_tr f5 (by rw [w32_id (by omega) (by omega)]; exact EX_le e6 (by decide) (by decide))) ?_ r6 ?_ ?_ ?_ ?_
        · refine SC_fr s4 ?_ ?_
          · rw [e6 27 10 (by decide) (by decide), up_oth (by omega), up_oth (by omega)]
          · rw [EX_fn e6 (c := 30) (by decide) (by decide)]; funext q; rw [up_oth (by omega), up_oth (by omega)]
        · rw [e6 103 2 (by decide) (by decide), up_oth (by omega), up_oth (by omega), e4 103 2 (by decide) (by decide)]; exact p4
        · rw [e6 103 3 (by decide) (by decide), up_oth (by omega), up_oth (by omega), e4 103 3 (by decide) (by decide), e3 103 3 (by decide) (by decide)]; exact i2
        · rw [e6 102 14 (by decide) (by decide), up_same]
          by_cases y : muEq S I t o k
          · rw [cntP_y y]; rw [if_pos y] at hv; omega
          · rw [cntP_n y]; rw [if_neg y] at hv; omega
        · intro j hj
          rw [EX_fn e6 (c := 110) (by decide) (by decide), up_oth (by omega)]
          by_cases y : j = k
          · subst y; rw [up_same]; exact hv
          · rw [up_oth (by omega)]; exact q4 j (by omega)
      refine ⟨fun y => ?_, fun y => ?_⟩
      · have g := go 0 (by rw [if_neg (show ¬ muEq S I t o k from y)]; rfl)
        simp (disch := omega) only [ok_102 V.1, cr_102_6 V, cr_102_3 V, ok_103 V.1, up_same, up_oth, c4, true_and, true_or, or_true]
        repeat (refine ⟨by omega, ?_⟩)
        exact ⟨fun _ => g, fun q => absurd rfl q⟩
      · have g := go 1 (by rw [if_pos (show muEq S I t o k from y)]; rfl)
        simp (disch := omega) only [ok_102 V.1, cr_102_6 V, cr_102_3 V, ok_103 V.1, up_same, up_oth, c4, true_and, true_or, or_true]
        repeat (refine ⟨by omega, ?_⟩)
        exact fun _ => g
/-- noticed by suite su; missed -/
def muFl (S I : Nat) (t o : Int → Int) (e su k : Nat) : Prop := ¬ muEq S I t o k ∧ FA S I t o e su (tMu S I t o k) (oMu S I t o k)
def muMi (S I : Nat) (t o : Int → Int) (e su k : Nat) : Prop := ¬ muEq S I t o k ∧ ¬ FA S I t o e su (tMu S I t o k) (oMu S I t o k)
noncomputable def vNo (S I : Nat) (t o : Int → Int) (e su : Nat) : Nat := cntP (muFl S I t o e su) (UN S I t o)
noncomputable def vFm (S I : Nat) (t o : Int → Int) (e su : Nat) : Int := fw fun k => k < UN S I t o ∧ muMi S I t o e su k
def CNo (S I : Nat) (t o : Int → Int) (e : Nat) (h : HP) : Prop := ∀ su : Nat, su < 4 → h 111 (su : Int) = -9 ∨ (h 111 (su : Int) = (vNo S I t o e su : Int) ∧ h 112 (su : Int) = vFm S I t o e su)
theorem sp_U_learnNoticed {e su : Nat} (V : CW n hr) (T : TV S I t o) (C : CMx S I t o h) (hc0 : SC h) (tl : CTl h) (E : CEq S I t o h) (N : CNo S I t o e h) (he : e < 3) (hsu : su < 4) (G : GTs S I t o e su h) (hQ : ∀ h1, fxM h h1 → SC h1 → CTl h1 → CEq S I t o h1 → CNo S I t o e h1 → h1 111 (su : Int) = (vNo S I t o e su : Int) → h1 112 (su : Int) = vFm S I t o e su → Q (9, 0) n hr h1) : f_U_learnNoticed [(2, 102), (0, (su : Int)), (2, gx e su)] n hr h Q := by
  have TT := T
  obtain ⟨hS, hI, hm, hc, hT⟩ := T
  have M := mr_13 V
  have M1 := mr_103 V
  have ub := UN_b hm hS hI
  have gxr := gx_row (o := o) V hS hI hm hc he hsu
  obtain ⟨nl, tl0, R, _, _⟩ := gxr
  apply e_U_learnNoticed
  simp (disch := omega) only [ok_102 V.1, cr_102_7 V, true_and]
  repeat (refine ⟨by omega, ?_⟩)
  refine ⟨fun z => ?_, fun z => ?_⟩
  · refine sp_U_equalOnes V TT C hc0 tl E fun h1 g1 s1 q1 _ => ?_
    have f1 := fxE_M g1
    simp (disch := omega) only [ok_102 V.1, cr_102_7 V, cr_102_8 V, cr_102_3 V, cr_102_0 V, true_and]
    repeat (refine ⟨by omega, ?_⟩)
    generalize hh : ai_up (ai_up h1 111 (su : Int) 0) 112 (su : Int) (-2) = h2
    have e2 : EX [111, 112] [] h1 h2 := by rw [← hh]; exact EX_upc (EX_upc EX_rf (by decide)) (by decide)
    have f2 : fxM h h2 := EX_tr f1 (EX_le e2 (by decide) (by decide))
    have C2 := CMx_fr C f2
    have s2 : SC h2 := SC_fr s1 (e2 27 10 (by decide) (by decide)) (EX_fn e2 (by decide) (by decide))
    refine sp_M_copy M1 M (by omega) (t := t) (o := o) ⟨C2.1.2.2.1, C2.1.2.2.2⟩ fun h3 e3 r3 p3 i3 => ?_
    have f3 : fxM h h3 := EX_tr f2 (EX_le e3 (by decide) (by decide))
    -- only rows and scratch change from here
    have fin : ∀ h4, EX [45, 104, 105, 111, 112] [(103, 2), (103, 3)] h1 h4 → CTl h4 → (∀ j : Int, j ≠ (su : Int) → h4 111 j = h1 111 j ∧ h4 112 j = h1 112 j) → h4 111 (su : Int) = (vNo S I t o e su : Int) → h4 112 (su : Int) = vFm S I t o e su → Q (9, 0) n hr h4 := by
      intro h4 e4 l4 o4 a4 b4
      refine hQ h4 (EX_tr f1 (EX_le e4 (by decide) (by decide))) (SC_fr s1 (e4 27 10 (by decide) (by decide)) (EX_fn e4 (by decide) (by decide))) l4 (Or.inr ?_) (fun s hs => ?_) a4 b4
      · unfold EQk; rw [e4 102 14 (by decide) (by decide), EX_fn e4 (c := 110) (by decide) (by decide)]; exact q1
      · by_cases y : s = su
        · subst y; exact Or.inr ⟨a4, b4⟩
        · have oo := o4 (s : Int) (by omega)
          rw [oo.1, oo.2]
          -- the rows for other suites are as they were
          rw [EX_fn g1 (c := 111) (by decide) (by decide), EX_fn g1 (c := 112) (by decide) (by decide)]
          exact N s hs
    have e13 : EX [45, 104, 105, 111, 112] [(103, 2), (103, 3)] h1 h3 := EX_tr (EX_le e2 (by decide) (by decide)) (EX_le e3 (by decide) (by decide))
    have z1 : h3 111 (su : Int) = 0 ∧ h3 112 (su : Int) = -2 := by
      rw [EX_fn e3 (c := 111) (by decide) (by decide), EX_fn e3 (c := 112) (by decide) (by decide), ← hh]
      constructor <;> simp (disch := omega) only [up_same, up_oth]
    have o1 : ∀ j : Int, j ≠ (su : Int) → h3 111 j = h1 111 j ∧ h3 112 j = h1 112 j := fun j hj => by
      rw [EX_fn e3 (c := 111) (by decide) (by decide), EX_fn e3 (c := 112) (by decide) (by decide), ← hh]
      constructor <;> simp (disch := omega) only [up_oth]
    have loop := lupN (N := UN S I t o) (P := fun k => ∀ h3 v, EX [45, 104, 105, 111, 112] [(103, 2), (103, 3)] h1 h3 → (∀ j : Int, j ≠ (su : Int) → h3 111 j = h1 111 j ∧ h3 112 j = h1 112 j) → TRm 103 t o h3 → h3 111 (su : Int) = (cntP (muFl S I t o e su) k : Int) → h3 112 (su : Int) = v → FFp (muMi S I t o e su) k v → p_U_learnNoticed_45 (n + 0) (ai_q 0 n Q) 102 (su : Int) (gx e su) (k : Int) n hr h3) ?_ ?_
    · exact loop h3 (-2) e13 o1 r3 (by rw [z1.1]; rfl) z1.2 (FFp_0 _)
    · intro h4 v e4 o4 r4 a4 b4 ff
      have C4 := CMx_fr C (fxM_tr f1 (EX_le e4 (by decide) (by decide)))
      refine b_U_learnNoticed_45 ?_
      simp only [ok_102 V.1, C4.2.1, true_and]
      refine ⟨fun _ => q_at rfl (fin h4 e4 (CTl_of hm r4) o4 a4 ?_), fun y => by omega⟩
      rw [b4]; exact FFp_end ff
    · intro k hk ih h4 v e4 o4 r4 a4 b4 ff
      have C4 := CMx_fr C (fxM_tr f1 (EX_le e4 (by decide) (by decide)))
      have cl := cntP_le (muFl S I t o e su) k
      refine b_U_learnNoticed_45 ?_
      simp only [ok_102 V.1, cr_102_3 V, C4.2.1, true_and]
      refine ⟨fun y => by omega, fun _ => ?_⟩
      refine sp_U_dress V TT M1 (by omega) C4.2 hk r4 fun h5 e5 r5 => ?_
      have e15 : EX [45, 104, 105, 111, 112] [(103, 2), (103, 3)] h1 h5 := EX_tr e4 (EX_le e5 (by decide) (by decide))
      have C5 := CMx_fr C (fxM_tr f1 (EX_le e15 (by decide) (by decide)))
      have k11 : h5 111 = h4 111 := EX_fn e5 (by decide) (by decide)
      have k12 : h5 112 = h4 112 := EX_fn e5 (by decide) (by decide)
      have k10 : h5 110 (k : Int) = if muEq S I t o k then 1 else 0 := by
        rw [EX_fn e15 (c := 110) (by decide) (by decide)]; exact q1.2 k hk
      simp (disch := omega) only [ok_102 V.1, cr_102_6 V, cr_102_3 V, ok_103 V.1, true_and]
      repeat (refine ⟨by omega, ?_⟩)
      -- on with the next one
      have on : ∀ h6 v', EX [45, 104, 105, 111, 112] [(103, 2), (103, 3)] h1 h6 → (∀ j : Int, j ≠ (su : Int) → h6 111 j = h1 111 j ∧ h6 112 j = h1 112 j) → TRm 103 (tMu S I t o k) (oMu S I t o k) h6 → h6 111 (su : Int) = (cntP (muFl S I t o e su) (k + 1) : Int) → h6 112 (su : Int) = v' → FFp (muMi S I t o e su) (k + 1) v' → f_U_undress [(2, 102), (2, 103), (0, (k : Int))] n hr h6 fun r7 n7 hr7 h7 => p_U_learnNoticed_45 (n + 0) (ai_q 0 n Q) 102 (su : Int) (gx e su) (w32 ((k : Int) + 1)) n7 hr7 h7 := by
        intro h6 v' e6 o6 r6 a6 b6 ff6
        have C6 := CMx_fr C (fxM_tr f1 (EX_le e6 (by decide) (by decide)))
        refine sp_U_undress V TT C6.1 M1 (by omega) C6.2 hk r6 fun h7 e7 r7 => ?_
        (try dsimp only)
        rw [w32_id (x := (k : Int) + 1) (by omega) (by omega)]
        have x11 : h7 111 = h6 111 := EX_fn e7 (by decide) (by decide)
        have x12 : h7 112 = h6 112 := EX_fn e7 (by decide) (by decide)
        exact ih h7 v' (EX_tr e6 (EX_le e7 (by decide) (by decide))) (fun j hj => by rw [x11, x12]; exact o6 j hj) r7 (by rw [x11]; exact a6) (by rw [x12]; exact b6) ff6
      rw [k10]
      refine ⟨fun y => ?_, fun y => ?_⟩
      · have eq : muEq S I t o k := Classical.byContradiction fun q => by rw [if_neg q] at y; exact y rfl
        exact on h5 v e15 (fun j hj => by rw [k11, k12]; exact o4 j hj) r5 (by rw [k11, cntP_n fun q => q.1 eq]; exact a4) (by rw [k12]; exact b4) (FFp_n ff fun q => q.1 eq)
      · have ne : ¬ muEq S I t o k := fun q => by rw [if_pos q] at y; omega
        have G5 : GTs S I t o e su h5 := GT_fr he hsu G fun c c1 c2 => by
          rw [EX_sy e15 (c := c) (by simp; omega) (fun j => by simp; omega), EX_sy f1 (c := c) (by simp; omega) (fun j => by simp; omega)]
        simp only [R.1, true_and]
        refine sp_E_isFailedBy_g V hS hI hc he hsu M1 (by omega) hm (mok_Mu hm hS hI hc hk) r5.1 r5.2 G5 (fun h6 e6 fa => ?_) (fun h6 e6 fa => ?_)
        · have e16 : EX [45, 104, 105, 111, 112] [(103, 2), (103, 3)] h1 h6 := EX_tr e15 (EX_le e6 (by decide) (by decide))
          have x11 : h6 111 = h4 111 := by rw [EX_fn e6 (c := 111) (by decide) (by decide)]; exact k11
          have x12 : h6 112 = h4 112 := by rw [EX_fn e6 (c := 112) (by decide) (by decide)]; exact k12
          have r6 : TRm 103 (tMu S I t o k) (oMu S I t o k) h6 := TRm_fr r5 (EX_fn e6 (by decide) (by decide)) (EX_fn e6 (by decide) (by decide))
          refine ⟨fun q => absurd q (by decide), fun _ => ?_⟩
          simp (disch := omega) only [ok_102 V.1, cr_102_7 V, cr_102_3 V, ok_103 V.1, x11, a4, w32_id, true_and]
          repeat (refine ⟨by omega, ?_⟩)
          rw [← w32_id (x := (k : Int) + 1) (by omega) (by omega)]
          refine on (ai_up h6 111 (su : Int) ((cntP (muFl S I t o e su) k : Int) + 1)) v (EX_upc e16 (by decide)) (fun j hj => ?_) (TRm_fr r6 (by funext q; rw [up_oth (by omega)]) (by funext q; rw [up_oth (by omega)])) ?_ ?_ (FFp_n ff fun q => q.2 fa)
          · rw [up_oth (by omega), up_oth (by omega), x11, x12]; exact o4 j hj
          · rw [up_same, cntP_y ⟨ne, fa⟩]; omega
          · rw [up_oth (by omega), x12]; exact b4
        · have e16 : EX [45, 104, 105, 111, 112] [(103, 2), (103, 3)] h1 h6 := EX_tr e15 (EX_le e6 (by decide) (by decide))
          have x11 : h6 111 = h4 111 := by rw [EX_fn e6 (c := 111) (by decide) (by decide)]; exact k11
          have x12 : h6 112 = h4 112 := by rw [EX_fn e6 (c := 112) (by decide) (by decide)]; exact k12
          have r6 : TRm 103 (tMu S I t o k) (oMu S I t o k) h6 := TRm_fr r5 (EX_fn e6 (by decide) (by decide)) (EX_fn e6 (by decide) (by decide))
          have nf : ¬ muFl S I t o e su k := fun q => fa q.2
          refine ⟨fun _ => ?_, fun q => absurd rfl q⟩
          simp (disch := omega) only [ok_102 V.1, cr_102_8 V, cr_102_3 V, ok_103 V.1, x12, b4, true_and]
          repeat (refine ⟨by omega, ?_⟩)
          refine ⟨fun q => ?_, fun q => ?_⟩
          · exact on h6 v e16 (fun j hj => by rw [x11, x12]; exact o4 j hj) r6 (by rw [x11, cntP_n nf]; exact a4) (by rw [x12]; exact b4) (FFp_y1 ff q)
          · repeat (refine ⟨by omega, ?_⟩)
            refine on (ai_up h6 112 (su : Int) (k : Int)) (k : Int) (EX_upc e16 (by decide)) (fun j hj => ?_) (TRm_fr r6 (by funext q; rw [up_oth (by omega)]) (by funext q; rw [up_oth (by omega)])) ?_ ?_ (FFp_y0 ff ⟨ne, fa⟩ q)
            · rw [up_oth (by omega), up_oth (by omega), x11, x12]; exact o4 j hj
            · rw [up_oth (by omega), x11, cntP_n nf]; exact a4
            · rw [up_same]
  · rcases N su hsu with q | q
    · exact absurd q z
    · exact (by first | exact q_at rfl (hQ h EX_rf hc0 tl E N q.1 q.2) | exact (hQ h EX_rf hc0 tl E N q.1 q.2))
theorem sp_U_noticedBy {e su : Nat} (V : CW n hr) (T : TV S I t o) (C : CMx S I t o h) (hc0 : SC h) (tl : CTl h) (E : CEq S I t o h) (N : CNo S I t o e h) (he : e < 3) (hsu : su < 4) (G : GTs S I t o e su h) (hQ : ∀ h1, fxM h h1 → SC h1 → CTl h1 → CEq S I t o h1 → CNo S I t o e h1 → Q (0, (vNo S I t o e su : Int)) n hr h1) : f_U_noticedBy [(2, 102), (0, (su : Int)), (2, gx e su)] n hr h Q := by
  apply e_U_noticedBy
  simp only [ok_102 V.1, true_and]
  refine sp_U_learnNoticed V T C hc0 tl E N he hsu G fun h1 f1 s1 t1 q1 n1 a1 b1 => ?_
  simp (disch := omega) only [ok_102 V.1, cr_102_7 V, a1, true_and]
  repeat (refine ⟨by omega, ?_⟩)
  exact (by first | exact q_at rfl (hQ h1 f1 s1 t1 q1 n1) | exact (hQ h1 f1 s1 t1 q1 n1))
theorem sp_U_firstMissedBy {e su : Nat} (V : CW n hr) (T : TV S I t o) (C : CMx S I t o h) (hc0 : SC h) (tl : CTl h) (E : CEq S I t o h) (N : CNo S I t o e h) (he : e < 3) (hsu : su < 4) (G : GTs S I t o e su h) (hQ : ∀ h1, fxM h h1 → SC h1 → CTl h1 → CEq S I t o h1 → CNo S I t o e h1 → Q (0, vFm S I t o e su) n hr h1) : f_U_firstMissedBy [(2, 102), (0, (su : Int)), (2, gx e su)] n hr h Q := by
  apply e_U_firstMissedBy
  simp only [ok_102 V.1, true_and]
  refine sp_U_learnNoticed V T C hc0 tl E N he hsu G fun h1 f1 s1 t1 q1 n1 a1 b1 => ?_
  simp (disch := omega) only [ok_102 V.1, cr_102_8 V, b1, true_and]
  repeat (refine ⟨by omega, ?_⟩)
  exact (by first | exact q_at rfl (hQ h1 f1 s1 t1 q1 n1) | exact (hQ h1 f1 s1 t1 q1 n1))
/-- all of them -/
theorem mu_all (S I : Nat) (t o : Int → Int) (e su : Nat) : ∀ N, cntP (muEq S I t o) N + cntP (muFl S I t o e su) N + cntP (muMi S I t o e su) N = N
  | 0 => rfl
  | N + 1 => by
    have ih := mu_all S I t o e su N
    by_cases a : muEq S I t o N
    · rw [cntP_y a, cntP_n (P := muFl S I t o e su) fun q => q.1 a, cntP_n (P := muMi S I t o e su) fun q => q.1 a]; omega
    · by_cases b : FA S I t o e su (tMu S I t o N) (oMu S I t o N)
      · rw [cntP_n a, cntP_y (P := muFl S I t o e su) ⟨a, b⟩, cntP_n (P := muMi S I t o e su) fun q => q.2 b]; omega
      · rw [cntP_n a, cntP_n (P := muFl S I t o e su) fun q => b q.2, cntP_y (P := muMi S I t o e su) ⟨a, b⟩]; omega
end
