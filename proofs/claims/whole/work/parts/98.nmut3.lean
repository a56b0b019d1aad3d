-- deps: 18 19 20 21 23 24 25 26 27 28 29 22 30 31 32 33 34 35 36 37 38 39 40 41 42 43 44 45 46 47 48 49 50 51 62 63 64 65 66 67 68 69 70 71 72 73 74 75 76 77 78 79 80 81 82 83 84 85 86 87 88 89 90 91 92 93 94 95 96 97
/-! the reference: mutants -/
section
variable {Q : RP} {n : Nat} {hr h : HP} {S I : Nat} {t o t' o' : Int → Int}
/-- what is told of all small faults by suite su -/
def LMu (S I : Nat) (t o : Int → Int) (e : Nat) (h : HP) (su : Nat) : Prop := h 164 (4 * (su : Int)) = (cntP (muEq S I t o) (UN S I t o) : Int) ∧ h 164 (4 * (su : Int) + 1) = (vNo S I t o e su : Int) ∧ h 164 (4 * (su : Int) + 2) = (cntP (muMi S I t o e su) (UN S I t o) : Int) ∧ h 164 (4 * (su : Int) + 3) = vFm S I t o e su
def NMu (S I : Nat) (t o : Int → Int) (e : Nat) (h : HP) : Prop := ∀ su : Nat, su < 4 → h 165 (su : Int) = 0 ∨ (h 165 (su : Int) = 1 ∧ LMu S I t o e h su)
/-- so far -/
def LMp (S I : Nat) (t o : Int → Int) (e : Nat) (h0 h : HP) (su k : Nat) (v : Int) : Prop := h 164 (4 * (su : Int)) = (cntP (muEq S I t o) k : Int) ∧ h 164 (4 * (su : Int) + 1) = (cntP (muFl S I t o e su) k : Int) ∧ h 164 (4 * (su : Int) + 2) = (cntP (muMi S I t o e su) k : Int) ∧ h 164 (4 * (su : Int) + 3) = v ∧ FFp (muMi S I t o e su) k v ∧ ∀ j : Int, (j < 4 * (su : Int) ∨ 4 * (su : Int) + 4 ≤ j) → h 164 j = h0 164 j
/-- only scratch and the row of sums -/
def fxB (h h1 : HP) : Prop := EX [147, 148, 150, 151, 152, 161, 162, 163, 164] [(138, 41), (138, 42), (138, 43), (138, 44), (138, 45), (138, 46)] h h1 ∧ (∀ a : Int, a < 48 → h1 147 a = h 147 a ∧ h1 148 a = h 148 a) ∧ (NO h → NO h1)
theorem fxB_tr {h1 h2 : HP} (a : fxB h h1) (b : fxB h1 h2) : fxB h h2 := ⟨EX_tr a.1 b.1, fun x hx => ⟨(b.2.1 x hx).1.trans (a.2.1 x hx).1, (b.2.1 x hx).2.trans (a.2.1 x hx).2⟩, fun q => b.2.2 (a.2.2 q)⟩
theorem fxB_of {h1 : HP} {cs : List Int} {ps : List (Int × Int)} (e : EX cs ps h h1) (a : ∀ c ∈ cs, c ∈ [150, 151, 152, 161, 162, 163, (164 : Int)]) (b : ∀ p ∈ ps, p ∈ [(138, 41), (138, 42), (138, 43), (138, 44), (138, 45), ((138 : Int), (46 : Int))]) : fxB h h1 := by
  have k : ∀ c : Int, c = 147 ∨ c = 148 → h1 c = h c := fun c hc => EX_sy e (fun q => by have := a c q; simp only [List.mem_cons, List.not_mem_nil, or_false] at this; omega) (fun j q => by have := b _ q; simp only [List.mem_cons, List.not_mem_nil, or_false, Prod.mk.injEq] at this; omega)
  refine ⟨EX_le e (fun c hc => ?_) (fun p hp => Or.inl (b p hp)), fun x _ => by rw [k 147 (Or.inl rfl), k 148 (Or.inr rfl)]; exact ⟨rfl, rfl⟩, fun q => by unfold NO; rw [k 147 (Or.inl rfl), k 148 (Or.inr rfl)]; exact q⟩
  have := a c hc
  simp only [List.mem_cons, List.not_mem_nil, or_false] at this ⊢
  omega
theorem fxB_L {h1 : HP} (f : fxL 48 h h1) (g : NO h1) : fxB h h1 := ⟨EX_le f.1 (by decide) (by decide), fun a ha => f.2 a (by omega), fun _ => g⟩
theorem fxB_Q {h1 : HP} (f : fxB h h1) : fxQ 1 h h1 := ⟨EX_le f.1 (by decide) (by decide), f.2.1, f.2.2⟩
theorem NB_164 {e : Nat} {j v : Int} (B : NB S I t o e h) : NB S I t o e (ai_up h 164 j v) := NB_fr (cs := [164]) (ps := []) B (EX_upc EX_rf (by decide)) (by decide)
theorem RY_B {su : Nat} {h1 : HP} (H : RY S I t o h su) (f : fxB h h1) : RY S I t o h1 su := by
  refine H.imp id fun q => ?_
  unfold LWy; rw [EX_fn f.1 (c := 156) (by decide) (by decide), EX_fn f.1 (c := 157) (by decide) (by decide)]; exact q
theorem sp_N_lm_loop {su e : Nat} (W : NW n hr) (T : TV S I t o) (B : NB S I t o e h) (hsu : su < 4) (he : e < 3) (Y : RY S I t o h su) (hz : h 164 (4 * (su : Int)) = 0 ∧ h 164 (4 * (su : Int) + 1) = 0 ∧ h 164 (4 * (su : Int) + 2) = 0 ∧ h 164 (4 * (su : Int) + 3) = -2) (hQ : ∀ h1, fxB h h1 → NB S I t o e h1 → LMu S I t o e h1 su → (∀ j : Int, (j < 4 * (su : Int) ∨ 4 * (su : Int) + 4 ≤ j) → h1 164 j = h 164 j) → Q (9, 0) n hr h1) : p_N_laysMutants_76 (n + 0) (ai_q 0 n Q) 138 (su : Int) (4 * (su : Int)) (UN S I t o : Int) 0 n hr h := by
  have TT := T
  obtain ⟨hS, hI, hm, hc, hT⟩ := T
  have ub := UN_b hm hS hI
  have loop := lupN (N := UN S I t o) (P := fun k => ∀ h1 v, fxB h h1 → NB S I t o e h1 → LMp S I t o e h h1 su k v → p_N_laysMutants_76 (n + 0) (ai_q 0 n Q) 138 (su : Int) (4 * (su : Int)) (UN S I t o : Int) (k : Int) n hr h1) ?_ ?_
  · exact loop h (-2) ⟨EX_rf, fun _ _ => ⟨rfl, rfl⟩, id⟩ B ⟨hz.1, hz.2.1, hz.2.2.1, hz.2.2.2, FFp_0 _, fun _ _ => rfl⟩
  · intro h1 v f1 b1 l1
    refine b_N_laysMutants_76 ⟨fun _ => q_at rfl (hQ h1 f1 b1 ⟨l1.1, l1.2.1, l1.2.2.1, ?_⟩ l1.2.2.2.2.2), fun z => by omega⟩
    rw [l1.2.2.2.1]; exact FFp_end l1.2.2.2.2.1
  · intro k hk ih h1 v f1 b1 l1
    refine b_N_laysMutants_76 ⟨fun z => by omega, fun _ => ⟨n0 W, ?_⟩⟩
    refine sp_N_laysMutant W TT b1.1 b1.2.1 (by omega) hk fun h2 f2 m2 => ?_
    have b2 := NB_L (by omega) f2 b1
    have mk2 := mok_Mu hm hS hI hc hk
    have M0 := NX_NM b2.1
    refine ⟨n0 W, sp_N_unlike (p := 0) (q := 0) W b2.1.2.1 hI (by omega) (by omega) hm mk2 M0.1 M0.2 m2.1 m2.2 (by omega) (by omega) fun h3 e3 => ?_⟩
    have e3' := EX_ex e3
    have b3 := NB_fr b2 e3' (by decide)
    have f3 : fxB h h3 := fxB_tr f1 (fxB_tr (fxB_L f2 (NO_NM mk2 m2)) (fxB_of e3' (by decide) (by decide)))
    have m3 : NM 48 (tMu S I t o k) (oMu S I t o k) h3 := NM_fr m2 (EX_fn e3' (by decide) (by decide)) (EX_fn e3' (by decide) (by decide))
    have k64 : h3 164 = h1 164 := by rw [EX_fn e3' (c := 164) (by decide) (by decide), EX_fn f2.1 (c := 164) (by decide) (by decide)]
    have c1 := cntP_le (muEq S I t o) k
    have c2 := cntP_le (muFl S I t o e su) k
    have c3 := cntP_le (muMi S I t o e su) k
    -- the sums are moved on
    have fin : ∀ h4 h5 v', fxB h h4 → NB S I t o e h4 → EX [164] [] h4 h5 → LMp S I t o e h h5 su (k + 1) v' → p_N_laysMutants_76 (n + 0) (ai_q 0 n Q) 138 (su : Int) (4 * (su : Int)) (UN S I t o : Int) ((k : Int) + 1) n hr h5 := by
      intro h4 h5 v' f4 b4 e5 l5
      exact ih h5 v' (fxB_tr f4 (fxB_of e5 (by decide) (by decide))) (NB_fr b4 e5 (by decide)) l5
    refine ⟨fun z => ?_, fun z => ?_⟩
    · change UL I t o (tMu S I t o k) (oMu S I t o k) 0 0 ≠ -2 at z
      have ne : ¬ muEq S I t o k := z
      refine b_N_laysMutants_109 ⟨fun q => absurd rfl q, fun _ => ⟨n0 W, ?_⟩⟩
      refine sp_N_doesFail W TT b3 mk2 m3 (by omega) hsu he (RY_B Y f3) (fun h4 f4 b4 fa => ?_) (fun h4 f4 b4 fa => ?_)
      · refine ⟨fun q => absurd q (by decide), fun _ => ?_⟩
        have k4 : h4 164 = h1 164 := by rw [EX_fn f4 (c := 164) (by decide) (by decide)]; exact k64
        have f4' : fxB h h4 := fxB_tr f3 (fxB_of f4 (by decide) (by decide))
        obtain ⟨a0, a1, a2, a3, a4, a5⟩ := l1
        rw [← k4] at a0 a1 a2 a3
        have fl : muFl S I t o e su k := ⟨ne, fa⟩
        have nm : ¬ muMi S I t o e su k := fun q => q.2 fa
        simp +decide (disch := omega) only [n0 W, nr_47 W, w32_id, up_oth, up_same, a0, a1, a2, a3, Int.add_zero, true_and, and_true, ne_eq, Int.reduceEq, not_true_eq_false, not_false_eq_true, false_implies, true_implies, forall_const, implies_true]
        repeat (refine ⟨by omega, ?_⟩)
        refine fin h4 (ai_up (ai_up h4 164 (4 * (su : Int)) (cntP (muEq S I t o) k : Int)) 164 (4 * (su : Int) + 1) ((cntP (muFl S I t o e su) k : Int) + 1)) v f4' b4 (EX_upc (EX_upc EX_rf (by decide)) (by decide)) ⟨?_, ?_, ?_, ?_, FFp_n a4 nm, fun j hj => ?_⟩
        · simp (disch := omega) only [up_oth, up_same]; rw [cntP_n ne]
        · simp (disch := omega) only [up_same]; rw [cntP_y fl]; omega
        · simp (disch := omega) only [up_oth]; rw [cntP_n nm]; exact a2
        · simp (disch := omega) only [up_oth]; exact a3
        · simp (disch := omega) only [up_oth]; rw [k4]; exact a5 j hj
      · refine ⟨fun _ => ?_, fun q => absurd rfl q⟩
        have k4 : h4 164 = h1 164 := by rw [EX_fn f4 (c := 164) (by decide) (by decide)]; exact k64
        have f4' : fxB h h4 := fxB_tr f3 (fxB_of f4 (by decide) (by decide))
        obtain ⟨a0, a1, a2, a3, a4, a5⟩ := l1
        rw [← k4] at a0 a1 a2 a3
        have nf : ¬ muFl S I t o e su k := fun q => by
          obtain ⟨w, w1, w2⟩ := q.2
          exact w2 (fa w w1)
        have ym : muMi S I t o e su k := ⟨ne, fun q => by
          obtain ⟨w, w1, w2⟩ := q
          exact w2 (fa w w1)⟩
        refine b_N_laysMutants_130 ?_
        simp +decide (disch := omega) only [n0 W, nr_47 W, w32_id, up_oth, up_same, a0, a1, a2, a3, Int.add_zero, true_and, and_true, ne_eq, Int.reduceEq, not_true_eq_false, not_false_eq_true, false_implies, true_implies, forall_const, implies_true]
        repeat (refine ⟨by omega, ?_⟩)
        generalize hh : ai_up (ai_up (ai_up h4 164 (4 * (su : Int)) (cntP (muEq S I t o) k : Int)) 164 (4 * (su : Int) + 1) (cntP (muFl S I t o e su) k : Int)) 164 (4 * (su : Int) + 2) ((cntP (muMi S I t o e su) k : Int) + 1) = h5
        have e5 : EX [164] [] h4 h5 := by rw [← hh]; exact EX_upc (EX_upc (EX_upc EX_rf (by decide)) (by decide)) (by decide)
        have z0 : h5 164 (4 * (su : Int)) = (cntP (muEq S I t o) (k + 1) : Int) := by rw [← hh, cntP_n ne]; simp (disch := omega) only [up_oth, up_same]
        have z1 : h5 164 (4 * (su : Int) + 1) = (cntP (muFl S I t o e su) (k + 1) : Int) := by rw [← hh, cntP_n nf]; simp (disch := omega) only [up_oth, up_same]
        have z2 : h5 164 (4 * (su : Int) + 2) = (cntP (muMi S I t o e su) (k + 1) : Int) := by rw [← hh, cntP_y ym]; simp (disch := omega) only [up_oth, up_same]; omega
        have z3 : h5 164 (4 * (su : Int) + 3) = v := by rw [← hh]; simp (disch := omega) only [up_oth]; exact a3
        have z5 : ∀ j : Int, (j < 4 * (su : Int) ∨ 4 * (su : Int) + 4 ≤ j) → h5 164 j = h 164 j := fun j hj => by rw [← hh]; simp (disch := omega) only [up_oth]; rw [k4]; exact a5 j hj
        refine ⟨fun q => ?_, fun q => ?_⟩
        · exact fin h4 h5 v f4' b4 e5 ⟨z0, z1, z2, z3, FFp_y1 a4 q, z5⟩
        · repeat (refine ⟨by omega, ?_⟩)
          refine fin h4 (ai_up h5 164 (4 * (su : Int) + 3) (k : Int)) (k : Int) f4' b4 (EX_upc e5 (by decide)) ⟨?_, ?_, ?_, ?_, FFp_y0 a4 ym q, fun j hj => ?_⟩
          · simp (disch := omega) only [up_oth]; exact z0
          · simp (disch := omega) only [up_oth]; exact z1
          · simp (disch := omega) only [up_oth]; exact z2
          · simp (disch := omega) only [up_same]
          · simp (disch := omega) only [up_oth]; exact z5 j hj
    · change UL I t o (tMu S I t o k) (oMu S I t o k) 0 0 = -2 at z
      have eq : muEq S I t o k := z
      obtain ⟨a0, a1, a2, a3, a4, a5⟩ := l1
      rw [← k64] at a0 a1 a2 a3
      refine b_N_laysMutants_109 ⟨fun _ => ?_, fun q => by omega⟩
      refine b_N_laysMutants_130 ?_
      simp +decide (disch := omega) only [n0 W, nr_47 W, w32_id, up_oth, up_same, a0, a1, a2, a3, Int.add_zero, true_and, and_true, ne_eq, Int.reduceEq, not_true_eq_false, not_false_eq_true, false_implies, true_implies, forall_const, implies_true]
      repeat (refine ⟨by omega, ?_⟩)
      refine fin h3 (ai_up (ai_up h3 164 (4 * (su : Int)) ((cntP (muEq S I t o) k : Int) + 1)) 164 (4 * (su : Int) + 1) (cntP (muFl S I t o e su) k : Int)) v f3 b3 (EX_upc (EX_upc EX_rf (by decide)) (by decide)) ⟨?_, ?_, ?_, ?_, FFp_n a4 fun q => q.1 eq, fun j hj => ?_⟩
      · simp (disch := omega) only [up_oth, up_same]; rw [cntP_y eq]; omega
      · simp (disch := omega) only [up_same]; rw [cntP_n fun q => q.1 eq]
      · simp (disch := omega) only [up_oth]; rw [cntP_n fun q => q.1 eq]; exact a2
      · simp (disch := omega) only [up_oth]; exact a3
      · simp (disch := omega) only [up_oth]; rw [k64]; exact a5 j hj
theorem sp_N_laysMutants {su e : Nat} (W : NW n hr) (T : TV S I t o) (B : NB S I t o e h) (N : NMu S I t o e h) (hsu : su < 4) (he : e < 3) (hQ : ∀ h1, fxQ 1 h h1 → NB S I t o e h1 → NMu S I t o e h1 → LMu S I t o e h1 su → Q (9, 0) n hr h1) : f_N_laysMutants [(2, 138), (0, (su : Int))] n hr h Q := by
  have TT := T
  obtain ⟨hS, hI, hm, hc, hT⟩ := T
  apply e_N_laysMutants
  simp (disch := omega) only [n0 W, nr_48 W, true_and, true_or, or_true]
  repeat (refine ⟨by omega, ?_⟩)
  refine ⟨fun z => ?_, fun z => ?_⟩
  · repeat (refine ⟨by omega, ?_⟩)
    have e0 : EX [165] [] h (ai_up h 165 (su : Int) 1) := EX_upc EX_rf (by decide)
    have b0 : NB S I t o e (ai_up h 165 (su : Int) 1) := NB_fr B e0 (by decide)
    -- once the way is ready
    have go : ∀ h1, EX [155, 156, 157, 158, 159, 160, 161, 162, 163, 165] [(138, 0), (138, 31), (138, 37), (138, 41), (138, 42)] h h1 → NB S I t o e h1 → RY S I t o h1 su → h1 165 = (ai_up h 165 (su : Int) 1) 165 → f_N_mutantMany [(2, 138)] n hr (ai_up (ai_up (ai_up (ai_up h1 164 (4 * (su : Int)) 0) 164 (4 * (su : Int) + 1) 0) 164 (4 * (su : Int) + 2) 0) 164 (4 * (su : Int) + 3) (-2)) fun r1 n1 hr1 h1 => p_N_laysMutants_76 (n + 0) (ai_q 0 n Q) 138 (su : Int) (4 * (su : Int)) r1.2 0 n1 hr1 h1 := by
      intro h1 e1 b1 y1 k1
      generalize hh : ai_up (ai_up (ai_up (ai_up h1 164 (4 * (su : Int)) 0) 164 (4 * (su : Int) + 1) 0) 164 (4 * (su : Int) + 2) 0) 164 (4 * (su : Int) + 3) (-2) = h2
      have e2 : EX [164] [] h1 h2 := by rw [← hh]; exact EX_upc (EX_upc (EX_upc (EX_upc EX_rf (by decide)) (by decide)) (by decide)) (by decide)
      have b2 := NB_fr b1 e2 (by decide)
      refine sp_N_mutantMany W TT b2.1 b2.2.1 ?_
      refine sp_N_lm_loop W TT b2 hsu he (RY_B y1 (fxB_of e2 (by decide) (by decide))) ⟨?_, ?_, ?_, ?_⟩ fun h3 f3 b3 l3 o3 => ?_
      · rw [← hh]; simp (disch := omega) only [up_oth, up_same]
      · rw [← hh]; simp (disch := omega) only [up_oth, up_same]
      · rw [← hh]; simp (disch := omega) only [up_oth, up_same]
      · rw [← hh]; simp (disch := omega) only [up_same]
      · have k165 : h3 165 = (ai_up h 165 (su : Int) 1) 165 := by rw [EX_fn f3.1 (c := 165) (by decide) (by decide), EX_fn e2 (c := 165) (by decide) (by decide)]; exact k1
        refine hQ h3 (fxQ_tr (fxQ_of e1 (by decide) (by decide)) (fxQ_tr (fxQ_of e2 (by decide) (by decide)) (fxB_Q f3))) b3 (fun s hs => ?_) l3
        by_cases y : s = su
        · subst y; exact Or.inr ⟨by rw [k165, up_same], l3⟩
        · rw [k165, up_oth (by omega)]
          have r : ∀ j : Int, (j < 4 * (su : Int) ∨ 4 * (su : Int) + 4 ≤ j) → h3 164 j = h 164 j := fun j hj => by
            rw [o3 j hj, ← hh]; simp (disch := omega) only [up_oth]; rw [EX_fn e1 (c := 164) (by decide) (by decide)]
          rcases N s hs with q | ⟨q1, q2⟩
          · exact Or.inl q
          · refine Or.inr ⟨q1, ?_⟩
            unfold LMu
            rw [r _ (by omega), r _ (by omega), r _ (by omega), r _ (by omega)]
            exact q2
    refine ⟨fun z2 => ?_, fun z2 => ?_⟩
    · simp (disch := omega) only [n0 W, nr_47 W, w32_id, true_and]
      repeat (refine ⟨by omega, ?_⟩)
      exact go _ (EX_le e0 (by decide) (by decide)) b0 (Or.inl (by omega)) rfl
    · refine N_ready W TT b0 hsu (by omega) fun h2 f2 b2 y2 => ?_
      simp (disch := omega) only [n0 W, nr_47 W, w32_id, true_and]
      repeat (refine ⟨by omega, ?_⟩)
      exact go h2 (EX_tr (EX_le e0 (by decide) (by decide)) (EX_le f2 (by decide) (by decide))) b2 y2 (EX_fn f2 (by decide) (by decide))
  · rcases N su hsu with q | q
    · exact absurd q z
    · exact (by first | exact q_at rfl (hQ h (fxQ_of (cs := []) (ps := []) EX_rf (by decide) (by decide)) B N q.2) | exact (hQ h (fxQ_of (cs := []) (ps := []) EX_rf (by decide) (by decide)) B N q.2))
/-- what a call answers of all small faults -/
noncomputable def vMs (S I : Nat) (t o : Int → Int) (e su : Nat) (what : Int) : Int := if what = 0 then (UN S I t o : Int) else if what = 1 then (cntP (muEq S I t o) (UN S I t o) : Int) else if what = 2 then (vNo S I t o e su : Int) else if what = 3 then (cntP (muMi S I t o e su) (UN S I t o) : Int) else vFm S I t o e su
theorem sp_N_mutants {su what : Int} {e : Nat} (W : NW n hr) (T : TV S I t o) (B : NB S I t o e h) (N : NMu S I t o e h) (he : e < 3) (h0 : ¬ ((0 ≤ su ∧ su ≤ 3) ∧ 0 ≤ what ∧ what ≤ 4) → Q (0, -1) n hr (ai_up h 138 0 0)) (h1 : (0 ≤ su ∧ su ≤ 3) → (0 ≤ what ∧ what ≤ 4) → ∀ h1, fxQ 1 h h1 → NB S I t o e h1 → NMu S I t o e h1 → Q (0, vMs S I t o e su.toNat what) n hr h1) : f_N_mutants [(2, 138), (0, su), (0, what)] n hr h Q := by
  have B1 : NB S I t o e (ai_up h 138 0 0) := NB_1 B
  have F1 : fxQ 1 h (ai_up h 138 0 0) := fxQ_of EX_1 (by decide) (by decide)
  have N1 : NMu S I t o e (ai_up h 138 0 0) := by
    unfold NMu LMu
    rw [EX_fn EX_1 (c := 164) (by decide) (by decide), EX_fn EX_1 (c := 165) (by decide) (by decide)]
    exact N
  apply e_N_mutants
  refine ⟨n0 W, fun z => (by first | exact q_at rfl (h0 (by omega)) | exact (h0 (by omega))), fun z => ⟨fun z2 => (by first | exact q_at rfl (h0 (by omega)) | exact (h0 (by omega))), fun z2 => ⟨fun z3 => (by first | exact q_at rfl (h0 (by omega)) | exact (h0 (by omega))), fun z3 => ⟨fun z4 => ?_, fun z4 => (by first | exact q_at rfl (h0 (by omega)) | exact (h0 (by omega)))⟩⟩⟩⟩
  obtain ⟨s, rfl⟩ := Int.eq_ofNat_of_zero_le z
  obtain ⟨wh, rfl⟩ := Int.eq_ofNat_of_zero_le z3
  have H := h1 ⟨z, z2⟩ ⟨z3, z4⟩
  rw [Int.toNat_natCast] at H
  unfold vMs at H
  refine ⟨fun q => ⟨n0 W, ?_⟩, fun q => ⟨n0 W, ?_⟩⟩
  · refine sp_N_laysMutants W T B1 N1 (by omega) he fun h2 f2 b2 n2 l2 => ?_
    have H2 := H h2 (fxQ_tr F1 f2) b2 n2
    rw [if_neg q] at H2
    rcases (by omega : wh = 1 ∨ wh = 2 ∨ wh = 3 ∨ wh = 4) with rfl | rfl | rfl | rfl
    · rw [if_pos (by omega), ← l2.1] at H2
      simp (disch := omega) only [n0 W, nr_47 W, w32_id, true_and]
      repeat (refine ⟨by omega, ?_⟩)
      rw [show 4 * (s : Int) + ((1 : Nat) : Int) - 1 = 4 * (s : Int) by omega]
      exact (by first | exact q_at rfl (H2) | exact (H2))
    · rw [if_neg (by omega), if_pos (by omega), ← l2.2.1] at H2
      simp (disch := omega) only [n0 W, nr_47 W, w32_id, true_and]
      repeat (refine ⟨by omega, ?_⟩)
      rw [show 4 * (s : Int) + ((2 : Nat) : Int) - 1 = 4 * (s : Int) + 1 by omega]
      exact (by first | exact q_at rfl (H2) | exact (H2))
    · rw [if_neg (by omega), if_neg (by omega), if_pos (by omega), ← l2.2.2.1] at H2
      simp (disch := omega) only [n0 W, nr_47 W, w32_id, true_and]
      repeat (refine ⟨by omega, ?_⟩)
      rw [show 4 * (s : Int) + ((3 : Nat) : Int) - 1 = 4 * (s : Int) + 2 by omega]
      exact (by first | exact q_at rfl (H2) | exact (H2))
    · rw [if_neg (by omega), if_neg (by omega), if_neg (by omega), ← l2.2.2.2] at H2
      simp (disch := omega) only [n0 W, nr_47 W, w32_id, true_and]
      repeat (refine ⟨by omega, ?_⟩)
      rw [show 4 * (s : Int) + ((4 : Nat) : Int) - 1 = 4 * (s : Int) + 3 by omega]
      exact (by first | exact q_at rfl (H2) | exact (H2))
  · have H2 := H _ F1 B1 N1
    rw [if_pos q] at H2
    exact sp_N_mutantMany W T B1.1 B1.2.1 (by first | exact q_at rfl (H2) | exact (H2))
end
