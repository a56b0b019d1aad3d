-- deps: 18 19 20 21 23 24 25 26 27 28 29 22 30 31 32 33 34 35 36 38 40 41 45 46 51 91 92 93 94
/-! the log, who is suspected; the class -/
/-- a row of words and answers -/
def LGr (h : HP) (x : Int) (LG : List (Nat × Int)) : Prop := h x 2 = (LG.length : Int) ∧ ∀ (j w : Nat) (a : Int), LG[j]? = some (w, a) → h (x + 1) (j : Int) = (w : Int) ∧ h (x + 2) (j : Int) = a
def LGok (I : Nat) (LG : List (Nat × Int)) : Prop := LG.length ≤ 20 ∧ ∀ p ∈ LG, wok I p.1 ∧ wlen p.1 ≤ 15
def fit (LG : List (Nat × Int)) (t o : Int → Int) : Prop := ∀ p ∈ LG, aS t o 0 p.1 = p.2
/-- small faults that fit, the machine -/
noncomputable def susK (S I : Nat) (t o : Int → Int) (LG : List (Nat × Int)) : Nat → List Nat
  | 0 => []
  | k + 1 => @ite _ (fit LG (tMu S I t o k) (oMu S I t o k)) (Classical.propDecidable _) (susK S I t o LG k ++ [k]) (susK S I t o LG k)
noncomputable def SUS (S I : Nat) (t o : Int → Int) (LG : List (Nat × Int)) : List Nat := susK S I t o LG (UN S I t o) ++ @ite _ (0 < S ∧ fit LG t o) (Classical.propDecidable _) [1000] []
section
variable {Q : RP} {n : Nat} {hr h : HP} {S I : Nat} {t o t' o' : Int → Int} {LG : List (Nat × Int)}
theorem susK_y {k : Nat} (h : fit LG (tMu S I t o k) (oMu S I t o k)) : susK S I t o LG (k + 1) = susK S I t o LG k ++ [k] := if_pos h
theorem susK_n {k : Nat} (h : ¬ fit LG (tMu S I t o k) (oMu S I t o k)) : susK S I t o LG (k + 1) = susK S I t o LG k := if_neg h
theorem susK_b : ∀ k, (susK S I t o LG k).length ≤ k ∧ ∀ x ∈ susK S I t o LG k, x < k
  | 0 => ⟨Nat.le_refl 0, fun x hx => (by cases hx)⟩
  | k + 1 => by
    have ih := susK_b k
    by_cases z : fit LG (tMu S I t o k) (oMu S I t o k)
    · rw [susK_y z]
      refine ⟨by rw [List.length_append, List.length_singleton]; omega, fun x hx => ?_⟩
      rcases List.mem_append.mp hx with q | q
      · have := ih.2 x q; omega
      · rw [List.mem_singleton.mp q]; omega
    · rw [susK_n z]
      exact ⟨by omega, fun x hx => by have := ih.2 x hx; omega⟩
theorem SUS_y (h : 0 < S ∧ fit LG t o) : SUS S I t o LG = susK S I t o LG (UN S I t o) ++ [1000] := by unfold SUS; rw [if_pos h]
theorem SUS_n (h : ¬ (0 < S ∧ fit LG t o)) : SUS S I t o LG = susK S I t o LG (UN S I t o) := by unfold SUS; rw [if_neg h, List.append_nil]
theorem SUS_b (hm : mok t o) (hS : S ≤ 6) (hI : I ≤ 3) : (SUS S I t o LG).length ≤ 253 ∧ ∀ x ∈ SUS S I t o LG, (x < UN S I t o ∨ x = 1000) := by
  have ub := UN_b hm hS hI
  have b := susK_b (S := S) (I := I) (t := t) (o := o) (LG := LG) (UN S I t o)
  by_cases z : 0 < S ∧ fit LG t o
  · rw [SUS_y z]
    refine ⟨by rw [List.length_append, List.length_singleton]; omega, fun x hx => ?_⟩
    rcases List.mem_append.mp hx with q | q
    · exact Or.inl (b.2 x q)
    · exact Or.inr (List.mem_singleton.mp q)
  · rw [SUS_n z]; exact ⟨by omega, fun x hx => Or.inl (b.2 x hx)⟩
theorem sp_L_add {w : Nat} {a : Int} (V : CW n hr) (G : LGr h 118 LG) (hl : LG.length ≤ 20) (hQ1 : LG.length < 20 → ∀ h1, EX [119, 120] [(118, 2)] h h1 → LGr h1 118 (LG ++ [(w, a)]) → Q (9, 0) n hr h1) (hQ0 : ¬ LG.length < 20 → Q (9, 0) n hr h) : f_L_add [(2, 118), (0, (w : Int)), (1, a)] n hr h Q := by
  apply e_L_add
  simp (disch := omega) only [ok_118 V.1, cr_118_0 V, cr_118_1 V, G.1, up_oth, w32_id, true_and]
  refine ⟨fun z => (by first | exact q_at rfl (hQ0 (by omega)) | exact (hQ0 (by omega))), fun z => ?_⟩
  repeat (refine ⟨by omega, ?_⟩)
  have H := hQ1 (by omega) (ai_up (ai_up (ai_up h 119 (LG.length : Int) (w : Int)) 120 (LG.length : Int) a) 118 2 ((LG.length : Int) + 1)) (EX_upp (EX_upc (EX_upc EX_rf (by decide)) (by decide)) (by decide)) ⟨?_, fun j v b hj => ?_⟩
  · exact (by first | exact q_at rfl (H) | exact (H))
  · rw [up_same, List.length_append, List.length_singleton]; omega
  · show (ai_up (ai_up (ai_up h 119 (LG.length : Int) (w : Int)) 120 (LG.length : Int) a) 118 2 ((LG.length : Int) + 1)) 119 (j : Int) = _ ∧ (ai_up (ai_up (ai_up h 119 (LG.length : Int) (w : Int)) 120 (LG.length : Int) a) 118 2 ((LG.length : Int) + 1)) 120 (j : Int) = _
    rcases Nat.lt_or_ge j LG.length with q | q
    · rw [List.getElem?_append_left q] at hj
      have := G.2 j v b hj
      constructor
      · simp (disch := omega) only [up_oth]; exact this.1
      · simp (disch := omega) only [up_oth]; exact this.2
    · rw [List.getElem?_append_right q] at hj
      have j0 : j - LG.length = 0 := by have := (List.getElem?_eq_some_iff.mp hj).1; simp at this; omega
      rw [j0] at hj
      cases hj
      rw [show j = LG.length by omega]
      constructor
      · simp (disch := omega) only [up_oth, up_same]
      · simp (disch := omega) only [up_oth, up_same]
theorem sp_L_copy {x y : Int} (V : CW n hr) (hxy : (x = 118 ∧ y = 135) ∨ (x = 135 ∧ y = 118)) (G : LGr h y LG) (hl : LG.length ≤ 20) (hQ : ∀ h1, EX [x + 1, x + 2] [(x, 2)] h h1 → LGr h1 x LG → Q (9, 0) n hr h1) : f_L_copy [(2, x), (2, y)] n hr h Q := by
  have k : ∀ z : Int, (z = 118 ∨ z = 135) → ai_ok n z 0 ∧ (hr z 0 = z + 1 ∧ ai_ok n (z + 1) 50 ∧ ai_l (z + 1) = 20) ∧ (hr z 1 = z + 2 ∧ ai_ok n (z + 2) 51 ∧ ai_l (z + 2) = 20) := by
    rintro z (rfl | rfl)
    · exact ⟨ok_118 V.1, cr_118_0 V, cr_118_1 V⟩
    · exact ⟨ok_135 V.1, cr_135_0 V, cr_135_1 V⟩
  obtain ⟨x0, x1, x2⟩ := k x (by omega)
  obtain ⟨y0, y1, y2⟩ := k y (by omega)
  apply e_L_copy
  simp only [x0, x1, x2, y0, y1, y2, true_and]
  repeat (refine ⟨by omega, ?_⟩)
  rw [cp_fl (by omega), cp_fl (by omega)]
  generalize hh : ai_fl (ai_fl h (x + 1) 20 fun j => h (y + 1) j) (x + 2) 20 (fun j => ai_fl h (x + 1) 20 (fun j => h (y + 1) j) (y + 2) j) = h2
  have o2 : ∀ c j : Int, c ≠ x + 1 → c ≠ x + 2 → h2 c j = h c j := fun c j c1 c2 => by rw [← hh, fl_out c2, fl_out c1]
  have a1 : ∀ j : Int, 0 ≤ j → j < 20 → h2 (x + 1) j = h (y + 1) j ∧ h2 (x + 2) j = h (y + 2) j := fun j j0 j1 => by
    rw [← hh]
    refine ⟨?_, ?_⟩
    · rw [fl_out (by omega), fl_in j0 j1]
    · rw [fl_in j0 j1, fl_out (by omega)]
  have H := hQ (ai_up h2 x 2 (h2 y 2)) ?_ ⟨?_, fun j w a hj => ?_⟩
  · exact (by first | exact q_at rfl (H) | exact (H))
  · refine EX_upp (fun c j hc _ => ?_) (by simp)
    simp only [List.mem_cons, List.not_mem_nil, or_false, not_or] at hc
    exact o2 c j hc.1 hc.2
  · rw [up_same, o2 y 2 (by omega) (by omega)]; exact G.1
  · have jl := (List.getElem?_eq_some_iff.mp hj).1
    have g := G.2 j w a hj
    have b := a1 (j : Int) (by omega) (by omega)
    rw [up_oth (by omega), up_oth (by omega), b.1, b.2]
    exact g
theorem sp_L_fits {m : Int} (V : CW n hr) (hI : I ≤ 3) (G : LGr h 118 LG) (ok : LGok I LG) (M : mrow hr m n) (hm' : mok t' o') (r : TRm m t' o' h) (h1 : fit LG t' o' → Q (0, 1) n hr h) (h0 : ¬ fit LG t' o' → Q (0, 0) n hr h) : f_L_fits [(2, 118), (2, m)] n hr h Q := by
  apply e_L_fits
  have loop := lupN (N := LG.length) (P := fun k => (∀ (j : Nat) p, j < k → LG[j]? = some p → aS t' o' 0 p.1 = p.2) → p_L_fits_2 (n + 0) (ai_q 0 n Q) 118 m (k : Int) n hr h) ?_ ?_
  · exact loop fun j p hj => by omega
  · intro g
    refine b_L_fits_2 ?_
    simp only [ok_118 V.1, G.1, true_and, true_or, or_true]
    refine ⟨fun _ => q_at rfl (h1 fun p hp => ?_), fun z => by omega⟩
    obtain ⟨j, hj⟩ := List.getElem?_of_mem hp
    exact g j p (List.getElem?_eq_some_iff.mp hj).1 hj
  · intro k hk ih g
    have hp := List.getElem?_eq_getElem hk
    have okp := ok.2 _ (List.getElem_mem hk)
    generalize LG[k] = p at hp okp
    obtain ⟨w, a⟩ := p
    have gk := G.2 k w a hp
    have l20 := ok.1
    refine b_L_fits_2 ?_
    simp (disch := omega) only [ok_118 V.1, cr_118_0 V, cr_118_1 V, G.1, M.1, true_and, true_or, or_true]
    refine ⟨fun z => by omega, fun _ => ?_⟩
    repeat (refine ⟨by omega, ?_⟩)
    rw [show h 119 (k : Int) = (w : Int) from gk.1]
    refine sp_M_tl M hm' r.1 r.2 (by omega) (wl15 okp.2) (wok_mono hI okp.1) ?_
    simp (disch := omega) only [ok_118 V.1, cr_118_0 V, cr_118_1 V, true_and, true_or, or_true]
    repeat (refine ⟨by omega, ?_⟩)
    rw [show h 120 (k : Int) = a from gk.2]
    refine ⟨fun z => ?_, fun z => ?_⟩
    · rw [w32_id (by omega) (by omega)]
      refine ih fun j q hj hq => ?_
      by_cases y : j = k
      · subst y; rw [hp] at hq; cases hq; exact lcmp0.mp z
      · exact g j q (by omega) hq
    · exact q_at rfl (h0 fun f => z (lcmp0.mpr (f (w, a) (List.mem_of_getElem? hp))))
/-- suspects are known -/
def XKn (S I : Nat) (t o : Int → Int) (LG : List (Nat × Int)) (h : HP) : Prop := h 121 14 = ((SUS S I t o LG).length : Int) ∧ rowL (h 125) 0 (SUS S I t o LG)
def XK (S I : Nat) (t o : Int → Int) (LG : List (Nat × Int)) (h : HP) : Prop := h 121 16 = 0 ∨ (h 121 16 = 1 ∧ XKn S I t o LG h)
def fxX (h h1 : HP) : Prop := EX [123, 124, 125] [(121, 14), (121, 16), (122, 2), (122, 3)] h h1
theorem sp_X_addIfFitting {k : Nat} {L : List Nat} (V : CW n hr) (hI : I ≤ 3) (G : LGr h 118 LG) (ok : LGok I LG) (hm' : mok t' o') (r : TRm 122 t' o' h) (hl : L.length < 253) (c : h 121 14 = (L.length : Int)) (R : rowL (h 125) 0 L) (h1 : fit LG t' o' → ∀ h1, EX [125] [(121, 14)] h h1 → h1 121 14 = ((L ++ [k]).length : Int) → rowL (h1 125) 0 (L ++ [k]) → Q (9, 0) n hr h1) (h0 : ¬ fit LG t' o' → Q (9, 0) n hr h) : f_X_addIfFitting [(2, 121), (0, (k : Int))] n hr h Q := by
  apply e_X_addIfFitting
  simp (disch := omega) only [ok_121 V.1, cr_121_4 V, cr_121_2 V, cr_121_3 V, ok_118 V.1, ok_122 V.1, c, true_and]
  refine ⟨fun z => by omega, fun _ => ?_⟩
  refine sp_L_fits V hI G ok (mr_122 V) hm' r (fun f => ?_) (fun f => ⟨fun _ => (by first | exact q_at rfl (h0 f) | exact (h0 f)), fun q => absurd rfl q⟩)
  refine ⟨fun q => absurd q (by decide), fun _ => ?_⟩
  simp (disch := omega) only [ok_121 V.1, cr_121_4 V, c, up_oth, w32_id, true_and]
  repeat (refine ⟨by omega, ?_⟩)
  have H := h1 f (ai_up (ai_up h 125 (L.length : Int) (k : Int)) 121 14 ((L.length : Int) + 1)) (EX_upp (EX_upc EX_rf (by decide)) (by decide)) ?_ ?_
  · exact (by first | exact q_at rfl (H) | exact (H))
  · rw [up_same, List.length_append, List.length_singleton]; omega
  · intro j v hj
    rw [up_oth (by omega)]
    rcases at_add.mp hj with ⟨q1, q2⟩ | ⟨q1, q2⟩
    · rw [up_oth (by omega)]; exact R j v q2
    · subst q1; subst q2; rw [Int.zero_add, up_same]
theorem sp_X_learn (V : CW n hr) (T : TV S I t o) (X : CX S I t o h) (C : CMp S I t o h (UN S I t o)) (G : LGr h 118 LG) (ok : LGok I LG) (K : XK S I t o LG h) (hQ : ∀ h1, fxX h h1 → h1 121 16 = 1 → XKn S I t o LG h1 → Q (9, 0) n hr h1) : f_X_learn [(2, 121)] n hr h Q := by
  have TT := T
  obtain ⟨hS, hI, hm, hc, hT⟩ := T
  have M := mr_13 V
  have M1 := mr_122 V
  have ub := UN_b hm hS hI
  apply e_X_learn
  simp only [ok_121 V.1, true_and]
  refine ⟨fun z => ?_, fun z => ?_⟩
  · simp (disch := omega) only [ok_121 V.1, cr_121_0 V, cr_121_3 V, ok_13 V.1, ok_122 V.1, true_and, or_true, true_or]
    generalize hh : ai_up (ai_up h 121 16 1) 121 14 0 = h2
    have e2 : fxX h h2 := by rw [← hh]; exact EX_upp (EX_upp EX_rf (by decide)) (by decide)
    have z14 : h2 121 14 = 0 := by rw [← hh, up_same]
    have z16 : h2 121 16 = 1 := by rw [← hh]; simp (disch := omega) only [up_oth, up_same]
    have fx : ∀ {h1 : HP}, fxX h h1 → CX S I t o h1 ∧ CMp S I t o h1 (UN S I t o) ∧ LGr h1 118 LG := fun f => ⟨CX_fr X f (by decide) (by decide), by
      unfold CMp; rw [f 102 15 (by decide) (by decide), EX_fn f (c := 109) (by decide) (by decide)]; exact C, by
      unfold LGr; rw [EX_fn f (c := 118) (by decide) (by decide), EX_fn f (c := 118 + 1) (by decide) (by decide), EX_fn f (c := 118 + 2) (by decide) (by decide)]; exact G⟩
    refine sp_M_copy M1 M (by omega) (t := t) (o := o) ⟨(fx e2).1.2.2.1, (fx e2).1.2.2.2⟩ fun h3 e3 r3 p3 i3 => ?_
    have f3 : fxX h h3 := EX_tr e2 (EX_le e3 (by decide) (by decide))
    have main := lupN (N := UN S I t o) (P := fun k => ∀ h3, fxX h h3 → TRm 122 t o h3 → h3 121 16 = 1 → h3 121 14 = ((susK S I t o LG k).length : Int) → rowL (h3 125) 0 (susK S I t o LG k) → p_X_learn_31 (n + 0) (ai_q 0 n Q) 121 (k : Int) n hr h3) ?_ ?_
    · exact main h3 f3 r3 (by rw [e3 121 16 (by decide) (by decide)]; exact z16) (by rw [e3 121 14 (by decide) (by decide), z14]; rfl) fun j w hj => (by cases hj)
    · intro h4 f4 r4 k4 c4 R4
      have X4 := (fx f4).1.1
      have sb := (susK_b (S := S) (I := I) (t := t) (o := o) (LG := LG) (UN S I t o)).1
      refine b_X_learn_31 ?_
      simp only [ok_121 V.1, cr_121_0 V, cr_121_1 V, ok_13 V.1, ok_102 V.1, (fx f4).2.1.1, X4, true_and]
      refine ⟨fun _ => ⟨fun q => ?_, fun q => ?_⟩, fun y => by omega⟩
      · refine q_at rfl (hQ h4 f4 k4 ?_)
        unfold XKn; rw [SUS_n fun y => by omega]
        exact ⟨c4, R4⟩
      · refine sp_X_addIfFitting (k := 1000) V hI (fx f4).2.2 ok hm r4 (by omega) c4 R4 (fun f h5 e5 c5 R5 => ?_) (fun f => ?_)
        · refine q_at rfl (hQ h5 (EX_tr f4 (EX_le e5 (by decide) (by decide))) (by rw [e5 121 16 (by decide) (by decide)]; exact k4) ?_)
          unfold XKn; rw [SUS_y ⟨by omega, f⟩]
          exact ⟨c5, R5⟩
        · refine q_at rfl (hQ h4 f4 k4 ?_)
          unfold XKn; rw [SUS_n fun y => f y.2]
          exact ⟨c4, R4⟩
    · intro k hk ih h4 f4 r4 k4 c4 R4
      have mk := mok_Mu hm hS hI hc hk
      have sb := (susK_b (S := S) (I := I) (t := t) (o := o) (LG := LG) k).1
      refine b_X_learn_31 ?_
      simp only [ok_121 V.1, cr_121_1 V, cr_121_3 V, ok_102 V.1, ok_122 V.1, (fx f4).2.1.1, true_and]
      refine ⟨fun y => by omega, fun _ => ?_⟩
      refine sp_U_dress V TT M1 (by omega) (fx f4).2.1 hk r4 fun h5 e5 r5 => ?_
      have f5 : fxX h h5 := EX_tr f4 (EX_le e5 (by decide) (by decide))
      have k25 : h5 125 = h4 125 := EX_fn e5 (by decide) (by decide)
      have c5 : h5 121 14 = ((susK S I t o LG k).length : Int) := by rw [e5 121 14 (by decide) (by decide)]; exact c4
      have on : ∀ h6, EX [125] [(121, 14)] h5 h6 → h6 121 14 = ((susK S I t o LG (k + 1)).length : Int) → rowL (h6 125) 0 (susK S I t o LG (k + 1)) → f_U_undress [(2, 102), (2, 122), (0, (k : Int))] n hr h6 fun r4 n4 hr4 h4 => p_X_learn_31 (n + 0) (ai_q 0 n Q) 121 (w32 ((k : Int) + 1)) n4 hr4 h4 := by
        intro h6 e6 c6 R6
        have f6 : fxX h h6 := EX_tr f5 (EX_le e6 (by decide) (by decide))
        refine sp_U_undress V TT (fx f6).1 M1 (by omega) (fx f6).2.1 hk (TRm_fr r5 (EX_fn e6 (by decide) (by decide)) (EX_fn e6 (by decide) (by decide))) fun h7 e7 r7 => ?_
        rw [w32_id (by omega) (by omega)]
        refine ih h7 (EX_tr f6 (EX_le e7 (by decide) (by decide))) r7 ?_ ?_ ?_
        · rw [e7 121 16 (by decide) (by decide), e6 121 16 (by decide) (by decide), e5 121 16 (by decide) (by decide)]; exact k4
        · rw [e7 121 14 (by decide) (by decide)]; exact c6
        · rw [EX_fn e7 (c := 125) (by decide) (by decide)]; exact R6
      simp only [ok_121 V.1, true_and]
      refine sp_X_addIfFitting (k := k) V hI (fx f5).2.2 ok mk r5 (by omega) c5 (by rw [k25]; exact R4) (fun f h6 e6 c6 R6 => ?_) (fun f => ?_)
      · simp only [ok_121 V.1, cr_121_1 V, cr_121_3 V, ok_102 V.1, ok_122 V.1, true_and]
        exact on h6 e6 (by rw [susK_y f]; exact c6) (by rw [susK_y f]; exact R6)
      · simp only [ok_121 V.1, cr_121_1 V, cr_121_3 V, ok_102 V.1, ok_122 V.1, true_and]
        exact on h5 EX_rf (by rw [susK_n f]; exact c5) (by rw [susK_n f, k25]; exact R4)
  · rcases K with q | q
    · exact absurd q z
    · exact (by first | exact q_at rfl (hQ h EX_rf q.1 q.2) | exact (hQ h EX_rf q.1 q.2))
/-- whether the machine is among them -/
noncomputable def vMa (S I : Nat) (t o : Int → Int) (LG : List (Nat × Int)) : Int := @ite _ (0 < S ∧ fit LG t o) (Classical.propDecidable _) 1 0
theorem SUS_last (hm : mok t o) (hS : S ≤ 6) (hI : I ≤ 3) {k : Nat} (hk : (SUS S I t o LG)[k]? = some 1000) : k = (SUS S I t o LG).length - 1 ∧ 0 < S ∧ fit LG t o := by
  have ub := UN_b hm hS hI
  have b := susK_b (S := S) (I := I) (t := t) (o := o) (LG := LG) (UN S I t o)
  by_cases z : 0 < S ∧ fit LG t o
  · rw [SUS_y z] at hk ⊢
    refine ⟨?_, z⟩
    rw [List.length_append, List.length_singleton]
    rcases Nat.lt_or_ge k (susK S I t o LG (UN S I t o)).length with q | q
    · rw [List.getElem?_append_left q] at hk
      have := b.2 _ (List.mem_of_getElem? hk); omega
    · have := (List.getElem?_eq_some_iff.mp hk).1
      rw [List.length_append, List.length_singleton] at this; omega
  · rw [SUS_n z] at hk
    have := b.2 _ (List.mem_of_getElem? hk); omega
theorem SUS_ma (hm : mok t o) (hS : S ≤ 6) (hI : I ≤ 3) : vMa S I t o LG = if (SUS S I t o LG)[(SUS S I t o LG).length - 1]? = some 1000 then 1 else 0 := by
  unfold vMa
  by_cases z : 0 < S ∧ fit LG t o
  · rw [if_pos z, if_pos]
    rw [SUS_y z, List.length_append, List.length_singleton, List.getElem?_append_right (by omega)]
    rw [show (susK S I t o LG (UN S I t o)).length + 1 - 1 - (susK S I t o LG (UN S I t o)).length = 0 by omega]
    rfl
  · rw [if_neg z, if_neg]
    exact fun q => z (SUS_last hm hS hI q).2
theorem sp_X_machineAmong (V : CW n hr) (T : TV S I t o) (X : CX S I t o h) (C : CMp S I t o h (UN S I t o)) (G : LGr h 118 LG) (ok : LGok I LG) (K : XK S I t o LG h) (hQ : ∀ h1, fxX h h1 → h1 121 16 = 1 → XKn S I t o LG h1 → Q (0, vMa S I t o LG) n hr h1) : f_X_machineAmong [(2, 121)] n hr h Q := by
  obtain ⟨hS, hI, hm, hc, hT⟩ := id T
  have sb := SUS_b (LG := LG) hm hS hI
  apply e_X_machineAmong
  simp only [ok_121 V.1, true_and]
  refine sp_X_learn V T X C G ok K fun h1 f1 k1 x1 => ?_
  have H := hQ h1 f1 k1 x1
  rw [SUS_ma hm hS hI] at H
  simp (disch := omega) only [ok_121 V.1, cr_121_4 V, x1.1, w32_id, true_and, true_or, or_true]
  refine ⟨fun z => ?_, fun z => ?_⟩
  · rw [List.getElem?_eq_none (by omega), if_neg (by simp)] at H
    exact (by first | exact q_at rfl (H) | exact (H))
  · have e := List.getElem?_eq_getElem (l := SUS S I t o LG) (i := (SUS S I t o LG).length - 1) (by omega)
    have r := x1.2 _ _ e
    rw [e] at H
    generalize (SUS S I t o LG)[(SUS S I t o LG).length - 1] = v at *
    rw [show (0 : Int) + (((SUS S I t o LG).length - 1 : Nat) : Int) = ((SUS S I t o LG).length : Int) - 1 by omega] at r
    rw [r]
    repeat (refine ⟨by omega, ?_⟩)
    refine ⟨fun q => ?_, fun q => ?_⟩
    · rw [if_neg (fun y => q (by cases y; rfl))] at H; exact (by first | exact q_at rfl (H) | exact (H))
    · rw [if_pos (by rw [show v = 1000 by omega])] at H; exact (by first | exact q_at rfl (H) | exact (H))
theorem sp_X_all (V : CW n hr) (T : TV S I t o) (X : CX S I t o h) (C : CMp S I t o h (UN S I t o)) (G : LGr h 118 LG) (ok : LGok I LG) (K : XK S I t o LG h) (hQ : ∀ h1, fxX h h1 → h1 121 16 = 1 → XKn S I t o LG h1 → Q (0, ((SUS S I t o LG).length : Int)) n hr h1) : f_X_all [(2, 121)] n hr h Q := by
  apply e_X_all
  simp only [ok_121 V.1, true_and]
  refine sp_X_learn V T X C G ok K fun h1 f1 k1 x1 => ?_
  simp (disch := omega) only [ok_121 V.1, x1.1, true_and]
  exact (by first | exact q_at rfl (hQ h1 f1 k1 x1) | exact (hQ h1 f1 k1 x1))
theorem sp_X_number {k : Nat} (V : CW n hr) (T : TV S I t o) (X : CX S I t o h) (C : CMp S I t o h (UN S I t o)) (G : LGr h 118 LG) (ok : LGok I LG) (K : XK S I t o LG h) (hQ : ∀ h1, fxX h h1 → h1 121 16 = 1 → XKn S I t o LG h1 → Q (0, match (SUS S I t o LG)[k]? with | some v => (v : Int) | none => -2) n hr h1) : f_X_number [(2, 121), (0, (k : Int))] n hr h Q := by
  obtain ⟨hS, hI, hm, hc, hT⟩ := id T
  have sb := SUS_b (LG := LG) hm hS hI
  apply e_X_number
  simp only [ok_121 V.1, true_and]
  refine sp_X_learn V T X C G ok K fun h1 f1 k1 x1 => ?_
  have H := hQ h1 f1 k1 x1
  simp (disch := omega) only [ok_121 V.1, cr_121_4 V, x1.1, true_and]
  refine ⟨fun z => ?_, fun z => ?_⟩
  · rw [List.getElem?_eq_none (by omega)] at H; exact (by first | exact q_at rfl (H) | exact (H))
  · have e := List.getElem?_eq_getElem (l := SUS S I t o LG) (i := k) (by omega)
    have r := x1.2 _ _ e
    rw [e] at H
    rw [Int.zero_add] at r
    rw [r]
    repeat (refine ⟨by omega, ?_⟩)
    exact (by first | exact q_at rfl (H) | exact (H))
end
