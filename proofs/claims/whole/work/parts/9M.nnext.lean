-- deps: 18 19 20 21 23 24 25 26 27 28 29 22 30 31 32 33 34 35 36 37 38 39 40 41 42 43 44 45 46 47 48 49 50 51 62 63 64 65 66 67 68 69 70 71 72 73 74 75 76 77 78 79 80 81 82 83 84 85 86 87 88 89 90 91 92 93 94 95 96 97 9C 9D 9E 9H 9I 9J 9K 9L
/-! the reference: what to ask next -/
section
variable {Q : RP} {n : Nat} {hr h : HP} {S I : Nat} {t o t' o' : Int → Int} {C : List Nat} {LG : List (Nat × Int)}
def fxAn (h h1 : HP) : Prop := EX [179] [(138, 43), (138, 44), (138, 45), (138, 46)] h h1
theorem sp_N_laysAnswers {w : Nat} (W : NW n hr) (T : TV S I t o) (X : NX S I t o h) (P : NP S I t o h) (hC : C.length ≤ 40) (hx : ∀ x ∈ C, x < UN S I t o ∨ x = 1000) (R : ∀ s x : Nat, C[s]? = some x → h 178 (s : Int) = (x : Int)) (hw : wok I w) (hl : wlen w ≤ 15) (hQ : ∀ h1, fxAn h h1 → (∀ k : Nat, k < C.length → h1 179 (k : Int) = xA S I t o C w k) → Q (9, 0) n hr h1) : f_N_laysAnswers [(2, 138), (0, (C.length : Int)), (0, (w : Int))] n hr h Q := by
  have TT := T
  obtain ⟨hS, hI, hm, hc, hT⟩ := T
  have ub := UN_b hm hS hI
  apply e_N_laysAnswers
  have loop := lupN (N := C.length) (P := fun k => ∀ h1, fxAn h h1 → (∀ j : Nat, j < k → h1 179 (j : Int) = xA S I t o C w j) → p_N_laysAnswers_2 (n + 0) (ai_q 0 n Q) 138 (C.length : Int) (w : Int) (k : Int) n hr h1) ?_ ?_
  · exact loop h EX_rf fun j hj => by omega
  · intro h1 f1 g1
    exact b_N_laysAnswers_2 ⟨fun _ => q_at rfl (hQ h1 f1 g1), fun z => by omega⟩
  · intro k hk ih h1 f1 g1
    have hv := List.getElem?_eq_getElem hk
    have xb := hx _ (List.getElem_mem hk)
    generalize C[k] = x at hv xb
    have X1 := NX_fr X f1 (by decide) (by decide)
    have P1 := NP_fr P f1 (by decide) (by decide)
    have n1 : h1 178 (k : Int) = (x : Int) := by rw [EX_fn f1 (c := 178) (by decide) (by decide)]; exact R k x hv
    have xa : xA S I t o C w k = aS (xT S I t o x) (xO S I t o x) 0 w := by unfold xA; rw [hv]; rfl
    have mx := mok_x hm hS hI hc xb
    -- the answer is written
    have on : ∀ h2, fxAn h h2 → (∀ j : Nat, j < k → h2 179 (j : Int) = h1 179 (j : Int)) → h2 179 (k : Int) = xA S I t o C w k → p_N_laysAnswers_2 (n + 0) (ai_q 0 n Q) 138 (C.length : Int) (w : Int) ((k : Int) + 1) n hr h2 := by
      intro h2 f2 a2 b2
      refine ih h2 f2 fun j hj => ?_
      by_cases y : j = k
      · subst y; exact b2
      · rw [a2 j (by omega)]; exact g1 j (by omega)
    refine b_N_laysAnswers_2 ⟨fun z => by omega, fun _ => ?_⟩
    simp (disch := omega) only [n0 W, nr_62 W, n1, w32_id, true_and]
    repeat (refine ⟨by omega, ?_⟩)
    refine ⟨fun z => ?_, fun z => ?_⟩
    · have y : x = 1000 := by omega
      have M0 := NX_NM X1
      refine sp_N_ans W (by omega) hm M0.1 M0.2 (by omega) (wl15 hl) (wok_mono hI hw) ?_
      simp (disch := omega) only [n0 W, nr_64 W, true_and]
      repeat (refine ⟨by omega, ?_⟩)
      refine on _ (EX_upc f1 (by decide)) (fun j hj => by rw [up_oth (by omega)]) ?_
      rw [up_same, xa]
      unfold xT xO
      rw [if_pos y, if_pos y]
    · have y : x ≠ 1000 := by omega
      have hxU : x < UN S I t o := by omega
      have mb := mu_b hm hS hI hc hxU
      repeat (refine ⟨by omega, ?_⟩)
      refine sp_N_tellsMutant W TT X1 P1 hxU fun h2 f2 v1 v2 v3 v4 => ?_
      have ec : 0 + (3 * (muS S I t o x : Int) + (muI S I t o x : Int)) = muC S I t o x := by unfold muC; omega
      have X2 := NX_fr X1 f2 (by decide) (by decide)
      have k78 : h2 178 = h1 178 := EX_fn f2 (by decide) (by decide)
      simp (disch := omega) only [n0 W, nr_20 W, nr_21 W, v1, v2, v3, v4, up_oth, w32_id, ec, true_and]
      repeat (refine ⟨by omega, ?_⟩)
      have r1 : r24 (fun a => (ai_up (ai_up h2 147 (muC S I t o x) (muX S I t o x)) 148 (muC S I t o x) (muY S I t o x)) 147 (0 + a)) (xT S I t o x) := fun a a1 a2 => by
        show (ai_up (ai_up h2 147 (muC S I t o x) (muX S I t o x)) 148 (muC S I t o x) (muY S I t o x)) 147 (0 + a) = _
        rw [Int.zero_add]
        unfold xT tMu up1
        rw [if_neg y]
        by_cases q : a = muC S I t o x
        · subst q; rw [if_pos rfl]; simp (disch := omega) only [up_oth, up_same]
        · rw [if_neg q]; simp (disch := omega) only [up_oth]; exact X2.2.2.1 a a1 a2
      have r2 : r24 (fun a => (ai_up (ai_up h2 147 (muC S I t o x) (muX S I t o x)) 148 (muC S I t o x) (muY S I t o x)) 148 (0 + a)) (xO S I t o x) := fun a a1 a2 => by
        show (ai_up (ai_up h2 147 (muC S I t o x) (muX S I t o x)) 148 (muC S I t o x) (muY S I t o x)) 148 (0 + a) = _
        rw [Int.zero_add]
        unfold xO oMu up1
        rw [if_neg y]
        by_cases q : a = muC S I t o x
        · subst q; rw [if_pos rfl, up_same]
        · rw [if_neg q]; simp (disch := omega) only [up_oth]; exact X2.2.2.2 a a1 a2
      refine sp_N_ans W (by omega) mx r1 r2 (by omega) (wl15 hl) (wok_mono hI hw) ?_
      simp (disch := omega) only [n0 W, nr_64 W, nr_20 W, nr_21 W, true_and]
      repeat (refine ⟨by omega, ?_⟩)
      generalize hh : ai_up (ai_up (ai_up (ai_up (ai_up h2 147 (muC S I t o x) (muX S I t o x)) 148 (muC S I t o x) (muY S I t o x)) 179 (k : Int) (aS (xT S I t o x) (xO S I t o x) 0 w)) 147 (muC S I t o x) (h2 147 (muC S I t o x))) 148 (muC S I t o x) (h2 148 (muC S I t o x)) = h3
      have e3 : EX [179] [] h2 h3 := by
        intro c j hc _
        simp only [List.mem_cons, List.not_mem_nil, or_false] at hc
        rw [← hh]
        by_cases c8 : c = 148 ∧ j = muC S I t o x
        · obtain ⟨rfl, rfl⟩ := c8; rw [up_same]
        · rw [up_oth (by omega)]
          by_cases c7 : c = 147 ∧ j = muC S I t o x
          · obtain ⟨rfl, rfl⟩ := c7; rw [up_same]
          · rw [up_oth (by omega), up_oth (by omega), up_oth (by omega), up_oth (by omega)]
      refine on h3 (EX_tr f1 (EX_tr (EX_le f2 (by decide) (by decide)) (EX_le e3 (by decide) (by decide)))) (fun j hj => ?_) ?_
      · rw [← hh]; simp (disch := omega) only [up_oth]; rw [EX_fn f2 (c := 179) (by decide) (by decide)]
      · rw [← hh]; simp (disch := omega) only [up_oth, up_same]; exact xa.symm
theorem sp_N_greatestGroup {N : Nat} (W : NW n hr) (hN : N ≤ 40) (hQ : Q (0, (ggN (fun k => h 179 (k : Int)) N : Int)) n hr h) : f_N_greatestGroup [(2, 138), (0, (N : Int))] n hr h Q := by
  apply e_N_greatestGroup
  have main := lupN (N := N) (P := fun a => p_N_greatestGroup_4 (n + 0) (ai_q 0 n Q) 138 (N : Int) (mxN (fun a => cntP (fun b => h 179 (a : Int) = h 179 (b : Int)) N) a : Int) (a : Int) n hr h) ?_ ?_
  · exact main
  · exact b_N_greatestGroup_4 ⟨fun _ => q_at rfl hQ, fun z => by omega⟩
  · intro a ha ih
    have mb : mxN (fun a => cntP (fun b => h 179 (a : Int) = h 179 (b : Int)) N) a ≤ 40 := (mxN_le a).mpr fun c _ => Nat.le_trans (cntP_le _ _) hN
    have inner := lupN (N := N) (P := fun b => p_N_greatestGroup_15 (n + 0) (ai_q 0 n Q) 138 (N : Int) (mxN (fun a => cntP (fun b => h 179 (a : Int) = h 179 (b : Int)) N) a : Int) (a : Int) (cntP (fun b => h 179 (a : Int) = h 179 (b : Int)) b : Int) (b : Int) n hr h) ?_ ?_
    · exact b_N_greatestGroup_4 ⟨fun z => by omega, fun _ => inner⟩
    · have cl := cntP_le (fun b => h 179 (a : Int) = h 179 (b : Int)) N
      refine b_N_greatestGroup_15 ⟨fun _ => ?_, fun z => by omega⟩
      rw [w32_id (by omega) (by omega)]
      rw [mxN] at ih
      refine ⟨fun z => ?_, fun z => ?_⟩
      · rw [show max (mxN (fun a => cntP (fun b => h 179 (a : Int) = h 179 (b : Int)) N) a) (cntP (fun b => h 179 (a : Int) = h 179 (b : Int)) N) = mxN (fun a => cntP (fun b => h 179 (a : Int) = h 179 (b : Int)) N) a by omega] at ih
        exact ih
      · rw [show max (mxN (fun a => cntP (fun b => h 179 (a : Int) = h 179 (b : Int)) N) a) (cntP (fun b => h 179 (a : Int) = h 179 (b : Int)) N) = cntP (fun b => h 179 (a : Int) = h 179 (b : Int)) N by omega] at ih
        exact ih
    · intro b hb ihb
      have cl := cntP_le (fun b => h 179 (a : Int) = h 179 (b : Int)) b
      refine b_N_greatestGroup_15 ⟨fun z => by omega, fun _ => ?_⟩
      simp (disch := omega) only [n0 W, nr_64 W, w32_id, true_and]
      repeat (refine ⟨by omega, ?_⟩)
      refine ⟨fun z => ?_, fun z => ?_⟩
      · rw [cntP_n (P := fun b => h 179 (a : Int) = h 179 (b : Int)) fun q => z (lcmp0.mpr q)] at ihb
        rw [Int.add_zero]; exact ihb
      · rw [cntP_y (P := fun b => h 179 (a : Int) = h 179 (b : Int)) (lcmp0.mp z)] at ihb
        exact ihb
theorem SWl_ne (hS : S ≤ 6) (hS0 : 0 < S) (hI : I ≤ 3) (hm : mok t o) (hc : clo S t) {e su : Nat} (he : e < 3) (hsu : su < 2) : 0 < (SWl S I t o e su).length := by
  obtain ⟨v, k, v1, _⟩ := OS_pre (w := 0) hS hI hm hc (e := e) (su := su) (by
    have ok := (OSs_ok (o := o) hS hI hm hc (su := su) he).1
    rcases ok with q | q
    · unfold OSs at q
      rw [if_neg (by omega), if_pos hsu] at q
      have okA := ALs_ok hS hS0 hI hc
      have okB := BHf_ok (o := o) hS hS0 hI hm hc su
      have := ((NDs_m hS hS0 hI hm hc su e).2.1 0).mpr (ND_H hI okA okB (HD_0 okA.2.1))
      rw [q] at this; cases this
    · exact List.mem_of_getElem? q)
  exact List.length_pos_of_mem v1
theorem SUS_0 (hm : mok t o) (hS : S ≤ 6) (hI : I ≤ 3) (h : 0 < (SUS S I t o LG).length) : 0 < S := by
  rcases Nat.eq_zero_or_pos S with z | z
  · have cz : cA (AC I t 0) S = 0 := by have := cA_le (AC I t 0) S; omega
    have u0 : UN S I t o = 0 := by unfold UN; rw [cz, Nat.zero_mul, Nat.zero_mul]
    rw [SUS_n (by omega), u0] at h
    exact absurd h (Nat.lt_irrefl 0)
  · exact z
theorem sp_N_next {e : Nat} (W : NW n hr) (T : TV S I t o) (B : NB S I t o e h) (G : LGn h LG) (ok : LGok I LG) (he : e < 3) (h0 : (SUS S I t o LG).length < 2 → ∀ h1, fxZ h h1 → NB S I t o e h1 → Q (0, -2) n hr h1) (h1 : 2 ≤ (SUS S I t o LG).length → ∀ h1, fxZ h h1 → NB S I t o e h1 → Q (0, vNx S I t o (CRD S I t o LG) (SWl S I t o e 1)) n hr h1) : f_N_next [(2, 138)] n hr h Q := by
  have TT := T
  obtain ⟨hS, hI, hm, hc, hT⟩ := T
  have sb := SUS_b (LG := LG) hm hS hI
  have cb := CRD_b (LG := LG) hm hS hI
  have B1 : NB S I t o e (ai_up h 138 0 0) := NB_1 B
  have F1 : fxZ h (ai_up h 138 0 0) := fxZ_of EX_1 (by decide) (by decide)
  apply e_N_next
  simp only [n0 W, true_and]
  refine sp_N_laysSuspects W TT B1 (LGn_Z F1 G) ok fun h2 f2 b2 s2 => ?_
  have F2 := fxZ_tr F1 f2
  simp only [n0 W, s2.1, true_and]
  refine ⟨fun z => ?_, fun z => (by first | exact q_at rfl (h0 (by omega) h2 F2 b2) | exact (h0 (by omega) h2 F2 b2))⟩
  have S0 := SUS_0 (LG := LG) hm hS hI (by omega)
  have H := h1 (by omega)
  have lf0 := SWl_ne hS S0 hI hm hc he (show 1 < 2 by decide)
  have ew : SWl S I t o e 1 = LFr S I t o 1 e := by unfold SWl; rw [if_pos (by decide)]
  have ll := LFr_len (o := o) hS hI hm hc (su := 1) he
  have Cat : ∀ s x : Nat, (CRD S I t o LG)[s]? = some x → h2 178 (s : Int) = (x : Int) := fun s x hs => by
    have := s2.2 s x (CRD_at hs).2
    rw [Int.zero_add] at this; exact this
  -- behind the suite
  have go : f_N_suiteOf [(2, 138), (0, 1)] n hr h2 fun r2 n2 hr2 h2 => p_N_next_53 (n + 0) (ai_q 0 n Q) 138 ((CRD S I t o LG).length : Int) r2.2 (-1) 0 0 n2 hr2 h2 := by
    refine sp_N_suiteOf (su := 1) W TT b2.1 b2.2.1 b2.2.2.2.2.1 b2.2.2.2.2.2 (by decide) he fun h3 a u c => ?_
    have b3 := NB_s b2 a u
    have F3 : fxZ h h3 := fxZ_tr F2 (fxZ_of a (by decide) (by decide))
    have Cat3 : ∀ s x : Nat, (CRD S I t o LG)[s]? = some x → h3 178 (s : Int) = (x : Int) := fun s x hs => by
      rw [EX_fn a (c := 178) (by decide) (by decide)]; exact Cat s x hs
    rw [← ew] at c
    have C2 : 2 ≤ (CRD S I t o LG).length ∧ (CRD S I t o LG).length ≤ 40 := by omega
    have okw : ∀ w ∈ SWl S I t o e 1, wok I w ∧ wlen w ≤ 13 := fun w hw => by
      rw [ew] at hw; exact LFr_ok hS hI hm hc he hw
    have vn : vNx S I t o (CRD S I t o LG) (SWl S I t o e 1) = (((SWl S I t o e 1)[(nxI (fun k => xG S I t o (CRD S I t o LG) ((SWl S I t o e 1)[k]?.getD 0)) (SWl S I t o e 1).length).1.toNat]?.getD 0 : Nat) : Int) := rfl
    have hx := cb.2
    have lf9 : (SWl S I t o e 1).length ≤ 875 := by rw [ew]; omega
    rw [vn] at H
    clear vn
    generalize CRD S I t o LG = C at *
    generalize SWl S I t o e 1 = lf at *
    have gp : ∀ k : Nat, 1 ≤ xG S I t o C (lf[k]?.getD 0) ∧ xG S I t o C (lf[k]?.getD 0) ≤ 40 := fun k => by
      have a := ggN_pos (xA S I t o C (lf[k]?.getD 0)) (N := C.length) (by omega)
      have b := ggN_b (xA S I t o C (lf[k]?.getD 0)) C.length
      unfold xG; omega
    generalize hg : (fun k : Nat => xG S I t o C (lf[k]?.getD 0)) = g at *
    have gp' : ∀ k, 1 ≤ g k ∧ g k ≤ 40 := fun k => by rw [← hg]; exact gp k
    dsimp only
    have loop := lupN (N := lf.length) (P := fun k => ∀ h4 (v l : Int), fxAn h3 h4 → ((k = 0 ∧ v = -1) ∨ (0 < k ∧ ∃ b : Nat, b < k ∧ nxI g k = ((b : Int), g b) ∧ v = (b : Int) ∧ l = (g b : Int))) → p_N_next_53 (n + 0) (ai_q 0 n Q) 138 (C.length : Int) ((2 * e + 1 : Nat) : Int) v l (k : Int) n hr h4) ?_ ?_
    · exact loop h3 (-1) 0 EX_rf (Or.inl ⟨rfl, rfl⟩)
    · intro h4 v l f4 inv
      rcases inv with ⟨q, _⟩ | ⟨q, b, b1, bn, bv, bl⟩
      · omega
      · have e162 : h4 162 ((2 * e + 1 : Nat) : Int) = (lf.length : Int) := by rw [EX_fn f4 (c := 162) (by decide) (by decide)]; exact c.1
        have hb := List.getElem?_eq_getElem b1
        refine b_N_next_53 ?_
        simp (disch := omega) only [n0 W, nr_39 W, e162, true_and]
        repeat (refine ⟨by omega, ?_⟩)
        refine ⟨fun _ => ?_, fun y => by omega⟩
        rw [bv]
        refine sp_N_tsAt W (by omega) (by omega) ?_
        have H4 := H h4 (fxZ_tr F3 (fxZ_of f4 (by decide) (by decide))) (NB_fr b3 f4 (by decide))
        rw [bn] at H4
        simp only [Int.toNat_natCast, hb, Option.getD_some] at H4
        have c2 := c.2 b _ hb
        rw [EX_fn f4 (c := 161) (by decide) (by decide), c2]
        exact q_at rfl H4
    · intro k hk ih h4 v l f4 inv
      have e162 : h4 162 ((2 * e + 1 : Nat) : Int) = (lf.length : Int) := by rw [EX_fn f4 (c := 162) (by decide) (by decide)]; exact c.1
      have hw := List.getElem?_eq_getElem hk
      generalize lf[k] = w at hw
      have ow := okw w (List.mem_of_getElem? hw)
      have gk : g k = xG S I t o C w := by rw [← hg]; show xG S I t o C (lf[k]?.getD 0) = _; rw [hw]; rfl
      have gpk := gp' k
      refine b_N_next_53 ?_
      simp (disch := omega) only [n0 W, nr_39 W, e162, true_and]
      repeat (refine ⟨by omega, ?_⟩)
      refine fun _ => ?_
      refine sp_N_tsAt W (by omega) (by omega) ?_
      have c2 := c.2 k w hw
      rw [EX_fn f4 (c := 161) (by decide) (by decide), c2]
      have b4 := NB_fr b3 f4 (by decide)
      refine ⟨n0 W, sp_N_laysAnswers W TT b4.1 b4.2.1 (by omega) hx (fun s x hs => by rw [EX_fn f4 (c := 178) (by decide) (by decide)]; exact Cat3 s x hs) ow.1 (by omega) fun h5 f5 a5 => ⟨n0 W, ?_⟩⟩
      refine sp_N_greatestGroup W (by omega) ?_
      have gg : ggN (fun j => h5 179 (j : Int)) C.length = g k := by
        rw [gk]; unfold xG
        exact ggN_ext fun a b ha hb => by rw [a5 a ha, a5 b hb]
      rw [gg]
      dsimp only
      rw [w32_id (x := (k : Int) + 1) (by omega) (by omega)]
      have f5' : fxAn h3 h5 := EX_tr f4 f5
      have step : nxI g (k + 1) = if g k < (nxI g k).2 then ((k : Int), g k) else nxI g k := rfl
      rcases inv with ⟨q, qv⟩ | ⟨q, b, b1, bn, bv, bl⟩
      · subst q
        refine ⟨fun _ => ?_, fun y => absurd qv y⟩
        refine ih h5 _ _ f5' (Or.inr ⟨by omega, 0, by omega, ?_, rfl, rfl⟩)
        rw [step, if_pos (by show g 0 < 41; omega)]
      · refine ⟨fun y => by omega, fun _ => ⟨fun y => ?_, fun y => ?_⟩⟩
        · refine ih h5 _ _ f5' (Or.inr ⟨by omega, k, by omega, ?_, rfl, rfl⟩)
          rw [step, bn, if_pos (by show g k < g b; omega)]
        · refine ih h5 _ _ f5' (Or.inr ⟨by omega, b, by omega, ?_, bv, bl⟩)
          rw [step, bn, if_neg (by show ¬ g k < g b; omega)]
  refine ⟨fun y => ?_, fun y => ?_⟩
  · rw [show ((CRD S I t o LG).length : Int) = 40 by omega] at go
    exact go
  · rw [show ((CRD S I t o LG).length : Int) = ((SUS S I t o LG).length : Int) by omega] at go
    exact go
end
