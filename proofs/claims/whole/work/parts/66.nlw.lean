-- deps: 18 19 20 21 23 24 25 26 27 28 29 22 30 31 32 33 34 35 36 37 38 39 40 47 50 62 64 65
/-! the reference lays the tour and the check -/
section
variable {Q : RP} {n : Nat} {hr h : HP} {S I : Nat} {t o : Int → Int}
/-- the way `wh`: nothing where there are no states -/
noncomputable def WY (S I : Nat) (t o : Int → Int) (wh : Nat) : List Nat := if S = 0 then [] else TOUR S I t o wh
def LWy (S I : Nat) (t o : Int → Int) (h : HP) (wh : Nat) : Prop := h 157 (wh : Int) = ((WY S I t o wh).length : Int) ∧ ∀ k v : Nat, (WY S I t o wh)[k]? = some v → h 156 (400 * (wh : Int) + (k : Int)) = (v : Int)
def NWy (S I : Nat) (t o : Int → Int) (h : HP) : Prop := ∀ wh : Nat, wh < 2 → h 158 (wh : Int) = 0 ∨ (h 158 (wh : Int) = 1 ∧ LWy S I t o h wh)
theorem WY_len (hS : S ≤ 6) (hI : I ≤ 3) (hc : clo S t) (wh : Nat) : (WY S I t o wh).length ≤ 252 ∧ ∀ y ∈ WY S I t o wh, y < I := by
  unfold WY
  split
  · exact ⟨by simp, fun y hy => by cases hy⟩
  · have ok := itW_ok (o := o) hS (by omega) hI hc wh 18
    exact ⟨ok.2.2.1, ok.2.2.2⟩
theorem LWy_fr {h1 : HP} {wh : Nat} (H : LWy S I t o h wh) (a : h1 156 = h 156) (b : h1 157 = h 157) : LWy S I t o h1 wh := by
  unfold LWy; rw [a, b]; exact H
theorem NWy_fr {h1 : HP} (H : NWy S I t o h) (a : h1 156 = h 156) (b : h1 157 = h 157) (c : h1 158 = h 158) : NWy S I t o h1 := fun wh hw => by
  rw [c]
  rcases H wh hw with q | ⟨q1, q2⟩
  · exact Or.inl q
  · exact Or.inr ⟨q1, LWy_fr q2 a b⟩
theorem N_lw_48 {wh : Nat} (W : NW n hr) (T : TV S I t o) (X : NX S I t o h) (hwh : wh < 2) (hS0 : 0 < S) (hsg : wh = 1 → ∀ s : Nat, s < S → h 155 (s : Int) = SGN S I t o s) (h37 : h 138 37 = 0) (h7 : h 157 (wh : Int) = 0) (hQ : ∀ h1, fxN wh h h1 → LWy S I t o h1 wh → Q (9, 0) n hr h1) : p_N_laysWay_48 (n + 0) (ai_q 0 n Q) 138 (wh : Int) 0 n hr h := by
  have TT := T
  obtain ⟨hS, hI, hm, hc, hT⟩ := T
  have fin : ∀ (h1 : HP) (m : Nat), fxN wh h h1 → WKN h1 wh (itW S I t o wh m) → itW S I t o wh 18 = itW S I t o wh m → ai_q 0 n Q (9, 0) n hr h1 := by
    intro h1 m f1 k1 eit
    have et : WY S I t o wh = (itW S I t o wh m).2.2 := by unfold WY; rw [if_neg (by omega)]; unfold TOUR; rw [eit]
    refine q_at rfl (hQ h1 f1 ?_)
    unfold LWy
    rw [et]
    exact k1.2.2
  have main := lupN (N := 18) (P := fun m => ∀ h1, fxN wh h h1 → WKN h1 wh (itW S I t o wh m) → p_N_laysWay_72 (n + 0) (ai_q 0 n Q) 138 (wh : Int) (WN I t (itW S I t o wh m).1 (itW S I t o wh m).2.1) n hr h1) ?_ ?_
  · have init := lupN (N := 18) (P := fun k => ∀ h1, fxN wh h h1 → h1 138 37 = 0 → h1 157 (wh : Int) = 0 → (∀ b : Nat, b < k → h1 159 (b : Int) = 0) → p_N_laysWay_48 (n + 0) (ai_q 0 n Q) 138 (wh : Int) (k : Int) n hr h1) ?_ ?_
    · exact init h fxN_rf h37 h7 fun b hb => by omega
    · intro h1 f1 q1 q2 q3
      refine b_N_laysWay_48 ⟨fun _ => ?_, fun z => by omega⟩
      have X1 := NX_fr X f1.1 (by decide) (by decide)
      have k1 : WKN h1 wh (itW S I t o wh 0) := ⟨fun b hb => by
        rw [q3 b hb]
        have : ¬ (itW S I t o wh 0).1.testBit b = true := by show ¬ (0 : Nat).testBit b = true; simp
        rw [if_neg this], q1, q2, fun k v hk => by cases hk⟩
      simp only [n0 W, true_and]
      refine sp_N_wordToGo W TT X1 k1.2.1 hS0 k1.1 fun h2 e2 => ?_
      refine main h2 (fxN_tr f1 ⟨EX_le e2 (by decide) (by decide), fun j _ => by rw [EX_fn e2 (c := 156) (by decide) (by decide)], fun j _ => by rw [EX_fn e2 (c := 157) (by decide) (by decide)]⟩) ?_
      unfold WKN
      rw [EX_fn e2 (c := 138) (by decide) (by decide), EX_fn e2 (c := 159) (by decide) (by decide), EX_fn e2 (c := 157) (by decide) (by decide), EX_fn e2 (c := 156) (by decide) (by decide)]
      exact k1
    · intro k hk ih h1 f1 q1 q2 q3
      refine b_N_laysWay_48 ⟨fun z => by omega, fun _ => ?_⟩
      simp (disch := omega) only [n0 W, nr_35 W, w32_id, true_and, or_true, true_or]
      repeat (refine ⟨by omega, ?_⟩)
      refine ih (ai_up h1 159 (k : Int) 0) (fxN_tr f1 ⟨EX_upc EX_rf (by decide), fun j _ => by simp (disch := omega) only [up_oth], fun j _ => by simp (disch := omega) only [up_oth]⟩) ?_ ?_ fun b hb => ?_
      · simp (disch := omega) only [up_oth]; exact q1
      · simp (disch := omega) only [up_oth]; exact q2
      · by_cases z : b = k
        · subst z; rw [up_same]
        · simp (disch := omega) only [up_oth]; exact q3 b (by omega)
  · intro h1 f1 k1
    refine b_N_laysWay_72 ⟨fun _ => fin h1 18 f1 k1 rfl, fun z => ?_⟩
    exact (z (itW_18 hS hS0 hI hc wh)).elim
  · intro m hm18 ih h1 f1 k1
    have X1 := NX_fr X f1.1 (by decide) (by decide)
    have ok := itW_ok (o := o) hS hS0 hI hc wh m
    have eit : itW S I t o wh (m + 1) = stepW S I t o wh (itW S I t o wh m) := rfl
    rcases WN_b hS hI hc (tk := (itW S I t o wh m).1) ok.2.1 with q | ⟨v, j, e, hj, hv, hl, hb⟩
    · refine b_N_laysWay_72 ⟨fun _ => fin h1 m f1 k1 ?_, fun z => (z q).elim⟩
      have := itW_stop (S := S) (I := I) (t := t) (o := o) (wh := wh) q (18 - m)
      rwa [show m + (18 - m) = 18 by omega] at this
    · have hn2 : WN I t (itW S I t o wh m).1 (itW S I t o wh m).2.1 ≠ -2 := by omega
      refine b_N_laysWay_72 ⟨fun z => (hn2 z).elim, fun _ => ⟨n0 W, ?_⟩⟩
      rw [e]
      have hw : wok I (4 * v + j + 1) := (wok_cc (by omega)).mpr ⟨hj, hv⟩
      have hwl : wlen (4 * v + j + 1) ≤ 6 := by rw [wlen_c _ (by omega)]; omega
      refine sp_N_goes W TT X1 hwh k1 ok hw (by omega) (by omega) fun h3 f3 k3 => ?_
      have ok3 := goW_ok hS hI hc ok hw hwl
      have F3 : fxN wh h h3 := fxN_tr f1 f3
      have en : (WN I t (itW S I t o wh m).1 (itW S I t o wh m).2.1).toNat = 4 * v + j + 1 := by omega
      have next : ∀ h4, fxN wh h h4 → WKN h4 wh (itW S I t o wh (m + 1)) → f_N_wordToGo [(2, 138)] n hr h4 fun r n2 hr2 h5 => p_N_laysWay_72 (n + 0) (ai_q 0 n Q) 138 (wh : Int) r.2 n2 hr2 h5 := by
        intro h4 g1 g2
        refine sp_N_wordToGo W TT (NX_fr X g1.1 (by decide) (by decide)) g2.2.1 (itW_ok (o := o) hS hS0 hI hc wh (m + 1)).2.1 g2.1 fun h5 e5 => ?_
        refine ih h5 (fxN_tr g1 ⟨EX_le e5 (by decide) (by decide), fun j _ => by rw [EX_fn e5 (c := 156) (by decide) (by decide)], fun j _ => by rw [EX_fn e5 (c := 157) (by decide) (by decide)]⟩) ?_
        unfold WKN
        rw [EX_fn e5 (c := 138) (by decide) (by decide), EX_fn e5 (c := 159) (by decide) (by decide), EX_fn e5 (c := 157) (by decide) (by decide), EX_fn e5 (c := 156) (by decide) (by decide)]
        exact g2
      refine ⟨fun z => ⟨n0 W, next h3 F3 ?_⟩, fun z => ?_⟩
      · rw [eit]; unfold stepW
        rw [if_neg hn2, en, if_neg (fun q => by omega)]
        exact k3
      · have w1 : wh = 1 := by omega
        have g55 : h3 155 = h 155 := EX_fn F3.1 (by decide) (by decide)
        have esg : h3 155 ((goW t (itW S I t o wh m) (4 * v + j + 1)).2.1 : Int) = SGN S I t o (goW t (itW S I t o wh m) (4 * v + j + 1)).2.1 := by rw [g55]; exact hsg w1 _ ok3.2.1
        have st6 := ok3.2.1
        simp (disch := omega) only [n0 W, nr_30 W, k3.2.1, esg, true_and]
        repeat (refine ⟨by omega, ?_⟩)
        refine ⟨fun z2 => next h3 F3 ?_, fun z2 => ?_⟩
        · rw [eit]; unfold stepW
          rw [if_neg hn2, en, if_neg (fun q => by have := q.2; omega)]
          exact k3
        · repeat (refine ⟨by omega, ?_⟩)
          rcases fw_cases (fun w => wok I w ∧ wlen w ≤ 8 ∧ isSg S I t o (goW t (itW S I t o wh m) (4 * v + j + 1)).2.1 w) with ⟨u, a1, a2, a3⟩ | ⟨a1, _⟩
          · have eu : SGN S I t o (goW t (itW S I t o wh m) (4 * v + j + 1)).2.1 = (u : Int) := a1
            rw [eu]
            refine sp_N_goes W TT (NX_fr X F3.1 (by decide) (by decide)) hwh k3 ok3 a2.1 a2.2.1 (by omega) fun h5 f5 k5 => ?_
            refine ⟨n0 W, next h5 (fxN_tr F3 f5) ?_⟩
            rw [eit]; unfold stepW
            rw [if_neg hn2, en, if_pos ⟨by omega, by omega⟩, eu]
            exact k5
          · have eu : SGN S I t o (goW t (itW S I t o wh m) (4 * v + j + 1)).2.1 = -2 := a1
            omega
def fxY (h h1 : HP) : Prop := EX [155, 156, 157, 158, 159, 160] [(138, 31), (138, 37)] h h1
theorem sp_N_laysWay {wh : Nat} (W : NW n hr) (T : TV S I t o) (X : NX S I t o h) (P : NP S I t o h) (G : NSg S I t o h) (Y : NWy S I t o h) (hwh : wh < 2) (hQ : ∀ h1, fxY h h1 → NSg S I t o h1 → NWy S I t o h1 → h1 158 (wh : Int) = 1 → Q (9, 0) n hr h1) : f_N_laysWay [(2, 138), (0, (wh : Int))] n hr h Q := by
  have TT := T
  obtain ⟨hS, hI, hm, hc, hT⟩ := T
  apply e_N_laysWay
  simp (disch := omega) only [n0 W, nr_33 W, nr_34 W, true_and, or_true, true_or]
  repeat (refine ⟨by omega, ?_⟩)
  have go : h 158 (wh : Int) = 0 ∨ h 158 (wh : Int) ≠ 0 := by omega
  refine ⟨fun z => ?_, fun z => ?_⟩
  · repeat (refine ⟨by omega, ?_⟩)
    generalize hh : (ai_up (ai_up h 158 (wh : Int) 1) 157 (wh : Int) 0) = h0
    have e0 : EX [157, 158] [] h h0 := by rw [← hh]; exact EX_upc (EX_upc EX_rf (by decide)) (by decide)
    have X0 := NX_fr X e0 (by decide) (by decide)
    have P0 := NP_fr P e0 (by decide) (by decide)
    have G0 : NSg S I t o h0 := by
      unfold NSg; rw [EX_fn e0 (c := 155) (by decide) (by decide), EX_fn e0 (c := 138) (by decide) (by decide)]; exact G
    have s158 : h0 158 (wh : Int) = 1 := by rw [← hh]; simp (disch := omega) only [up_same, up_oth]
    have s157 : h0 157 (wh : Int) = 0 := by rw [← hh]; simp (disch := omega) only [up_same, up_oth]
    have o158 : ∀ j : Int, j ≠ (wh : Int) → h0 158 j = h 158 j ∧ h0 157 j = h 157 j := fun j hj => by
      rw [← hh]; constructor <;> simp (disch := omega) only [up_oth]
    have g156 : h0 156 = h 156 := EX_fn e0 (by decide) (by decide)
    -- what is left from h1, which differs in signs and in the way wh alone
    have done : ∀ h1 h2, EX [155] [(138, 31), (138, 37)] h0 h1 → fxN wh h1 h2 → NSg S I t o h1 → LWy S I t o h2 wh → Q (9, 0) n hr h2 := by
      intro h1 h2 e1 f2 g1 y2
      refine hQ h2 (EX_tr (EX_le e0 (by decide) (by decide)) (EX_tr (EX_le e1 (by decide) (by decide)) (EX_le f2.1 (by decide) (by decide)))) ?_ ?_ ?_
      · unfold NSg
        rw [EX_fn f2.1 (c := 155) (by decide) (by decide), f2.1 138 31 (by decide) (by decide)]; exact g1
      · intro w hw
        rw [EX_fn f2.1 (c := 158) (by decide) (by decide), EX_fn e1 (c := 158) (by decide) (by decide)]
        by_cases y : w = wh
        · subst y; exact Or.inr ⟨s158, y2⟩
        · have od := o158 (w : Int) (by omega)
          rw [od.1]
          rcases Y w hw with q | ⟨q1, q2, q3⟩
          · exact Or.inl q
          · refine Or.inr ⟨q1, ?_, fun k v hk => ?_⟩
            · rw [f2.2.2 _ (by omega), EX_fn e1 (c := 157) (by decide) (by decide), od.2]; exact q2
            · have hk2 := (List.getElem?_eq_some_iff.mp hk).1
              have hl := (WY_len (o := o) hS hI hc w).1
              rw [f2.2.1 _ (by omega), EX_fn e1 (c := 156) (by decide) (by decide), g156]; exact q3 k v hk
      · rw [EX_fn f2.1 (c := 158) (by decide) (by decide), EX_fn e1 (c := 158) (by decide) (by decide)]; exact s158
    refine sp_N_states W ?_
    refine ⟨fun q => ?_, fun q => ?_⟩
    · dsimp only at q; rw [X0.1] at q
      have hS0 : 0 < S := by omega
      refine ⟨fun z2 => ?_, fun z2 => ?_⟩
      · have e1 : EX [155] [(138, 31), (138, 37)] h0 (ai_up h0 138 37 0) := EX_upp EX_rf (by decide)
        have g1 : NSg S I t o (ai_up h0 138 37 0) := by
          unfold NSg
          simp (disch := omega) only [up_oth]
          exact G0
        refine ⟨n0 W, ?_⟩
        refine N_lw_48 W TT (NX_fr X0 e1 (by decide) (by decide)) hwh hS0 (fun w1 => by omega) (by rw [up_same]) (by simp (disch := omega) only [up_oth]; exact s157) fun h2 f2 y2 => done _ h2 e1 f2 g1 y2
      · refine ⟨n0 W, ?_⟩
        refine sp_N_laysSigns W TT X0 P0 G0 fun h1 e1 g31 gs => ?_
        have e2 : EX [155] [(138, 31), (138, 37)] h0 (ai_up h1 138 37 0) := EX_upp (EX_le e1 (by decide) (by decide)) (by decide)
        refine ⟨n0 W, ?_⟩
        refine N_lw_48 W TT (NX_fr X0 e2 (by decide) (by decide)) hwh hS0 (fun w1 s hs => ?_) (by rw [up_same]) ?_ fun h2 f2 y2 => done _ h2 e2 f2 (Or.inr ⟨?_, fun s hs => ?_⟩) y2
        · simp (disch := omega) only [up_oth]; exact gs s hs
        · simp (disch := omega) only [up_oth]; rw [EX_fn e1 (c := 157) (by decide) (by decide)]; exact s157
        · simp (disch := omega) only [up_oth]; exact g31
        · simp (disch := omega) only [up_oth]; exact gs s hs
    · dsimp only at q; rw [X0.1] at q
      have eS : S = 0 := by omega
      refine q_at rfl (done h0 h0 EX_rf fxN_rf G0 ?_)
      have ew : WY S I t o wh = [] := by unfold WY; rw [if_pos eS]
      unfold LWy
      rw [ew]
      exact ⟨s157, fun k v hk => by cases hk⟩
  · refine q_at rfl (hQ h EX_rf G Y ?_)
    rcases Y wh hwh with q | ⟨q, _⟩
    · exact (z q).elim
    · exact q
theorem sp_N_way {wh k : Int} (W : NW n hr) (T : TV S I t o) (X : NX S I t o h) (P : NP S I t o h) (G : NSg S I t o h) (Y : NWy S I t o h) (h0 : ¬ ((0 ≤ wh ∧ wh < 2) ∧ 0 ≤ k) → Q (0, -1) n hr (ai_up h 138 0 0)) (h1 : ((0 ≤ wh ∧ wh < 2) ∧ 0 ≤ k) → ∀ h1, EX [155, 156, 157, 158, 159, 160] [(138, 0), (138, 31), (138, 37)] h h1 → NSg S I t o h1 → NWy S I t o h1 → Q (0, match (WY S I t o wh.toNat)[k.toNat]? with | some v => (v : Int) | none => -2) n hr h1) : f_N_way [(2, 138), (0, wh), (0, k)] n hr h Q := by
  have TT := T
  obtain ⟨hS, hI, hm, hc, hT⟩ := T
  have X1 := NX_1 (v := 0) X
  have P1 := NP_1 (v := 0) P
  have G1 : NSg S I t o (ai_up h 138 0 0) := by
    unfold NSg
    rw [up_oth (Or.inr (by decide)), EX_fn EX_1 (c := 155) (by decide) (by decide)]; exact G
  have Y1 : NWy S I t o (ai_up h 138 0 0) := NWy_fr Y (EX_fn EX_1 (by decide) (by decide)) (EX_fn EX_1 (by decide) (by decide)) (EX_fn EX_1 (by decide) (by decide))
  apply e_N_way
  simp only [n0 W, true_and]
  refine ⟨fun z => (by first | exact q_at rfl (h0 (by omega)) | exact (h0 (by omega))), fun z => ⟨fun z2 => (by first | exact q_at rfl (h0 (by omega)) | exact (h0 (by omega))), fun z2 => ⟨fun z3 => ?_, fun z3 => (by first | exact q_at rfl (h0 (by omega)) | exact (h0 (by omega)))⟩⟩⟩
  obtain ⟨w, rfl⟩ := Int.eq_ofNat_of_zero_le z
  obtain ⟨i, rfl⟩ := Int.eq_ofNat_of_zero_le z3
  refine sp_N_laysWay W TT X1 P1 G1 Y1 (by omega) fun h2 e2 g2 y2 s2 => ?_
  have H := h1 ⟨by omega, by omega⟩ h2 (EX_tr (EX_le EX_1 (by decide) (by decide)) (EX_le e2 (by decide) (by decide))) g2 y2
  have len := (WY_len (o := o) hS hI hc w).1
  rcases y2 w (by omega) with q | ⟨_, q1, q2⟩
  · omega
  · simp (disch := omega) only [n0 W, nr_32 W, nr_33 W, q1, w32_id, true_and]
    repeat (refine ⟨by omega, ?_⟩)
    rw [Int.toNat_natCast, Int.toNat_natCast] at H
    refine ⟨fun z4 => ?_, fun z4 => ?_⟩
    · rw [List.getElem?_eq_none (by omega)] at H
      exact (by first | exact q_at rfl (H) | exact (H))
    · repeat (refine ⟨by omega, ?_⟩)
      have hs := List.getElem?_eq_getElem (l := WY S I t o w) (i := i) (by omega)
      rw [hs] at H
      have := q2 i _ hs
      rw [w32_id (x := 400 * (w : Int) + (i : Int)) (by omega) (by omega), this]
      repeat (refine ⟨by omega, ?_⟩)
      exact (by first | exact q_at rfl (H) | exact (H))
end
