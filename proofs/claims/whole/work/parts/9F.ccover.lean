-- deps: 18 19 20 21 23 24 25 26 27 28 29 22 30 31 32 33 34 35 38 39 40 41 42 43 44 45 46 47 48 49 50 51 62 63 64 65 66 67 68 69 70 71 72 73 74 75 76 77 78 79 80 81 82 83 84 85 86 87 88 89 91 92 93 94 95 99 9C 9D 9E
/-! the class: tests that together notice all -/
section
variable {Q : RP} {n : Nat} {hr h : HP} {S I : Nat} {t o t' o' : Int → Int}
/-- test k of suite su notices the m-th small fault -/
def Fm (S I : Nat) (t o : Int → Int) (e su k m : Nat) : Prop := m < UN S I t o ∧ fl t o (tMu S I t o m) (oMu S I t o m) (SWl S I t o e su) k
noncomputable def vCv (S I : Nat) (t o : Int → Int) (e su : Nat) : Nat := cvG (Fm S I t o e su) (SWl S I t o e su).length 252 fun _ => True
theorem fl_at {lf : List Nat} {k : Nat} (h : fl t o t' o' lf k) : k < lf.length := by
  obtain ⟨w, h1, _⟩ := h
  exact (List.getElem?_eq_some_iff.mp h1).1
/-- which are done -/
def Dn (F : Nat → Nat → Prop) (K j k m : Nat) : Prop := (m < K ∨ (m = K ∧ k < j)) ∧ F k m
def FB (F : Nat → Nat → Prop) (N : Nat) (h : HP) (K j : Nat) : Prop := (∀ k p i : Nat, k < N → p < 8 → i < 32 → (bt (h 116 (8 * (k : Int) + (p : Int))) i = true ↔ Dn F K j k (32 * p + i))) ∧ ∀ p i : Nat, p < 8 → i < 32 → (bt (h 117 (p : Int)) i = true ↔ ∃ k, k < N ∧ Dn F K j k (32 * p + i))
theorem FB_n {F : Nat → Nat → Prop} {N K j : Nat} (H : FB F N h K j) (hn : ¬ F j K) : FB F N h K (j + 1) := by
  have e : ∀ k m, Dn F K (j + 1) k m ↔ Dn F K j k m := fun k m => by
    constructor
    · rintro ⟨q | ⟨q, q2⟩, f⟩
      · exact ⟨Or.inl q, f⟩
      · refine ⟨Or.inr ⟨q, ?_⟩, f⟩
        have : k ≠ j := fun y => hn (by subst y; subst q; exact f)
        omega
    · rintro ⟨q | ⟨q, q2⟩, f⟩
      · exact ⟨Or.inl q, f⟩
      · exact ⟨Or.inr ⟨q, by omega⟩, f⟩
  unfold FB
  simp only [e]
  exact H
theorem FB_y {F : Nat → Nat → Prop} {N K j : Nat} {x y : Int} (H : FB F N h K j) (hK : K < 256) (hj : j < N) (hy : F j K) (hx : x = i_or (h 116 (8 * (j : Int) + ((K / 32 : Nat) : Int))) (i_shl 1 ((K % 32 : Nat) : Int))) (hyy : y = i_or (h 117 ((K / 32 : Nat) : Int)) (i_shl 1 ((K % 32 : Nat) : Int))) : FB F N (ai_up (ai_up h 116 (8 * (j : Int) + ((K / 32 : Nat) : Int)) x) 117 ((K / 32 : Nat) : Int) y) K (j + 1) := by
  have e : ∀ k m, Dn F K (j + 1) k m ↔ (Dn F K j k m ∨ (k = j ∧ m = K)) := fun k m => by
    constructor
    · rintro ⟨q | ⟨q, q2⟩, f⟩
      · exact Or.inl ⟨Or.inl q, f⟩
      · by_cases z : k = j
        · exact Or.inr ⟨z, q⟩
        · exact Or.inl ⟨Or.inr ⟨q, by omega⟩, f⟩
    · rintro (⟨q | ⟨q, q2⟩, f⟩ | ⟨q, q2⟩)
      · exact ⟨Or.inl q, f⟩
      · exact ⟨Or.inr ⟨q, by omega⟩, f⟩
      · subst q; subst q2; exact ⟨Or.inr ⟨rfl, by omega⟩, hy⟩
  have m31 : K % 32 < 32 := Nat.mod_lt _ (by decide)
  refine ⟨fun k p i hk hp hi => ?_, fun p i hp hi => ?_⟩
  · rw [e, ← H.1 k p i hk hp hi, up_oth (by omega)]
    by_cases z : k = j ∧ p = K / 32
    · obtain ⟨rfl, rfl⟩ := z
      rw [up_same, hx, bt_or, bt_shl1 m31 hi, Bool.or_eq_true, decide_eq_true_eq]
      refine or_congr Iff.rfl ⟨fun q => ⟨rfl, by omega⟩, fun q => by omega⟩
    · rw [up_oth (by omega)]
      exact ⟨Or.inl, fun q => q.elim id fun q => absurd ⟨q.1, by omega⟩ z⟩
  · simp only [e]
    have old := H.2 p i hp hi
    by_cases z : p = K / 32
    · subst z
      rw [up_same, hyy, bt_or, bt_shl1 m31 hi, Bool.or_eq_true, decide_eq_true_eq, old]
      constructor
      · rintro (⟨k, k1, k2⟩ | q)
        · exact ⟨k, k1, Or.inl k2⟩
        · exact ⟨j, hj, Or.inr ⟨rfl, by omega⟩⟩
      · rintro ⟨k, k1, k2 | ⟨k2, k3⟩⟩
        · exact Or.inl ⟨k, k1, k2⟩
        · exact Or.inr (by omega)
    · rw [up_oth (by omega), up_oth (by omega), old]
      constructor
      · rintro ⟨k, k1, k2⟩; exact ⟨k, k1, Or.inl k2⟩
      · rintro ⟨k, k1, k2 | ⟨k2, k3⟩⟩
        · exact ⟨k, k1, k2⟩
        · omega
theorem FB_s {F : Nat → Nat → Prop} {N K : Nat} (H : FB F N h K N) : FB F N h (K + 1) 0 := by
  have e : ∀ k m, k < N → (Dn F (K + 1) 0 k m ↔ Dn F K N k m) := fun k m hk => by
    constructor
    · rintro ⟨q | ⟨q, q2⟩, f⟩
      · by_cases z : m = K
        · exact ⟨Or.inr ⟨z, hk⟩, f⟩
        · exact ⟨Or.inl (by omega), f⟩
      · omega
    · rintro ⟨q | ⟨q, q2⟩, f⟩
      · exact ⟨Or.inl (by omega), f⟩
      · exact ⟨Or.inl (by omega), f⟩
  refine ⟨fun k p i hk hp hi => by rw [e k _ hk]; exact H.1 k p i hk hp hi, fun p i hp hi => ?_⟩
  rw [H.2 p i hp hi]
  constructor
  · rintro ⟨k, k1, k2⟩; exact ⟨k, k1, (e k _ k1).mpr k2⟩
  · rintro ⟨k, k1, k2⟩; exact ⟨k, k1, (e k _ k1).mp k2⟩
/-- all is there; what is left -/
def FR (F : Nat → Nat → Prop) (N : Nat) (R : Nat → Prop) (h : HP) : Prop := (∀ k p i : Nat, k < N → p < 8 → i < 32 → (bt (h 116 (8 * (k : Int) + (p : Int))) i = true ↔ F k (32 * p + i))) ∧ ∀ p i : Nat, p < 8 → i < 32 → (bt (h 117 (p : Int)) i = true ↔ R (32 * p + i))
def fxFl (h h1 : HP) : Prop := EX [45, 104, 105, 116, 117] [(103, 2), (103, 3)] h h1
theorem sp_U_learnFailing {e su : Nat} (V : CW n hr) (T : TV S I t o) (C : CMx S I t o h) (he : e < 3) (hsu : su < 2) (G : GTs S I t o e su h) (hQ : ∀ h1, fxFl h h1 → CTl h1 → FR (Fm S I t o e su) (SWl S I t o e su).length (fun m => ∃ k, k < (SWl S I t o e su).length ∧ Fm S I t o e su k m) h1 → Q (9, 0) n hr h1) : f_U_learnFailing [(2, 102), (2, gx e su), (0, ((SWl S I t o e su).length : Int))] n hr h Q := by
  have TT := T
  obtain ⟨hS, hI, hm, hc, hT⟩ := T
  have M := mr_13 V
  have M1 := mr_103 V
  have ub := UN_b hm hS hI
  obtain ⟨nl, tl0, R, l1, l2⟩ := gx_row (o := o) V hS hI hm hc he (show su < 4 by omega)
  have ok := OSs_ok (o := o) hS hI hm hc (su := su) he
  have gb := gx_b he (show su < 4 by omega)
  have lf9 := (SWl_ok (o := o) hS hI hm hc (su := su) he).1
  have nl9 := R.2.2.2.2.2.2.2.2.1
  generalize hF : Fm S I t o e su = F at *
  generalize hN : (SWl S I t o e su).length = N at *
  apply e_U_learnFailing
  simp (disch := omega) only [ok_102 V.1, cr_102_12 V, cr_102_13 V, true_and]
  refine sp_J_fill (ok_116 V.1) ?_
  simp (disch := omega) only [ok_102 V.1, cr_102_12 V, cr_102_13 V, true_and]
  refine sp_J_fill (ok_117 V.1) ?_
  simp (disch := omega) only [ok_102 V.1, cr_102_0 V, cr_102_3 V, ok_103 V.1, ok_13 V.1, true_and]
  generalize hh : ai_fl (ai_fl h 116 7000 fun _ => 0) 117 (ai_l 117) (fun _ => 0) = h2
  have e2 : EX [116, 117] [] h h2 := by
    intro c j hc hp
    simp only [List.mem_cons, List.not_mem_nil, or_false, not_or] at hc
    rw [← hh, fl_out (by omega), fl_out (by omega)]
  have z6 : ∀ j : Int, 0 ≤ j → j < 7000 → h2 116 j = 0 := fun j j0 j1 => by
    rw [← hh, fl_out (by decide)]
    exact fl_in (k := 7000) j0 j1
  have z7 : ∀ j : Int, 0 ≤ j → j < 8 → h2 117 j = 0 := fun j j0 j1 => by
    rw [← hh]
    exact fl_in (k := 8) j0 j1
  have fb0 : FB F N h2 0 0 := by
    refine ⟨fun k p i hk hp hi => ?_, fun p i hp hi => ?_⟩
    · rw [z6 _ (by omega) (by omega), bt_0]
      exact ⟨fun q => (by cases q), fun ⟨q, _⟩ => by omega⟩
    · rw [z7 _ (by omega) (by omega), bt_0]
      exact ⟨fun q => (by cases q), fun ⟨k, _, q, _⟩ => by omega⟩
  have f2 : fxFl h h2 := EX_le e2 (by decide) (by decide)
  have Cx : ∀ {h1 : HP}, fxFl h h1 → CX S I t o h1 ∧ CMp S I t o h1 (UN S I t o) := fun f => ⟨CX_fr C.1 f (by decide) (by decide), by
    unfold CMp; rw [f 102 15 (by decide) (by decide), EX_fn f (c := 109) (by decide) (by decide)]; exact C.2⟩
  refine sp_M_copy M1 M (by omega) (t := t) (o := o) ⟨(Cx f2).1.2.2.1, (Cx f2).1.2.2.2⟩ fun h3 e3 r3 p3 i3 => ?_
  have f3 : fxFl h h3 := EX_tr f2 (EX_le e3 (by decide) (by decide))
  have fbk : ∀ {K j : Nat} {ha hb : HP}, hb 116 = ha 116 → hb 117 = ha 117 → FB F N ha K j → FB F N hb K j := fun a b H => by
    unfold FB; rw [a, b]; exact H
  have main := lupN (N := UN S I t o) (P := fun K => ∀ h3, fxFl h h3 → TRm 103 t o h3 → FB F N h3 K 0 → p_U_learnFailing_29 (n + 0) (ai_q 0 n Q) 102 (gx e su) (N : Int) (K : Int) n hr h3) ?_ ?_
  · exact main h3 f3 r3 (fbk (EX_fn e3 (by decide) (by decide)) (EX_fn e3 (by decide) (by decide)) fb0)
  · intro h4 f4 r4 fb
    refine b_U_learnFailing_29 ?_
    simp only [ok_102 V.1, (Cx f4).2.1, true_and]
    refine ⟨fun _ => q_at rfl (hQ h4 f4 (CTl_of hm r4) ⟨fun k p i hk hp hi => ?_, fun p i hp hi => ?_⟩), fun y => by omega⟩
    · rw [fb.1 k p i hk hp hi]
      exact ⟨fun q => q.2, fun q => ⟨Or.inl (by rw [← hF] at q; exact q.1), q⟩⟩
    · rw [fb.2 p i hp hi]
      exact ⟨fun ⟨k, k1, k2⟩ => ⟨k, k1, k2.2⟩, fun ⟨k, k1, k2⟩ => ⟨k, k1, Or.inl (by rw [← hF] at k2; exact k2.1), k2⟩⟩
  · intro K hK ih h4 f4 r4 fb
    have mk := mok_Mu hm hS hI hc hK
    refine b_U_learnFailing_29 ?_
    simp only [ok_102 V.1, cr_102_3 V, ok_103 V.1, (Cx f4).2.1, true_and]
    refine ⟨fun y => by omega, fun _ => ?_⟩
    refine sp_U_dress V TT M1 (by omega) (Cx f4).2 hK r4 fun h5 e5 r5 => ?_
    have f5 : fxFl h h5 := EX_tr f4 (EX_le e5 (by decide) (by decide))
    have G5 : GTs S I t o e su h5 := GT_fr he (by omega) G fun c' c1 c2 => EX_sy f5 (c := c') (by simp; omega) (fun j => by simp; omega)
    simp only [ok_102 V.1, cr_102_3 V, ok_103 V.1, R.1, true_and]
    refine sp_E_run_g R gb M1 (by omega) hm mk r5.1 r5.2 G5.1 ok.1 ok.2.1 l1 fun h6 e6 at6 => ?_
    have f6 : fxFl h h6 := EX_tr f5 (EX_le e6 (by decide) (by decide))
    have fb6 : FB F N h6 K 0 := fbk (by rw [EX_fn e6 (c := 116) (by decide) (by decide), EX_fn e5 (c := 116) (by decide) (by decide)]) (by rw [EX_fn e6 (c := 117) (by decide) (by decide), EX_fn e5 (c := 117) (by decide) (by decide)]) fb
    have r6 : TRm 103 (tMu S I t o K) (oMu S I t o K) h6 := TRm_fr r5 (EX_fn e6 (by decide) (by decide)) (EX_fn e6 (by decide) (by decide))
    have inner := lupN (N := N) (P := fun j => ∀ h7, EX [116, 117] [] h6 h7 → FB F N h7 K j → p_U_learnFailing_57 (n + 0) (ai_q 0 n Q) 102 (gx e su) (N : Int) (K : Int) (j : Int) n hr h7) ?_ ?_
    · exact inner h6 EX_rf fb6
    · intro h7 e7 fb7
      have f7 : fxFl h h7 := EX_tr f6 (EX_le e7 (by decide) (by decide))
      have r7 : TRm 103 (tMu S I t o K) (oMu S I t o K) h7 := TRm_fr r6 (EX_fn e7 (by decide) (by decide)) (EX_fn e7 (by decide) (by decide))
      refine b_U_learnFailing_57 ⟨fun _ => ?_, fun y => by omega⟩
      simp only [ok_102 V.1, cr_102_3 V, ok_103 V.1, true_and]
      refine sp_U_undress V TT (Cx f7).1 M1 (by omega) (Cx f7).2 hK r7 fun h8 e8 r8 => ?_
      rw [w32_id (by omega) (by omega)]
      exact ih h8 (EX_tr f7 (EX_le e8 (by decide) (by decide))) r8 (fbk (EX_fn e8 (by decide) (by decide)) (EX_fn e8 (by decide) (by decide)) (FB_s fb7))
    · intro j hj ihj h7 e7 fb7
      have f7 : fxFl h h7 := EX_tr f6 (EX_le e7 (by decide) (by decide))
      have G7 : GTs S I t o e su h7 := GT_fr he (by omega) G fun c' c1 c2 => EX_sy f7 (c := c') (by simp; omega) (fun j => by simp; omega)
      have at7 : ATS t o (tMu S I t o K) (oMu S I t o K) h7 (OSs S I t o e su) (OSs S I t o e su).length := by
        unfold ATS; rw [EX_fn e7 (c := 45) (by decide) (by decide)]; exact at6
      refine b_U_learnFailing_57 ⟨fun y => by omega, fun _ => ?_⟩
      simp only [R.1, true_and]
      refine sp_E_isFailed R mk G7.2.1 (by rw [hN]; exact l2) (by omega) ok.2.1 at7 (by omega) (fun q => ?_) (fun q => ?_)
      · have yF : F j K := by rw [← hF]; exact ⟨hK, q⟩
        have d5 : i_shr (K : Int) 5 = ((K / 32 : Nat) : Int) := by rw [shr_5 (by omega) (by omega)]; omega
        have d31 : i_and (K : Int) 31 = ((K % 32 : Nat) : Int) := by rw [and_31 (by omega) (by omega)]; omega
        have ej : (j : Int) * 8 + ((K / 32 : Nat) : Int) = 8 * (j : Int) + ((K / 32 : Nat) : Int) := by omega
        refine ⟨fun y => absurd y (by decide), fun _ => ?_⟩
        simp (disch := omega) only [ok_102 V.1, cr_102_12 V, cr_102_13 V, d5, d31, w32_id, ej, up_oth, true_and]
        repeat (refine ⟨by omega, ?_⟩)
        exact ihj _ (EX_upc (EX_upc e7 (by decide)) (by decide)) (FB_y fb7 (by omega) hj yF rfl rfl)
      · have nF : ¬ F j K := by rw [← hF]; exact fun y => q y.2
        refine ⟨fun _ => ?_, fun y => absurd rfl y⟩
        rw [w32_id (by omega) (by omega)]
        exact ihj h7 e7 (FB_n fb7 nF)
theorem sp_U_bestTest {F : Nat → Nat → Prop} {R : Nat → Prop} {N : Nat} (V : CW n hr) (hN : N ≤ 875) (hF : ∀ k m, F k m → m < 252) (G : FR F N R h) (hQ : Q (0, (bsG F R N).1) n hr h) : f_U_bestTest [(2, 102), (0, (N : Int))] n hr h Q := by
  apply e_U_bestTest
  have main := lupN (N := N) (P := fun k => p_U_bestTest_7 (n + 0) (ai_q 0 n Q) 102 (N : Int) (bsG F R k).1 ((bsG F R k).2 : Int) (k : Int) n hr h) ?_ ?_
  · exact main
  · exact b_U_bestTest_7 ⟨fun _ => q_at rfl hQ, fun z => by omega⟩
  · intro k hk ih
    refine b_U_bestTest_7 ⟨fun z => by omega, fun _ => ?_⟩
    have nb := nbG_252 (R := R) hF (k := k)
    have inner := lupN (N := 8) (P := fun p => p_U_bestTest_19 (n + 0) (ai_q 0 n Q) 102 (N : Int) (bsG F R k).1 ((bsG F R k).2 : Int) (k : Int) (cntP (fun m => F k m ∧ R m) (32 * p) : Int) (p : Int) n hr h) ?_ ?_
    · exact inner
    · refine b_U_bestTest_19 ⟨fun _ => ?_, fun z => by omega⟩
      have e : cntP (fun m => F k m ∧ R m) (32 * 8) = nbG F R k := rfl
      rw [e, w32_id (by omega) (by omega)]
      rw [bsG] at ih
      refine ⟨fun q => ?_, fun q => ?_⟩
      · rw [if_neg (by omega)] at ih; exact ih
      · rw [if_pos (by omega)] at ih; exact ih
    · intro p hp ihp
      have blk := cntP_blk (P := fun m => F k m ∧ R m) (a := 32 * p) (b := 32) (f := fun i => bt (i_and (h 116 (8 * (k : Int) + (p : Int))) (h 117 (p : Int))) i) fun i hi => by
        show bt _ i = true ↔ _
        rw [bt_and, Bool.and_eq_true, G.1 k p i hk hp hi, G.2 p i hp hi]
      have c1 := cntP_le (fun m => F k m ∧ R m) (32 * p)
      have c2 := cntB_le (fun i => bt (i_and (h 116 (8 * (k : Int) + (p : Int))) (h 117 (p : Int))) i) 32
      have ej : (k : Int) * 8 + (p : Int) = 8 * (k : Int) + (p : Int) := by omega
      refine b_U_bestTest_19 ⟨fun z => by omega, fun _ => ?_⟩
      simp (disch := omega) only [ok_102 V.1, cr_102_12 V, cr_102_13 V, w32_id, ej, true_and]
      repeat (refine ⟨by omega, ?_⟩)
      refine sp_J_bits ?_
      dsimp only
      rw [show 32 * (p + 1) = 32 * p + 32 by omega, blk] at ihp
      rw [w32_id (by omega) (by omega)]
      have e2 : ((cntP (fun m => F k m ∧ R m) (32 * p) + cntB (fun i => bt (i_and (h 116 (8 * (k : Int) + (p : Int))) (h 117 (p : Int))) i) 32 : Nat) : Int) = (cntP (fun m => F k m ∧ R m) (32 * p) : Int) + (cntB (fun i => bt (i_and (h 116 (8 * (k : Int) + (p : Int))) (h 117 (p : Int))) i) 32 : Int) := by omega
      rw [← e2]
      exact ihp
theorem sp_U_cover {e su : Nat} (V : CW n hr) (T : TV S I t o) (C : CMx S I t o h) (he : e < 3) (hsu : su < 2) (G : GTs S I t o e su h) (hQ : ∀ h1, fxFl h h1 → CTl h1 → Q (0, (vCv S I t o e su : Int)) n hr h1) : f_U_cover [(2, 102), (2, gx e su)] n hr h Q := by
  have TT := T
  obtain ⟨hS, hI, hm, hc, hT⟩ := T
  have ub := UN_b hm hS hI
  obtain ⟨nl, tl0, R, l1, l2⟩ := gx_row (o := o) V hS hI hm hc he (show su < 4 by omega)
  have lf9 := (SWl_ok (o := o) hS hI hm hc (su := su) he).1
  have mn : i_min (h (gx e su) 8) 875 = ((SWl S I t o e su).length : Int) := by
    rw [G.2.1.1]; unfold i_min; split <;> omega
  have hF : ∀ k m, Fm S I t o e su k m → m < 252 := fun k m q => by have := q.1; omega
  apply e_U_cover
  simp only [ok_102 V.1, R.1, mn, true_and]
  refine sp_U_learnFailing V TT C he hsu G fun h1 f1 t1 r1 => ?_
  have v0 : vCv S I t o e su = cvG (Fm S I t o e su) (SWl S I t o e su).length 252 (fun m => ∃ k, k < (SWl S I t o e su).length ∧ Fm S I t o e su k m) := cvG_ext 252 _ _ fun j hj m hm' => ⟨fun _ => ⟨j, hj, hm'⟩, fun _ => trivial⟩
  rw [v0] at hQ
  generalize (fun m => ∃ k, k < (SWl S I t o e su).length ∧ Fm S I t o e su k m) = R0 at *
  generalize (SWl S I t o e su).length = N at *
  generalize Fm S I t o e su = F at *
  have key : ∀ f j : Nat, j + f = 252 → ∀ R' h2, EX [117] [] h1 h2 → FR F N R' h2 → j + cvG F N f R' = cvG F N 252 R0 → p_U_cover_22 (n + 0) (ai_q 0 n Q) 102 (N : Int) (j : Int) (j : Int) n hr h2 := by
    intro f
    induction f with
    | zero =>
      intro j hj R' h2 e2 r2 tot
      have H := hQ h2 (EX_tr f1 (EX_le e2 (by decide) (by decide))) (by unfold CTl; rw [EX_fn e2 (c := 104) (by decide) (by decide), EX_fn e2 (c := 105) (by decide) (by decide)]; exact t1)
      rw [← tot] at H
      exact b_U_cover_22 ⟨fun _ => (by first | exact q_at rfl (H) | exact (H)), fun z => by omega⟩
    | succ f ih =>
      intro j hj R' h2 e2 r2 tot
      refine b_U_cover_22 ⟨fun z => by omega, fun _ => ?_⟩
      simp only [ok_102 V.1, true_and]
      refine sp_U_bestTest V lf9 hF r2 ?_
      dsimp only
      rw [cvG] at tot
      rcases bsG_b (F := F) (R := R') N with ⟨b1, b2, b3⟩ | ⟨b, b1, b2, b3, b4⟩
      · rw [if_pos (by omega)] at tot
        have H := hQ h2 (EX_tr f1 (EX_le e2 (by decide) (by decide))) (by unfold CTl; rw [EX_fn e2 (c := 104) (by decide) (by decide), EX_fn e2 (c := 105) (by decide) (by decide)]; exact t1)
        rw [← tot] at H
        refine ⟨fun z => by omega, fun _ => (by first | exact q_at rfl (H) | exact (H))⟩
      · rw [if_neg (by omega), b1, Int.toNat_natCast] at tot
        rw [b1]
        refine ⟨fun _ => ?_, fun z => by omega⟩
        have inner := lupN (N := 8) (P := fun p => ∀ h3, EX [117] [] h1 h3 → ((∀ k p i : Nat, k < N → p < 8 → i < 32 → (bt (h3 116 (8 * (k : Int) + (p : Int))) i = true ↔ F k (32 * p + i))) ∧ ∀ q i : Nat, q < 8 → i < 32 → (bt (h3 117 (q : Int)) i = true ↔ (R' (32 * q + i) ∧ (q < p → ¬ F b (32 * q + i))))) → p_U_cover_48 (n + 0) (ai_q 0 n Q) 102 (N : Int) (j : Int) (j : Int) (b : Int) (p : Int) n hr h3) ?_ ?_
        · refine inner h2 e2 ⟨r2.1, fun q i hq hi => ?_⟩
          rw [r2.2 q i hq hi]
          exact ⟨fun x => ⟨x, fun y => by omega⟩, fun x => x.1⟩
        · intro h3 e3 r3
          refine b_U_cover_48 ⟨fun _ => ?_, fun z => by omega⟩
          rw [w32_id (by omega) (by omega)]
          refine ih (j + 1) (by omega) (tkG F R' b) h3 e3 ⟨r3.1, fun q i hq hi => ?_⟩ (by omega)
          rw [r3.2 q i hq hi]
          exact ⟨fun x => ⟨x.1, x.2 hq⟩, fun x => ⟨x.1, fun _ => x.2⟩⟩
        · intro p hp ihp h3 e3 r3
          have ej : (b : Int) * 8 + (p : Int) = 8 * (b : Int) + (p : Int) := by omega
          refine b_U_cover_48 ⟨fun z => by omega, fun _ => ?_⟩
          simp (disch := omega) only [ok_102 V.1, cr_102_12 V, cr_102_13 V, w32_id, ej, true_and]
          repeat (refine ⟨by omega, ?_⟩)
          refine ihp _ (EX_upc e3 (by decide)) ⟨fun k q i hk hq hi => ?_, fun q i hq hi => ?_⟩
          · rw [up_oth (by omega)]; exact r3.1 k q i hk hq hi
          · by_cases y : q = p
            · subst y
              rw [up_same, bt_and, bt_not _ hi, Bool.and_eq_true, Bool.not_eq_true', r3.2 q i hq hi]
              have fb := r3.1 b q i b2 hq hi
              constructor
              · rintro ⟨⟨x1, _⟩, x2⟩
                exact ⟨x1, fun _ g => by rw [fb.mpr g] at x2; cases x2⟩
              · rintro ⟨x1, x2⟩
                refine ⟨⟨x1, fun g => by omega⟩, ?_⟩
                cases x : bt (h3 116 (8 * (b : Int) + (q : Int))) i
                · rfl
                · exact (x2 (by omega) (fb.mp x)).elim
            · rw [up_oth (by omega), r3.2 q i hq hi]
              exact ⟨fun x => ⟨x.1, fun g => x.2 (by omega)⟩, fun x => ⟨x.1, fun g => x.2 (by omega)⟩⟩
  exact key 252 0 rfl R0 h1 EX_rf r1 (Nat.zero_add _)
/-- how many together notice all; known -/
def CCv (S I : Nat) (t o : Int → Int) (e : Nat) (h : HP) : Prop := ∀ su : Nat, su < 2 → h 113 (su : Int) = -9 ∨ h 113 (su : Int) = (vCv S I t o e su : Int)
theorem sp_U_coveredBy {e su : Nat} (V : CW n hr) (T : TV S I t o) (C : CMx S I t o h) (tq : CTl h) (N : CCv S I t o e h) (he : e < 3) (hsu : su < 2) (G : GTs S I t o e su h) (hQ : ∀ h1, EX [45, 104, 105, 113, 116, 117] [(103, 2), (103, 3)] h h1 → CTl h1 → CCv S I t o e h1 → Q (0, (vCv S I t o e su : Int)) n hr h1) : f_U_coveredBy [(2, 102), (0, (su : Int)), (2, gx e su)] n hr h Q := by
  apply e_U_coveredBy
  simp (disch := omega) only [ok_102 V.1, cr_102_9 V, true_and]
  repeat (refine ⟨by omega, ?_⟩)
  refine ⟨fun z => ?_, fun z => ?_⟩
  · repeat (refine ⟨by omega, ?_⟩)
    rcases N su hsu with q | q
    · exact absurd q z
    · rw [q]; exact (by first | exact q_at rfl (hQ h EX_rf tq N) | exact (hQ h EX_rf tq N))
  · refine sp_U_cover V T C he hsu G fun h1 f1 t1 => ?_
    simp (disch := omega) only [ok_102 V.1, cr_102_9 V, up_same, true_and]
    repeat (refine ⟨by omega, ?_⟩)
    have H := hQ (ai_up h1 113 (su : Int) (vCv S I t o e su : Int)) (EX_upc (EX_le f1 (by decide) (by decide)) (by decide)) ?_ ?_
    · exact (by first | exact q_at rfl (H) | exact (H))
    · unfold CTl at t1 ⊢
      rw [show (ai_up h1 113 (su : Int) (vCv S I t o e su : Int)) 104 = h1 104 by funext q; rw [up_oth (by omega)], show (ai_up h1 113 (su : Int) (vCv S I t o e su : Int)) 105 = h1 105 by funext q; rw [up_oth (by omega)]]
      exact t1
    · intro s hs
      by_cases y : s = su
      · subst y; rw [up_same]; exact Or.inr rfl
      · rw [up_oth (by omega), EX_fn f1 (c := 113) (by decide) (by decide)]; exact N s hs
end
