-- deps: 18 19 20 21 23 24 25 26 27 28 29 22 30 31 32 33 34 35 36 37 38 39 40 41 42 43 44 45 46 47 48 49 50 62 63 64 65 66 67 68 69 70 71 72 73 74 75 76 77 78 79 80 81 82 83 84 85 86 87 88 89
/-! the reference: verdict, enough, witness -/
section
variable {Q : RP} {n : Nat} {hr h : HP} {S I : Nat} {t o t' o' : Int → Int}
/-- what a call answers of the tests that fail -/
noncomputable def vVe (t o t' o' : Int → Int) (lf : List Nat) (what : Int) : Int := if what = 0 then (cntP (fl t o t' o' lf) lf.length : Int) else if fw (fl t o t' o' lf) < 0 then -2 else if what = 1 then fw (fl t o t' o' lf) else if what = 2 then WPl t o t' o' (lf[(fw (fl t o t' o' lf)).toNat]?.getD 0) else WOu t o t' o' (lf[(fw (fl t o t' o' lf)).toNat]?.getD 0)
def FF (t o t' o' : Int → Int) (lf : List Nat) (k : Nat) (v : Int) : Prop := (v = -2 ∧ ∀ j, j < k → ¬ fl t o t' o' lf j) ∨ ∃ j : Nat, v = (j : Int) ∧ j < k ∧ fl t o t' o' lf j ∧ ∀ i, i < j → ¬ fl t o t' o' lf i
theorem fl_lt {lf : List Nat} {k : Nat} (h : fl t o t' o' lf k) : k < lf.length := by
  obtain ⟨w, h1, h2⟩ := h
  exact (List.getElem?_eq_some_iff.mp h1).1
theorem FF_end {lf : List Nat} {v : Int} (h : FF t o t' o' lf lf.length v) : v = fw (fl t o t' o' lf) := by
  rcases h with ⟨h1, h2⟩ | ⟨j, h1, h2, h3, h4⟩
  · rw [h1, fw_no fun w hw => h2 w (fl_lt hw) hw]
  · rw [h1, fw_at h3 h4]
theorem FF_n {lf : List Nat} {k : Nat} {v : Int} (h : FF t o t' o' lf k v) (hn : ¬ fl t o t' o' lf k) : FF t o t' o' lf (k + 1) v := by
  rcases h with ⟨h1, h2⟩ | ⟨j, h1, h2, h3⟩
  · refine Or.inl ⟨h1, fun j hj => ?_⟩
    by_cases y : j = k
    · subst y; exact hn
    · exact h2 j (by omega)
  · exact Or.inr ⟨j, h1, by omega, h3⟩
theorem FF_y1 {lf : List Nat} {k : Nat} {v : Int} (h : FF t o t' o' lf k v) (z : v ≠ -2) : FF t o t' o' lf (k + 1) v := by
  rcases h with ⟨h1, h2⟩ | ⟨j, h1, h2, h3⟩
  · exact absurd h1 z
  · exact Or.inr ⟨j, h1, by omega, h3⟩
theorem FF_y0 {lf : List Nat} {k : Nat} {v : Int} (h : FF t o t' o' lf k v) (hy : fl t o t' o' lf k) (z : v = -2) : FF t o t' o' lf (k + 1) (k : Int) := by
  rcases h with ⟨h1, h2⟩ | ⟨j, h1, h2, h3⟩
  · exact Or.inr ⟨k, rfl, by omega, hy, h2⟩
  · omega
theorem sp_N_verdict {su what : Int} {e : Nat} (W : NW n hr) (T : TV S I t o) (B : NB S I t o e h) (hm' : mok t' o') (M : NM 24 t' o' h) (he : e < 3) (h0 : ¬ ((0 ≤ su ∧ su ≤ 3) ∧ 0 ≤ what ∧ what ≤ 3) → Q (0, -1) n hr (ai_up h 138 0 0)) (h1 : (0 ≤ su ∧ su ≤ 3) → (0 ≤ what ∧ what ≤ 3) → ∀ h1, fxS h h1 → NB S I t o e h1 → Q (0, vVe t o t' o' (SWl S I t o e su.toNat) what) n hr h1) : f_N_verdict [(2, 138), (0, su), (0, what)] n hr h Q := by
  have TT := T
  obtain ⟨hS, hI, hm, hc, hT⟩ := T
  have B1 : NB S I t o e (ai_up h 138 0 0) := NB_1 B
  have fM : ∀ {h1 : HP}, fxS h h1 → NM 24 t' o' h1 := fun f => NM_fr M (EX_fn f (by decide) (by decide)) (EX_fn f (by decide) (by decide))
  apply e_N_verdict
  refine ⟨n0 W, fun z => (by first | exact q_at rfl (h0 (by omega)) | exact (h0 (by omega))), fun z => ⟨fun z2 => (by first | exact q_at rfl (h0 (by omega)) | exact (h0 (by omega))), fun z2 => ⟨fun z3 => (by first | exact q_at rfl (h0 (by omega)) | exact (h0 (by omega))), fun z3 => ⟨fun z4 => ?_, fun z4 => (by first | exact q_at rfl (h0 (by omega)) | exact (h0 (by omega)))⟩⟩⟩⟩
  obtain ⟨s, rfl⟩ := Int.eq_ofNat_of_zero_le z
  have H := h1 ⟨z, z2⟩ ⟨z3, z4⟩
  rw [Int.toNat_natCast] at H
  have ok := SWl_ok (o := o) hS hI hm hc (su := s) he
  have e1 : fxS h (ai_up h 138 0 0) := EX_le EX_1 (by decide) (by decide)
  have go : ∀ h1, fxS h h1 → NB S I t o e h1 → RY S I t o h1 s → f_N_testsOf [(2, 138), (0, (s : Int))] n hr h1 (fun r1 n1 hr1 h1 => p_N_verdict_53 (n + 0) (ai_q 0 n Q) 138 (s : Int) what r1.2 (-2) 0 0 n1 hr1 h1) := by
    intro h1 f1 b1 y1
    refine sp_N_testsOf_g W TT b1 (by omega) he fun h2 a b2 => ?_
    dsimp only
    generalize hlf : SWl S I t o e s = lf at *
    have loop := lupN (N := lf.length) (P := fun k => ∀ h2 v, fxS h h2 → NB S I t o e h2 → RY S I t o h2 s → FF t o t' o' lf k v → (2 ≤ s → 0 < k → v ≠ -2 → h2 138 41 = WPl t o t' o' (lf[0]?.getD 0) ∧ h2 138 42 = WOu t o t' o' (lf[0]?.getD 0)) → p_N_verdict_53 (n + 0) (ai_q 0 n Q) 138 (s : Int) what (lf.length : Int) v (cntP (fl t o t' o' lf) k : Int) (k : Int) n hr h2) ?_ ?_
    · exact loop h2 (-2) (EX_tr f1 (EX_le a (by decide) (by decide))) b2 (RY_s y1 a (by decide)) (Or.inl ⟨rfl, fun j hj => by omega⟩) fun _ q => by omega
    · intro h3 v f3 b3 y3 ff g
      have H3 := H h3 f3 b3
      unfold vVe at H3
      rw [← FF_end ff] at H3
      refine b_N_verdict_53 ⟨fun _ => ⟨fun q => ⟨fun q2 => ?_, fun q2 => ⟨fun q3 => ⟨fun q4 => ?_, fun q4 => ⟨n0 W, ?_⟩⟩, fun q3 => ?_⟩⟩, fun q => ?_⟩, fun q => by omega⟩
      · rw [if_neg q, if_pos (by omega)] at H3; rw [q2]; exact (by first | exact q_at rfl (H3) | exact (H3))
      · -- a way's only test
        have v0 : ¬ v < 0 := by rcases ff with ⟨x, _⟩ | ⟨j, x, _⟩ <;> omega
        rw [if_neg q, if_neg v0, if_neg q3] at H3
        have l1 : lf.length ≤ 1 := by
          rw [← hlf]; unfold SWl; rw [if_neg (by omega)]; split <;> simp
        have j0 : v.toNat = 0 ∧ 0 < lf.length := by
          rcases ff with ⟨x, _⟩ | ⟨j, x, x2, _⟩
          · exact absurd x q2
          · omega
        rw [j0.1] at H3
        have gg := g (by omega) j0.2 q2
        rw [gg.1, gg.2]
        refine ⟨fun q5 => ⟨n0 W, ?_⟩, fun q5 => ⟨n0 W, ?_⟩⟩
        · rw [if_neg q5] at H3; exact (by first | exact q_at rfl (H3) | exact (H3))
        · rw [if_pos q5] at H3; exact (by first | exact q_at rfl (H3) | exact (H3))
      · -- a planned suite's first one
        rcases ff with ⟨x, _⟩ | ⟨j, x, x2, x3, x4⟩
        · exact absurd x q2
        · subst x
          obtain ⟨w, w1, w2⟩ := x3
          have okw := ok.2 w (List.mem_of_getElem? w1)
          have wl : LFr S I t o s e = lf := by rw [← hlf]; unfold SWl; rw [if_pos (by omega)]
          have w1' := w1
          rw [← wl] at w1'
          have okL := LFr_ok hS hI hm hc he (List.mem_of_getElem? w1')
          have ll := LFr_len (o := o) hS hI hm hc (su := s) he
          have jl := (List.getElem?_eq_some_iff.mp w1').1
          refine sp_N_suiteOf W TT b3.1 b3.2.1 b3.2.2.2.2.1 b3.2.2.2.2.2 (by omega) he fun h4 a4 u4 c4 => ⟨n0 W, sp_N_tsAt W (by omega) (by omega) ?_⟩
          have b4 := NB_s b3 a4 u4
          have f4 : fxS h h4 := EX_tr f3 (EX_le a4 (by decide) (by decide))
          rw [c4.2 j w w1']
          refine ⟨n0 W, sp_N_laysWrong W b4.1 hm hm' (fM f4) okw.1 (by omega) w2 fun h5 a5 p5 o5 => ?_⟩
          have f5 : fxS h h5 := EX_tr f4 (EX_le a5 (by decide) (by decide))
          have H5 := H h5 f5 (NB_fr b4 a5 (by decide))
          unfold vVe at H5
          rw [fw_at (P := fl t o t' o' lf) (k := j) ⟨w, w1, w2⟩ x4, if_neg q, if_neg (by omega), if_neg q3, Int.toNat_natCast, w1] at H5
          simp only [Option.getD_some] at H5
          rw [p5, o5]
          refine ⟨fun q5 => ⟨n0 W, ?_⟩, fun q5 => ⟨n0 W, ?_⟩⟩
          · rw [if_neg q5] at H5; exact (by first | exact q_at rfl (H5) | exact (H5))
          · rw [if_pos q5] at H5; exact (by first | exact q_at rfl (H5) | exact (H5))
      · have v0 : ¬ v < 0 := by rcases ff with ⟨x, _⟩ | ⟨j, x, _⟩ <;> omega
        rw [if_neg q, if_neg v0, if_pos q3] at H3; exact (by first | exact q_at rfl (H3) | exact (H3))
      · rw [if_pos q] at H3; exact (by first | exact q_at rfl (H3) | exact (H3))
    · intro k hk ih h3 v f3 b3 y3 ff g
      have hw := List.getElem?_eq_getElem hk
      generalize lf[k] = w at hw
      have cl := cntP_le (fl t o t' o' lf) k
      have one : 2 ≤ s → k = 0 := fun q => by
        have : lf.length ≤ 1 := by rw [← hlf]; unfold SWl; rw [if_neg (by omega)]; split <;> simp
        omega
      refine b_N_verdict_53 ⟨fun q => by omega, fun _ => ⟨n0 W, ?_⟩⟩
      rw [← hlf] at hw
      refine sp_N_isTestPassed W TT b3 hm' (fM f3) (by omega) (by omega) he y3 hw (fun h4 f4 b4 q => ?_) (fun h4 f4 b4 q g4 => ?_)
      · rw [hlf] at hw
        have nf : ¬ fl t o t' o' lf k := fun ⟨u, u1, u2⟩ => by rw [hw] at u1; cases u1; exact u2 q
        refine ⟨fun y => absurd y (by decide), fun _ => ?_⟩
        rw [w32_id (x := (k : Int) + 1) (by omega) (by omega)]
        rw [cntP_n nf] at ih
        refine ih h4 v (EX_tr f3 (EX_le f4 (by decide) (by decide))) b4 (RY_s y3 f4 (by decide)) (FF_n ff nf) fun q1 q2 q3 => ?_
        have k0 := one q1
        subst k0
        rcases ff with ⟨x, _⟩ | ⟨j, _, x, _⟩
        · exact absurd x q3
        · omega
      · rw [hlf] at hw
        have yf : fl t o t' o' lf k := ⟨w, hw, q⟩
        have g5 : 2 ≤ s → 0 < k + 1 → h4 138 41 = WPl t o t' o' (lf[0]?.getD 0) ∧ h4 138 42 = WOu t o t' o' (lf[0]?.getD 0) := fun q1 _ => by
          have k0 := one q1
          subst k0
          rw [hw]; exact g4 q1
        rw [cntP_y yf] at ih
        refine ⟨fun _ => ?_, fun y => absurd rfl y⟩
        rw [w32_id (x := (k : Int) + 1) (by omega) (by omega), w32_id (x := (cntP (fl t o t' o' lf) k : Int) + 1) (by omega) (by omega)]
        have f5 : fxS h h4 := EX_tr f3 (EX_le f4 (by decide) (by decide))
        refine ⟨fun q5 => ?_, fun q5 => ?_⟩
        · exact ih h4 v f5 b4 (RY_s y3 f4 (by decide)) (FF_y1 ff q5) fun q1 q2 _ => g5 q1 q2
        · exact ih h4 (k : Int) f5 b4 (RY_s y3 f4 (by decide)) (FF_y0 ff yf q5) fun q1 q2 _ => g5 q1 q2
  refine ⟨fun q => ⟨n0 W, go _ e1 B1 (Or.inl (by omega))⟩, fun q => ⟨n0 W, N_ready W TT B1 (by omega) (by omega) fun h2 f2 b2 y2 => ⟨n0 W, go h2 (EX_tr e1 f2) b2 y2⟩⟩⟩
/-- the least number of states more -/
noncomputable def vEn (S I : Nat) (t o t' o' : Int → Int) (su : Nat) : Int := fw fun m => m < 3 ∧ ∃ w ∈ LFr S I t o su m, aS t o 0 w ≠ aS t' o' 0 w
theorem sp_N_enough {su : Int} {e : Nat} (W : NW n hr) (T : TV S I t o) (B : NB S I t o e h) (hm' : mok t' o') (M : NM 24 t' o' h) (h0 : ¬ (su = 0 ∨ su = 1) → Q (0, -1) n hr (ai_up h 138 0 0)) (h1 : (su = 0 ∨ su = 1) → ∀ h1, fxS h h1 → NB S I t o e h1 → Q (0, vEn S I t o t' o' su.toNat) n hr h1) : f_N_enough [(2, 138), (0, su)] n hr h Q := by
  have TT := T
  obtain ⟨hS, hI, hm, hc, hT⟩ := T
  have B1 : NB S I t o e (ai_up h 138 0 0) := NB_1 B
  have fM : ∀ {h1 : HP}, fxS h h1 → NM 24 t' o' h1 := fun f => NM_fr M (EX_fn f (by decide) (by decide)) (EX_fn f (by decide) (by decide))
  apply e_N_enough
  refine ⟨n0 W, sp_N_isOne (fun z => ⟨fun _ => ?_, fun q => absurd q (by decide)⟩) (fun z => ⟨fun q => absurd rfl q, fun _ => (by first | exact q_at rfl (h0 z) | exact (h0 z))⟩)⟩
  have H := h1 z
  obtain ⟨s, rfl⟩ : ∃ s : Nat, su = (s : Int) := ⟨su.toNat, by omega⟩
  rw [Int.toNat_natCast] at H
  have loop := lupN (N := 3) (P := fun m => ∀ h2, fxS h h2 → NB S I t o e h2 → (∀ j, j < m → ∀ w ∈ LFr S I t o s j, aS t o 0 w = aS t' o' 0 w) → p_N_enough_16 (n + 0) (ai_q 0 n Q) 138 (s : Int) (m : Int) n hr h2) ?_ ?_
  · exact loop _ (EX_le EX_1 (by decide) (by decide)) B1 (fun j hj => by omega)
  · intro h2 f2 b2 g
    have H2 := H h2 f2 b2
    have ev : vEn S I t o t' o' s = -2 := fw_no fun j ⟨q1, w, q2, q3⟩ => q3 (g j q1 w q2)
    rw [ev] at H2
    exact b_N_enough_16 ⟨fun _ => (by first | exact q_at rfl (H2) | exact (H2)), fun q => by omega⟩
  · intro m hm3 ih h2 f2 b2 g
    refine b_N_enough_16 ⟨fun q => by omega, fun _ => ⟨n0 W, ?_⟩⟩
    rw [w32_id (x := 2 * (m : Int)) (by omega) (by omega), w32_id (by omega) (by omega), show 2 * (m : Int) + (s : Int) = ((2 * m + s : Nat) : Int) by omega]
    refine sp_N_laysSuite W TT b2.1 b2.2.1 b2.2.2.2.2.1 (by omega) hm3 fun h3 a3 u3 c3 => ?_
    have b3 := NB_s b2 a3 u3
    have f3 : fxS h h3 := EX_tr f2 (EX_le a3 (by decide) (by decide))
    have ll := LFr_len (o := o) hS hI hm hc (su := s) hm3
    have lp := lupN (N := (LFr S I t o s m).length) (P := fun k => (∀ j w : Nat, j < k → (LFr S I t o s m)[j]? = some w → aS t o 0 w = aS t' o' 0 w) → p_N_enough_35 (n + 0) (ai_q 0 n Q) 138 (s : Int) (m : Int) ((2 * m + s : Nat) : Int) (k : Int) n hr h3) ?_ ?_
    · exact lp fun j w hj => by omega
    · intro gk
      refine b_N_enough_35 ?_
      simp (disch := omega) only [n0 W, nr_39 W, c3.1, true_and]
      repeat (refine ⟨by omega, ?_⟩)
      refine ⟨fun _ => ?_, fun q => by omega⟩
      rw [w32_id (by omega) (by omega)]
      refine ih h3 f3 b3 fun j hj w hw => ?_
      by_cases y : j = m
      · subst y
        obtain ⟨i, hi⟩ := mem_at.mp hw
        exact gk i w (List.getElem?_eq_some_iff.mp hi).1 hi
      · exact g j (by omega) w hw
    · intro k hk ihk gk
      have hw := List.getElem?_eq_getElem hk
      generalize (LFr S I t o s m)[k] = w at hw
      have okL := LFr_ok hS hI hm hc hm3 (List.mem_of_getElem? hw)
      refine b_N_enough_35 ?_
      simp (disch := omega) only [n0 W, nr_39 W, c3.1, true_and]
      repeat (refine ⟨by omega, ?_⟩)
      refine fun _ => ?_
      refine sp_N_tsAt W (by omega) (by omega) ?_
      rw [c3.2 k w hw]
      refine ⟨n0 W, sp_N_isPassed W b3.1 hm hm' (fM f3) (by omega) (wok_mono hI okL.1) (by omega) (fun q => ?_) (fun q => ?_)⟩
      · refine ⟨fun _ => ?_, fun y => absurd y (by decide)⟩
        rw [w32_id (by omega) (by omega)]
        refine ihk fun j v hj hv => ?_
        by_cases y : j = k
        · subst y; rw [hw] at hv; cases hv; exact q
        · exact gk j v (by omega) hv
      · have H3 := H h3 f3 b3
        have ev : vEn S I t o t' o' s = (m : Int) := fw_at ⟨hm3, w, List.mem_of_getElem? hw, q⟩ fun j hj ⟨_, u, u1, u2⟩ => u2 (g j hj u u1)
        rw [ev] at H3
        exact ⟨fun y => absurd rfl y, fun _ => (by first | exact q_at rfl (H3) | exact (H3))⟩
/-- first word unlike of the machine and the built one -/
noncomputable def vWi (S I : Nat) (t o t' o' : Int → Int) : Int := if S = 0 then -2 else UL I t o t' o' 0 0
def fxU (h h1 : HP) : Prop := EX [150, 151, 152] [(138, 0)] h h1
theorem sp_N_witness {e : Nat} (W : NW n hr) (T : TV S I t o) (B : NB S I t o e h) (hm' : mok t' o') (M : NM 24 t' o' h) (h1 : ∀ h1, fxU h h1 → NB S I t o e h1 → Q (0, vWi S I t o t' o') n hr h1) : f_N_witness [(2, 138)] n hr h Q := by
  obtain ⟨hS, hI, hm, hc, hT⟩ := T
  have B1 : NB S I t o e (ai_up h 138 0 0) := NB_1 B
  have f0 : fxU h (ai_up h 138 0 0) := EX_le EX_1 (by decide) (by decide)
  have M1 : NM 24 t' o' (ai_up h 138 0 0) := NM_fr M (EX_fn f0 (by decide) (by decide)) (EX_fn f0 (by decide) (by decide))
  have M0 := NX_NM B1.1
  unfold vWi at h1
  apply e_N_witness
  refine ⟨n0 W, n0 W, sp_N_states W ?_⟩
  dsimp only
  rw [B1.1.1]
  refine ⟨fun z => ⟨n0 W, ?_⟩, fun z => ?_⟩
  · rw [if_neg (by omega)] at h1
    refine sp_N_unlike (p := 0) (q := 0) W B1.1.2.1 hI (by omega) (by omega) hm hm' M0.1 M0.2 M1.1 M1.2 (by omega) (by omega) fun h2 e2 => ?_
    have e2' := EX_ex e2
    exact (by first | exact q_at rfl (h1 h2 (EX_tr f0 (EX_le e2' (by decide) (by decide))) (NB_fr B1 e2' (by decide))) | exact (h1 h2 (EX_tr f0 (EX_le e2' (by decide) (by decide))) (NB_fr B1 e2' (by decide))))
  · rw [if_pos (by omega)] at h1
    exact (by first | exact q_at rfl (h1 _ f0 B1) | exact (h1 _ f0 B1))
theorem sp_N_isEqual {e : Nat} (W : NW n hr) (T : TV S I t o) (B : NB S I t o e h) (hm' : mok t' o') (M : NM 24 t' o' h) (h1 : ∀ h1, fxU h h1 → NB S I t o e h1 → Q (0, if vWi S I t o t' o' = -2 then 1 else 0) n hr h1) : f_N_isEqual [(2, 138)] n hr h Q := by
  obtain ⟨hS, hI, hm, hc, hT⟩ := T
  have B1 : NB S I t o e (ai_up h 138 0 0) := NB_1 B
  have f0 : fxU h (ai_up h 138 0 0) := EX_le EX_1 (by decide) (by decide)
  have M1 : NM 24 t' o' (ai_up h 138 0 0) := NM_fr M (EX_fn f0 (by decide) (by decide)) (EX_fn f0 (by decide) (by decide))
  have M0 := NX_NM B1.1
  unfold vWi at h1
  apply e_N_isEqual
  refine ⟨n0 W, n0 W, sp_N_states W ?_⟩
  dsimp only
  rw [B1.1.1]
  refine ⟨fun z => ⟨Or.inr rfl, ?_⟩, fun z => ⟨n0 W, ?_⟩⟩
  · have H := h1 _ f0 B1
    rw [if_pos (show S = 0 by omega), if_pos rfl] at H
    exact (by first | exact q_at rfl (H) | exact (H))
  · rw [if_neg (show ¬ S = 0 by omega)] at h1
    refine sp_N_unlike (p := 0) (q := 0) W B1.1.2.1 hI (by omega) (by omega) hm hm' M0.1 M0.2 M1.1 M1.2 (by omega) (by omega) fun h2 e2 => ?_
    have e2' := EX_ex e2
    have H := h1 h2 (EX_tr f0 (EX_le e2' (by decide) (by decide))) (NB_fr B1 e2' (by decide))
    refine ⟨fun y => ⟨Or.inl rfl, ?_⟩, fun y => ⟨Or.inr rfl, ?_⟩⟩
    · change UL I t o t' o' 0 0 ≠ -2 at y; rw [if_neg y] at H; exact (by first | exact q_at rfl (H) | exact (H))
    · change UL I t o t' o' 0 0 = -2 at y; rw [if_pos y] at H; exact (by first | exact q_at rfl (H) | exact (H))
end
