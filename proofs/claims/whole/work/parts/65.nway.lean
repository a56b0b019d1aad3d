-- deps: 18 19 20 21 23 24 25 26 27 28 29 22 30 31 32 33 34 35 36 37 38 39 40 47 48 50 51 62
/-! the reference: the tour and the check -/
theorem cz65 : ((0 : Nat) : Int) = 0 := rfl
section
variable {Q : RP} {n : Nat} {hr h : HP} {S I : Nat} {t o : Int → Int}
/-- words to arcs that aren't gone, among the first ones -/
def wgP (S I : Nat) (t : Int → Int) (tk st s i w : Nat) : Prop := ∃ s' j : Nat, s' < S ∧ j < I ∧ (s' < s ∨ (s' = s ∧ j < i)) ∧ 0 ≤ AC I t (st : Int) (s' : Int) ∧ ¬ tk.testBit (3 * s' + j) = true ∧ (w : Int) = 4 * AC I t (st : Int) (s' : Int) + (j : Int) + 1
theorem wgP_no {tk st s i : Nat} (h : AC I t (st : Int) (s : Int) < 0 ∨ tk.testBit (3 * s + i) = true) : fw (wgP S I t tk st s (i + 1)) = fw (wgP S I t tk st s i) := fw_ext fun w => by
  constructor
  · rintro ⟨s', j, h1, h2, h3, h4, h5, h6⟩
    by_cases z : s' = s ∧ j = i
    · obtain ⟨rfl, rfl⟩ := z
      rcases h with h | h
      · omega
      · exact (h5 h).elim
    · exact ⟨s', j, h1, h2, by omega, h4, h5, h6⟩
  · rintro ⟨s', j, h1, h2, h3, h4⟩
    exact ⟨s', j, h1, h2, by omega, h4⟩
theorem wgP_yes {tk st s i a : Nat} (hs : s < S) (hi : i < I) (ha : AC I t (st : Int) (s : Int) = (a : Int)) (ht : ¬ tk.testBit (3 * s + i) = true) : fw (wgP S I t tk st s (i + 1)) = if fw (wgP S I t tk st s i) = -2 then ((4 * a + i + 1 : Nat) : Int) else if ((4 * a + i + 1 : Nat) : Int) < fw (wgP S I t tk st s i) then ((4 * a + i + 1 : Nat) : Int) else fw (wgP S I t tk st s i) := by
  rw [← fw_or]
  refine fw_ext fun w => ?_
  constructor
  · rintro ⟨s', j, h1, h2, h3, h4, h5, h6⟩
    by_cases z : s' = s ∧ j = i
    · obtain ⟨rfl, rfl⟩ := z
      right; omega
    · exact Or.inl ⟨s', j, h1, h2, by omega, h4, h5, h6⟩
  · rintro (⟨s', j, h1, h2, h3, h4⟩ | e)
    · exact ⟨s', j, h1, h2, by omega, h4⟩
    · subst e; exact ⟨s, i, hs, hi, Or.inr ⟨rfl, by omega⟩, by omega, ht, by omega⟩
theorem sp_N_wordToGo {tk st : Nat} (W : NW n hr) (T : TV S I t o) (X : NX S I t o h) (hst : h 138 37 = (st : Int)) (hst2 : st < S) (hg : ∀ b : Nat, b < 18 → h 159 (b : Int) = if tk.testBit b = true then 1 else 0) (hQ : ∀ h1, EX [160] [] h h1 → Q (0, WN I t tk st) n hr h1) : f_N_wordToGo [(2, 138)] n hr h Q := by
  have TT := T
  obtain ⟨hS, hI, hm, hc, _⟩ := T
  have hst0 : 0 ≤ (st : Int) ∧ (st : Int) < (S : Int) := by omega
  apply e_N_wordToGo
  have least : ∀ h1, EX [160] [] h h1 → (∀ x : Nat, x < S → h1 160 (x : Int) = AC I t (st : Int) (x : Int)) → p_N_wordToGo_155 (n + 0) (ai_q 0 n Q) 138 (-2) 0 n hr h1 := by
    intro h1 e1 e2
    have X1 := NX_fr X e1 (by decide) (by decide)
    have g159 : h1 159 = h 159 := EX_fn e1 (by decide) (by decide)
    have wn : WN I t tk st = fw (wgP S I t tk st S 0) := by
      rw [WN_ac hS hI hc hst2]
      exact fw_ext fun w => ⟨fun ⟨s, j, q1, q2, q3, q4, q5⟩ => ⟨s, j, q1, q2, by omega, q3, q4, q5⟩, fun ⟨s, j, q1, q2, _, q3, q4, q5⟩ => ⟨s, j, q1, q2, q3, q4, q5⟩⟩
    have := lupN (N := S) (P := fun s => p_N_wordToGo_155 (n + 0) (ai_q 0 n Q) 138 (fw (wgP S I t tk st s 0)) (s : Int) n hr h1) ?_ ?_
    · have e : fw (wgP S I t tk st 0 0) = -2 := fw_no fun w ⟨s', j, q1, q2, q3, _⟩ => by omega
      rw [← e]; exact this
    · refine b_N_wordToGo_155 ⟨n0 W, sp_N_states W ⟨fun _ => q_at rfl (by rw [← wn]; exact hQ h1 e1), fun z => ?_⟩⟩
      dsimp only at z; rw [X1.1] at z; omega
    · intro s hs ihs
      refine b_N_wordToGo_155 ⟨n0 W, sp_N_states W ⟨fun z => ?_, fun _ => ?_⟩⟩
      · dsimp only at z; rw [X1.1] at z; omega
      · have := lupN (N := I) (P := fun i => p_N_wordToGo_165 (n + 0) (ai_q 0 n Q) 138 (fw (wgP S I t tk st s i)) (s : Int) (i : Int) n hr h1) ?_ ?_
        · exact this
        · refine b_N_wordToGo_165 ⟨n0 W, sp_N_inputs W ⟨fun _ => ?_, fun z => ?_⟩⟩
          · rw [w32_id (by omega) (by omega)]
            have e : fw (wgP S I t tk st s I) = fw (wgP S I t tk st (s + 1) 0) := fw_ext fun w => ⟨fun ⟨s', j, q1, q2, q3, q4⟩ => ⟨s', j, q1, q2, by omega, q4⟩, fun ⟨s', j, q1, q2, q3, q4⟩ => ⟨s', j, q1, q2, by omega, q4⟩⟩
            rw [e]; exact ihs
          · dsimp only at z; rw [X1.2.1] at z; omega
        · intro i hi ih
          have ea := e2 s hs
          have eg := hg (3 * s + i) (by omega)
          have e3 : ((3 * s + i : Nat) : Int) = 3 * (s : Int) + (i : Int) := by omega
          rw [e3] at eg
          refine b_N_wordToGo_165 ⟨n0 W, sp_N_inputs W ⟨fun z => ?_, fun _ => ?_⟩⟩
          · dsimp only at z; rw [X1.2.1] at z; omega
          · rcases AC_b hI hS hst0 hc (s : Int) with q | ⟨a, a1, a2, a3, a4⟩
            · simp (disch := omega) only [n0 W, nr_36 W, ea, q, true_and]
              repeat (refine ⟨by omega, ?_⟩)
              refine ⟨fun _ => ?_, fun z => by omega⟩
              rw [w32_id (by omega) (by omega)]
              have e : fw (wgP S I t tk st s i) = fw (wgP S I t tk st (s + 1) 0) := fw_ext fun w => ⟨fun ⟨s', j, q1, q2, q3, q4⟩ => ⟨s', j, q1, q2, by omega, q4⟩, fun ⟨s', j, q1, q2, q3, q4, q5⟩ => ⟨s', j, q1, q2, by
                by_cases y : s' = s
                · subst y; omega
                · omega, q4, q5⟩⟩
              rw [e]; exact ihs
            · have ab : a < 4096 := by
                have : a < 4 ^ 5 := wlen_le.mp a4
                have : (4 : Nat) ^ 5 = 1024 := by decide
                omega
              have e4 : 4 * (a : Int) + (i : Int) + 1 = ((4 * a + i + 1 : Nat) : Int) := by omega
              simp (disch := omega) only [n0 W, nr_35 W, nr_36 W, ea, a1, w32_id, g159, eg, e4, true_and]
              repeat (refine ⟨by omega, ?_⟩)
              refine fun _ => ?_
              repeat (refine ⟨by omega, ?_⟩)
              refine ⟨fun z => ?_, fun z => ?_⟩
              · have hb : tk.testBit (3 * s + i) = true := Classical.byContradiction fun q => by rw [if_neg q] at z; exact z rfl
                rw [wgP_no (Or.inr hb)] at ih
                exact ih
              · have hb : ¬ tk.testBit (3 * s + i) = true := fun q => by rw [if_pos q] at z; omega
                repeat (refine ⟨by omega, ?_⟩)
                rw [wgP_yes hs hi a1 hb] at ih
                refine ⟨fun z2 => ?_, fun z2 => ⟨fun z3 => ?_, fun z3 => ?_⟩⟩
                · rw [if_pos z2] at ih; exact ih
                · rw [if_neg z2, if_neg (by omega)] at ih; exact ih
                · rw [if_neg z2, if_pos z3] at ih; exact ih
  have rounds : ∀ h1, EX [160] [] h h1 → BF I S t (st : Int) (h1 160) 0 0 0 → p_N_wordToGo_38 (n + 0) (ai_q 0 n Q) 138 0 n hr h1 := by
    have := lupN (N := 6) (P := fun r => ∀ h1, EX [160] [] h h1 → BF I S t (st : Int) (h1 160) r 0 0 → p_N_wordToGo_38 (n + 0) (ai_q 0 n Q) 138 (r : Int) n hr h1) ?_ ?_
    · exact this
    · intro h1 e1 e2
      exact b_N_wordToGo_38 ⟨fun _ => least h1 e1 fun x hx => BF_ac hI hS hst0 hc e2 hx, fun z => by omega⟩
    · intro r hr6 ihr h1 e1 e2
      refine b_N_wordToGo_38 ⟨fun z => by omega, fun _ => ?_⟩
      have := lupN (N := S) (P := fun s => ∀ h1, EX [160] [] h h1 → BF I S t (st : Int) (h1 160) r s 0 → p_N_wordToGo_46 (n + 0) (ai_q 0 n Q) 138 (r : Int) (s : Int) n hr h1) ?_ ?_
      · exact this h1 e1 e2
      · intro h1 e1 e2
        have X1 := NX_fr X e1 (by decide) (by decide)
        refine b_N_wordToGo_46 ⟨n0 W, sp_N_states W ⟨fun _ => ?_, fun z => ?_⟩⟩
        · rw [w32_id (by omega) (by omega)]
          exact ihr h1 e1 (BF_r hI hst0 hc (Nat.le_refl _) e2)
        · dsimp only at z; rw [X1.1] at z; omega
      · intro s hs ihs h1 e1 e2
        have X1 := NX_fr X e1 (by decide) (by decide)
        refine b_N_wordToGo_46 ⟨n0 W, sp_N_states W ⟨fun z => ?_, fun _ => ?_⟩⟩
        · dsimp only at z; rw [X1.1] at z; omega
        · have := lupN (N := I) (P := fun i => ∀ h1, EX [160] [] h h1 → BF I S t (st : Int) (h1 160) r s i → p_N_wordToGo_56 (n + 0) (ai_q 0 n Q) 138 (r : Int) (s : Int) (i : Int) n hr h1) ?_ ?_
          · exact this h1 e1 e2
          · intro h1 e1 e2
            have X1 := NX_fr X e1 (by decide) (by decide)
            refine b_N_wordToGo_56 ⟨n0 W, sp_N_inputs W ⟨fun _ => ?_, fun z => ?_⟩⟩
            · rw [w32_id (by omega) (by omega)]
              exact ihs h1 e1 (BF_n e2)
            · dsimp only at z; rw [X1.2.1] at z; omega
          · intro i hi ih h1 e1 e2
            have X1 := NX_fr X e1 (by decide) (by decide)
            have b6 := BF_6 hS e2 hs
            have ct := hc (s : Int) i (by omega) (by omega) (by omega)
            have gt := X1.2.2.1 (3 * (s : Int) + (i : Int)) (by omega) (by omega)
            obtain ⟨y, hy⟩ := Int.eq_ofNat_of_zero_le ct.1
            have b7 := BF_6 hS e2 (show y < S by omega)
            refine b_N_wordToGo_56 ⟨n0 W, sp_N_inputs W ⟨fun z => ?_, fun _ => ?_⟩⟩
            · dsimp only at z; rw [X1.2.1] at z; omega
            · have up : ∀ B : HP, EX [160] [] h B → (∀ x : Int, x ≠ (y : Int) → B 160 x = h1 160 x) → ((B 160 (y : Int) = 4 * h1 160 (s : Int) + (i : Int) + 1 ∧ (h1 160 (y : Int) < 0 ∨ 4 * h1 160 (s : Int) + (i : Int) + 1 < h1 160 (y : Int))) ∨ (B 160 (y : Int) = h1 160 (y : Int) ∧ 0 ≤ h1 160 (y : Int) ∧ h1 160 (y : Int) ≤ 4 * h1 160 (s : Int) + (i : Int) + 1)) → 0 ≤ h1 160 (s : Int) → p_N_wordToGo_56 (n + 0) (ai_q 0 n Q) 138 (r : Int) (s : Int) ((i + 1 : Nat) : Int) n hr B := by
                intro B c1 c2 c3 c4
                exact ih B c1 (BF_up hI hc e2 hs hi c4 (by rw [hy]; exact c2) (by rw [hy]; exact c3))
              simp (disch := omega) only [n0 W, nr_20 W, nr_36 W, Int.zero_add, w32_id, gt, hy, true_and]
              repeat (refine ⟨by omega, ?_⟩)
              refine ⟨fun z => ?_, fun z => ?_⟩
              · exact ihs h1 e1 (BF_no e2 z)
              · repeat (refine ⟨by omega, ?_⟩)
                refine ⟨fun z2 => ?_, fun z2 => ?_⟩
                · repeat (refine ⟨by omega, ?_⟩)
                  exact up _ (EX_upc e1 (by decide)) (fun x hx => up_oth (Or.inr hx)) (Or.inl ⟨up_same, Or.inl z2⟩) z
                · repeat (refine ⟨by omega, ?_⟩)
                  refine ⟨fun z3 => ?_, fun z3 => ?_⟩
                  · exact up h1 e1 (fun x hx => rfl) (Or.inr ⟨rfl, z2, z3⟩) z
                  · repeat (refine ⟨by omega, ?_⟩)
                    exact up _ (EX_upc e1 (by decide)) (fun x hx => up_oth (Or.inr hx)) (Or.inl ⟨up_same, Or.inr z3⟩) z
  have := lupN (N := S) (P := fun k => ∀ h1, EX [160] [] h h1 → (∀ x : Nat, x < k → h1 160 (x : Int) = if x = st then 0 else -2) → p_N_wordToGo_2 (n + 0) (ai_q 0 n Q) 138 (k : Int) n hr h1) ?_ ?_
  · exact this h EX_rf fun x hx => by omega
  · intro h1 e1 e2
    have X1 := NX_fr X e1 (by decide) (by decide)
    refine b_N_wordToGo_2 ⟨n0 W, sp_N_states W ⟨fun _ => rounds h1 e1 (BF_0 hst2 (by rw [e2 st hst2, if_pos rfl]) fun x hx hx0 => by rw [e2 x hx, if_neg hx0]), fun z => ?_⟩⟩
    dsimp only at z; rw [X1.1] at z; omega
  · intro k hk ih h1 e1 e2
    have X1 := NX_fr X e1 (by decide) (by decide)
    have es : h1 138 37 = (st : Int) := by rw [EX_at e1 (by decide) (by decide)]; exact hst
    refine b_N_wordToGo_2 ⟨n0 W, sp_N_states W ⟨fun z => ?_, fun _ => ?_⟩⟩
    · dsimp only at z; rw [X1.1] at z; omega
    · have go : ∀ v : Int, v = (if k = st then 0 else -2) → p_N_wordToGo_2 (n + 0) (ai_q 0 n Q) 138 ((k : Int) + 1) n hr (ai_up h1 160 (k : Int) v) := by
        rintro v rfl
        refine ih _ (EX_upc e1 (by decide)) fun x hx => ?_
        by_cases y : x = k
        · subst y; exact up_same
        · rw [up_oth (Or.inr (by omega))]; exact e2 x (by omega)
      simp (disch := omega) only [n0 W, nr_36 W, es, w32_id, true_and]
      refine ⟨fun z => ?_, fun z => ?_⟩
      · repeat (refine ⟨by omega, ?_⟩)
        exact go (-2) (by rw [if_neg (by omega)])
      · repeat (refine ⟨by omega, ?_⟩)
        exact go 0 (by rw [if_pos (by omega)])
/-- the walk as the reference has it -/
def WKN (h : HP) (wh : Nat) (w : WS) : Prop := (∀ b : Nat, b < 18 → h 159 (b : Int) = if w.1.testBit b = true then 1 else 0) ∧ h 138 37 = (w.2.1 : Int) ∧ h 157 (wh : Int) = (w.2.2.length : Int) ∧ ∀ k v : Nat, w.2.2[k]? = some v → h 156 (400 * (wh : Int) + (k : Int)) = (v : Int)
def fxN (wh : Nat) (h h1 : HP) : Prop := EX [156, 157, 159, 160] [(138, 37)] h h1 ∧ (∀ j : Int, (j < 400 * (wh : Int) ∨ 400 * (wh : Int) + 400 ≤ j) → h1 156 j = h 156 j) ∧ ∀ j : Int, j ≠ (wh : Int) → h1 157 j = h 157 j
theorem fxN_rf {wh : Nat} {h : HP} : fxN wh h h := ⟨EX_rf, fun _ _ => rfl, fun _ _ => rfl⟩
theorem fxN_tr {wh : Nat} {h h1 h2 : HP} (a : fxN wh h h1) (b : fxN wh h1 h2) : fxN wh h h2 := ⟨EX_tr a.1 b.1, fun j hj => (b.2.1 j hj).trans (a.2.1 j hj), fun j hj => (b.2.2 j hj).trans (a.2.2 j hj)⟩
theorem sp_N_goes {ws : WS} {k0 w wh : Nat} (W : NW n hr) (T : TV S I t o) (X : NX S I t o h) (hwh : wh < 2) (K : WKN h wh ws) (hok : okW S I k0 ws) (hw : wok I w) (hl : wlen w ≤ 8) (hk0 : k0 + wlen w ≤ 252) (hQ : ∀ h1, fxN wh h h1 → WKN h1 wh (goW t ws w) → Q (9, 0) n hr h1) : f_N_goes [(2, 138), (0, (wh : Int)), (0, (w : Int))] n hr h Q := by
  have TT := T
  obtain ⟨hS, hI, hm, hc, hT⟩ := T
  have wk := wl15 (show wlen w ≤ 15 by omega)
  apply e_N_goes
  refine sp_N_long1 (by omega) ?_
  have key : ∀ (k j0 : Nat), j0 + k = wlen w → ∀ h1 : HP, fxN wh h h1 → WKN h1 wh (goW t ws (w / 4 ^ k)) → p_N_goes_8 (n + 0) (ai_q 0 n Q) 138 (wh : Int) (w : Int) (wlen w : Int) (j0 : Int) n hr h1 := by
    intro k
    induction k with
    | zero =>
      intro j0 hj h1 f1 k1
      exact b_N_goes_8 ⟨fun _ => q_at rfl (hQ h1 f1 (by simpa using k1)), fun z => by omega⟩
    | succ k ih =>
      intro j0 hj0 h1 f1 k1
      have X1 := NX_fr X f1.1 (by decide) (by decide)
      have hv : wok I (w / 4 ^ (k + 1)) := wok_divp (k + 1) hw
      obtain ⟨v, j, j1, j2, j3, j4⟩ := wok_ne hI (wok_divp k hw) (div_ne (w := w) (k := k) (by omega))
      have ev : w / 4 ^ (k + 1) = v := by rw [div_s, j4]; omega
      have ej : w / 4 ^ k % 4 = j + 1 := by rw [j4]; omega
      rw [ev] at k1 hv
      have lv : wlen v + k + 1 ≤ wlen w := by
        have : wlen v ≤ wlen w - (k + 1) := by
          rw [← ev]
          refine wlen_le.mpr ?_
          have hlt : w < 4 ^ wlen w := wlen_le.mp (Nat.le_refl _)
          rw [show wlen w = (wlen w - (k + 1)) + (k + 1) by omega, Nat.pow_add] at hlt
          exact Nat.div_lt_of_lt_mul (by rw [Nat.mul_comm]; exact hlt)
        omega
      have okv := goW_ok hS hI hc hok hv (Nat.le_refl _)
      obtain ⟨K1, K2, K3, K4⟩ := k1
      have d := dS_cl hI (clo_m hI hc) (p := (ws.2.1 : Int)) (by have := hok.2.1; omega) v hv
      have e21 : ((goW t ws v).2.1 : Int) = dS t (ws.2.1 : Int) v := by show (((dS t (ws.2.1 : Int) v).toNat : Nat) : Int) = _; omega
      obtain ⟨s, hs⟩ := Int.eq_ofNat_of_zero_le d.1
      have e22 : (goW t ws v).2.1 = s := by omega
      have len := okv.2.2.1
      have g1 := X1.2.2.1 (3 * (s : Int) + (j : Int)) (by omega) (by omega)
      have ct := hc (s : Int) j (by omega) (by omega) (by omega)
      have ep : (3 * dS t (ws.2.1 : Int) v + (j : Int)).toNat = 3 * s + j := by rw [hs]; omega
      have egc : goW t ws (4 * v + j + 1) = ((goW t ws v).1 ||| 2 ^ (3 * s + j), (t (3 * (s : Int) + (j : Int))).toNat, (goW t ws v).2.2 ++ [j]) := by
        unfold goW
        rw [tkW_c _ _ _ j2, dS_c _ _ _ j2, dg_c _ j2, List.append_assoc, ep, hs]
      rw [e22] at K2
      refine b_N_goes_8 ⟨fun z => by omega, fun _ => ?_⟩
      refine sp_N_inputAt wk (by omega) (by omega) ?_
      rw [show wlen w - 1 - j0 = k by omega, ej, show ((j + 1 : Nat) : Int) - 1 = (j : Int) by omega]
      simp (disch := omega) only [n0 W, nr_20 W, nr_32 W, nr_33 W, nr_35 W, K2, K3, Int.zero_add, w32_id, up_same, up_oth, g1, true_and, or_true]
      repeat (refine ⟨by omega, ?_⟩)
      rw [show (j0 : Int) + 1 = ((j0 + 1 : Nat) : Int) by omega]
      refine ih (j0 + 1) (by omega) _ (fxN_tr f1 ⟨EX_upp (EX_upc (EX_upc (EX_upc EX_rf (by decide)) (by decide)) (by decide)) (by decide), fun q hq => ?_, fun q hq => ?_⟩) ?_
      · simp (disch := omega) only [up_oth]
      · simp (disch := omega) only [up_oth]
      · rw [j4, egc]
        refine ⟨fun b hb => ?_, ?_, ?_, fun q y hq => ?_⟩
        · have eo := tb_or (goW t ws v).1 (3 * s + j) b
          by_cases z : b = 3 * s + j
          · subst z
            have eo2 : ((goW t ws v).1 ||| 2 ^ (3 * s + j)).testBit (3 * s + j) = true := by rw [eo]; simp
            rw [if_pos eo2, show ((3 * s + j : Nat) : Int) = 3 * (s : Int) + (j : Int) by omega]
            simp (disch := omega) only [up_same, up_oth]
          · simp (disch := omega) only [up_oth]
            rw [K1 b hb]
            by_cases y : (goW t ws v).1.testBit b = true
            · have eo2 : ((goW t ws v).1 ||| 2 ^ (3 * s + j)).testBit b = true := by rw [eo, y]; simp
              rw [if_pos y, if_pos eo2]
            · have eo2 : ¬ ((goW t ws v).1 ||| 2 ^ (3 * s + j)).testBit b = true := by rw [eo]; simp [y, z]
              rw [if_neg y, if_neg eo2]
        · simp (disch := omega) only [up_same]
          omega
        · simp (disch := omega) only [up_same, up_oth, List.length_append, List.length_singleton]
          omega
        · rw [List.getElem?_append] at hq
          split at hq
          · rename_i hq2
            have := K4 q y hq
            simp (disch := omega) only [up_oth]
            exact this
          · have hj := (List.getElem?_eq_some_iff.mp hq).1
            simp only [List.length_singleton] at hj
            have : q = (goW t ws v).2.2.length := by omega
            subst this
            rw [Nat.sub_self] at hq
            cases hq
            simp (disch := omega) only [up_same, up_oth]
  have := key (wlen w) 0 (by omega) h fxN_rf
  rw [div_top] at this
  have g0 : goW t ws 0 = ws := by
    unfold goW
    rw [tkW_0, dS_0, dg_0, List.append_nil]
    rfl
  rw [g0] at this
  exact this K
end
