-- deps: 18 19 20 21 23 24 25 26 27 28 29 22 30 31 32 33 34 35 36 37 38 39 40 41 45 46 47 48 49 50 51 62 63
/-! the class: the tour and the check are gone -/
section
variable {Q : RP} {n : Nat} {hr h : HP} {S I : Nat} {t o : Int → Int}
theorem p18 {S : Nat} (hS : S ≤ 6) : 2 ^ (3 * S) ≤ 262144 := by
  have : 2 ^ (3 * S) ≤ 2 ^ 18 := Nat.pow_le_pow_right (by decide) (by omega)
  have e : (2 : Nat) ^ 18 = 262144 := by decide
  omega
theorem CX_w {h1 : HP} {x : Int} (hx : x = 88 ∨ x = 95) (X : CX S I t o h) (e : fxW x h h1) : CX S I t o h1 := by
  have k : ∀ c : Int, (c = 13 ∨ c = 14 ∨ c = 15) → h1 c = h c := fun c hc => EX_sy e (by simp; omega) (fun j => by simp; omega)
  unfold CX; rw [k 13 (by omega), k 14 (by omega), k 15 (by omega)]; exact X
theorem cz0 : ((0 : Nat) : Int) = 0 := rfl
def fxT (x : Int) (h h1 : HP) : Prop := EX [x + 1, x + 2, x + 3] [(x, 7), (42, 4), (42, 5)] h h1
theorem fxT_W {x : Int} {h h1 : HP} (e : fxT x h h1) : fxW x h h1 := EX_le e (by simp) (by simp)
theorem trow_x {x : Int} (V : CW n hr) (hx : x = 88 ∨ x = 95) : trow hr x n 253 1 := by
  rcases hx with rfl | rfl
  · exact tr_88 V
  · exact tr_95 V
theorem goW_c {ws : WS} {v j : Nat} (hj : j < 3) : goW t ws (4 * v + j + 1) = ((goW t ws v).1 ||| 2 ^ (3 * dS t (ws.2.1 : Int) v + (j : Int)).toNat, (t (3 * dS t (ws.2.1 : Int) v + (j : Int))).toNat, (goW t ws v).2.2 ++ [j]) := by
  unfold goW
  rw [tkW_c _ _ _ hj, dS_c _ _ _ hj, dg_c _ hj, List.append_assoc]
def CHF (S I : Nat) (t o : Int → Int) (wh : Nat) (h : HP) (x : Int) : Prop := CH t o h x (TOUR S I t o wh) ∧ h x 8 = 1 ∧ h (x + 4) 0 = ((TOUR S I t o wh).length : Int) ∧ h (x + 5) 0 = 0 ∧ h (x + 6) 0 = ((TOUR S I t o wh).length : Int)
def fxF (x : Int) (h h1 : HP) : Prop := EX [x + 1, x + 2, x + 3, x + 4, x + 5, x + 6, 43, 44, 28, 29, 30, 31] [(x, 7), (x, 8), (42, 4), (42, 5), (27, 10)] h h1
theorem sp_W_take {x : Int} {ws : WS} {k0 w : Nat} (V : CW n hr) (hx : x = 88 ∨ x = 95) (T : TV S I t o) (X : CX S I t o h) (K : WK S I t o h x ws) (hok : okW S I k0 ws) (hw : wok I w) (hl : wlen w ≤ 8) (hk0 : k0 + wlen w ≤ 252) (hQ : ∀ h1, fxT x h h1 → WK S I t o h1 x (goW t ws w) → Q (9, 0) n hr h1) : f_W_take [(2, 42), (2, x), (0, (w : Int))] n hr h Q := by
  have TT := T
  obtain ⟨hS, hI, hm, hc, hT⟩ := T
  have wk := wl15 (show wlen w ≤ 15 by omega)
  have R := trow_x V hx
  have hp := p18 hS
  apply e_W_take
  refine sp_B_lengthOf wk ?_
  have key : ∀ (k : Nat), k ≤ wlen w → ∀ h1 : HP, fxT x h h1 → WK S I t o h1 x (goW t ws (w / 4 ^ k)) → p_W_take_7 (n + 0) (ai_q 0 n Q) 42 x (w : Int) ((k : Int) - 1) n hr h1 := by
    intro k
    induction k with
    | zero =>
      intro _ h1 f1 k1
      refine b_W_take_7 ⟨fun _ => q_at rfl (hQ h1 f1 (by simpa using k1)), fun z => by omega⟩
    | succ k ih =>
      intro hkl h1 f1 k1
      have X1 := CX_w hx X (fxT_W f1)
      have hv : wok I (w / 4 ^ (k + 1)) := wok_divp (k + 1) hw
      obtain ⟨v, j, j1, j2, j3, j4⟩ := wok_ne hI (wok_divp k hw) (div_ne (w := w) (k := k) (by omega))
      have ev : w / 4 ^ (k + 1) = v := by rw [div_s, j4]; omega
      have ej : w / 4 ^ k % 4 = j + 1 := by rw [j4]; omega
      rw [ev] at k1 hv
      have lv : wlen v + k + 1 ≤ wlen w := by
        have : wlen v ≤ wlen w - (k + 1) := by
          rw [← ev]
          refine wlen_le.mpr ?_
          have hlt : w < 4 ^ wlen w := wlen_le.mp (Nat.le_refl _)
          rw [show wlen w = (wlen w - (k + 1)) + (k + 1) by omega, Nat.pow_add] at hlt
          exact Nat.div_lt_of_lt_mul (by rw [Nat.mul_comm]; exact hlt)
        omega
      have okv := goW_ok hS hI hc hok hv (Nat.le_refl _)
      obtain ⟨K1, K2, ⟨K3, K4⟩, K5⟩ := k1
      have d := dS_cl hI (clo_m hI hc) (p := (ws.2.1 : Int)) (by have := hok.2.1; omega) v hv
      have e21 : ((goW t ws v).2.1 : Int) = dS t (ws.2.1 : Int) v := by show (((dS t (ws.2.1 : Int) v).toNat : Nat) : Int) = _; omega
      obtain ⟨s, hs⟩ := Int.eq_ofNat_of_zero_le d.1
      have e22 : (goW t ws v).2.1 = s := by omega
      have len := okv.2.2.1
      have nl : ((goW t ws v).2.2.length + 1 : Nat) < 253 := by omega
      have tk31 : (goW t ws v).1 < 2 ^ 31 := by have := okv.1; omega
      have g1 := X1.2.2.1 (3 * (s : Int) + (j : Int)) (by omega) (by omega)
      have g2 := X1.2.2.2 (3 * (s : Int) + (j : Int)) (by omega) (by omega)
      have ct := hc (s : Int) j (by omega) (by omega) (by omega)
      have earc : (s : Int) * 3 + (j : Int) = ((3 * s + j : Nat) : Int) := by omega
      have earc2 : ((3 * s + j : Nat) : Int) = 3 * (s : Int) + (j : Int) := by omega
      rw [← earc2] at g1 g2
      refine b_W_take_7 ⟨fun z => by omega, fun _ => ?_⟩
      rw [show ((k + 1 : Nat) : Int) - 1 = (k : Int) by omega]
      refine sp_B_inputAt wk (by omega) ?_
      rw [ej, show ((j + 1 : Nat) : Int) - 1 = (j : Int) by omega]
      rw [e22] at K2
      simp (disch := omega) only [ok_42 V.1, cr_42_0 V, ok_13 V.1, cr_13_0 V, cr_13_1 V, R.1, K1, K2, K3, w32_id, earc, up_same, up_oth, or_bit tk31 (show 3 * s + j < 31 by omega), g2, true_and]
      repeat (refine ⟨by omega, ?_⟩)
      refine sp_E_addNode R (N := (goW t ws v).2.2.length + 1) (by rw [up_oth (Or.inl (by omega))]; exact K3) (by omega) ?_
      have ep : (3 * dS t (ws.2.1 : Int) v + (j : Int)).toNat = 3 * s + j := by rw [hs]; omega
      have egc := goW_c (t := t) (ws := ws) (v := v) (j := j) j2
      rw [ep, hs] at egc
      simp (disch := omega) only [ok_42 V.1, cr_42_0 V, ok_13 V.1, cr_13_0 V, K2, w32_id, earc, up_oth, g1, true_and]
      repeat (refine ⟨by omega, ?_⟩)
      rw [show (k : Int) + -1 = (k : Int) - 1 by omega]
      refine ih (by omega) _ ?_ ?_
      · refine EX_upp (EX_upp (EX_upc (EX_upc (EX_upc (EX_upp f1 (by simp)) (by simp)) (by simp)) (by simp)) (by simp)) (by simp)
      · rw [j4, egc]
        refine ⟨?_, ?_, ⟨?_, fun q y hq => ?_⟩, ?_⟩
        · simp (disch := omega) only [up_same, up_oth]
        · simp (disch := omega) only [up_same, up_oth, earc2]
          omega
        · simp (disch := omega) only [up_same, up_oth, List.length_append, List.length_singleton]
          omega
        · rw [List.getElem?_append] at hq
          split at hq
          · rename_i hq2
            have := K4 q y hq
            simp (disch := omega) only [up_oth]
            rw [stp_app _ (by omega)]
            exact this
          · have hj := (List.getElem?_eq_some_iff.mp hq).1
            simp only [List.length_singleton] at hj
            have : q = (goW t ws v).2.2.length := by omega
            subst this
            rw [Nat.sub_self] at hq
            cases hq
            simp (disch := omega) only [up_same, up_oth]
            rw [stp_app _ (Nat.le_refl _), ← K5, e22, earc2]
            exact ⟨by omega, by first | trivial | rfl, by first | trivial | rfl⟩
        · rw [show ((goW t ws v).2.2 ++ [j]).length = (goW t ws v).2.2.length + 1 by simp, stp_s, ← K5, e22]
          (try dsimp only)
          omega
  have := key (wlen w) (Nat.le_refl _) h EX_rf
  rw [div_top] at this
  have g0 : goW t ws 0 = ws := by
    unfold goW
    rw [tkW_0, dS_0, dg_0, List.append_nil]
    rfl
  rw [g0] at this
  simp (disch := omega) only [w32_id]
  exact this K
theorem sp_W_fill {x : Int} {wh : Nat} (V : CW n hr) (hx : x = 88 ∨ x = 95) (hwh : wh < 2) (T : TV S I t o) (X : CX S I t o h) (hre : h 19 8 = (RMk S I t : Int)) (hc0 : SC h) (hg : CSg S I t o h) (h7 : h x 7 = 0) (h8 : h x 8 = 0) (hQ0 : S = 0 → Q (9, 0) n hr h) (hQ : 0 < S → ∀ h1, fxF x h h1 → SC h1 → CSg S I t o h1 → CHF S I t o wh h1 x → Q (9, 0) n hr h1) : f_W_fill [(2, 42), (2, x), (0, (wh : Int))] n hr h Q := by
  have TT := T
  obtain ⟨hS, hI, hm, hc, hT⟩ := T
  have R := trow_x V hx
  have hp := p18 hS
  apply e_W_fill
  simp (disch := omega) only [ok_42 V.1, cr_42_0 V, ok_13 V.1, X.1, true_and]
  refine ⟨fun z => ?_, fun z => (by first | exact q_at rfl (hQ0 (by omega)) | exact (hQ0 (by omega)))⟩
  have hS0 : 0 < S := by omega
  have hQ := hQ hS0
  -- the end
  have fin : ∀ (h1 : HP) (m : Nat), fxW x h h1 → SC h1 → CSg S I t o h1 → h1 x 8 = 0 → WK S I t o h1 x (itW S I t o wh m) → itW S I t o wh 18 = itW S I t o wh m → f_E_addTest [(2, x), (0, w32 (h1 x 7 - 1)), (0, 0), (0, w32 (h1 x 7 - 1))] n hr h1 fun r n2 hr2 h2 => ai_q 0 n Q (9, 0) n2 hr2 h2 := by
    intro h1 m f1 s1 g1 e8 k1 eit
    have len := (itW_ok (o := o) hS hS0 hI hc wh 18).2.2.1
    have et : TOUR S I t o wh = (itW S I t o wh m).2.2 := by unfold TOUR; rw [eit]
    rw [eit] at len
    obtain ⟨K1, K2, ⟨K3, K4⟩, K5⟩ := k1
    rw [K3, show (((itW S I t o wh m).2.2.length + 1 : Nat) : Int) - 1 = ((itW S I t o wh m).2.2.length : Int) by omega, w32_id (by omega) (by omega)]
    refine sp_E_addTest R (N := 0) e8 (by decide) (q_at rfl ?_)
    refine hQ _ (EX_upp (EX_upc (EX_upc (EX_upc (EX_le f1 (by simp) (by simp)) (by simp)) (by simp)) (by simp)) (by simp)) (SC_fr s1 ?_ ?_) ?_ ⟨⟨?_, fun q y hq => ?_⟩, ?_, ?_, ?_, ?_⟩
    · simp (disch := omega) only [up_oth]
    · funext q; simp (disch := omega) only [up_oth]
    · intro s hs
      simp (disch := omega) only [up_oth]
      exact g1 s hs
    · rw [et]
      simp (disch := omega) only [up_oth]
      exact K3
    · rw [et] at hq ⊢
      simp (disch := omega) only [up_oth]
      exact K4 q y hq
    · simp (disch := omega) only [up_same]; rfl
    · rw [et]; simp (disch := omega) only [cz0, up_same, up_oth]
    · simp (disch := omega) only [cz0, up_same, up_oth]
    · rw [et]; simp (disch := omega) only [cz0, up_same, up_oth]
  have main := lupN (N := 18) (P := fun m => ∀ h1, fxW x h h1 → SC h1 → CSg S I t o h1 → h1 x 8 = 0 → WK S I t o h1 x (itW S I t o wh m) → p_W_fill_30 (n + 0) (ai_q 0 n Q) 42 x (wh : Int) (m : Int) n hr h1) ?_ ?_
  · have f0 : fxW x h (ai_up (ai_up h 42 4 0) 42 5 0) := EX_upp (EX_upp EX_rf (by simp)) (by simp)
    refine ⟨R.1, sp_E_addNode R (N := 0) (by simp (disch := omega) only [up_oth]; exact h7) (by decide) ?_⟩
    refine main _ (EX_upp (EX_upc (EX_upc (EX_upc f0 (by simp)) (by simp)) (by simp)) (by simp)) (SC_fr hc0 ?_ ?_) ?_ ?_ ⟨?_, ?_, ⟨?_, fun q y hq => ?_⟩, ?_⟩
    · simp (disch := omega) only [up_oth]
    · funext q; simp (disch := omega) only [up_oth]
    · intro s hs
      simp (disch := omega) only [up_oth]
      exact hg s hs
    · simp (disch := omega) only [up_oth]; exact h8
    · simp (disch := omega) only [up_same, up_oth]; rfl
    · simp (disch := omega) only [up_same, up_oth]; rfl
    · rw [up_same]; rfl
    · cases hq
    · rfl
  · intro h1 f1 s1 g1 e8 k1
    refine b_W_fill_30 ⟨fun _ => ?_, fun z => by omega⟩
    have := fin h1 18 f1 s1 g1 e8 k1 rfl
    simp only [R.1, true_and]
    exact this
  · intro m hm18 ih h1 f1 s1 g1 e8 k1
    have X1 := CX_w hx X f1
    have ok := itW_ok (o := o) hS hS0 hI hc wh m
    have re1 : h1 19 8 = (RMk S I t : Int) := by
      rw [f1 19 8 (by simp; omega) (by simp <;> omega)]; exact hre
    refine b_W_fill_30 ⟨fun z => by omega, fun _ => ⟨ok_42 V.1, ?_⟩⟩
    refine sp_W_wordToNew V TT X1 k1.1 (Nat.lt_of_lt_of_le ok.1 (Nat.pow_le_pow_right (by decide) (by omega))) k1.2.1 ok.2.1 fun h2 e2 => ?_
    have f2 : fxW x h h2 := EX_tr f1 (EX_le e2 (by simp) (by simp))
    have X2 := CX_w hx X f2
    have s2 : SC h2 := SC_ex s1 e2 (by decide) (by decide)
    have g2 : CSg S I t o h2 := fun s hs => by rw [EX_fn e2 (c := 31) (by decide) (by decide)]; exact g1 s hs
    have k : ∀ c : Int, (c < 43 ∨ 44 < c) → h2 c = h1 c := fun c hc => EX_sy e2 (by simp; omega) (fun j => by simp)
    have e8' : h2 x 8 = 0 := by rw [k x (by omega)]; exact e8
    have k2 : WK S I t o h2 x (itW S I t o wh m) := by
      unfold WK CH
      rw [k 42 (by omega), k x (by omega), k (x + 1) (by omega), k (x + 2) (by omega), k (x + 3) (by omega)]
      exact k1
    have eit : itW S I t o wh (m + 1) = stepW S I t o wh (itW S I t o wh m) := rfl
    rcases WN_b hS hI hc (tk := (itW S I t o wh m).1) ok.2.1 with q | ⟨v, j, e, hj, hv, hl, hb⟩
    · rw [if_pos q]
      refine ⟨fun z => absurd z (by decide), fun _ => ?_⟩
      have := fin h2 m f2 s2 g2 e8' k2 (by
        have := itW_stop (S := S) (I := I) (t := t) (o := o) (wh := wh) q (18 - m)
        rwa [show m + (18 - m) = 18 by omega] at this)
      simp only [R.1, true_and]
      exact this
    · have hn2 : WN I t (itW S I t o wh m).1 (itW S I t o wh m).2.1 ≠ -2 := by omega
      rw [if_neg hn2, e]
      have hw : wok I (4 * v + j + 1) := (wok_cc (by omega)).mpr ⟨hj, hv⟩
      have hwl : wlen (4 * v + j + 1) ≤ 6 := by rw [wlen_c _ (by omega)]; omega
      refine ⟨fun _ => ⟨ok_42 V.1, ?_⟩, fun z => by dsimp only at z; omega⟩
      refine sp_W_take V hx TT X2 k2 ok hw (by omega) (by omega) fun h3 f3 k3 => ?_
      have ok3 := goW_ok hS hI hc ok hw hwl
      have F3 : fxW x h h3 := EX_tr f2 (fxT_W f3)
      have X3 := CX_w hx X F3
      have kk : ∀ c : Int, (c < 42 ∨ (42 < c ∧ c < 88) ∨ 101 < c) → h3 c = h2 c := fun c hc => EX_sy f3 (by simp; omega) (fun j => by simp; omega)
      have s3 : SC h3 := SC_fr s2 (by rw [kk 27 (by omega)]) (kk 30 (by omega))
      have g3 : CSg S I t o h3 := fun s hs => by rw [kk 31 (by omega)]; exact g2 s hs
      have e83 : h3 x 8 = 0 := by rw [f3 x 8 (by simp; omega) (by simp)]; exact e8'
      have re3 : h3 19 8 = (RMk S I t : Int) := by
        rw [kk 19 (by omega), EX_fn e2 (c := 19) (by decide) (by decide)]; exact re1
      have en : (WN I t (itW S I t o wh m).1 (itW S I t o wh m).2.1).toNat = 4 * v + j + 1 := by omega
      have next : ∀ h4, fxW x h h4 → SC h4 → CSg S I t o h4 → h4 x 8 = 0 → WK S I t o h4 x (itW S I t o wh (m + 1)) → p_W_fill_30 (n + 0) (ai_q 0 n Q) 42 x (wh : Int) (w32 ((m : Int) + 1)) n hr h4 := by
        intro h4 q1 q2 q3 q4 q5
        rw [w32_id (by omega) (by omega)]
        exact ih h4 q1 q2 q3 q4 q5
      refine ⟨fun z => ⟨fun _ => ?_, fun q => absurd q (by decide)⟩, fun z => ?_⟩
      · refine next h3 F3 s3 g3 e83 ?_
        rw [eit]; unfold stepW
        rw [if_neg hn2, en, if_neg (fun q => by omega)]
        exact k3
      · simp (disch := omega) only [ok_42 V.1, cr_42_1 V, k3.2.1, true_and]
        refine sp_S_signOf V TT X3 re3 ok3.2.1 s3 g3 fun h4 e4 s4 g4 => ?_
        have F4 : fxW x h h4 := EX_tr F3 (EX_le e4 (by simp) (by simp))
        have k4 : ∀ c : Int, (c < 27 ∨ 31 < c) → h4 c = h3 c := fun c hc => EX_sy e4 (by simp; omega) (fun j => by simp; omega)
        have k34 : WK S I t o h4 x (goW t (itW S I t o wh m) (4 * v + j + 1)) := by
          unfold WK CH
          rw [k4 42 (by omega), k4 x (by omega), k4 (x + 1) (by omega), k4 (x + 2) (by omega), k4 (x + 3) (by omega)]
          exact k3
        have e84 : h4 x 8 = 0 := by rw [k4 x (by omega)]; exact e83
        have X4 := CX_w hx X F4
        refine ⟨fun z2 => ?_, fun z2 => ⟨ok_42 V.1, ?_⟩⟩
        · dsimp only at z2
          refine next h4 F4 s4 g4 e84 ?_
          rw [eit]; unfold stepW
          rw [if_neg hn2, en, if_neg (fun q => by have := q.2; omega)]
          exact k34
        · dsimp only at z2
          rcases fw_cases (fun w => wok I w ∧ wlen w ≤ 8 ∧ isSg S I t o (goW t (itW S I t o wh m) (4 * v + j + 1)).2.1 w) with ⟨u, a1, a2, a3⟩ | ⟨a1, _⟩
          · have eu : SGN S I t o (goW t (itW S I t o wh m) (4 * v + j + 1)).2.1 = (u : Int) := a1
            rw [eu]
            refine sp_W_take V hx TT X4 k34 ok3 a2.1 a2.2.1 (by omega) fun h5 f5 k5 => ?_
            have kk5 : ∀ c : Int, (c < 42 ∨ (42 < c ∧ c < 88) ∨ 101 < c) → h5 c = h4 c := fun c hc => EX_sy f5 (by simp; omega) (fun j => by simp; omega)
            refine next h5 (EX_tr F4 (fxT_W f5)) (SC_fr s4 (by rw [kk5 27 (by omega)]) (kk5 30 (by omega))) (fun s hs => by rw [kk5 31 (by omega)]; exact g4 s hs) (by rw [f5 x 8 (by simp; omega) (by simp)]; exact e84) ?_
            rw [eit]; unfold stepW
            rw [if_neg hn2, en, if_pos ⟨by omega, by omega⟩, eu]
            exact k5
          · have eu : SGN S I t o (goW t (itW S I t o wh m) (4 * v + j + 1)).2.1 = -2 := a1
            omega
end
