-- deps: 18 19 20 21 23 24 25 26 27 28 29 22 30 31 32 33 34 35 36 37 38 39 40
/-! the class: the greatest output, access, separators -/
def CX (S I : Nat) (t o : Int → Int) (h : HP) : Prop := h 13 2 = (S : Int) ∧ h 13 3 = (I : Int) ∧ r24 (h 14) t ∧ r24 (h 15) o
theorem CX_fr {S I : Nat} {t o : Int → Int} {h h1 : HP} {cs : List Int} {ps : List (Int × Int)} (H : CX S I t o h) (e : EX cs ps h h1) (a : (13 : Int) ∉ cs ∧ (14 : Int) ∉ cs ∧ (15 : Int) ∉ cs) (b : (13 : Int) ∉ ps.map Prod.fst ∧ (14 : Int) ∉ ps.map Prod.fst ∧ (15 : Int) ∉ ps.map Prod.fst) : CX S I t o h1 := by
  unfold CX
  rw [EX_fn e a.1 b.1, EX_fn e a.2.1 b.2.1, EX_fn e a.2.2 b.2.2]
  exact H
section
variable {Q : RP} {n : Nat} {hr h : HP} {S I : Nat} {t o : Int → Int}
theorem sp_M_tl {m p : Int} {w : Nat} (hr0 : mrow hr m n) (hm : mok t o) (r1 : r24 (h (m + 1)) t) (r2 : r24 (h (m + 2)) o) (hp : 0 ≤ p ∧ p < 8) (hw : w < 4 ^ 15) (hk : wok 3 w) (hQ : Q (1, aS t o p w) n hr h) : f_M_tell [(2, m), (0, p), (0, (w : Int))] n hr h Q := by
  have hm2 := mok_r24 hm (r24_sy r1) (r24_sy r2)
  refine sp_M_tell hr0 hm2 hp hw hk ?_
  rw [aS_r24 r1 r2 hm2 hp w hk]; exact hQ
theorem sp_M_goo {m p : Int} {w : Nat} (hr0 : mrow hr m n) (hm : mok t o) (r1 : r24 (h (m + 1)) t) (r2 : r24 (h (m + 2)) o) (hp : 0 ≤ p ∧ p < 8) (hw : w < 4 ^ 15) (hk : wok 3 w) (hQ : Q (0, dS t p w) n hr h) : f_M_go [(2, m), (0, p), (0, (w : Int))] n hr h Q := by
  have hm2 := mok_r24 hm (r24_sy r1) (r24_sy r2)
  refine sp_M_go hr0 hm2 hp hw hk ?_
  rw [(dS_r24 r1 (mok_t hm2) hp w hk).1]; exact hQ
theorem sp_A_learnTop (V : CW n hr) (X : CX S I t o h) (hQ : ∀ h1, EX [] [(19, 11)] h h1 → h1 19 11 = tpR o 24 → Q (9, 0) n hr h1) : f_A_learnTop [(2, 19)] n hr h Q := by
  apply e_A_learnTop
  refine ⟨ok_19 V.1, ?_⟩
  have := lupN (N := 24) (P := fun k => p_A_learnTop_7 (n + 0) (ai_q 0 n Q) 19 (k : Int) n hr (ai_up h 19 11 (tpR o k))) ?_ ?_
  · exact this
  · exact b_A_learnTop_7 ⟨fun _ => q_at rfl (hQ _ (EX_upp EX_rf (by decide)) up_same), fun z => by omega⟩
  · intro k hk ih
    have e1 : EX [] [(19, 11)] h (ai_up h 19 11 (tpR o k)) := EX_upp EX_rf (by decide)
    have X1 := CX_fr X e1 (by decide) (by decide)
    have g := X1.2.2.2 (k : Int) (by omega) (by omega)
    refine b_A_learnTop_7 ⟨fun z => by omega, fun _ => ?_⟩
    simp (disch := omega) only [ok_19 V.1, cr_19_0 V, cr_13_1 V, w32_id, up_same, g, true_and]
    repeat (refine ⟨by omega, ?_⟩)
    have e : ai_up (ai_up h 19 11 (tpR o k)) 19 11 (i_max (tpR o k) (o (k : Int))) = ai_up h 19 11 (tpR o (k + 1)) := by
      funext c j
      unfold ai_up
      split
      · rfl
      · rfl
    rw [e]; exact ih
theorem sp_A_isReached {M s : Nat} (V : CW n hr) (hM : h 19 8 = (M : Int)) (hs : s < 31) (h1 : M.testBit s = true → Q (0, 1) n hr h) (h0 : ¬ M.testBit s = true → Q (0, 0) n hr h) : f_A_isReached [(2, 19), (0, (s : Int))] n hr h Q := by
  apply e_A_isReached
  simp only [ok_19 V.1, hM, bit_n (show s < 32 by omega), true_and, true_or, or_true]
  by_cases z : M.testBit s = true
  · rw [if_pos z]
    exact ⟨fun q => absurd rfl q, fun _ => (by first | exact q_at rfl (h1 z) | exact (h1 z))⟩
  · rw [if_neg z]
    exact ⟨fun _ => (by first | exact q_at rfl (h0 z) | exact (h0 z)), fun q => absurd q (by decide)⟩
theorem sp_A_areAlike {a b : Nat} (V : CW n hr) (ha : a < 6) (hb : b < 6) (h1 : h 21 (6 * (a : Int) + (b : Int)) = -2 → Q (0, 1) n hr h) (h0 : h 21 (6 * (a : Int) + (b : Int)) ≠ -2 → Q (0, 0) n hr h) : f_A_areAlike [(2, 19), (0, (a : Int)), (0, (b : Int))] n hr h Q := by
  apply e_A_areAlike
  simp (disch := omega) only [ok_19 V.1, cr_19_2 V, w32_id, Int.mul_comm _ 6, true_and, true_or, or_true]
  repeat (refine ⟨by omega, ?_⟩)
  exact ⟨fun z => (by first | exact q_at rfl (h0 z) | exact (h0 z)), fun z => (by first | exact q_at rfl (h1 z) | exact (h1 z))⟩
/-- the queue in the class's rows -/
def aqH (h h1 : HP) (S : Nat) (tail : Nat) (sp pa : Nat → Nat) : Prop := EX [20, 26] [(19, 8)] h h1 ∧ (∀ j, j < tail → h1 26 (j : Int) = (sp j : Int) ∧ h1 20 (sp j : Int) = (pa j : Int)) ∧ (∀ x : Nat, x < 6 → (∀ j, j < tail → sp j ≠ x) → h1 20 (x : Int) = -2) ∧ ∃ M : Nat, h1 19 8 = (M : Int) ∧ M < 64 ∧ ∀ x, M.testBit x = true ↔ ∃ j, j < tail ∧ sp j = x
theorem sp_A_learnAccess (V : CW n hr) (T : TV S I t o) (X : CX S I t o h) (hQ : ∀ h1, EX [20, 26] [(19, 8)] h h1 → (∀ x : Nat, x < S → h1 20 (x : Int) = AC I t 0 (x : Int)) → h1 19 8 = (RMk S I t : Int) → Q (9, 0) n hr h1) : f_A_learnAccess [(2, 19)] n hr h Q := by
  obtain ⟨hS, hI, hm, hc, hT⟩ := T
  apply e_A_learnAccess
  simp only [ok_19 V.1, cr_19_0 V, cr_19_1 V, ok_13 V.1, true_and]
  refine sp_J_fill (ok_20 V.1) ?_
  rw [l_20]
  have fin : ∀ (tail k : Nat) (sp pa : Nat → Nat) (h1 : HP), 0 < S → tail ≤ k → AQ I S t 0 sp pa tail k 0 → aqH h h1 S tail sp pa → ai_q 0 n Q (9, 0) n hr h1 := by
    rintro tail k sp pa h1 hS0 hk ha ⟨e1, e2, e3, M, m1, m2, m3⟩
    refine q_at rfl (hQ h1 e1 (fun x hx => ?_) ?_)
    · by_cases z : ∃ j, j < tail ∧ sp j = x
      · obtain ⟨j, j1, rfl⟩ := z
        rw [(e2 j j1).2]
        exact (AQ_ac hS hc hS0 ha j1).symm
      · rw [e3 x (by omega) (fun j hj q => z ⟨j, hj, q⟩)]
        exact (AQ_no hS hc hS0 ha hk (fun j hj q => z ⟨j, hj, q⟩)).symm
    · rw [m1]
      congr 1
      refine RMk_eq fun x => ?_
      rw [m3]
      constructor
      · rintro ⟨j, j1, rfl⟩
        refine ⟨(ha.2 j j1).1, ?_⟩
        have := AQ_ac hS hc hS0 ha j1
        rw [show ((0 : Nat) : Int) = 0 from rfl] at this
        rw [this]; omega
      · rintro ⟨q1, q2⟩
        refine Classical.byContradiction fun z => ?_
        have := AQ_no hS hc hS0 ha hk (x := x) (fun j hj q => z ⟨j, hj, q⟩)
        rw [show ((0 : Nat) : Int) = 0 from rfl] at this
        omega
  have main : 0 < S → ∀ (m k : Nat), 6 - k = m → ∀ (tail : Nat) (sp pa : Nat → Nat) (h1 : HP), AQ I S t 0 sp pa tail k 0 → aqH h h1 S tail sp pa → p_A_learnAccess_49 (n + 0) (ai_q 0 n Q) 19 (tail : Int) (k : Int) n hr h1 := by
    intro hS0 m
    induction m with
    | zero =>
      intro k hk tail sp pa h1 ha hh
      have ht := AQ_tail ha
      refine b_A_learnAccess_49 ⟨fun z => fin tail k sp pa h1 hS0 (by omega) ha hh, fun z => by omega⟩
    | succ m ih =>
      intro k hk tail sp pa h1 ha hh
      have ht := AQ_tail ha
      refine b_A_learnAccess_49 ⟨fun z => fin tail k sp pa h1 hS0 (by omega) ha hh, fun z => ⟨fun z2 => by omega, fun _ => ?_⟩⟩
      have e := (hh.2.1 k (by omega)).1
      simp (disch := omega) only [ok_19 V.1, cr_19_7 V, e, true_and]
      repeat (refine ⟨by omega, ?_⟩)
      have inner : ∀ (d i : Nat), I - i = d → ∀ (tail : Nat) (sp' pa : Nat → Nat) (h1 : HP), k < tail → sp' k = sp k → AQ I S t 0 sp' pa tail k i → aqH h h1 S tail sp' pa → p_A_learnAccess_70 (n + 0) (ai_q 0 n Q) 19 (tail : Int) (k : Int) (sp k : Int) (i : Int) n hr h1 := by
        intro d
        induction d with
        | zero =>
          intro i hi tail sp' pa h1 hkt hsk ha hh
          have ht := AQ_tail ha
          have hi2 : i = I := by omega
          subst hi2
          have X1 := CX_fr X hh.1 (by decide) (by decide)
          refine b_A_learnAccess_70 ?_
          simp (disch := omega) only [ok_19 V.1, cr_19_0 V, ok_13 V.1, X1.2.1, w32_id, true_and]
          exact ⟨fun _ => ih (k + 1) (by omega) tail sp' pa h1 (AQ_n ha hkt) hh, fun z => by omega⟩
        | succ d ihd =>
          intro i hi tail sp' pa h1 hkt hsk ha hh
          have ht := AQ_tail ha
          have X1 := CX_fr X hh.1 (by decide) (by decide)
          have hs := (ha.2 k hkt).1
          rw [hsk] at hs
          have g := X1.2.2.1 (3 * (sp k : Int) + (i : Int)) (by omega) (by omega)
          have at' := AST_at hS hc hs (show i < 3 by omega)
          rw [← at'.1] at g
          rw [Int.mul_comm 3] at g
          obtain ⟨e1, e2, e3, M, m1, m2, m3⟩ := hh
          refine b_A_learnAccess_70 ?_
          simp (disch := omega) only [ok_19 V.1, cr_19_0 V, cr_19_1 V, cr_19_7 V, cr_13_0 V, ok_13 V.1, X1.2.1, w32_id, g, true_and]
          refine ⟨fun z => by omega, fun _ => ?_⟩
          repeat (refine ⟨by omega, ?_⟩)
          refine sp_A_isReached V m1 (by omega) (fun z => ?_) (fun z => ?_)
          · refine ⟨fun _ => ?_, fun q => absurd q (by decide)⟩
            obtain ⟨j, j1, j2⟩ := (m3 _).mp z
            exact ihd (i + 1) (by omega) tail sp' pa h1 hkt hsk (AQ_o ha hkt (by omega) ⟨j, j1, by rw [hsk]; exact j2⟩) ⟨e1, e2, e3, M, m1, m2, m3⟩
          · refine ⟨fun q => absurd rfl q, fun _ => ⟨fun q => ?_, fun q => ?_⟩⟩
            · exfalso
              have ha2 := AQ_p hS hc ha hkt (by omega) (fun j hj q => z ((m3 _).mpr ⟨j, hj, by rw [← hsk]; exact q⟩))
              have := AQ_tail ha2
              omega
            · have hno : ∀ j, j < tail → sp' j ≠ AST t (sp' k) i := fun j hj q => z ((m3 _).mpr ⟨j, hj, by rw [← hsk]; exact q⟩)
              have ha2 := AQ_p hS hc ha hkt (by omega) hno
              have ht2 := AQ_tail ha2
              rw [hsk] at hno
              have ek := (e2 k hkt).2
              rw [hsk] at ek
              have pk := (ha.2 k hkt).2
              have pk2 : pa k < 4096 := by
                have : 4 ^ k ≤ 4 ^ 6 := Nat.pow_le_pow_right (by decide) (by omega)
                omega
              simp (disch := omega) only [ok_19 V.1, cr_19_1 V, cr_19_7 V, m1, up_same, up_oth, ek, w32_id, or_bit (show M < 2 ^ 31 by omega) (show AST t (sp k) i < 31 by omega), true_and]
              repeat (refine ⟨by omega, ?_⟩)
              refine ihd (i + 1) (by omega) (tail + 1) _ _ _ (by omega) ?_ ha2 ⟨?_, fun j hj => ?_, fun x hx hq => ?_, M ||| 2 ^ AST t (sp k) i, ?_, ?_, fun x => ?_⟩
              · rw [if_neg (by omega)]; exact hsk
              · exact EX_upc (EX_upc (EX_upp e1 (by decide)) (by decide)) (by decide)
              · dsimp only
                by_cases y : j = tail
                · subst y
                  rw [if_pos rfl, if_pos rfl, hsk]
                  simp (disch := omega) only [up_same, up_oth]
                  exact ⟨trivial, by omega⟩
                · rw [if_neg y, if_neg y]
                  have := e2 j (by omega)
                  have := hno j (by omega)
                  simp (disch := omega) only [up_same, up_oth]
                  omega
              · have y := hq tail (by omega)
                dsimp only at y
                rw [if_pos rfl, hsk] at y
                simp (disch := omega) only [up_oth]
                refine e3 x hx fun j hj => ?_
                have := hq j (by omega)
                dsimp only at this
                rwa [if_neg (by omega)] at this
              · simp (disch := omega) only [up_same, up_oth]
              · have := at'.2
                exact lt_of_tb (k := 6) fun y hy => by
                  rw [tb_or, tb_lt (k := 6) m2 hy]
                  simp
                  omega
              · rw [tb_or, Bool.or_eq_true, m3, decide_eq_true_eq]
                constructor
                · rintro (⟨j, j1, j2⟩ | y)
                  · exact ⟨j, by omega, by dsimp only; rw [if_neg (by omega)]; exact j2⟩
                  · exact ⟨tail, by omega, by dsimp only; rw [if_pos rfl, hsk]; exact y.symm⟩
                · rintro ⟨j, j1, j2⟩
                  dsimp only at j2
                  by_cases y : j = tail
                  · rw [if_pos y, hsk] at j2; exact Or.inr j2.symm
                  · rw [if_neg y] at j2; exact Or.inl ⟨j, by omega, j2⟩
      exact inner I 0 (by omega) tail sp pa h1 (by omega) rfl ha hh
  have e0 : EX [20, 26] [(19, 8)] h (ai_up (ai_fl h 20 6 (fun _ => -2)) 19 8 0) := EX_upp (EX_fl EX_rf (by decide)) (by decide)
  have X0 := CX_fr X e0 (by decide) (by decide)
  simp only [ok_19 V.1, cr_19_0 V, cr_19_1 V, cr_19_7 V, ok_13 V.1, X0.1, true_and]
  refine ⟨fun z => ?_, fun z => ?_⟩
  · have hS0 : S = 0 := by omega
    subst hS0
    refine b_A_learnAccess_49 ⟨fun _ => q_at rfl (hQ _ e0 (fun x hx => by omega) ?_), fun z => by omega⟩
    rw [up_same]
    show (0 : Int) = ((orA _ _ 0 : Nat) : Int)
    rfl
  · repeat (refine ⟨by omega, ?_⟩)
    refine main (by omega) 6 0 rfl 1 (fun _ => 0) (fun _ => 0) _ (AQ_0 hI hS (by omega)) ⟨?_, fun j hj => ?_, fun x hx hq => ?_, 1, ?_, by decide, fun x => ?_⟩
    · exact EX_upc (EX_upp (EX_upc e0 (by decide)) (by decide)) (by decide)
    · have : j = 0 := by omega
      subst this
      rw [show ((0 : Nat) : Int) = 0 from rfl]
      simp (disch := omega) only [up_same, up_oth]
      exact ⟨trivial, trivial⟩
    · have : (0 : Nat) ≠ x := hq 0 (by omega)
      simp (disch := omega) only [up_same, up_oth]
      exact fl_in (by omega) (by omega)
    · simp (disch := omega) only [up_same, up_oth]
      rfl
    · have e : (1 : Nat).testBit x = decide (0 = x) := Nat.testBit_two_pow (n := 0)
      rw [e, decide_eq_true_eq]
      exact ⟨fun q => ⟨0, by omega, q⟩, fun ⟨_, _, q⟩ => q⟩
end
