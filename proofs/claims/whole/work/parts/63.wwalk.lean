-- deps: 18 19 20 21 23 24 25 26 27 28 29 22 30 31 32 33 34 35 36 37 38 39 40 41 45 46 47 48 49 50 51 62
/-! the class: a suite's tree; the tour -/
/-- the rows of a suite's cell -/
def trow (hr : HP) (x : Int) (n : Nat) (nl tl : Int) : Prop := ai_ok n x 8 ∧ (hr x 0 = x + 1 ∧ ai_ok n (x + 1) 50 ∧ ai_l (x + 1) = nl) ∧ (hr x 1 = x + 2 ∧ ai_ok n (x + 2) 50 ∧ ai_l (x + 2) = nl) ∧ (hr x 2 = x + 3 ∧ ai_ok n (x + 3) 50 ∧ ai_l (x + 3) = nl) ∧ (hr x 3 = x + 4 ∧ ai_ok n (x + 4) 50 ∧ ai_l (x + 4) = tl) ∧ (hr x 4 = x + 5 ∧ ai_ok n (x + 5) 50 ∧ ai_l (x + 5) = tl) ∧ (hr x 5 = x + 6 ∧ ai_ok n (x + 6) 50 ∧ ai_l (x + 6) = tl) ∧ (hr x 6 = 45 ∧ ai_ok n 45 50 ∧ ai_l 45 = 4550) ∧ nl ≤ 4550 ∧ tl ≤ 875
theorem tr_46 {n : Nat} {hr : HP} (V : CW n hr) : trow hr 46 n 494 95 := ⟨ok_46 V.1, cr_46_0 V, cr_46_1 V, cr_46_2 V, cr_46_3 V, cr_46_4 V, cr_46_5 V, cr_46_6 V, by decide, by decide⟩
theorem tr_53 {n : Nat} {hr : HP} (V : CW n hr) : trow hr 53 n 494 95 := ⟨ok_53 V.1, cr_53_0 V, cr_53_1 V, cr_53_2 V, cr_53_3 V, cr_53_4 V, cr_53_5 V, cr_53_6 V, by decide, by decide⟩
theorem tr_60 {n : Nat} {hr : HP} (V : CW n hr) : trow hr 60 n 1508 290 := ⟨ok_60 V.1, cr_60_0 V, cr_60_1 V, cr_60_2 V, cr_60_3 V, cr_60_4 V, cr_60_5 V, cr_60_6 V, by decide, by decide⟩
theorem tr_67 {n : Nat} {hr : HP} (V : CW n hr) : trow hr 67 n 1508 290 := ⟨ok_67 V.1, cr_67_0 V, cr_67_1 V, cr_67_2 V, cr_67_3 V, cr_67_4 V, cr_67_5 V, cr_67_6 V, by decide, by decide⟩
theorem tr_74 {n : Nat} {hr : HP} (V : CW n hr) : trow hr 74 n 4550 875 := ⟨ok_74 V.1, cr_74_0 V, cr_74_1 V, cr_74_2 V, cr_74_3 V, cr_74_4 V, cr_74_5 V, cr_74_6 V, by decide, by decide⟩
theorem tr_81 {n : Nat} {hr : HP} (V : CW n hr) : trow hr 81 n 4550 875 := ⟨ok_81 V.1, cr_81_0 V, cr_81_1 V, cr_81_2 V, cr_81_3 V, cr_81_4 V, cr_81_5 V, cr_81_6 V, by decide, by decide⟩
theorem tr_88 {n : Nat} {hr : HP} (V : CW n hr) : trow hr 88 n 253 1 := ⟨ok_88 V.1, cr_88_0 V, cr_88_1 V, cr_88_2 V, cr_88_3 V, cr_88_4 V, cr_88_5 V, cr_88_6 V, by decide, by decide⟩
theorem tr_95 {n : Nat} {hr : HP} (V : CW n hr) : trow hr 95 n 253 1 := ⟨ok_95 V.1, cr_95_0 V, cr_95_1 V, cr_95_2 V, cr_95_3 V, cr_95_4 V, cr_95_5 V, cr_95_6 V, by decide, by decide⟩
section
variable {Q : RP} {n : Nat} {hr h : HP} {S I : Nat} {t o : Int → Int}
theorem sp_E_addNode {x a b c nl tl : Int} {N : Nat} (R : trow hr x n nl tl) (hN : h x 7 = (N : Int)) (hl : (N : Int) < nl) (hQ : Q (9, 0) n hr (ai_up (ai_up (ai_up (ai_up h (x + 1) (N : Int) a) (x + 2) (N : Int) b) (x + 3) (N : Int) c) x 7 ((N : Int) + 1))) : f_E_addNode [(2, x), (0, a), (0, b), (0, c)] n hr h Q := by
  obtain ⟨r0, r1, r2, r3, r4, r5, r6, r7, r8, r9⟩ := R
  apply e_E_addNode
  simp (disch := omega) only [r0, r1, r2, r3, r7, hN, up_same, up_oth, w32_id, true_and]
  refine ⟨fun z => by omega, fun _ => ⟨fun z => by omega, fun _ => ?_⟩⟩
  repeat (refine ⟨by omega, ?_⟩)
  exact (by first | exact q_at rfl (hQ) | exact (hQ))
theorem sp_E_addTest {x a b c nl tl : Int} {N : Nat} (R : trow hr x n nl tl) (hN : h x 8 = (N : Int)) (hl : (N : Int) < tl) (hQ : Q (9, 0) n hr (ai_up (ai_up (ai_up (ai_up h (x + 4) (N : Int) a) (x + 5) (N : Int) b) (x + 6) (N : Int) c) x 8 ((N : Int) + 1))) : f_E_addTest [(2, x), (0, a), (0, b), (0, c)] n hr h Q := by
  obtain ⟨r0, r1, r2, r3, r4, r5, r6, r7, r8, r9⟩ := R
  apply e_E_addTest
  simp (disch := omega) only [r0, r4, r5, r6, hN, up_same, up_oth, w32_id, true_and]
  refine ⟨fun z => by omega, fun _ => ?_⟩
  repeat (refine ⟨by omega, ?_⟩)
  exact (by first | exact q_at rfl (hQ) | exact (hQ))
/-- places along a list of inputs -/
def stp (t : Int → Int) (L : List Nat) : Nat → Int
  | 0 => 0
  | k + 1 => match L[k]? with
    | some v => t (3 * stp t L k + (v : Int))
    | none => stp t L k
theorem stp_app {L M : List Nat} : ∀ k, k ≤ L.length → stp t (L ++ M) k = stp t L k
  | 0, _ => rfl
  | k + 1, h => by
    have ih := stp_app (L := L) (M := M) k (by omega)
    show (match (L ++ M)[k]? with | some v => t (3 * stp t (L ++ M) k + (v : Int)) | none => stp t (L ++ M) k) = (match L[k]? with | some v => t (3 * stp t L k + (v : Int)) | none => stp t L k)
    rw [List.getElem?_append_left (by omega), ih]
theorem stp_g {L : List Nat} {k v : Nat} (h : L[k]? = some v) : stp t L (k + 1) = t (3 * stp t L k + (v : Int)) := by
  rw [stp, h]
theorem stp_s {L : List Nat} {v : Nat} : stp t (L ++ [v]) (L.length + 1) = t (3 * stp t L L.length + (v : Int)) := by
  rw [stp_g (v := v) (by rw [List.getElem?_append_right (Nat.le_refl _), Nat.sub_self]; rfl), stp_app _ (Nat.le_refl _)]
/-- a chain of nodes -/
def CH (t o : Int → Int) (h : HP) (x : Int) (L : List Nat) : Prop := h x 7 = ((L.length + 1 : Nat) : Int) ∧ ∀ k v : Nat, L[k]? = some v → h (x + 1) ((k + 1 : Nat) : Int) = (k : Int) ∧ h (x + 2) ((k + 1 : Nat) : Int) = (v : Int) ∧ h (x + 3) ((k + 1 : Nat) : Int) = o (3 * stp t L k + (v : Int))
/-- the walk as it stands -/
def WK (S I : Nat) (t o : Int → Int) (h : HP) (x : Int) (w : WS) : Prop := h 42 4 = (w.1 : Int) ∧ h 42 5 = (w.2.1 : Int) ∧ CH t o h x w.2.2 ∧ (w.2.1 : Int) = stp t w.2.2 w.2.2.length
def fxW (x : Int) (h h1 : HP) : Prop := EX [x + 1, x + 2, x + 3, 43, 44, 28, 29, 30, 31] [(x, 7), (42, 4), (42, 5), (27, 10)] h h1
theorem sp_W_wordToNew {tk st : Nat} (V : CW n hr) (T : TV S I t o) (X : CX S I t o h) (htk : h 42 4 = (tk : Int)) (htk2 : tk < 2 ^ 18) (hst : h 42 5 = (st : Int)) (hst2 : st < S) (hQ : ∀ h1, EX [43, 44] [] h h1 → Q (0, if WN I t tk st = -2 then -1 else WN I t tk st) n hr h1) : f_W_wordToNew [(2, 42)] n hr h Q := by
  obtain ⟨hS, hI, hm, hc, hT⟩ := T
  apply e_W_wordToNew
  simp (disch := omega) only [ok_42 V.1, cr_42_2 V, cr_42_3 V, hst, up_oth, true_and]
  repeat (refine ⟨by omega, ?_⟩)
  have main : ∀ (d k : Nat), 6 - k = d → ∀ (tail : Nat) (sp pa : Nat → Nat) (M : Nat) (h1 : HP), AQ I S t st sp pa tail k 0 → EX [43, 44] [] h h1 → (∀ j, j < tail → h1 43 (j : Int) = (sp j : Int) ∧ h1 44 (j : Int) = (pa j : Int)) → M < 64 → (∀ x, M.testBit x = true ↔ ∃ j, j < tail ∧ sp j = x) → (∀ k' j, k' < tail → j < I → (k' < k ∨ (k' = k ∧ j < 0)) → tk.testBit (3 * sp k' + j) = true) → p_W_wordToNew_28 (n + 0) (ai_q 0 n Q) 42 (M : Int) (tail : Int) (k : Int) n hr h1 := by
    intro d
    induction d with
    | zero =>
      intro k hk tail sp pa M h1 ha e1 e2 m2 m3 hall
      have ht := AQ_tail ha
      have wn := WN_no hS hc hst2 ha (by omega) hall
      have := hQ h1 e1
      rw [wn, if_pos rfl] at this
      exact b_W_wordToNew_28 ⟨fun _ => q_at rfl this, fun z => by omega⟩
    | succ d ih =>
      intro k hk tail sp pa M h1 ha e1 e2 m2 m3 hall
      have ht := AQ_tail ha
      refine b_W_wordToNew_28 ⟨fun z => ?_, fun z => ⟨fun z2 => by omega, fun _ => ?_⟩⟩
      · have wn := WN_no hS hc hst2 ha (by omega) hall
        have := hQ h1 e1
        rw [wn, if_pos rfl] at this
        exact q_at rfl this
      · have inner : ∀ (d i : Nat), I - i = d → ∀ (tail : Nat) (sp pa : Nat → Nat) (M : Nat) (h1 : HP), k < tail → AQ I S t st sp pa tail k i → EX [43, 44] [] h h1 → (∀ j, j < tail → h1 43 (j : Int) = (sp j : Int) ∧ h1 44 (j : Int) = (pa j : Int)) → M < 64 → (∀ x, M.testBit x = true ↔ ∃ j, j < tail ∧ sp j = x) → (∀ k' j, k' < tail → j < I → (k' < k ∨ (k' = k ∧ j < i)) → tk.testBit (3 * sp k' + j) = true) → p_W_wordToNew_42 (n + 0) (ai_q 0 n Q) 42 (M : Int) (tail : Int) (k : Int) (i : Int) n hr h1 := by
          intro d
          induction d with
          | zero =>
            intro i hi tail sp pa M h1 hkt ha e1 e2 m2 m3 hall
            have ht := AQ_tail ha
            have hi2 : i = I := by omega
            subst hi2
            have X1 := CX_fr X e1 (by decide) (by decide)
            refine b_W_wordToNew_42 ?_
            simp (disch := omega) only [ok_42 V.1, cr_42_0 V, ok_13 V.1, X1.2.1, w32_id, true_and]
            exact ⟨fun _ => ih (k + 1) (by omega) tail sp pa M h1 (AQ_n ha hkt) e1 e2 m2 m3 (fun k' j q1 q2 q3 => hall k' j q1 q2 (by omega)), fun z => by omega⟩
          | succ d ihd =>
            intro i hi tail sp pa M h1 hkt ha e1 e2 m2 m3 hall
            have ht := AQ_tail ha
            have hiI : i < I := by omega
            have hdd2 : I - (i + 1) = d := by omega
            have X1 := CX_fr X e1 (by decide) (by decide)
            have hs := (ha.2 k hkt).1
            have g := X1.2.2.1 (3 * (sp k : Int) + (i : Int)) (by omega) (by omega)
            have at' := AST_at hS hc hs (show i < 3 by omega)
            rw [← at'.1] at g
            have tk1 : h1 42 4 = (tk : Int) := by rw [EX_at e1 (by decide) (by decide)]; exact htk
            obtain ⟨g43, g44⟩ := e2 k hkt
            have pk := (ha.2 k hkt).2
            have pk2 : pa k < 4096 := by
              have : 4 ^ k ≤ 4 ^ 6 := Nat.pow_le_pow_right (by decide) (by omega)
              omega
            have earc : (sp k : Int) * 3 + (i : Int) = ((3 * sp k + i : Nat) : Int) := by omega
            have earc2 : ((3 * sp k + i : Nat) : Int) = 3 * (sp k : Int) + (i : Int) := by omega
            have pth : (pa k : Int) * 4 + (i : Int) + 1 = ((4 * pa k + i + 1 : Nat) : Int) := by omega
            rw [← earc2] at g
            refine b_W_wordToNew_42 ?_
            simp (disch := omega) only [ok_42 V.1, cr_42_0 V, cr_42_2 V, cr_42_3 V, ok_13 V.1, cr_13_0 V, X1.2.1, tk1, g43, g44, w32_id, earc, pth, bit_n, g, true_and]
            refine ⟨fun z => by omega, fun _ => ?_⟩
            repeat (refine ⟨by omega, ?_⟩)
            refine ⟨fun z => ?_, fun z => ?_⟩
            · have hb : tk.testBit (3 * sp k + i) = true := Classical.byContradiction fun q => by rw [if_neg q] at z; exact z rfl
              have hall2 : ∀ k' j, k' < tail → j < I → (k' < k ∨ (k' = k ∧ j < i + 1)) → tk.testBit (3 * sp k' + j) = true := fun k' j q1 q2 q3 => by
                by_cases y : k' = k ∧ j = i
                · rw [y.1, y.2]; exact hb
                · exact hall k' j q1 q2 (by omega)
              repeat (refine ⟨by omega, ?_⟩)
              refine ⟨fun z2 => ?_, fun z2 => ?_⟩
              · have hs2 : M.testBit (AST t (sp k) i) = true := Classical.byContradiction fun q => by rw [if_neg q] at z2; exact z2 rfl
                exact ihd (i + 1) hdd2 tail sp pa M h1 hkt (AQ_o ha hkt hiI ((m3 _).mp hs2)) e1 e2 m2 m3 hall2
              · have hs2 : ¬ M.testBit (AST t (sp k) i) = true := fun q => by rw [if_pos q] at z2; omega
                have hno : ∀ j, j < tail → sp j ≠ AST t (sp k) i := fun j hj q => hs2 ((m3 _).mpr ⟨j, hj, q⟩)
                have ha2 := AQ_p hS hc ha hkt hiI hno
                have ht2 := AQ_tail ha2
                refine ⟨fun q => by omega, fun _ => ?_⟩
                simp (disch := omega) only [or_bit (show M < 2 ^ 31 by omega) (show AST t (sp k) i < 31 by omega), up_oth, g44, true_and]
                repeat (refine ⟨by omega, ?_⟩)
                refine ihd (i + 1) hdd2 (tail + 1) _ _ (M ||| 2 ^ AST t (sp k) i) _ (by omega) ha2 (EX_upc (EX_upc e1 (by decide)) (by decide)) (fun j hj => ?_) ?_ (fun x => ?_) (fun k' j q1 q2 q3 => ?_)
                · by_cases y : j = tail
                  · subst y
                    (try dsimp only); rw [if_pos rfl, if_pos rfl]
                    simp (disch := omega) only [up_same, up_oth]
                    exact ⟨trivial, by first | trivial | omega⟩
                  · (try dsimp only); rw [if_neg y, if_neg y]
                    have := e2 j (by omega)
                    simp (disch := omega) only [up_oth]
                    exact this
                · have := at'.2
                  exact lt_of_tb (k := 6) fun y hy => by
                    rw [tb_or, tb_lt (k := 6) m2 hy]
                    simp
                    omega
                · rw [tb_or, Bool.or_eq_true, m3, decide_eq_true_eq]
                  constructor
                  · rintro (⟨j, j1, j2⟩ | y)
                    · exact ⟨j, by omega, by (try dsimp only); rw [if_neg (by omega)]; exact j2⟩
                    · exact ⟨tail, by omega, by (try dsimp only); rw [if_pos rfl]; exact y.symm⟩
                  · rintro ⟨j, j1, j2⟩
                    (try dsimp only at j2)
                    by_cases y : j = tail
                    · rw [if_pos y] at j2; exact Or.inr j2.symm
                    · rw [if_neg y] at j2; exact Or.inl ⟨j, by omega, j2⟩
                · (try dsimp only); rw [if_neg (by omega)]; exact hall2 k' j (by omega) q2 q3
            · have hb : ¬ tk.testBit (3 * sp k + i) = true := fun q => by rw [if_pos q] at z; omega
              have wn := WN_at hS hI hc hst2 ha hkt hiI hall hb
              have := hQ h1 e1
              rw [wn, if_neg (by omega)] at this
              exact (by first | exact q_at rfl (this) | exact (this))
        exact inner I 0 (by omega) tail sp pa M h1 (by omega) ha e1 e2 m2 m3 hall
  rw [shl1_n (by omega)]
  refine main 6 0 rfl 1 (fun _ => st) (fun _ => 0) (2 ^ st) _ (AQ_0 hI hS hst2) (EX_upc (EX_upc EX_rf (by decide)) (by decide)) (fun j hj => ?_) ?_ (fun x => ?_) (fun k' j q1 q2 q3 => by omega)
  · have : j = 0 := by omega
    subst this
    rw [show ((0 : Nat) : Int) = 0 from rfl]
    simp (disch := omega) only [up_same, up_oth]
    exact ⟨trivial, trivial⟩
  · have : 2 ^ st ≤ 2 ^ 5 := Nat.pow_le_pow_right (by decide) (by omega)
    omega
  · rw [Nat.testBit_two_pow, decide_eq_true_eq]
    exact ⟨fun q => ⟨0, by omega, q⟩, fun ⟨_, _, q⟩ => q⟩
end
