-- deps: 18 19 20 21 23 24 25 26 27 28 29 22 30 31 32 33 34 35 38 39 40 41 42 43 44 45 46 47 48 49 50 51 62 63 64 65 66 67 68 69 70 71 72 73 74 75 76 77 78 79 80 81 82 83 84 85 86 87 88 89 91 92 93 94 95 99
/-! the class: all small machines -/
section
variable {Q : RP} {n : Nat} {hr h : HP} {S I : Nat} {t o t' o' : Int → Int}
theorem sp_U_smallOnes {k : Nat} (V : CW n hr) (hI : I ≤ 3) (hi : h 13 3 = (I : Int)) (hk : k = 1 ∨ k = 2) (hQ : Q (0, (sN I k : Int)) n hr h) : f_U_smallOnes [(2, 102), (0, (k : Int))] n hr h Q := by
  have kI : k * I ≤ 6 := by rcases hk with rfl | rfl <;> omega
  have e1 : w32 ((k : Int) * (I : Int)) = ((k * I : Nat) : Int) := by rw [← Int.natCast_mul, w32_id (by omega) (by omega)]
  apply e_U_smallOnes
  have loop := lupN (N := k * I) (P := fun d => p_U_smallOnes_4 (n + 0) (ai_q 0 n Q) 102 (k : Int) (((2 * k) ^ d : Nat) : Int) (d : Int) n hr h) ?_ ?_
  · exact loop
  · refine b_U_smallOnes_4 ?_
    simp (disch := omega) only [ok_102 V.1, cr_102_0 V, ok_13 V.1, hi, e1, true_and]
    exact ⟨fun _ => q_at rfl hQ, fun z => by omega⟩
  · intro d hd ih
    have pb : (2 * k) ^ d ≤ 4 ^ 6 := Nat.le_trans (Nat.pow_le_pow_left (show 2 * k ≤ 4 by omega) d) (Nat.pow_le_pow_right (by decide) (by omega))
    have pb' : (2 * k) ^ d ≤ 4096 := pb
    have e2 : (((2 * k) ^ d : Nat) : Int) * (2 * (k : Int)) = (((2 * k) ^ (d + 1) : Nat) : Int) := by
      rw [Nat.pow_succ, Int.natCast_mul ((2 * k) ^ d), Int.natCast_mul 2]; rfl
    have pc : (2 * k) ^ (d + 1) ≤ 16384 := by
      rw [Nat.pow_succ]
      have : (2 * k) ^ d * (2 * k) ≤ 4096 * 4 := Nat.mul_le_mul pb' (by omega)
      omega
    refine b_U_smallOnes_4 ?_
    simp (disch := omega) only [ok_102 V.1, cr_102_0 V, ok_13 V.1, hi, e1, true_and]
    refine ⟨fun z => by omega, fun _ => ?_⟩
    rw [w32_id (x := 2 * (k : Int)) (by omega) (by omega), e2, w32_id (x := (((2 * k) ^ (d + 1) : Nat) : Int)) (by omega) (by omega), w32_id (x := (d : Int) + 1) (by omega) (by omega)]
    exact ih
/-- the first arcs are set -/
def smP (k I : Nat) (F : Nat → Nat × Nat) (h : HP) (p i : Nat) : Prop := ∀ q j : Nat, (q < p ∧ j < I) ∨ (q = p ∧ j < i) → h 104 (3 * (q : Int) + (j : Int)) = ((F (q * I + j)).1 : Int) ∧ h 105 (3 * (q : Int) + (j : Int)) = ((F (q * I + j)).2 : Int)
theorem sp_U_makeSmall {k c : Nat} (V : CW n hr) (hI : I ≤ 3) (hi : h 13 3 = (I : Int)) (hk : k = 1 ∨ k = 2) (hc : c < 4096) (tl : CTl h) (hQ : ∀ h1, EX [104, 105] [(103, 2), (103, 3)] h h1 → isSm k I (sC k c) (h1 104) (h1 105) → CTl h1 → h1 103 2 = (k : Int) → h1 103 3 = (I : Int) → Q (9, 0) n hr h1) : f_U_makeSmall [(2, 102), (0, (k : Int)), (0, (c : Int))] n hr h Q := by
  have M1 := mr_103 V
  apply e_U_makeSmall
  simp (disch := omega) only [ok_102 V.1, cr_102_0 V, cr_102_3 V, ok_103 V.1, ok_13 V.1, up_oth, hi, true_and]
  have cd : ∀ d, c / (2 * k) ^ d ≤ c := fun d => Nat.div_le_self _ _
  have main := lupN (N := k) (P := fun p => ∀ h1, EX [104, 105] [(103, 2), (103, 3)] h h1 → CTl h1 → h1 103 2 = (k : Int) → h1 103 3 = (I : Int) → smP k I (sC k c) h1 p 0 → p_U_makeSmall_27 (n + 0) (ai_q 0 n Q) 102 (k : Int) ((c / (2 * k) ^ (p * I) : Nat) : Int) (p : Int) n hr h1) ?_ ?_
  · have := main (ai_up (ai_up h 103 2 (k : Int)) 103 3 (I : Int)) (EX_upp (EX_upp EX_rf (by decide)) (by decide)) tl (by rw [up_oth (by omega), up_same]) (by rw [up_same]) (fun q j z => by omega)
    rw [Nat.zero_mul, Nat.pow_zero, Nat.div_one] at this
    exact this
  · intro h1 e1 t1 a1 b1 s1
    refine b_U_makeSmall_27 ⟨fun _ => q_at rfl (hQ h1 e1 (fun p i hp hi => s1 p i (Or.inl ⟨hp, hi⟩)) t1 a1 b1), fun z => by omega⟩
  · intro p hp ih h1 e1 t1 a1 b1 s1
    refine b_U_makeSmall_27 ⟨fun z => by omega, fun _ => ?_⟩
    have inner := lupN (N := I) (P := fun i => ∀ h1, EX [104, 105] [(103, 2), (103, 3)] h h1 → CTl h1 → h1 103 2 = (k : Int) → h1 103 3 = (I : Int) → smP k I (sC k c) h1 p i → p_U_makeSmall_36 (n + 0) (ai_q 0 n Q) 102 (k : Int) ((c / (2 * k) ^ (p * I + i) : Nat) : Int) (p : Int) (i : Int) n hr h1) ?_ ?_
    · exact inner h1 e1 t1 a1 b1 s1
    · intro h2 e2 t2 a2 b2 s2
      have hi2 : h2 13 3 = (I : Int) := by rw [e2 13 3 (by decide) (by decide)]; exact hi
      refine b_U_makeSmall_36 ?_
      simp (disch := omega) only [ok_102 V.1, cr_102_0 V, ok_13 V.1, hi2, w32_id, true_and]
      refine ⟨fun _ => ?_, fun z => by omega⟩
      have := ih h2 e2 t2 a2 b2 fun q j z => s2 q j (by omega)
      rw [show (p + 1) * I = p * I + I from Nat.succ_mul p I] at this
      exact this
    · intro i hii ihi h2 e2 t2 a2 b2 s2
      have hi2 : h2 13 3 = (I : Int) := by rw [e2 13 3 (by decide) (by decide)]; exact hi
      have cl := cd (p * I + i)
      have sl := sC_lt (c := c) (d := p * I + i) hk
      -- on with the values
      have on : ∀ x y : Nat, (x, y) = sC k c (p * I + i) → f_M_set [(2, 103), (0, (p : Int)), (0, (i : Int)), (0, (x : Int)), (0, (y : Int))] n hr h2 fun r3 n3 hr3 h3 => p_U_makeSmall_36 (n + 0) (ai_q 0 n Q) 102 (k : Int) ((c / (2 * k) ^ (p * I + (i + 1)) : Nat) : Int) (p : Int) ((i + 1 : Nat) : Int) n3 hr3 h3 := by
        intro x y hxy
        rw [← hxy] at sl
        refine sp_M_set M1 (by omega) (by omega) ?_
        refine ihi _ (EX_upc (EX_upc e2 (by decide)) (by decide)) ?_ ?_ ?_ ?_
        · exact fun a h1 h2' => by
            have := t2 a h1 h2'
            refine ⟨?_, ?_⟩
            · by_cases z : a = 3 * (p : Int) + (i : Int)
              · subst z; simp (disch := omega) only [up_oth]; rw [show (103 + 1 : Int) = 104 from rfl, up_same]; omega
              · simp (disch := omega) only [up_oth]; exact this.1
            · by_cases z : a = 3 * (p : Int) + (i : Int)
              · subst z; rw [show (103 + 2 : Int) = 105 from rfl, up_same]; omega
              · simp (disch := omega) only [up_oth]; exact this.2
        · simp (disch := omega) only [up_oth]; exact a2
        · simp (disch := omega) only [up_oth]; exact b2
        · intro q j z
          by_cases y2 : q = p ∧ j = i
          · obtain ⟨rfl, rfl⟩ := y2
            rw [← hxy, show (103 + 1 : Int) = 104 from rfl, show (103 + 2 : Int) = 105 from rfl]
            constructor
            · simp (disch := omega) only [up_oth, up_same]
            · rw [up_same]
          · have := s2 q j (by omega)
            have ne : 3 * (q : Int) + (j : Int) ≠ 3 * (p : Int) + (i : Int) := by omega
            constructor
            · simp (disch := omega) only [up_oth]; exact this.1
            · simp (disch := omega) only [up_oth]; exact this.2
      have nx : c / (2 * k) ^ (p * I + (i + 1)) = c / (2 * k) ^ (p * I + i) / (2 * k) := by
        rw [← Nat.add_assoc, Nat.pow_succ, Nat.div_div_eq_div_mul]
      rw [nx] at on
      have v2 : (sC k c (p * I + i)).2 = c / (2 * k) ^ (p * I + i) % 2 := rfl
      have v1 : (sC k c (p * I + i)).1 = if k = 2 then c / (2 * k) ^ (p * I + i) / 2 % 2 else 0 := rfl
      generalize c / (2 * k) ^ (p * I + i) = r at *
      have a_1 : i_and (r : Int) 1 = ((r % 2 : Nat) : Int) := by rw [and_1 (by omega) (by omega)]; omega
      refine b_U_makeSmall_36 ?_
      simp (disch := omega) only [ok_102 V.1, cr_102_0 V, cr_102_3 V, ok_13 V.1, ok_103 V.1, hi2, w32_id, a_1, true_and]
      refine ⟨fun z => by omega, fun _ => ⟨fun z => ?_, fun z => ?_⟩⟩
      · have k1 : k = 1 := by omega
        subst k1
        have := on 0 (r % 2) (by rw [← v2, Prod.ext_iff]; exact ⟨by rw [v1, if_neg (by decide)], rfl⟩)
        rw [show i_shr (r : Int) ((1 : Nat) : Int) = ((r / (2 * 1) : Nat) : Int) by
          have := shr_1 (x := (r : Int)) (by omega) (by omega)
          show i_shr (r : Int) 1 = _
          rw [this]; omega]
        exact this
      · have k1 : k = 2 := by omega
        subst k1
        have b_1 : i_and (i_shr (r : Int) 1) 1 = ((r / 2 % 2 : Nat) : Int) := by rw [shr_1 (by omega) (by omega), and_1 (by omega) (by omega)]; omega
        have := on (r / 2 % 2) (r % 2) (by rw [← v2, Prod.ext_iff]; exact ⟨by rw [v1, if_pos rfl], rfl⟩)
        rw [b_1, show i_shr (r : Int) ((2 : Nat) : Int) = ((r / (2 * 2) : Nat) : Int) by
          have := shr_2 (x := (r : Int)) (by omega) (by omega)
          show i_shr (r : Int) 2 = _
          rw [this]; omega]
        exact this
/-- small machines are counted -/
def CSm (S I : Nat) (t o : Int → Int) (e : Nat) (h : HP) : Prop := ∀ k su : Nat, (k = 1 ∨ k = 2) → su < 2 → h 114 (2 * ((k : Int) - 1) + (su : Int)) = -9 ∨ (h 114 (2 * ((k : Int) - 1) + (su : Int)) = (sPa S I t o e su k : Int) ∧ h 115 (2 * ((k : Int) - 1) + (su : Int)) = (sEq I t o k : Int))
def fxV (h h1 : HP) : Prop := EX [28, 29, 30, 45, 104, 105, 114, 115] [(27, 10), (103, 2), (103, 3)] h h1
theorem sp_U_learnSmall {e su k : Nat} (V : CW n hr) (T : TV S I t o) (hS0 : 0 < S) (X : CX S I t o h) (hc0 : SC h) (tq : CTl h) (N : CSm S I t o e h) (he : e < 3) (hsu : su < 2) (hk : k = 1 ∨ k = 2) (G : GTs S I t o e su h) (hQ : ∀ h1, fxV h h1 → SC h1 → CTl h1 → CSm S I t o e h1 → h1 114 (2 * ((k : Int) - 1) + (su : Int)) = (sPa S I t o e su k : Int) → h1 115 (2 * ((k : Int) - 1) + (su : Int)) = (sEq I t o k : Int) → Q (9, 0) n hr h1) : f_U_learnSmall [(2, 102), (0, (k : Int)), (0, (su : Int)), (2, gx e su)] n hr h Q := by
  have TT := T
  obtain ⟨hS, hI, hm, hc, hT⟩ := T
  have M := mr_13 V
  have M1 := mr_103 V
  have sb := sN_b hI hk
  obtain ⟨nl, tl0, R, _, _⟩ := gx_row (o := o) V hS hI hm hc he (show su < 4 by omega)
  have es : w32 (w32 (w32 ((k : Int) - 1) * 2) + (su : Int)) = 2 * ((k : Int) - 1) + (su : Int) := by
    rw [w32_id (x := (k : Int) - 1) (by omega) (by omega), w32_id (x := ((k : Int) - 1) * 2) (by omega) (by omega), w32_id (by omega) (by omega)]; omega
  have hsl : 0 ≤ 2 * ((k : Int) - 1) + (su : Int) ∧ 2 * ((k : Int) - 1) + (su : Int) < 4 := by omega
  have NN := N k su hk hsu
  apply e_U_learnSmall
  simp (disch := omega) only [ok_102 V.1, cr_102_10 V, cr_102_11 V, es, true_and]
  generalize hsv : 2 * ((k : Int) - 1) + (su : Int) = sl at *
  repeat (refine ⟨by omega, ?_⟩)
  refine ⟨fun z => ?_, fun z => ?_⟩
  · repeat (refine ⟨by omega, ?_⟩)
    generalize hh : ai_up (ai_up h 114 sl 0) 115 sl 0 = h2
    have e2 : EX [114, 115] [] h h2 := by rw [← hh]; exact EX_upc (EX_upc EX_rf (by decide)) (by decide)
    have f2 : fxV h h2 := EX_le e2 (by decide) (by decide)
    have fx : ∀ {h1 : HP}, fxV h h1 → CX S I t o h1 := fun f => CX_fr X f (by decide) (by decide)
    have fin : ∀ h4, fxV h h4 → SC h4 → CTl h4 → (∀ j : Int, j ≠ sl → h4 114 j = h 114 j ∧ h4 115 j = h 115 j) → h4 114 sl = (sPa S I t o e su k : Int) → h4 115 sl = (sEq I t o k : Int) → Q (9, 0) n hr h4 := by
      intro h4 f4 s4 t4 o4 a4 b4
      refine hQ h4 f4 s4 t4 (fun k' s' hk' hs' => ?_) a4 b4
      by_cases y : k' = k ∧ s' = su
      · obtain ⟨rfl, rfl⟩ := y
        rw [hsv]; exact Or.inr ⟨a4, b4⟩
      · have oo := o4 (2 * ((k' : Int) - 1) + (s' : Int)) (by omega)
        rw [oo.1, oo.2]
        exact N k' s' hk' hs'
    refine sp_U_smallOnes V hI (fx f2).2.1 hk ?_
    dsimp only
    have z1 : h2 114 sl = 0 ∧ h2 115 sl = 0 := by
      rw [← hh]
      constructor <;> simp (disch := omega) only [up_same, up_oth]
    have o1 : ∀ j : Int, j ≠ sl → h2 114 j = h 114 j ∧ h2 115 j = h 115 j := fun j hj => by
      rw [← hh]
      constructor <;> simp (disch := omega) only [up_oth]
    have loop := lupN (N := sN I k) (P := fun c => ∀ h3, fxV h h3 → SC h3 → CTl h3 → (∀ j : Int, j ≠ sl → h3 114 j = h 114 j ∧ h3 115 j = h 115 j) → h3 114 sl = (cntP (fun c => ¬ FA S I t o e su (sMt k I (sC k c)) (sMo k I (sC k c))) c : Int) → h3 115 sl = (cntP (fun c => UL I t o (sMt k I (sC k c)) (sMo k I (sC k c)) 0 0 = -2) c : Int) → p_U_learnSmall_48 (n + 0) (ai_q 0 n Q) 102 (k : Int) (gx e su) sl (sN I k : Int) (c : Int) n hr h3) ?_ ?_
    · refine loop h2 f2 (SC_fr hc0 (by rw [← hh]; simp (disch := omega) only [up_oth]) (EX_fn e2 (by decide) (by decide))) ?_ o1 (by rw [z1.1]; rfl) (by rw [z1.2]; rfl)
      unfold CTl; rw [EX_fn e2 (c := 104) (by decide) (by decide), EX_fn e2 (c := 105) (by decide) (by decide)]; exact tq
    · intro h3 f3 s3 t3 o3 a3 b3
      exact b_U_learnSmall_48 ⟨fun _ => q_at rfl (fin h3 f3 s3 t3 o3 a3 b3), fun q => by omega⟩
    · intro c hcN ih h3 f3 s3 t3 o3 a3 b3
      have cl1 := cntP_le (fun c => ¬ FA S I t o e su (sMt k I (sC k c)) (sMo k I (sC k c))) c
      have cl2 := cntP_le (fun c => UL I t o (sMt k I (sC k c)) (sMo k I (sC k c)) 0 0 = -2) c
      refine b_U_learnSmall_48 ⟨fun q => by omega, fun _ => ?_⟩
      simp only [ok_102 V.1, cr_102_3 V, ok_103 V.1, true_and]
      refine sp_U_makeSmall V hI (fx f3).2.1 hk (by omega) t3 fun h4 e4 i4 t4 p4 q4 => ?_
      have f4 : fxV h h4 := EX_tr f3 (EX_le e4 (by decide) (by decide))
      have G4 : GTs S I t o e su h4 := GT_fr he (by omega) G fun c' c1 c2 => EX_sy f4 (c := c') (by simp; omega) (fun j => by simp; omega)
      have fa := isSm_FA hS hm hc (e := e) (su := su) (show 0 < k by omega) hI he hsu (fun d => (sC_lt hk).1) i4 (sM_is hI (sC k c))
      have ue := isSm_UL (t := t) (o := o) (show 0 < k by omega) hI (fun d => (sC_lt hk).1) i4 (sM_is hI (sC k c))
      simp only [ok_102 V.1, cr_102_3 V, ok_103 V.1, R.1, true_and]
      refine sp_E_isFailedBy_g (t' := h4 104) (o' := h4 105) V hS hI hc he (by omega) M1 (by omega) hm t4 (fun _ _ _ => rfl) (fun _ _ _ => rfl) G4 (fun h5 e5 q => ?_) (fun h5 e5 q => ?_)
      · -- it fails
        have f5 : fxV h h5 := EX_tr f4 (EX_le e5 (by decide) (by decide))
        have np : ¬ ¬ FA S I t o e su (sMt k I (sC k c)) (sMo k I (sC k c)) := fun g => g (fa.mp q)
        have nu : ¬ UL I t o (sMt k I (sC k c)) (sMo k I (sC k c)) 0 0 = -2 := fun g => UL_FA hS hI hm hc he hsu g (fa.mp q)
        refine ⟨fun _ => ?_, fun y => absurd y (by decide)⟩
        rw [w32_id (by omega) (by omega)]
        refine ih h5 f5 (SC_fr s3 ?_ ?_) ?_ (fun j hj => ?_) ?_ ?_
        · rw [e5 27 10 (by decide) (by decide), e4 27 10 (by decide) (by decide)]
        · rw [EX_fn e5 (c := 30) (by decide) (by decide), EX_fn e4 (c := 30) (by decide) (by decide)]
        · unfold CTl; rw [EX_fn e5 (c := 104) (by decide) (by decide), EX_fn e5 (c := 105) (by decide) (by decide)]; exact t4
        · rw [EX_fn e5 (c := 114) (by decide) (by decide), EX_fn e4 (c := 114) (by decide) (by decide), EX_fn e5 (c := 115) (by decide) (by decide), EX_fn e4 (c := 115) (by decide) (by decide)]; exact o3 j hj
        · rw [EX_fn e5 (c := 114) (by decide) (by decide), EX_fn e4 (c := 114) (by decide) (by decide), cntP_n np]; exact a3
        · rw [EX_fn e5 (c := 115) (by decide) (by decide), EX_fn e4 (c := 115) (by decide) (by decide), cntP_n nu]; exact b3
      · -- it passes
        have f5 : fxV h h5 := EX_tr f4 (EX_le e5 (by decide) (by decide))
        have yp : ¬ FA S I t o e su (sMt k I (sC k c)) (sMo k I (sC k c)) := fun g => q (fa.mpr g)
        have k14 : h5 114 = h3 114 := by rw [EX_fn e5 (c := 114) (by decide) (by decide), EX_fn e4 (c := 114) (by decide) (by decide)]
        have k15 : h5 115 = h3 115 := by rw [EX_fn e5 (c := 115) (by decide) (by decide), EX_fn e4 (c := 115) (by decide) (by decide)]
        refine ⟨fun y => absurd rfl y, fun _ => ?_⟩
        simp (disch := omega) only [ok_102 V.1, cr_102_0 V, cr_102_2 V, cr_102_3 V, cr_102_10 V, cr_102_11 V, ok_103 V.1, ok_27 V.1, k14, k15, a3, b3, up_oth, w32_id, true_and]
        repeat (refine ⟨by omega, ?_⟩)
        generalize hh6 : ai_up h5 114 sl ((cntP (fun c => ¬ FA S I t o e su (sMt k I (sC k c)) (sMo k I (sC k c))) c : Int) + 1) = h6
        have e6 : EX [114] [] h5 h6 := by rw [← hh6]; exact EX_upc EX_rf (by decide)
        have f6 : fxV h h6 := EX_tr f5 (EX_le e6 (by decide) (by decide))
        have x4 : h6 104 = h4 104 := by rw [EX_fn e6 (c := 104) (by decide) (by decide), EX_fn e5 (c := 104) (by decide) (by decide)]
        have x5 : h6 105 = h4 105 := by rw [EX_fn e6 (c := 105) (by decide) (by decide), EX_fn e5 (c := 105) (by decide) (by decide)]
        have p6 : h6 103 2 = (k : Int) := by rw [e6 103 2 (by decide) (by decide), e5 103 2 (by decide) (by decide)]; exact p4
        have s6 : SC h6 := SC_fr s3 (by rw [e6 27 10 (by decide) (by decide), e5 27 10 (by decide) (by decide), e4 27 10 (by decide) (by decide)]) (by rw [EX_fn e6 (c := 30) (by decide) (by decide), EX_fn e5 (c := 30) (by decide) (by decide), EX_fn e4 (c := 30) (by decide) (by decide)])
        refine sp_S_unlike (t' := h4 104) (o' := h4 105) V hI hm t4 M M1 (by omega) (by omega) (fx f6).2.1 (fx f6).2.2.1 (fx f6).2.2.2 (fun a _ _ => congrFun x4 a) (fun a _ _ => congrFun x5 a) s6 fun h7 e7 s7 => ?_
        have S6 := (fx f6).1
        rw [if_pos ⟨by omega, by omega⟩, ue]
        have f7 : fxV h h7 := EX_tr f6 (EX_le e7 (by decide) (by decide))
        have t7 : CTl h7 := by unfold CTl; rw [EX_fn e7 (c := 104) (by decide) (by decide), EX_fn e7 (c := 105) (by decide) (by decide), x4, x5]; exact t4
        have k74 : h7 114 = h6 114 := EX_fn e7 (by decide) (by decide)
        have k75 : h7 115 = h3 115 := by rw [EX_fn e7 (c := 115) (by decide) (by decide), EX_fn e6 (c := 115) (by decide) (by decide)]; exact k15
        -- the mark v
        have go : ∀ v : Nat, (v : Int) = (if UL I t o (sMt k I (sC k c)) (sMo k I (sC k c)) 0 0 = -2 then 1 else 0) → p_U_learnSmall_48 (n + 0) (ai_q 0 n Q) 102 (k : Int) (gx e su) sl (sN I k : Int) ((c : Int) + 1) n hr (ai_up h7 115 sl ((cntP (fun c => UL I t o (sMt k I (sC k c)) (sMo k I (sC k c)) 0 0 = -2) c : Int) + (v : Int))) := by
          intro v hv
          refine ih _ (EX_upc f7 (by decide)) ?_ ?_ (fun j hj => ?_) ?_ ?_
          · exact SC_fr s7 (by rw [up_oth (by omega)]) (by funext q; rw [up_oth (by omega)])
          · unfold CTl at t7 ⊢
            rw [show (ai_up h7 115 sl ((cntP (fun c => UL I t o (sMt k I (sC k c)) (sMo k I (sC k c)) 0 0 = -2) c : Int) + (v : Int))) 104 = h7 104 by funext q; rw [up_oth (by omega)], show (ai_up h7 115 sl ((cntP (fun c => UL I t o (sMt k I (sC k c)) (sMo k I (sC k c)) 0 0 = -2) c : Int) + (v : Int))) 105 = h7 105 by funext q; rw [up_oth (by omega)]]
            exact t7
          · rw [up_oth (by omega), up_oth (by omega), k74, k75, ← hh6, up_oth (by omega), k14]; exact o3 j hj
          · rw [up_oth (by omega), k74, ← hh6, up_same, cntP_y yp]; omega
          · rw [up_same]
            by_cases y : UL I t o (sMt k I (sC k c)) (sMo k I (sC k c)) 0 0 = -2
            · rw [cntP_y (P := fun c => UL I t o (sMt k I (sC k c)) (sMo k I (sC k c)) 0 0 = -2) y]; rw [if_pos y] at hv; omega
            · rw [cntP_n (P := fun c => UL I t o (sMt k I (sC k c)) (sMo k I (sC k c)) 0 0 = -2) y]; rw [if_neg y] at hv; omega
        refine ⟨fun y => ?_, fun y => ?_⟩
        · refine ⟨ok_115 V.1, ?_⟩
          repeat (refine ⟨by omega, ?_⟩)
          exact go 0 (by rw [if_neg y]; rfl)
        · refine ⟨ok_115 V.1, ?_⟩
          repeat (refine ⟨by omega, ?_⟩)
          exact go 1 (by rw [if_pos y]; rfl)
  · rcases NN with q | q
    · exact absurd q z
    · exact (by first | exact q_at rfl (hQ h EX_rf hc0 tq N q.1 q.2) | exact (hQ h EX_rf hc0 tq N q.1 q.2))
theorem sp_U_smallPassing {e su k : Nat} (V : CW n hr) (T : TV S I t o) (hS0 : 0 < S) (X : CX S I t o h) (hc0 : SC h) (tq : CTl h) (N : CSm S I t o e h) (he : e < 3) (hsu : su < 2) (hk : k = 1 ∨ k = 2) (G : GTs S I t o e su h) (hQ : ∀ h1, fxV h h1 → SC h1 → CTl h1 → CSm S I t o e h1 → Q (0, (sPa S I t o e su k : Int)) n hr h1) : f_U_smallPassing [(2, 102), (0, (k : Int)), (0, (su : Int)), (2, gx e su)] n hr h Q := by
  have es : w32 (w32 (w32 ((k : Int) - 1) * 2) + (su : Int)) = 2 * ((k : Int) - 1) + (su : Int) := by
    rw [w32_id (x := (k : Int) - 1) (by omega) (by omega), w32_id (x := ((k : Int) - 1) * 2) (by omega) (by omega), w32_id (by omega) (by omega)]; omega
  apply e_U_smallPassing
  simp only [ok_102 V.1, true_and]
  refine sp_U_learnSmall V T hS0 X hc0 tq N he hsu hk G fun h1 f1 s1 t1 n1 a1 b1 => ?_
  simp (disch := omega) only [ok_102 V.1, cr_102_10 V, es, a1, true_and]
  repeat (refine ⟨by omega, ?_⟩)
  exact (by first | exact q_at rfl (hQ h1 f1 s1 t1 n1) | exact (hQ h1 f1 s1 t1 n1))
theorem sp_U_smallEqual {e su k : Nat} (V : CW n hr) (T : TV S I t o) (hS0 : 0 < S) (X : CX S I t o h) (hc0 : SC h) (tq : CTl h) (N : CSm S I t o e h) (he : e < 3) (hsu : su < 2) (hk : k = 1 ∨ k = 2) (G : GTs S I t o e su h) (hQ : ∀ h1, fxV h h1 → SC h1 → CTl h1 → CSm S I t o e h1 → Q (0, (sEq I t o k : Int)) n hr h1) : f_U_smallEqual [(2, 102), (0, (k : Int)), (0, (su : Int)), (2, gx e su)] n hr h Q := by
  have es : w32 (w32 (w32 ((k : Int) - 1) * 2) + (su : Int)) = 2 * ((k : Int) - 1) + (su : Int) := by
    rw [w32_id (x := (k : Int) - 1) (by omega) (by omega), w32_id (x := ((k : Int) - 1) * 2) (by omega) (by omega), w32_id (by omega) (by omega)]; omega
  apply e_U_smallEqual
  simp only [ok_102 V.1, true_and]
  refine sp_U_learnSmall V T hS0 X hc0 tq N he hsu hk G fun h1 f1 s1 t1 n1 a1 b1 => ?_
  simp (disch := omega) only [ok_102 V.1, cr_102_11 V, es, b1, true_and]
  repeat (refine ⟨by omega, ?_⟩)
  exact (by first | exact q_at rfl (hQ h1 f1 s1 t1 n1) | exact (hQ h1 f1 s1 t1 n1))
end
