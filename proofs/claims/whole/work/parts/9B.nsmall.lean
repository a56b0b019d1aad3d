-- deps: 18 19 20 21 23 24 25 26 27 28 29 22 30 31 32 33 34 35 36 37 38 39 40 41 42 43 44 45 46 47 48 49 50 51 62 63 64 65 66 67 68 69 70 71 72 73 74 75 76 77 78 79 80 81 82 83 84 85 86 87 88 89 90 91 92 93 94 95 96 97 98 99
/-! the reference: all small machines -/
section
variable {Q : RP} {n : Nat} {hr h : HP} {S I : Nat} {t o t' o' : Int → Int}
theorem sp_N_smallMany {k : Nat} (W : NW n hr) (hI : I ≤ 3) (hi : h 140 1 = (I : Int)) (hk : k = 1 ∨ k = 2) (hQ : Q (0, (sN I k : Int)) n hr h) : f_N_smallMany [(2, 138), (0, (k : Int))] n hr h Q := by
  have kI : k * I ≤ 6 := by rcases hk with rfl | rfl <;> omega
  have e1 : w32 ((k : Int) * (I : Int)) = ((k * I : Nat) : Int) := by rw [← Int.natCast_mul, w32_id (by omega) (by omega)]
  apply e_N_smallMany
  have loop := lupN (N := k * I) (P := fun d => p_N_smallMany_4 (n + 0) (ai_q 0 n Q) 138 (k : Int) (((2 * k) ^ d : Nat) : Int) (d : Int) n hr h) ?_ ?_
  · exact loop
  · refine b_N_smallMany_4 ⟨n0 W, sp_N_inputs W ?_⟩
    dsimp only
    rw [hi, e1]
    exact ⟨fun _ => q_at rfl hQ, fun z => by omega⟩
  · intro d hd ih
    have pb : (2 * k) ^ d ≤ 4 ^ 6 := Nat.le_trans (Nat.pow_le_pow_left (show 2 * k ≤ 4 by omega) d) (Nat.pow_le_pow_right (by decide) (by omega))
    have pb' : (2 * k) ^ d ≤ 4096 := pb
    have e2 : (((2 * k) ^ d : Nat) : Int) * (2 * (k : Int)) = (((2 * k) ^ (d + 1) : Nat) : Int) := by
      rw [Nat.pow_succ, Int.natCast_mul ((2 * k) ^ d), Int.natCast_mul 2]; rfl
    have pc : (2 * k) ^ (d + 1) ≤ 16384 := by
      rw [Nat.pow_succ]
      have : (2 * k) ^ d * (2 * k) ≤ 4096 * 4 := Nat.mul_le_mul pb' (by omega)
      omega
    refine b_N_smallMany_4 ⟨n0 W, sp_N_inputs W ?_⟩
    dsimp only
    rw [hi, e1]
    refine ⟨fun z => by omega, fun _ => ?_⟩
    rw [w32_id (x := 2 * (k : Int)) (by omega) (by omega), e2, w32_id (x := (((2 * k) ^ (d + 1) : Nat) : Int)) (by omega) (by omega), w32_id (x := (d : Int) + 1) (by omega) (by omega)]
    exact ih
def snP (k I : Nat) (F : Nat → Nat × Nat) (h : HP) (p i : Nat) : Prop := ∀ q j : Nat, (q < p ∧ j < I) ∨ (q = p ∧ j < i) → h 147 (48 + (3 * (q : Int) + (j : Int))) = ((F (q * I + j)).1 : Int) ∧ h 148 (48 + (3 * (q : Int) + (j : Int))) = ((F (q * I + j)).2 : Int)
theorem sp_N_laysSmallOne {k c : Nat} (W : NW n hr) (hI : I ≤ 3) (hi : h 140 1 = (I : Int)) (hk : k = 1 ∨ k = 2) (hc : c < 4096) (tq : NO h) (hQ : ∀ h1, fxL 48 h h1 → isSm k I (sR k c) (fun a => h1 147 (48 + a)) (fun a => h1 148 (48 + a)) → NO h1 → Q (9, 0) n hr h1) : f_N_laysSmallOne [(2, 138), (0, (k : Int)), (0, (c : Int))] n hr h Q := by
  apply e_N_laysSmallOne
  have cd : ∀ d, c / (2 * k) ^ d ≤ c := fun d => Nat.div_le_self _ _
  have fi : ∀ {h1 : HP}, fxL 48 h h1 → h1 140 1 = (I : Int) := fun f => by rw [f.1 140 1 (by decide) (by decide)]; exact hi
  have main := lupN (N := k) (P := fun p => ∀ h1, fxL 48 h h1 → NO h1 → snP k I (sR k c) h1 p 0 → p_N_laysSmallOne_5 (n + 0) (ai_q 0 n Q) 138 (k : Int) ((c / (2 * k) ^ (p * I) : Nat) : Int) (p : Int) n hr h1) ?_ ?_
  · have := main h ⟨EX_rf, fun _ _ => ⟨rfl, rfl⟩⟩ tq (fun q j z => by omega)
    rw [Nat.zero_mul, Nat.pow_zero, Nat.div_one] at this
    exact this
  · intro h1 f1 t1 s1
    refine b_N_laysSmallOne_5 ⟨fun _ => q_at rfl (hQ h1 f1 (fun p i hp hi => s1 p i (Or.inl ⟨hp, hi⟩)) t1), fun z => by omega⟩
  · intro p hp ih h1 f1 t1 s1
    refine b_N_laysSmallOne_5 ⟨fun z => by omega, fun _ => ?_⟩
    have inner := lupN (N := I) (P := fun i => ∀ h1, fxL 48 h h1 → NO h1 → snP k I (sR k c) h1 p i → p_N_laysSmallOne_14 (n + 0) (ai_q 0 n Q) 138 (k : Int) ((c / (2 * k) ^ (p * I + i) : Nat) : Int) (p : Int) (i : Int) n hr h1) ?_ ?_
    · exact inner h1 f1 t1 s1
    · intro h2 f2 t2 s2
      refine b_N_laysSmallOne_14 ⟨n0 W, sp_N_inputs W ?_⟩
      dsimp only
      rw [fi f2]
      refine ⟨fun _ => ?_, fun z => by omega⟩
      have := ih h2 f2 t2 fun q j z => s2 q j (by omega)
      rw [show (p + 1) * I = p * I + I from Nat.succ_mul p I] at this
      rw [w32_id (by omega) (by omega)]
      exact this
    · intro i hii ihi h2 f2 t2 s2
      have cl := cd (p * I + i)
      have sl := sR_lt (c := c) (d := p * I + i) hk
      have nx : c / (2 * k) ^ (p * I + (i + 1)) = c / (2 * k) ^ (p * I + i) / k / 2 := by
        rw [← Nat.add_assoc, Nat.pow_succ, ← Nat.div_div_eq_div_mul, Nat.mul_comm, ← Nat.div_div_eq_div_mul]
      rw [nx] at ihi
      have v1 : (sR k c (p * I + i)).1 = c / (2 * k) ^ (p * I + i) % k := rfl
      have v2 : (sR k c (p * I + i)).2 = c / (2 * k) ^ (p * I + i) / k % 2 := rfl
      generalize c / (2 * k) ^ (p * I + i) = r at *
      have d1 : i_div (r : Int) (k : Int) = ((r / k : Nat) : Int) := by rw [div_i (by omega) (by omega) (by omega) (by omega)]; exact (Int.natCast_ediv _ _).symm
      have r1 : i_rem (r : Int) (k : Int) = ((r % k : Nat) : Int) := by rw [rem_i (by omega) (by omega) (by omega) (by omega)]; exact (Int.natCast_emod _ _).symm
      have rk : r / k ≤ r := Nat.div_le_self _ _
      generalize hrk : r / k = rk' at *
      have d2 : i_div (rk' : Int) 2 = ((rk' / 2 : Nat) : Int) := by rw [div_i (by omega) (by omega) (by omega) (by omega)]; omega
      have r2 : i_rem (rk' : Int) 2 = ((rk' % 2 : Nat) : Int) := by rw [rem_i (by omega) (by omega) (by omega) (by omega)]; omega
      have ea : 48 + 3 * (p : Int) + (i : Int) = 48 + (3 * (p : Int) + (i : Int)) := by omega
      refine b_N_laysSmallOne_14 ⟨n0 W, sp_N_inputs W ?_⟩
      dsimp only
      rw [fi f2]
      refine ⟨fun z => by omega, fun _ => ?_⟩
      simp (disch := omega) only [n0 W, nr_20 W, nr_21 W, w32_id, d1, r1, d2, r2, ea, true_and]
      repeat (refine ⟨by omega, ?_⟩)
      rw [v1, v2] at sl
      refine ihi _ ⟨EX_upc (EX_upc f2.1 (by decide)) (by decide), fun a ha => ?_⟩ ?_ ?_
      · have := f2.2 a ha
        constructor
        · simp (disch := omega) only [up_oth]; exact this.1
        · simp (disch := omega) only [up_oth]; exact this.2
      · intro a h1 h2'
        have := t2 a h1 h2'
        refine ⟨?_, ?_⟩
        · by_cases z : a = 3 * (p : Int) + (i : Int)
          · subst z; simp (disch := omega) only [up_oth, up_same]; omega
          · simp (disch := omega) only [up_oth]; exact this.1
        · by_cases z : a = 3 * (p : Int) + (i : Int)
          · subst z; simp (disch := omega) only [up_same]; omega
          · simp (disch := omega) only [up_oth]; exact this.2
      · intro q j z
        by_cases y2 : q = p ∧ j = i
        · obtain ⟨rfl, rfl⟩ := y2
          rw [v1, v2]
          constructor
          · simp (disch := omega) only [up_oth, up_same]
          · rw [up_same]
        · have := s2 q j (by omega)
          have ne : 3 * (q : Int) + (j : Int) ≠ 3 * (p : Int) + (i : Int) := by omega
          constructor
          · simp (disch := omega) only [up_oth]; exact this.1
          · simp (disch := omega) only [up_oth]; exact this.2
/-- small machines are counted -/
def LSm (S I : Nat) (t o : Int → Int) (e : Nat) (h : HP) (k su : Nat) (a : Int) : Prop := h 166 (3 * a) = (sN I k : Int) ∧ h 166 (3 * a + 1) = (sPa S I t o e su k : Int) ∧ h 166 (3 * a + 2) = (sEq I t o k : Int)
def NSm (S I : Nat) (t o : Int → Int) (e : Nat) (h : HP) : Prop := ∀ k su : Nat, (k = 1 ∨ k = 2) → su < 2 → h 167 (2 * ((k : Int) - 1) + (su : Int)) = 0 ∨ (h 167 (2 * ((k : Int) - 1) + (su : Int)) = 1 ∧ LSm S I t o e h k su (2 * ((k : Int) - 1) + (su : Int)))
theorem sp_N_laysSmall {e su k : Nat} (W : NW n hr) (T : TV S I t o) (B : NB S I t o e h) (tq : NO h) (N : NSm S I t o e h) (he : e < 3) (hsu : su < 2) (hk : k = 1 ∨ k = 2) (hQ : ∀ h1, fxQ 2 h h1 → NB S I t o e h1 → NSm S I t o e h1 → LSm S I t o e h1 k su (2 * ((k : Int) - 1) + (su : Int)) → Q (9, 0) n hr h1) : f_N_laysSmall [(2, 138), (0, (k : Int)), (0, (su : Int))] n hr h Q := by
  have TT := T
  obtain ⟨hS, hI, hm, hc, hT⟩ := T
  have sb := sN_b hI hk
  have es : w32 (w32 (2 * w32 ((k : Int) - 1)) + (su : Int)) = 2 * ((k : Int) - 1) + (su : Int) := by
    rw [w32_id (x := (k : Int) - 1) (by omega) (by omega), w32_id (x := 2 * ((k : Int) - 1)) (by omega) (by omega), w32_id (by omega) (by omega)]
  have hsl : 0 ≤ 2 * ((k : Int) - 1) + (su : Int) ∧ 2 * ((k : Int) - 1) + (su : Int) < 4 := by omega
  have NN := N k su hk hsu
  apply e_N_laysSmall
  simp (disch := omega) only [n0 W, nr_50 W, es, true_and, true_or, or_true]
  generalize hsv : 2 * ((k : Int) - 1) + (su : Int) = sl at *
  repeat (refine ⟨by omega, ?_⟩)
  refine ⟨fun z => ?_, fun z => ?_⟩
  · repeat (refine ⟨by omega, ?_⟩)
    have e0 : EX [167] [] h (ai_up h 167 sl 1) := EX_upc EX_rf (by decide)
    have b0 : NB S I t o e (ai_up h 167 sl 1) := NB_fr B e0 (by decide)
    refine sp_N_smallMany W hI b0.1.2.1 hk ?_
    simp (disch := omega) only [n0 W, nr_49 W, w32_id, true_and]
    repeat (refine ⟨by omega, ?_⟩)
    generalize hh : ai_up (ai_up (ai_up (ai_up h 167 sl 1) 166 (3 * sl) (sN I k : Int)) 166 (3 * sl + 1) 0) 166 (3 * sl + 2) 0 = h2
    have e2 : EX [166, 167] [] h h2 := by rw [← hh]; exact EX_upc (EX_upc (EX_upc (EX_upc EX_rf (by decide)) (by decide)) (by decide)) (by decide)
    have b2 := NB_fr B e2 (by decide)
    have f2 : fxQ 2 h h2 := fxQ_of e2 (by decide) (by decide)
    have y0 : h2 167 = (ai_up h 167 sl 1) 167 := by rw [← hh]; funext q; simp (disch := omega) only [up_oth]
    have z1 : h2 166 (3 * sl) = (sN I k : Int) ∧ h2 166 (3 * sl + 1) = 0 ∧ h2 166 (3 * sl + 2) = 0 := by
      rw [← hh]
      refine ⟨?_, ?_, ?_⟩ <;> simp (disch := omega) only [up_same, up_oth]
    have o1 : ∀ j : Int, (j < 3 * sl ∨ 3 * sl + 3 ≤ j) → h2 166 j = h 166 j := fun j hj => by
      rw [← hh]; simp (disch := omega) only [up_oth]
    have fin : ∀ h4, fxQ 2 h h4 → NB S I t o e h4 → h4 167 = (ai_up h 167 sl 1) 167 → (∀ j : Int, (j < 3 * sl ∨ 3 * sl + 3 ≤ j) → h4 166 j = h 166 j) → LSm S I t o e h4 k su sl → Q (9, 0) n hr h4 := by
      intro h4 f4 b4 y4 o4 l4
      refine hQ h4 f4 b4 (fun k' s' hk' hs' => ?_) l4
      by_cases y : k' = k ∧ s' = su
      · obtain ⟨rfl, rfl⟩ := y
        rw [hsv, y4, up_same]; exact Or.inr ⟨rfl, l4⟩
      · rw [y4, up_oth (by omega)]
        unfold LSm
        rw [o4 _ (by omega), o4 _ (by omega), o4 _ (by omega)]
        exact N k' s' hk' hs'
    have loop := lupN (N := sN I k) (P := fun c => ∀ h3, fxQ 2 h h3 → NB S I t o e h3 → NO h3 → h3 167 = (ai_up h 167 sl 1) 167 → (∀ j : Int, (j < 3 * sl ∨ 3 * sl + 3 ≤ j) → h3 166 j = h 166 j) → h3 166 (3 * sl) = (sN I k : Int) → h3 166 (3 * sl + 1) = (cntP (fun c => ¬ FA S I t o e su (sMt k I (sR k c)) (sMo k I (sR k c))) c : Int) → h3 166 (3 * sl + 2) = (cntP (fun c => UL I t o (sMt k I (sR k c)) (sMo k I (sR k c)) 0 0 = -2) c : Int) → p_N_laysSmall_63 (n + 0) (ai_q 0 n Q) 138 (k : Int) (su : Int) sl (c : Int) n hr h3) ?_ ?_
    · exact loop h2 f2 b2 (f2.2.2 tq) y0 o1 z1.1 (by rw [z1.2.1]; rfl) (by rw [z1.2.2]; rfl)
    · intro h3 f3 b3 t3 y3 o3 a3 p3 q3
      refine b_N_laysSmall_63 ?_
      simp (disch := omega) only [n0 W, nr_49 W, w32_id, a3, true_and]
      repeat (refine ⟨by omega, ?_⟩)
      refine ⟨fun _ => q_at rfl (fin h3 f3 b3 y3 o3 ⟨a3, ?_, ?_⟩), fun q => by omega⟩
      · rw [p3, sPa_R hS hm hc hI hk he hsu]
      · rw [q3, sEq_R hI hk]
    · intro c hcN ih h3 f3 b3 t3 y3 o3 a3 p3 q3
      have cl1 := cntP_le (fun c => ¬ FA S I t o e su (sMt k I (sR k c)) (sMo k I (sR k c))) c
      have cl2 := cntP_le (fun c => UL I t o (sMt k I (sR k c)) (sMo k I (sR k c)) 0 0 = -2) c
      refine b_N_laysSmall_63 ?_
      simp (disch := omega) only [n0 W, nr_49 W, w32_id, a3, true_and]
      repeat (refine ⟨by omega, ?_⟩)
      refine fun _ => ?_
      refine sp_N_laysSmallOne W hI b3.1.2.1 hk (by omega) t3 fun h4 f4 i4 t4 => ?_
      have b4 := NB_L (by omega) f4 b3
      have F4 : fxQ 2 h h4 := fxQ_tr f3 (fxL_Q (by omega) f4 t4)
      have fa := isSm_FA hS hm hc (e := e) (su := su) (show 0 < k by omega) hI he hsu (fun d => (sR_lt hk).1) i4 (sM_is hI (sR k c))
      have ue := isSm_UL (t := t) (o := o) (show 0 < k by omega) hI (fun d => (sR_lt hk).1) i4 (sM_is hI (sR k c))
      have M0 := NX_NM b4.1
      refine ⟨n0 W, sp_N_unlike (p := 0) (q := 0) (t' := fun a => h4 147 (48 + a)) (o' := fun a => h4 148 (48 + a)) W b4.1.2.1 hI (by omega) (by omega) hm t4 M0.1 M0.2 (fun _ _ _ => rfl) (fun _ _ _ => rfl) (by omega) (by omega) fun h5 e5 => ?_⟩
      have e5' := EX_ex e5
      have b5 := NB_fr b4 e5' (by decide)
      have F5 : fxQ 2 h h5 := fxQ_tr F4 (fxQ_of e5' (by decide) (by decide))
      have M5 : NM 48 (fun a => h4 147 (48 + a)) (fun a => h4 148 (48 + a)) h5 := NM_fr (h := h4) ⟨fun _ _ _ => rfl, fun _ _ _ => rfl⟩ (EX_fn e5' (by decide) (by decide)) (EX_fn e5' (by decide) (by decide))
      have k66 : h5 166 = h3 166 := by rw [EX_fn e5' (c := 166) (by decide) (by decide), EX_fn f4.1 (c := 166) (by decide) (by decide)]
      have k67 : h5 167 = h3 167 := by rw [EX_fn e5' (c := 167) (by decide) (by decide), EX_fn f4.1 (c := 167) (by decide) (by decide)]
      -- the sums move on
      have on5 : ∀ h6 h7, EX [161, 162, 163, 166] [(138, 41), (138, 42)] h5 h6 → NB S I t o e h6 → EX [166] [] h6 h7 → (∀ j : Int, j ≠ 3 * sl + 1 → j ≠ 3 * sl + 2 → h7 166 j = h5 166 j) → h7 166 (3 * sl + 1) = (cntP (fun c => ¬ FA S I t o e su (sMt k I (sR k c)) (sMo k I (sR k c))) (c + 1) : Int) → h7 166 (3 * sl + 2) = (cntP (fun c => UL I t o (sMt k I (sR k c)) (sMo k I (sR k c)) 0 0 = -2) (c + 1) : Int) → p_N_laysSmall_63 (n + 0) (ai_q 0 n Q) 138 (k : Int) (su : Int) sl ((c : Int) + 1) n hr h7 := by
        intro h6 h7 e6 b6 e7 o7 p7 q7
        have g7 : fxQ 2 h5 h7 := fxQ_tr (fxQ_of e6 (by decide) (by decide)) (fxQ_of e7 (by decide) (by decide))
        have F7 := fxQ_tr F5 g7
        exact ih h7 F7 (NB_fr b6 e7 (by decide)) (F7.2.2 tq) (by rw [EX_fn e7 (c := 167) (by decide) (by decide), EX_fn e6 (c := 167) (by decide) (by decide), k67, y3]) (fun j hj => by rw [o7 j (by omega) (by omega), k66]; exact o3 j hj) (by rw [o7 _ (by omega) (by omega), k66]; exact a3) p7 q7
      rw [← k66] at p3 q3
      refine ⟨fun z => ?_, fun z => ?_⟩
      · change UL I t o (fun a => h4 147 (48 + a)) (fun a => h4 148 (48 + a)) 0 0 ≠ -2 at z
        rw [ue] at z
        simp +decide (disch := omega) only [n0 W, nr_49 W, w32_id, up_oth, up_same, p3, q3, Int.add_zero, true_and, and_true, ne_eq, Int.reduceEq, not_true_eq_false, not_false_eq_true, false_implies, true_implies, forall_const, implies_true]
        repeat (refine ⟨by omega, ?_⟩)
        generalize hh6 : ai_up h5 166 (3 * sl + 2) (cntP (fun c => UL I t o (sMt k I (sR k c)) (sMo k I (sR k c)) 0 0 = -2) c : Int) = h6
        have e6 : EX [166] [] h5 h6 := by rw [← hh6]; exact EX_upc EX_rf (by decide)
        have b6 := NB_fr b5 e6 (by decide)
        have M6 : NM 48 (fun a => h4 147 (48 + a)) (fun a => h4 148 (48 + a)) h6 := NM_fr M5 (EX_fn e6 (by decide) (by decide)) (EX_fn e6 (by decide) (by decide))
        refine sp_N_doesFail W TT b6 t4 M6 (by omega) (by omega) he (Or.inl hsu) (fun h7 f7 b7 q => ?_) (fun h7 f7 b7 q => ?_)
        · have np : ¬ ¬ FA S I t o e su (sMt k I (sR k c)) (sMo k I (sR k c)) := fun g => g (fa.mp q)
          have k7 : h7 166 = h6 166 := EX_fn f7 (by decide) (by decide)
          have k7' : h7 167 = h6 167 := EX_fn f7 (by decide) (by decide)
          refine ⟨fun _ => ⟨ok_166 W.1, by omega, by omega, ?_⟩, fun y => absurd y (by decide)⟩
          refine on5 h7 _ (EX_tr (EX_le e6 (by decide) (by decide)) (EX_le f7 (by decide) (by decide))) b7 (EX_upc EX_rf (by decide)) (fun j j1 j2 => ?_) ?_ ?_
          · simp (disch := omega) only [up_oth]; rw [k7, ← hh6]; simp (disch := omega) only [up_oth]
          · rw [up_same, cntP_n np]
          · simp (disch := omega) only [up_oth]; rw [k7, ← hh6, up_same, cntP_n z]
        · have yp : ¬ FA S I t o e su (sMt k I (sR k c)) (sMo k I (sR k c)) := fun g => by
            obtain ⟨w, w1, w2⟩ := fa.mpr g
            exact w2 (q w w1)
          have k7 : h7 166 = h6 166 := EX_fn f7 (by decide) (by decide)
          refine ⟨fun y => absurd rfl y, fun _ => ⟨ok_166 W.1, by omega, by omega, ?_⟩⟩
          refine on5 h7 _ (EX_tr (EX_le e6 (by decide) (by decide)) (EX_le f7 (by decide) (by decide))) b7 (EX_upc EX_rf (by decide)) (fun j j1 j2 => ?_) ?_ ?_
          · simp (disch := omega) only [up_oth]; rw [k7, ← hh6]; simp (disch := omega) only [up_oth]
          · rw [up_same, cntP_y yp]; omega
          · simp (disch := omega) only [up_oth]; rw [k7, ← hh6, up_same, cntP_n z]
      · change UL I t o (fun a => h4 147 (48 + a)) (fun a => h4 148 (48 + a)) 0 0 = -2 at z
        rw [ue] at z
        simp +decide (disch := omega) only [n0 W, nr_49 W, w32_id, up_oth, up_same, p3, q3, Int.add_zero, true_and, and_true, ne_eq, Int.reduceEq, not_true_eq_false, not_false_eq_true, false_implies, true_implies, forall_const, implies_true]
        repeat (refine ⟨by omega, ?_⟩)
        have yp : ¬ FA S I t o e su (sMt k I (sR k c)) (sMo k I (sR k c)) := UL_FA hS hI hm hc he hsu z
        refine on5 h5 (ai_up (ai_up h5 166 (3 * sl + 2) ((cntP (fun c => UL I t o (sMt k I (sR k c)) (sMo k I (sR k c)) 0 0 = -2) c : Int) + 1)) 166 (3 * sl + 1) ((cntP (fun c => ¬ FA S I t o e su (sMt k I (sR k c)) (sMo k I (sR k c))) c : Int) + 1)) EX_rf b5 (EX_upc (EX_upc EX_rf (by decide)) (by decide)) (fun j j1 j2 => ?_) ?_ ?_
        · simp (disch := omega) only [up_oth]
        · rw [up_same, cntP_y yp]; omega
        · simp (disch := omega) only [up_oth, up_same]; rw [cntP_y (P := fun c => UL I t o (sMt k I (sR k c)) (sMo k I (sR k c)) 0 0 = -2) z]; omega
  · rcases NN with q | q
    · exact absurd q z
    · exact (by first | exact q_at rfl (hQ h (fxQ_of (cs := []) (ps := []) EX_rf (by decide) (by decide)) B N q.2) | exact (hQ h (fxQ_of (cs := []) (ps := []) EX_rf (by decide) (by decide)) B N q.2))
/-- what a call answers of small machines -/
noncomputable def vSm (S I : Nat) (t o : Int → Int) (e k su : Nat) (what : Int) : Int := if what = 0 then (sN I k : Int) else if what = 1 then (sPa S I t o e su k : Int) else (sEq I t o k : Int)
theorem sp_N_small {k su what : Int} {e : Nat} (W : NW n hr) (T : TV S I t o) (B : NB S I t o e h) (tq : NO h) (N : NSm S I t o e h) (he : e < 3) (h0 : ¬ ((1 ≤ k ∧ k ≤ 2) ∧ (su = 0 ∨ su = 1) ∧ (0 ≤ what ∧ what ≤ 2) ∧ 0 < S) → Q (0, -1) n hr (ai_up h 138 0 0)) (h1 : (1 ≤ k ∧ k ≤ 2) → (su = 0 ∨ su = 1) → (0 ≤ what ∧ what ≤ 2) → 0 < S → ∀ h1, fxQ 2 h h1 → NB S I t o e h1 → NSm S I t o e h1 → Q (0, vSm S I t o e k.toNat su.toNat what) n hr h1) : f_N_small [(2, 138), (0, k), (0, su), (0, what)] n hr h Q := by
  have B1 : NB S I t o e (ai_up h 138 0 0) := NB_1 B
  have F1 : fxQ 2 h (ai_up h 138 0 0) := fxQ_of EX_1 (by decide) (by decide)
  have N1 : NSm S I t o e (ai_up h 138 0 0) := by
    unfold NSm LSm
    rw [EX_fn EX_1 (c := 166) (by decide) (by decide), EX_fn EX_1 (c := 167) (by decide) (by decide)]
    exact N
  apply e_N_small
  refine ⟨n0 W, fun z => (by first | exact q_at rfl (h0 (by omega)) | exact (h0 (by omega))), fun z => ⟨fun z2 => (by first | exact q_at rfl (h0 (by omega)) | exact (h0 (by omega))), fun z2 => ?_⟩⟩
  refine sp_N_isOne (fun y => ?_) (fun y => ⟨fun _ => (by first | exact q_at rfl (h0 (fun q => y q.2.1)) | exact (h0 (fun q => y q.2.1))), fun q => absurd rfl q⟩)
  refine ⟨fun q => absurd q (by decide), fun _ => ⟨fun z3 => (by first | exact q_at rfl (h0 (by omega)) | exact (h0 (by omega))), fun z3 => ⟨fun z4 => (by first | exact q_at rfl (h0 (by omega)) | exact (h0 (by omega))), fun z4 => ⟨n0 W, sp_N_states W ?_⟩⟩⟩⟩
  dsimp only
  rw [B1.1.1]
  refine ⟨fun q => ⟨n0 W, ?_⟩, fun q => (by first | exact q_at rfl (h0 (by omega)) | exact (h0 (by omega)))⟩
  obtain ⟨k, rfl⟩ := Int.eq_ofNat_of_zero_le (show 0 ≤ k by omega)
  obtain ⟨s, rfl⟩ := Int.eq_ofNat_of_zero_le (show 0 ≤ su by omega)
  obtain ⟨wh, rfl⟩ := Int.eq_ofNat_of_zero_le z3
  refine sp_N_laysSmall W T B1 (F1.2.2 tq) N1 he (by omega) (by omega) fun h2 f2 b2 n2 l2 => ?_
  have H := h1 ⟨z, z2⟩ y ⟨z3, z4⟩ (by omega) h2 (fxQ_tr F1 f2) b2 n2
  rw [Int.toNat_natCast, Int.toNat_natCast] at H
  unfold vSm at H
  have ea : w32 (w32 (3 * w32 (w32 (2 * w32 ((k : Int) - 1)) + (s : Int))) + (wh : Int)) = 3 * (2 * ((k : Int) - 1) + (s : Int)) + (wh : Int) := by
    rw [w32_id (x := (k : Int) - 1) (by omega) (by omega), w32_id (x := 2 * ((k : Int) - 1)) (by omega) (by omega), w32_id (x := 2 * ((k : Int) - 1) + (s : Int)) (by omega) (by omega), w32_id (x := 3 * (2 * ((k : Int) - 1) + (s : Int))) (by omega) (by omega), w32_id (by omega) (by omega)]
  simp (disch := omega) only [n0 W, nr_49 W, ea, true_and]
  repeat (refine ⟨by omega, ?_⟩)
  rcases (by omega : wh = 0 ∨ wh = 1 ∨ wh = 2) with rfl | rfl | rfl
  · rw [if_pos (by omega), ← l2.1] at H
    rw [show 3 * (2 * ((k : Int) - 1) + (s : Int)) + ((0 : Nat) : Int) = 3 * (2 * ((k : Int) - 1) + (s : Int)) by omega]
    exact (by first | exact q_at rfl (H) | exact (H))
  · rw [if_neg (by omega), if_pos (by omega), ← l2.2.1] at H
    exact (by first | exact q_at rfl (H) | exact (H))
  · rw [if_neg (by omega), if_neg (by omega), ← l2.2.2] at H
    exact (by first | exact q_at rfl (H) | exact (H))
end
