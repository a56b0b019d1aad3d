-- deps: 18 19 20 21 23 24 25 26 27 28 29 22 30 31 32 33 34 35 36
/-! the reference: a text's machines are laid -/
def lT (S : Nat) (g : Int → Int) (a : Int) : Int := if a / 3 < (S : Int) ∧ g a ≠ 0 then g a - 1 else a / 3
def lO (S : Nat) (g s : Int → Int) (a : Int) : Int := if a / 3 < (S : Int) ∧ g a ≠ 0 then s a else 0
def lX (g d : Int → Int) (a : Int) : Int := if g a ≠ 0 then g a - 1 else d a
def lY (g s d : Int → Int) (a : Int) : Int := if g a ≠ 0 then s a else d a
theorem lT_ok {S I : Nat} (hS : S ≤ 6) {g s : Int → Int} (hg : ∀ a : Int, 0 ≤ a → a < 18 → 0 ≤ g a ∧ g a ≤ (S : Int)) (hs : ∀ a : Int, 0 ≤ a → a < 18 → g a ≠ 0 → 0 ≤ s a ∧ s a ≤ 9) (hi : ∀ a : Int, 0 ≤ a → a < 18 → g a ≠ 0 → a % 3 < (I : Int)) : mok (lT S g) (lO S g s) ∧ clo S (lT S g) ∧ ∀ a : Int, 0 ≤ a → a < 24 → 3 * (S : Int) ≤ a ∨ (I : Int) ≤ a % 3 → lT S g a = a / 3 ∧ lO S g s a = 0 := by
  refine ⟨fun a h1 h2 => ?_, fun p i h1 h2 h3 => ?_, fun a h0 h2 h1 => ?_⟩
  · unfold lT lO
    by_cases z : a / 3 < (S : Int) ∧ g a ≠ 0
    · rw [if_pos z, if_pos z]
      have := hg a h1 (by omega)
      have := hs a h1 (by omega) z.2
      omega
    · rw [if_neg z, if_neg z]; omega
  · unfold lT
    by_cases z : (3 * p + (i : Int)) / 3 < (S : Int) ∧ g (3 * p + (i : Int)) ≠ 0
    · rw [if_pos z]
      have := hg (3 * p + (i : Int)) (by omega) (by omega)
      omega
    · rw [if_neg z]; omega
  · unfold lT lO
    have z : ¬ (a / 3 < (S : Int) ∧ g a ≠ 0) := fun q => by
      have := hi a h0 (by omega) q.2
      omega
    rw [if_neg z, if_neg z]
    exact ⟨rfl, rfl⟩
/-- what is told of the machine's states in the reference -/
def NP (S I : Nat) (t o : Int → Int) (h : HP) : Prop := (∀ x : Nat, x < S → h 149 (x : Int) = AC I t 0 (x : Int)) ∧ h 138 23 = (cA (AC I t 0) S : Int) ∧ (∀ a b : Nat, a < S → b < S → h 153 (6 * (a : Int) + (b : Int)) = SPr I t o (a : Int) (b : Int)) ∧ h 138 29 = ((SPL I S t o).length : Int) ∧ rowL (h 154) 0 (SPL I S t o)
theorem NP_fr {S I : Nat} {t o : Int → Int} {h h1 : HP} {cs : List Int} {ps : List (Int × Int)} (H : NP S I t o h) (e : EX cs ps h h1) (a : (149 : Int) ∉ cs ∧ (153 : Int) ∉ cs ∧ (154 : Int) ∉ cs ∧ (138 : Int) ∉ cs) (b : (149 : Int) ∉ ps.map Prod.fst ∧ (153 : Int) ∉ ps.map Prod.fst ∧ (154 : Int) ∉ ps.map Prod.fst ∧ ((138 : Int), (23 : Int)) ∉ ps ∧ ((138 : Int), (29 : Int)) ∉ ps) : NP S I t o h1 := by
  unfold NP
  rw [EX_fn e a.1 b.1, EX_fn e a.2.1 b.2.1, EX_fn e a.2.2.1 b.2.2.1, e 138 23 a.2.2.2 b.2.2.2.1, e 138 29 a.2.2.2 b.2.2.2.2]
  exact H
section
variable {Q : RP} {n : Nat} {hr h : HP} {S I : Nat}
theorem N_lays_75 {p i c v s : Int} {Q' : RP} (W : NW n hr) (hc : 0 ≤ c ∧ c < 24) (hi : 0 ≤ i ∧ i < 3) (hs : s = 0 ∨ s = 1) (hc2 : s = 1 → c < 18) (hr1 : 0 ≤ h 145 c ∧ h 145 c ≤ 8) (hQ : p_N_lays_10 n Q' 138 p (i + 1) n hr (ai_up (ai_up (ai_up (ai_up h 147 c v) 148 c (if s = 0 then 0 else h 144 c)) 147 (24 + c) (if h 145 c = 0 then v else h 145 c - 1)) 148 (24 + c) (if h 145 c = 0 then (if s = 0 then 0 else h 144 c) else h 146 c))) : p_N_lays_75 n Q' 138 p i c s v c 147 n hr h := by
  apply b_N_lays_75
  simp (disch := omega) only [n0 W, ok_147 W.1, l_147, nr_6 W, nr_7 W, nr_8 W, nr_9 W, nr_20 W, nr_21 W, Int.zero_add, w32_id, up_same, up_oth, true_and]
  refine ⟨by omega, by omega, fun z => ?_, fun z => ?_⟩
  · rw [if_pos z] at hQ
    repeat (refine ⟨by omega, ?_⟩)
    refine ⟨fun y => ?_, fun y => ?_⟩
    · repeat (refine ⟨by omega, ?_⟩)
      refine ⟨fun y => ?_, fun y2 => absurd y y2⟩
      repeat (refine ⟨by omega, ?_⟩)
      simp only [if_pos y] at hQ
      exact hQ
    · repeat (refine ⟨by omega, ?_⟩)
      refine fun _ => ?_
      repeat (refine ⟨by omega, ?_⟩)
      simp only [if_neg y] at hQ
      exact hQ
  · have := hc2 (by omega)
    rw [if_neg z] at hQ
    repeat (refine ⟨by omega, ?_⟩)
    refine ⟨fun y => ?_, fun y => ?_⟩
    · repeat (refine ⟨by omega, ?_⟩)
      refine ⟨fun y => ?_, fun y2 => absurd y y2⟩
      repeat (refine ⟨by omega, ?_⟩)
      simp only [if_pos y] at hQ
      exact hQ
    · repeat (refine ⟨by omega, ?_⟩)
      refine fun _ => ?_
      repeat (refine ⟨by omega, ?_⟩)
      simp only [if_neg y] at hQ
      exact hQ
/-- so many arcs are laid -/
def lyH (S : Nat) (h h1 : HP) (k : Int) : Prop := EX [147, 148] [] h h1 ∧ (∀ a : Int, 0 ≤ a → a < k → h1 147 a = lT S (h 143) a ∧ h1 148 a = lO S (h 143) (h 144) a ∧ h1 147 (24 + a) = lX (h 145) (lT S (h 143)) a ∧ (h1 148 (24 + a) = lY (h 145) (h 146) (lO S (h 143) (h 144)) a)) ∧ ∀ a : Int, 48 ≤ a → h1 147 a = h 147 a ∧ h1 148 a = h 148 a
theorem lyH_s {S : Nat} {h h1 : HP} {c v s : Int} (H : lyH S h h1 c) (hc : 0 ≤ c ∧ c < 24) (hv : v = lT S (h 143) c) (hs : s = lO S (h 143) (h 144) c) : lyH S h (ai_up (ai_up (ai_up (ai_up h1 147 c v) 148 c s) 147 (24 + c) (if h1 145 c = 0 then v else h1 145 c - 1)) 148 (24 + c) (if h1 145 c = 0 then s else h1 146 c)) (c + 1) := by
  obtain ⟨e1, e2, e9⟩ := H
  refine ⟨EX_upc (EX_upc (EX_upc (EX_upc e1 (by decide)) (by decide)) (by decide)) (by decide), fun a h1' h2 => ?_, fun a ha => by simp (disch := omega) only [up_oth]; exact e9 a ha⟩
  rw [EX_fn e1 (c := 145) (by decide) (by decide), EX_fn e1 (c := 146) (by decide) (by decide)]
  by_cases z : a = c
  · subst z
    simp (disch := omega) only [up_same, up_oth]
    unfold lX lY
    rw [← hv, ← hs]
    refine ⟨rfl, rfl, ?_, ?_⟩
    · by_cases y : h 145 a = 0
      · rw [if_pos y, if_neg (fun q => q y)]
      · rw [if_neg y, if_pos y]
    · by_cases y : h 145 a = 0
      · rw [if_pos y, if_neg (fun q => q y)]
      · rw [if_neg y, if_pos y]
  · simp (disch := omega) only [up_oth]
    exact e2 a h1' (by omega)
theorem sp_N_lays (W : NW n hr) (hS6 : S ≤ 6) (hI : I ≤ 3) (hS : h 140 0 = (S : Int)) (hI2 : h 140 1 = (I : Int)) (hg : ∀ a : Int, 0 ≤ a → a < 18 → 0 ≤ h 143 a ∧ h 143 a ≤ (S : Int)) (hs : ∀ a : Int, 0 ≤ a → a < 18 → h 143 a ≠ 0 → 0 ≤ h 144 a ∧ h 144 a ≤ 9) (hi : ∀ a : Int, 0 ≤ a → a < 18 → h 143 a ≠ 0 → a % 3 < (I : Int)) (ht : ∀ a : Int, 0 ≤ a → a < 24 → 0 ≤ h 145 a ∧ h 145 a ≤ 8)
    (hQ : ∀ h1, EX [147, 148, 149, 150, 151, 152, 153, 154, 157, 158, 175, 162, 165, 167, 172] [(138, 23), (138, 29), (138, 31), (138, 61), (138, 67), (138, 69)] h h1 → NX S I (lT S (h 143)) (lO S (h 143) (h 144)) h1 → r24 (fun a => h1 147 (24 + a)) (lX (h 145) (lT S (h 143))) → r24 (fun a => h1 148 (24 + a)) (lY (h 145) (h 146) (lO S (h 143) (h 144))) → NP S I (lT S (h 143)) (lO S (h 143) (h 144)) h1 → NF h1 → h1 138 61 = 0 → h1 138 67 = 0 → h1 138 69 = 0 → (∀ a : Int, 48 ≤ a → h1 147 a = h 147 a ∧ h1 148 a = h 148 a) → Q (9, 0) n hr h1) : f_N_lays [(2, 138)] n hr h Q := by
  obtain ⟨l1, l2, l3⟩ := lT_ok hS6 hg hs hi
  have T : TV S I (lT S (h 143)) (lO S (h 143) (h 144)) := ⟨hS6, hI, l1, l2, l3⟩
  apply e_N_lays
  have := lupN (N := 8) (P := fun p => ∀ h1, lyH S h h1 (3 * (p : Int)) → p_N_lays_2 (n + 0) (ai_q 0 n Q) 138 (p : Int) n hr h1) ?_ ?_
  · exact this h ⟨EX_rf, fun a h1 h2 => by omega, fun _ _ => ⟨rfl, rfl⟩⟩
  · rintro h1 ⟨e1, e2, e9⟩
    refine b_N_lays_2 ⟨fun _ => ?_, fun z => by omega⟩
    simp (disch := omega) only [n0 W, true_and, true_or]
    have E1 : EX [147, 148, 149, 150, 151, 152, 153, 154, 157, 158, 175, 162, 165, 167, 172] [(138, 23), (138, 29), (138, 31), (138, 61), (138, 67), (138, 69)] h (ai_up (ai_up (ai_up h1 138 61 0) 138 67 0) 138 69 0) := EX_upp (EX_upp (EX_upp (EX_le e1 (by decide) (by decide)) (by decide)) (by decide)) (by decide)
    have X : NX S I (lT S (h 143)) (lO S (h 143) (h 144)) (ai_up (ai_up (ai_up h1 138 61 0) 138 67 0) 138 69 0) := by
      refine ⟨?_, ?_, fun a q1 q2 => ?_, fun a q1 q2 => ?_⟩
      · rw [EX_at E1 (by decide) (by decide)]; exact hS
      · rw [EX_at E1 (by decide) (by decide)]; exact hI2
      · simp (disch := omega) only [up_same, up_oth]
        exact (e2 a q1 (by omega)).1
      · simp (disch := omega) only [up_same, up_oth]
        exact (e2 a q1 (by omega)).2.1
    refine sp_N_laysAccess W T X fun h2 g1 g2 g3 => ⟨n0 W, ?_⟩
    have X2 := NX_fr X g1 (by decide) (by decide)
    refine sp_N_laysSeparators W T X2 fun h3 k1 k2 => ⟨n0 W, ?_⟩
    have X3 := NX_fr X2 k1 (by decide) (by decide)
    have a3 : h3 149 = h2 149 := EX_fn k1 (by decide) (by decide)
    refine sp_N_laysSplitters W T X3 (by rw [a3]; exact g2) k2 fun h4 m1 m2 m3 => ⟨n0 W, ?_⟩
    refine sp_N_forgets W fun h5 f1 f2 => q_at rfl ?_
    have X4 := NX_fr X3 m1 (by decide) (by decide)
    have X5 := NX_fr X4 f1 (by decide) (by decide)
    have E5 := EX_tr (EX_tr (EX_tr (EX_tr E1 (EX_le g1 (by decide) (by decide))) (EX_le k1 (by decide) (by decide))) (EX_le m1 (by decide) (by decide))) (EX_le f1 (by decide) (by decide))
    have same : ∀ c j : Int, c ∉ [149, 150, 151, 152, 153, 154, 157, 158, 175, 162, 165, 167, (172 : Int)] → (c, j) ∉ [((138 : Int), (23 : Int)), (138, 29), (138, 31)] → h5 c j = (ai_up (ai_up (ai_up h1 138 61 0) 138 67 0) 138 69 0) c j := by
      intro c j q1 q2
      have := EX_tr (EX_tr (EX_tr (EX_le (cs' := [149, 150, 151, 152, 153, 154, 157, 158, 175, 162, 165, 167, 172]) (ps' := [(138, 23), (138, 29), (138, 31)]) g1 (by decide) (by decide)) (EX_le k1 (by decide) (by decide))) (EX_le m1 (by decide) (by decide))) (EX_le f1 (by decide) (by decide))
      exact this c j q1 q2
    refine hQ h5 E5 X5 (fun a q1 q2 => ?_) (fun a q1 q2 => ?_) ⟨?_, ?_, ?_, ?_, ?_⟩ f2 ?_ ?_ ?_ (fun a ha => ?_)
    · dsimp only
      rw [same 147 (24 + a) (by decide) (by simp)]
      simp (disch := omega) only [up_same, up_oth]
      exact (e2 a q1 (by omega)).2.2.1
    · dsimp only
      rw [same 148 (24 + a) (by decide) (by simp)]
      simp (disch := omega) only [up_same, up_oth]
      exact (e2 a q1 (by omega)).2.2.2
    · rw [EX_fn f1 (c := 149) (by decide) (by decide), EX_fn m1 (c := 149) (by decide) (by decide), a3]; exact g2
    · rw [f1 138 23 (by decide) (by decide), m1 138 23 (by decide) (by decide), k1 138 23 (by decide) (by decide)]; exact g3
    · rw [EX_fn f1 (c := 153) (by decide) (by decide), EX_fn m1 (c := 153) (by decide) (by decide)]; exact k2
    · rw [f1 138 29 (by decide) (by decide)]; exact m2
    · rw [EX_fn f1 (c := 154) (by decide) (by decide)]; exact m3
    · rw [same 138 61 (by decide) (by decide)]; simp (disch := omega) only [up_same, up_oth]
    · rw [same 138 67 (by decide) (by decide)]; simp (disch := omega) only [up_same, up_oth]
    · rw [same 138 69 (by decide) (by decide)]; simp (disch := omega) only [up_same, up_oth]
    · rw [same 147 a (by decide) (by simp), same 148 a (by decide) (by simp)]
      simp (disch := omega) only [up_oth]
      exact e9 a ha
  · intro p hp ihp h1 H1
    refine b_N_lays_2 ⟨fun z => by omega, fun _ => ?_⟩
    have := lupN (N := 3) (P := fun i => ∀ h1, lyH S h h1 (3 * (p : Int) + (i : Int)) → p_N_lays_10 (n + 0) (ai_q 0 n Q) 138 (p : Int) (i : Int) n hr h1) ?_ ?_
    · refine this h1 ?_
      rw [show 3 * (p : Int) + ((0 : Nat) : Int) = 3 * (p : Int) by omega]; exact H1
    · intro h1 H1
      refine b_N_lays_10 ⟨fun _ => ?_, fun z => by omega⟩
      rw [w32_id (by omega) (by omega)]
      refine ihp h1 ?_
      rw [show 3 * ((p + 1 : Nat) : Int) = 3 * (p : Int) + ((3 : Nat) : Int) by omega]; exact H1
    · intro i hi3 ihi h1 H1
      have g5 : h1 145 = h 145 := EX_fn H1.1 (by decide) (by decide)
      have g3 : h1 143 = h 143 := EX_fn H1.1 (by decide) (by decide)
      have g4 : h1 144 = h 144 := EX_fn H1.1 (by decide) (by decide)
      have gS : h1 140 0 = (S : Int) := by rw [EX_at H1.1 (by decide) (by decide)]; exact hS
      have b5 := ht (3 * (p : Int) + (i : Int)) (by omega) (by omega)
      rw [← g5] at b5
      have not : ¬ ((p : Int) < (S : Int) ∧ h 143 (3 * (p : Int) + (i : Int)) ≠ 0) → p_N_lays_49 (n + 0) (ai_q 0 n Q) 138 (p : Int) (i : Int) (3 * (p : Int) + (i : Int)) 0 n hr h1 := by
        intro z
        have z2 : ¬ ((3 * (p : Int) + (i : Int)) / 3 < (S : Int) ∧ h 143 (3 * (p : Int) + (i : Int)) ≠ 0) := by
          rw [show (3 * (p : Int) + (i : Int)) / 3 = (p : Int) by omega]; exact z
        refine b_N_lays_49 ?_
        simp (disch := omega) only [n0 W, nr_20 W, Int.zero_add, w32_id, true_and]
        refine ⟨fun _ => ?_, fun q => absurd rfl q⟩
        refine N_lays_75 W (by omega) (by omega) (Or.inl rfl) (fun q => by omega) b5 ?_
        refine ihi _ ?_
        have := lyH_s (v := (p : Int)) (s := 0) H1 (by omega) (by unfold lT; rw [if_neg z2]; omega) (by unfold lO; rw [if_neg z2])
        rw [show 3 * (p : Int) + ((i + 1 : Nat) : Int) = 3 * (p : Int) + (i : Int) + 1 by omega]
        exact this
      refine b_N_lays_10 ⟨fun z => by omega, fun _ => ?_⟩
      simp (disch := omega) only [n0 W, nr_6 W, w32_id, g3, true_and]
      refine ⟨fun z => b_N_lays_48 (not fun q => by omega), fun z => ?_⟩
      repeat (refine ⟨by omega, ?_⟩)
      refine ⟨fun z2 => b_N_lays_48 (not fun q => q.2 z2), fun z2 => sp_N_states W ⟨fun z3 => b_N_lays_48 (not fun q => ?_), fun z3 => ?_⟩⟩
      · dsimp only at z3; rw [gS] at z3; omega
      · dsimp only at z3; rw [gS] at z3
        have y : (3 * (p : Int) + (i : Int)) / 3 < (S : Int) ∧ h 143 (3 * (p : Int) + (i : Int)) ≠ 0 := ⟨by omega, z2⟩
        have b3 := hg (3 * (p : Int) + (i : Int)) (by omega) (by omega)
        refine b_N_lays_49 ?_
        simp (disch := omega) only [n0 W, nr_20 W, nr_6 W, Int.zero_add, w32_id, g3, true_and]
        refine ⟨fun q => absurd q (by decide), fun _ => ?_⟩
        repeat (refine ⟨by omega, ?_⟩)
        refine N_lays_75 W (by omega) (by omega) (Or.inr rfl) (fun q => by omega) b5 ?_
        refine ihi _ ?_
        have := lyH_s (v := h 143 (3 * (p : Int) + (i : Int)) - 1) (s := h1 144 (3 * (p : Int) + (i : Int))) H1 (by omega) (by unfold lT; rw [if_pos y]) (by unfold lO; rw [if_pos y, g4])
        rw [show 3 * (p : Int) + ((i + 1 : Nat) : Int) = 3 * (p : Int) + (i : Int) + 1 by omega]
        exact this
end
