-- deps: 18 19 20 21 23 24 25 26 27 28 29 22 30 31 32 33 34 35 36 38 40 41 45 46 51 91 92 93 94 9C 9D 9E 9H 9J
/-! the class: groups of suspects -/
section
variable {Q : RP} {n : Nat} {hr h : HP} {S I : Nat} {t o t' o' : Int → Int} {C : List Nat}
/-- the crowd -/
def CO (S I : Nat) (t o : Int → Int) (C : List Nat) (h : HP) : Prop := h 121 13 = (C.length : Int) ∧ ∀ s x : Nat, C[s]? = some x → h 126 (s : Int) = if x = 1000 then 65280 else cMu S I t o x
/-- row d is that of word u -/
def ROk (S I : Nat) (t o : Int → Int) (C : List Nat) (h : HP) (d u : Nat) : Prop := (∀ s x : Nat, C[s]? = some x → h 128 (40 * (d : Int) + (s : Int)) = dS (xT S I t o x) 0 u ∧ 0 ≤ h 129 (40 * (d : Int) + (s : Int)) ∧ h 129 (40 * (d : Int) + (s : Int)) < 40) ∧ ∀ s s' x x' : Nat, C[s]? = some x → C[s']? = some x' → (h 129 (40 * (d : Int) + (s : Int)) = h 129 (40 * (d : Int) + (s' : Int)) ↔ aS (xT S I t o x) (xO S I t o x) 0 u = aS (xT S I t o x') (xO S I t o x') 0 u)
def STB (h : HP) : Prop := 0 ≤ h 121 12 ∧ ∀ k : Nat, k < 400 → h 131 (k : Int) ≤ h 121 12
def fxWs (h h1 : HP) : Prop := EX [128, 129, 130, 131] [(121, 12)] h h1
/-- the row so far -/
def SPi (S I : Nat) (t o : Int → Int) (C : List Nat) (K : Nat → Nat) (d w : Nat) (st : Int) (h : HP) (s c : Nat) : Prop := (∀ j x : Nat, j < s → C[j]? = some x → h 128 (40 * (d : Int) + 40 + (j : Int)) = dS (xT S I t o x) 0 w ∧ h 131 (K j : Int) = st ∧ h 129 (40 * (d : Int) + 40 + (j : Int)) = h 130 (K j : Int) ∧ 0 ≤ h 130 (K j : Int) ∧ h 130 (K j : Int) < (c : Int)) ∧ (∀ k : Nat, k < 400 → h 131 (k : Int) = st → ∃ j, j < s ∧ K j = k) ∧ (∀ j j' : Nat, j < s → j' < s → h 130 (K j : Int) = h 130 (K j' : Int) → K j = K j') ∧ c ≤ s ∧ (∀ k : Nat, k < 400 → h 131 (k : Int) ≤ st)
theorem sp_X_split {d u i : Nat} (V : CW n hr) (T : TV S I t o) (X : CX S I t o h) (hC : C.length ≤ 40) (hx : ∀ x ∈ C, x < UN S I t o ∨ x = 1000) (G : CO S I t o C h) (hd : d < 15) (hi : i < 3) (hu : wok 3 u) (R : ROk S I t o C h d u) (B : STB h) (hb : h 121 12 < 2147483000) (hQ : ∀ h1, fxWs h h1 → (∀ j : Int, (j < 40 * (d : Int) + 40 ∨ 40 * (d : Int) + 80 ≤ j) → h1 128 j = h 128 j ∧ h1 129 j = h 129 j) → ROk S I t o C h1 (d + 1) (4 * u + i + 1) → h1 121 12 = h 121 12 + 1 → STB h1 → Q (9, 0) n hr h1) : f_X_split [(2, 121), (0, (d : Int)), (0, (i : Int))] n hr h Q := by
  have TT := T
  obtain ⟨hS, hI, hm, hc, hT⟩ := T
  have ub := UN_b hm hS hI
  have bb1 := B.1
  apply e_X_split
  simp (disch := omega) only [ok_121 V.1, w32_id, true_and]
  generalize hst : h 121 12 + 1 = st at *
  have ew : (d : Int) * 40 = 40 * (d : Int) := by omega
  rw [ew]
  generalize hh : ai_up h 121 12 st = h0
  have e0 : fxWs h h0 := by rw [← hh]; exact EX_upp EX_rf (by decide)
  have s0 : h0 121 12 = st := by rw [← hh, up_same]
  have k28 : h0 128 = h 128 := by rw [← hh]; funext q; rw [up_oth (by omega)]
  have k29 : h0 129 = h 129 := by rw [← hh]; funext q; rw [up_oth (by omega)]
  have k31 : h0 131 = h 131 := by rw [← hh]; funext q; rw [up_oth (by omega)]
  -- the keys
  have ex : ∃ K : Nat → Nat, ∀ s x : Nat, C[s]? = some x → (K s : Int) = h 129 (40 * (d : Int) + (s : Int)) * 10 + xO S I t o x (3 * dS (xT S I t o x) 0 u + (i : Int)) ∧ K s < 400 := by
    refine ⟨fun s => (h 129 (40 * (d : Int) + (s : Int)) * 10 + xO S I t o (C[s]?.getD 0) (3 * dS (xT S I t o (C[s]?.getD 0)) 0 u + (i : Int))).toNat, fun s x hs => ?_⟩
    simp only [hs, Option.getD_some]
    have mx := mok_x hm hS hI hc (hx x (List.mem_of_getElem? hs))
    have dd := dS_in mx (p := 0) (by omega) hu
    have oo := mx (3 * dS (xT S I t o x) 0 u + (i : Int)) (by omega) (by omega)
    have gg := (R.1 s x hs).2
    omega
  obtain ⟨K, hK⟩ := ex
  have base : ∀ h1, EX [128, 129, 130, 131] [] h0 h1 → (∀ j : Int, (j < 40 * (d : Int) + 40 ∨ 40 * (d : Int) + 80 ≤ j) → h1 128 j = h 128 j ∧ h1 129 j = h 129 j) → CX S I t o h1 ∧ CO S I t o C h1 ∧ h1 121 12 = st := fun h1 e1 _ => by
    have e2 : fxWs h h1 := EX_tr e0 (EX_le e1 (by decide) (by decide))
    refine ⟨CX_fr X e2 (by decide) (by decide), ?_, ?_⟩
    · unfold CO; rw [e2 121 13 (by decide) (by decide), EX_fn e2 (c := 126) (by decide) (by decide)]; exact G
    · rw [e1 121 12 (by decide) (by decide)]; exact s0
  have loop := lupN (N := C.length) (P := fun s => ∀ h1 (c : Nat), EX [128, 129, 130, 131] [] h0 h1 → (∀ j : Int, (j < 40 * (d : Int) + 40 ∨ 40 * (d : Int) + 80 ≤ j) → h1 128 j = h 128 j ∧ h1 129 j = h 129 j) → SPi S I t o C K d (4 * u + i + 1) st h1 s c → p_X_split_27 (n + 0) (ai_q 0 n Q) 121 (i : Int) (40 * (d : Int)) (40 * (d : Int) + 40) (c : Int) (s : Int) n hr h1) ?_ ?_
  · refine loop h0 0 EX_rf (fun j hj => by rw [k28, k29]; exact ⟨rfl, rfl⟩) ⟨fun j x hj => by omega, fun k hk q => ?_, fun j j' hj => by omega, Nat.le_refl _, fun k hk => ?_⟩
    · have := B.2 k hk; rw [k31] at q; omega
    · have := B.2 k hk; rw [k31]; omega
  · intro h1 c e1 o1 sp
    obtain ⟨b1, b2, b3⟩ := base h1 e1 o1
    refine b_X_split_27 ?_
    simp only [ok_121 V.1, b2.1, true_and]
    refine ⟨fun _ => q_at rfl (hQ h1 (EX_tr e0 (EX_le e1 (by decide) (by decide))) o1 ⟨fun s x hs => ?_, fun s s' x x' hs hs' => ?_⟩ b3 ⟨by rw [b3]; have := B.1; omega, fun k hk => by rw [b3]; exact sp.2.2.2.2 k hk⟩), fun z => by omega⟩
    · have sl := (List.getElem?_eq_some_iff.mp hs).1
      have a := sp.1 s x sl hs
      have cc := sp.2.2.2.1
      rw [show 40 * ((d + 1 : Nat) : Int) = 40 * (d : Int) + 40 by omega]
      exact ⟨a.1, by omega, by omega⟩
    · have sl := (List.getElem?_eq_some_iff.mp hs).1
      have sl' := (List.getElem?_eq_some_iff.mp hs').1
      have a := sp.1 s x sl hs
      have a' := sp.1 s' x' sl' hs'
      have mx := mok_x hm hS hI hc (hx x (List.mem_of_getElem? hs))
      have mx' := mok_x hm hS hI hc (hx x' (List.mem_of_getElem? hs'))
      have dd := dS_in mx (p := 0) (by omega) hu
      have dd' := dS_in mx' (p := 0) (by omega) hu
      have oo := mx (3 * dS (xT S I t o x) 0 u + (i : Int)) (by omega) (by omega)
      have oo' := mx' (3 * dS (xT S I t o x') 0 u + (i : Int)) (by omega) (by omega)
      have ks := (hK s x hs).1
      have ks' := (hK s' x' hs').1
      have rr := R.2 s s' x x' hs hs'
      rw [show 40 * ((d + 1 : Nat) : Int) = 40 * (d : Int) + 40 by omega, a.2.2.1, a'.2.2.1, aS_eq_c mx mx' (by omega) (by omega) hi hu, ← rr]
      constructor
      · intro q
        have := sp.2.2.1 s s' sl sl' q
        rw [this] at ks
        omega
      · rintro ⟨q1, q2⟩
        have : K s = K s' := by rw [q1, q2, ← ks'] at ks; omega
        rw [this]
  · intro s hs ih h1 c e1 o1 sp
    obtain ⟨b1, b2, b3⟩ := base h1 e1 o1
    have hv := List.getElem?_eq_getElem hs
    generalize C[s] = x at hv
    have mx := mok_x hm hS hI hc (hx x (List.mem_of_getElem? hv))
    have dd := dS_in mx (p := 0) (by omega) hu
    have oo := mx (3 * dS (xT S I t o x) 0 u + (i : Int)) (by omega) (by omega)
    have ks := hK s x hv
    have gg := (R.1 s x hv).2
    have f28 : h1 128 (40 * (d : Int) + (s : Int)) = dS (xT S I t o x) 0 u := by rw [(o1 _ (by omega)).1]; exact (R.1 s x hv).1
    have f29 : h1 129 (40 * (d : Int) + (s : Int)) = h 129 (40 * (d : Int) + (s : Int)) := (o1 _ (by omega)).2
    have cd := b2.2 s x hv
    have nw : dS (xT S I t o x) 0 (4 * u + i + 1) = xT S I t o x (3 * dS (xT S I t o x) 0 u + (i : Int)) := dS_c _ _ _ hi
    have hc1 := sp.2.2.2.1
    generalize hg : h 129 (40 * (d : Int) + (s : Int)) = g at *
    generalize ha : 3 * dS (xT S I t o x) 0 u + (i : Int) = a at *
    have earc : dS (xT S I t o x) 0 u * 3 + (i : Int) = a := by omega
    -- two ways on
    have same : h1 131 (K s : Int) = st → p_X_split_27 (n + 0) (ai_q 0 n Q) 121 (i : Int) (40 * (d : Int)) (40 * (d : Int) + 40) (c : Int) ((s : Int) + 1) n hr (ai_up (ai_up h1 129 (40 * (d : Int) + 40 + (s : Int)) (h1 130 (K s : Int))) 128 (40 * (d : Int) + 40 + (s : Int)) (xT S I t o x a)) := by
      intro q
      obtain ⟨s1, s11, s12⟩ := sp.2.1 (K s) ks.2 q
      have e11 := List.getElem?_eq_getElem (l := C) (i := s1) (by omega)
      have a1 := sp.1 s1 _ s11 e11
      rw [s12] at a1
      refine ih _ c (EX_upc (EX_upc e1 (by decide)) (by decide)) (fun j hj => ?_) ⟨fun j x' hj hx' => ?_, fun k hk q2 => ?_, fun j j' hj hj' q2 => ?_, by omega, fun k hk => ?_⟩
      · rw [up_oth (by omega), up_oth (by omega), up_oth (by omega), up_oth (by omega)]; exact o1 j hj
      · by_cases y : j = s
        · subst y
          rw [hv] at hx'; cases hx'
          simp (disch := omega) only [up_same, up_oth]
          exact ⟨nw.symm, q, trivial, a1.2.2.2.1, a1.2.2.2.2⟩
        · simp (disch := omega) only [up_oth]
          exact sp.1 j x' (by omega) hx'
      · simp (disch := omega) only [up_oth] at q2
        obtain ⟨j, j1, j2⟩ := sp.2.1 k hk q2
        exact ⟨j, by omega, j2⟩
      · simp (disch := omega) only [up_oth] at q2
        have f : ∀ z, z < s + 1 → ∃ z', z' < s ∧ K z' = K z := fun z hz => by
          by_cases y : z = s
          · exact ⟨s1, s11, by rw [y]; exact s12⟩
          · exact ⟨z, by omega, rfl⟩
        obtain ⟨z, z1, z2⟩ := f j hj
        obtain ⟨z', z1', z2'⟩ := f j' hj'
        rw [← z2, ← z2'] at q2 ⊢
        exact sp.2.2.1 z z' z1 z1' q2
      · simp (disch := omega) only [up_oth]; exact sp.2.2.2.2 k hk
    have newk : h1 131 (K s : Int) ≠ st → p_X_split_27 (n + 0) (ai_q 0 n Q) 121 (i : Int) (40 * (d : Int)) (40 * (d : Int) + 40) ((c : Int) + 1) ((s : Int) + 1) n hr (ai_up (ai_up (ai_up (ai_up h1 131 (K s : Int) st) 130 (K s : Int) (c : Int)) 129 (40 * (d : Int) + 40 + (s : Int)) (c : Int)) 128 (40 * (d : Int) + 40 + (s : Int)) (xT S I t o x a)) := by
      intro q
      have ne : ∀ j, j < s → K j ≠ K s := fun j hj y => by
        have e11 := List.getElem?_eq_getElem (l := C) (i := j) (by omega)
        have := (sp.1 j _ hj e11).2.1
        rw [y] at this; exact q this
      refine ih _ (c + 1) (EX_upc (EX_upc (EX_upc (EX_upc e1 (by decide)) (by decide)) (by decide)) (by decide)) (fun j hj => ?_) ⟨fun j x' hj hx' => ?_, fun k hk q2 => ?_, fun j j' hj hj' q2 => ?_, by omega, fun k hk => ?_⟩
      · constructor
        · simp (disch := omega) only [up_oth]; exact (o1 j hj).1
        · simp (disch := omega) only [up_oth]; exact (o1 j hj).2
      · by_cases y : j = s
        · subst y
          rw [hv] at hx'; cases hx'
          simp (disch := omega) only [up_same, up_oth]
          exact ⟨nw.symm, trivial, trivial, by omega, by omega⟩
        · have nj := ne j (by omega)
          have := sp.1 j x' (by omega) hx'
          simp (disch := omega) only [up_oth]
          exact ⟨this.1, this.2.1, this.2.2.1, this.2.2.2.1, by omega⟩
      · by_cases y : k = K s
        · exact ⟨s, by omega, y.symm⟩
        · simp (disch := omega) only [up_oth] at q2
          obtain ⟨j, j1, j2⟩ := sp.2.1 k hk q2
          exact ⟨j, by omega, j2⟩
      · have v : ∀ z, z < s → 0 ≤ h1 130 (K z : Int) ∧ h1 130 (K z : Int) < (c : Int) := fun z hz => (sp.1 z _ hz (List.getElem?_eq_getElem (l := C) (i := z) (by omega))).2.2.2
        by_cases y : j = s
        · by_cases y' : j' = s
          · rw [y, y']
          · have nj := ne j' (by omega)
            have := v j' (by omega)
            subst y
            simp (disch := omega) only [up_oth, up_same] at q2
            omega
        · have nj := ne j (by omega)
          by_cases y' : j' = s
          · have := v j (by omega)
            subst y'
            simp (disch := omega) only [up_oth, up_same] at q2
            omega
          · have nj' := ne j' (by omega)
            simp (disch := omega) only [up_oth] at q2
            exact sp.2.2.1 j j' (by omega) (by omega) q2
      · by_cases y : k = K s
        · subst y; simp (disch := omega) only [up_oth, up_same]; exact Int.le_refl _
        · simp (disch := omega) only [up_oth]; exact sp.2.2.2.2 k hk
    have cl := (fun (y : x ≠ 1000) => cMu_sp hm hS hI hc (k := x) (by have := hx x (List.mem_of_getElem? hv); omega))
    have mub := (fun (y : x ≠ 1000) => mu_b hm hS hI hc (k := x) (by have := hx x (List.mem_of_getElem? hv); omega))
    refine b_X_split_27 ?_
    simp (disch := omega) only [ok_121 V.1, cr_121_7 V, cr_121_5 V, b2.1, f28, w32_id, earc, true_and]
    refine ⟨fun z => by omega, fun _ => ?_⟩
    repeat (refine ⟨by omega, ?_⟩)
    have kk : g * 10 + xO S I t o x a = (K s : Int) := ks.1.symm
    have r14 := b1.2.2.1 a (by omega) (by omega)
    have r15 := b1.2.2.2 a (by omega) (by omega)
    refine ⟨fun z => ?_, fun z => ?_⟩
    · -- as the machine does
      have vx : xO S I t o x a = o a ∧ xT S I t o x a = t a := by
        unfold xO xT
        by_cases y : x = 1000
        · rw [if_pos y, if_pos y]; exact ⟨rfl, rfl⟩
        · rw [if_neg y, if_neg y]
          have ne : a ≠ muC S I t o x := fun q => z (by rw [cd, if_neg y, (cl y).1]; exact q)
          unfold oMu tMu up1
          rw [if_neg ne, if_neg ne]; exact ⟨rfl, rfl⟩
      rw [vx.1] at kk
      rw [vx.2] at same newk
      refine b_X_split_71 ?_
      simp +decide (disch := omega) only [ok_121 V.1, cr_121_0 V, ok_13 V.1, cr_13_0 V, cr_13_1 V, cr_121_8 V, cr_121_10 V, cr_121_9 V, cr_121_7 V, cr_121_5 V, r14, r15, f29, kk, b3, up_oth, up_same, w32_id, true_and, ne_eq, Int.reduceEq, not_true_eq_false, not_false_eq_true, false_implies, true_implies, forall_const, implies_true, and_true]
      repeat (refine ⟨by omega, ?_⟩)
      refine ⟨fun y => ?_, fun y => ?_⟩
      · repeat (refine ⟨by omega, ?_⟩)
        exact same y
      · repeat (refine ⟨by omega, ?_⟩)
        exact newk y
    · -- its own arc
      have y : x ≠ 1000 := fun y => by
        rw [cd, if_pos y, show i_shr 65280 8 = 255 by rw [shr_8 (by decide) (by decide)]; rfl] at z; omega
      have q := cl y
      have c1 := mub y
      rw [cd, if_neg y, q.1] at z
      have vx : xO S I t o x a = muY S I t o x ∧ xT S I t o x a = muX S I t o x := by
        unfold xO xT
        rw [if_neg y, if_neg y]
        unfold oMu tMu up1
        rw [if_pos z, if_pos z]; exact ⟨rfl, rfl⟩
      rw [vx.1] at kk
      rw [vx.2] at same newk
      rw [if_neg y] at cd
      refine b_X_split_71 ?_
      simp +decide (disch := omega) only [ok_121 V.1, cr_121_0 V, ok_13 V.1, cr_13_0 V, cr_13_1 V, cr_121_8 V, cr_121_10 V, cr_121_9 V, cr_121_7 V, cr_121_5 V, cd, q.2.1, q.2.2, f29, kk, b3, up_oth, up_same, w32_id, true_and, ne_eq, Int.reduceEq, not_true_eq_false, not_false_eq_true, false_implies, true_implies, forall_const, implies_true, and_true]
      repeat (refine ⟨by omega, ?_⟩)
      refine ⟨fun y => ?_, fun y => ?_⟩
      · repeat (refine ⟨by omega, ?_⟩)
        exact same y
      · repeat (refine ⟨by omega, ?_⟩)
        exact newk y
end
