-- deps: 18 19 20 21 23 24 25 26 27 28 29 22 30 31 32 33 34 35 36 37 38 39 40 47 50 67 68 70 73 80 81 83
/-! the reference: tests with which another one begins go -/
section
variable {Q : RP} {n : Nat} {hr h : HP} {L : List Nat} {S I : Nat} {t o : Int → Int}
def fxD (t : Nat) (h h1 : HP) : Prop := EX [161, 162, 163] [] h h1 ∧ (∀ j : Int, (j < 1300 * (t : Int) ∨ 1300 * (t : Int) + 1300 ≤ j) → h1 161 j = h 161 j) ∧ ∀ j : Int, j ≠ (t : Int) → h1 162 j = h 162 j
theorem sp_N_drops {t : Nat} (W : NW n hr) (ht : t < 6) (R : RW h t L) (hl : L.length < 1300) (hA : asc L) (hw : ∀ x ∈ L, x < 1073741824) (hQ : ∀ h1, fxD t h h1 → RW h1 t (FLs L (BG L L.length) L.length) → Q (9, 0) n hr h1) : f_N_drops [(2, 138), (0, (t : Int))] n hr h Q := by
  apply e_N_drops
  -- what is left moves together
  have pack : ∀ h1, EX [163] [] h h1 → (∀ j : Nat, j < L.length → (BG L L.length j → h1 163 (j : Int) = 1) ∧ (¬ BG L L.length j → h1 163 (j : Int) = 0)) → p_N_drops_92 (n + 0) (ai_q 0 n Q) 138 (t : Int) 0 0 n hr h1 := by
    intro h1 e1 b1
    have := lupN (N := L.length) (P := fun k => ∀ h2, fxD t h1 h2 → h2 163 = h1 163 → h2 162 (t : Int) = (L.length : Int) → rowL (h2 161) (1300 * (t : Int)) (FLs L (BG L L.length) k) → (∀ j v : Nat, L[j]? = some v → k ≤ j → h2 161 (1300 * (t : Int) + (j : Int)) = (v : Int)) → p_N_drops_92 (n + 0) (ai_q 0 n Q) 138 (t : Int) ((FLs L (BG L L.length) k).length : Int) (k : Int) n hr h2) ?_ ?_
    · have g61 : h1 161 = h 161 := EX_fn e1 (by decide) (by decide)
      have g62 : h1 162 = h 162 := EX_fn e1 (by decide) (by decide)
      exact this h1 ⟨EX_rf, fun _ _ => rfl, fun _ _ => rfl⟩ rfl (by rw [g62]; exact R.1) (fun j w hj => by cases hj) fun j v hj _ => by rw [g61]; exact R.2 j v hj
    · intro h2 f2 g3 c2 r2 o2
      have fl := FLs_len (L := L) (P := BG L L.length) L.length
      refine b_N_drops_92 ?_
      simp (disch := omega) only [n0 W, nr_39 W, c2, true_and]
      repeat (refine ⟨by omega, ?_⟩)
      refine ⟨fun _ => ?_, fun z => by omega⟩
      repeat (refine ⟨by omega, ?_⟩)
      have H := hQ (ai_up h2 162 (t : Int) ((FLs L (BG L L.length) L.length).length : Int)) ⟨EX_upc (EX_tr (EX_le e1 (by decide) (by decide)) (EX_le f2.1 (by decide) (by decide))) (by decide), fun j hj => ?_, fun j hj => ?_⟩ ⟨up_same, fun j w hj => ?_⟩
      · exact (by first | exact q_at rfl (H) | exact (H))
      · rw [up_oth (by omega), f2.2.1 j hj, EX_fn e1 (c := 161) (by decide) (by decide)]
      · rw [up_oth (by omega), f2.2.2 j hj, EX_fn e1 (c := 162) (by decide) (by decide)]
      · rw [up_oth (by omega)]; exact r2 j w hj
    · intro k hk ih h2 f2 g3 c2 r2 o2
      have fl := FLs_len (L := L) (P := BG L L.length) k
      have hv := List.getElem?_eq_getElem hk
      generalize L[k] = v at hv
      have ov := o2 k v hv (Nat.le_refl _)
      have bk := b1 k hk
      refine b_N_drops_92 ?_
      simp (disch := omega) only [n0 W, nr_39 W, nr_40 W, c2, g3, true_and]
      repeat (refine ⟨by omega, ?_⟩)
      refine fun _ => ?_
      repeat (refine ⟨by omega, ?_⟩)
      by_cases z : BG L L.length k
      · have e1 := bk.1 z
        rw [e1]
        refine ⟨fun q => by omega, fun _ => ?_⟩
        rw [w32_id (by omega) (by omega)]
        have := ih h2 f2 g3 c2 (by rw [FLs_y z]; exact r2) fun j u hj hjk => o2 j u hj (by omega)
        rw [FLs_y z] at this
        exact this
      · have e1 := bk.2 z
        rw [e1]
        refine ⟨fun _ => ?_, fun q => absurd rfl q⟩
        refine sp_N_tsAt W ht (by omega) ?_
        rw [ov]
        simp (disch := omega) only [n0 W, nr_38 W, w32_id, true_and]
        repeat (refine ⟨by omega, ?_⟩)
        have := ih (ai_up h2 161 (1300 * (t : Int) + ((FLs L (BG L L.length) k).length : Int)) (v : Int)) ⟨EX_upc f2.1 (by decide), fun j hj => by rw [up_oth (by omega)]; exact f2.2.1 j hj, fun j hj => by rw [up_oth (by omega)]; exact f2.2.2 j hj⟩ (by funext q; rw [up_oth (by omega)]; rw [g3]) (by rw [up_oth (by omega)]; exact c2) (fun j w hj => ?_) fun j u hj hjk => ?_
        · rw [FLs_n z hv, List.length_append, List.length_singleton] at this
          exact this
        · rw [FLs_n z hv] at hj
          rcases at_add.mp hj with ⟨a1, a2⟩ | ⟨a1, a2⟩
          · rw [up_oth (by omega)]; exact r2 j w a2
          · subst a1; subst a2; rw [up_same]
        · rw [up_oth (by omega)]; exact o2 j u hj (by omega)
  -- the marks of one word
  have marks : ∀ (k : Nat) (h1 : HP), k < L.length → EX [163] [] h h1 → (∀ j : Nat, j < L.length → (BG L k j → h1 163 (j : Int) = 1) ∧ (¬ BG L k j → h1 163 (j : Int) = 0)) → (∀ h2, EX [163] [] h h2 → (∀ j : Nat, j < L.length → (BG L (k + 1) j → h2 163 (j : Int) = 1) ∧ (¬ BG L (k + 1) j → h2 163 (j : Int) = 0)) → p_N_drops_27 (n + 0) (ai_q 0 n Q) 138 (t : Int) ((k + 1 : Nat) : Int) n hr h2) → ∀ v, L[k]? = some v → p_N_drops_44 (n + 0) (ai_q 0 n Q) 138 (t : Int) (k : Int) (v : Int) n hr h1 := by
    intro k h1 hk e1 b1 next v hv
    have vb := hw v (List.mem_of_getElem? hv)
    -- the part of the beginnings that is done
    have key : ∀ (m c : Nat), v / 4 ^ c ≤ m → ∀ h2, EX [163] [] h h2 → (∀ j : Nat, j < L.length → ((BG L k j ∨ ∃ d, 1 ≤ d ∧ d ≤ c ∧ v ≠ 0 ∧ L[j]? = some (v / 4 ^ d)) → h2 163 (j : Int) = 1) ∧ (¬ (BG L k j ∨ ∃ d, 1 ≤ d ∧ d ≤ c ∧ v ≠ 0 ∧ L[j]? = some (v / 4 ^ d)) → h2 163 (j : Int) = 0)) → (v ≠ 0 → c = 0 ∨ v / 4 ^ (c - 1) ≠ 0) → p_N_drops_44 (n + 0) (ai_q 0 n Q) 138 (t : Int) (k : Int) ((v / 4 ^ c : Nat) : Int) n hr h2 := by
      have fin : ∀ c, v / 4 ^ c = 0 → ∀ h2, EX [163] [] h h2 → (∀ j : Nat, j < L.length → ((BG L k j ∨ ∃ d, 1 ≤ d ∧ d ≤ c ∧ v ≠ 0 ∧ L[j]? = some (v / 4 ^ d)) → h2 163 (j : Int) = 1) ∧ (¬ (BG L k j ∨ ∃ d, 1 ≤ d ∧ d ≤ c ∧ v ≠ 0 ∧ L[j]? = some (v / 4 ^ d)) → h2 163 (j : Int) = 0)) → (v ≠ 0 → c = 0 ∨ v / 4 ^ (c - 1) ≠ 0) → p_N_drops_27 (n + 0) (ai_q 0 n Q) 138 (t : Int) (w32 ((k : Int) + 1)) n hr h2 := by
        intro c hc h2 e2 b2 hne
        rw [w32_id (by omega) (by omega)]
        have eq : ∀ j, BG L (k + 1) j ↔ (BG L k j ∨ ∃ d, 1 ≤ d ∧ d ≤ c ∧ v ≠ 0 ∧ L[j]? = some (v / 4 ^ d)) := by
          intro j
          constructor
          · rintro ⟨k', u, d, k1, k2, k3, k4, k5⟩
            by_cases y : k' = k
            · subst y
              rw [hv] at k2; cases k2
              by_cases g : d ≤ c
              · exact Or.inr ⟨d, k4, g, k3, k5⟩
              · refine Or.inr ⟨c, ?_, Nat.le_refl _, k3, ?_⟩
                · refine Nat.pos_of_ne_zero fun q => ?_
                  rw [q, Nat.pow_zero, Nat.div_one] at hc; exact k3 hc
                · rw [k5, hc]
                  rw [show d = c + (d - c) by omega, Nat.pow_add, ← Nat.div_div_eq_div_mul, hc, Nat.zero_div]
            · exact Or.inl ⟨k', u, d, by omega, k2, k3, k4, k5⟩
          · rintro (⟨k', u, d, k1, k2⟩ | ⟨d, d1, d2, d3, d4⟩)
            · exact ⟨k', u, d, by omega, k2⟩
            · exact ⟨k, v, d, by omega, hv, d3, d1, d4⟩
        exact next h2 e2 fun j hj => ⟨fun q => (b2 j hj).1 ((eq j).mp q), fun q => (b2 j hj).2 fun g => q ((eq j).mpr g)⟩
      intro m
      induction m with
      | zero =>
        intro c hc h2 e2 b2 hne
        have c0 : v / 4 ^ c = 0 := Nat.le_zero.mp hc
        rw [c0]
        exact b_N_drops_44 ⟨fun _ => fin c c0 h2 e2 b2 hne, fun z => by omega⟩
      | succ m ih =>
        intro c hc h2 e2 b2 hne
        by_cases c0 : v / 4 ^ c = 0
        · rw [c0]
          exact b_N_drops_44 ⟨fun _ => fin c c0 h2 e2 b2 hne, fun z => by omega⟩
        · generalize hx : v / 4 ^ c = x at hc c0
          have xd : v / 4 ^ (c + 1) = x / 4 := by rw [div_s, hx]
          have xv : x ≤ v := by rw [← hx]; exact Nat.div_le_self _ _
          have v0 : v ≠ 0 := fun q => by omega
          have R2 : RW h2 t L := by
            unfold RW; rw [EX_fn e2 (c := 161) (by decide) (by decide), EX_fn e2 (c := 162) (by decide) (by decide)]; exact R
          refine b_N_drops_44 ⟨fun z => by omega, fun _ => ?_⟩
          rw [shr_2 (by omega) (by omega), show (x : Int) / 4 = ((x / 4 : Nat) : Int) by omega]
          refine ⟨n0 W, sp_N_placeFor W ht R2 (by omega) hA fun p p1 p2 p3 => ?_⟩
          have pk : p ≤ k := Nat.le_of_not_lt fun q => by have := p2 k v hv q; omega
          have hu := List.getElem?_eq_getElem (l := L) (i := p) (by omega)
          generalize L[p] = u at hu
          have pu := p3 p u hu (Nat.le_refl _)
          have rest : ∀ j, L[j]? = some (x / 4) → u = x / 4 ∧ j = p := by
            intro j hj
            have a : p ≤ j := Nat.le_of_not_lt fun q => by have := p2 j _ hj q; omega
            by_cases g : j = p
            · subst g; rw [hu] at hj; cases hj; exact ⟨rfl, rfl⟩
            · have := hA p j u _ (by omega) hu hj; omega
          have nb : ∀ j, (BG L k j ∨ ∃ d, 1 ≤ d ∧ d ≤ c + 1 ∧ v ≠ 0 ∧ L[j]? = some (v / 4 ^ d)) ↔ ((BG L k j ∨ ∃ d, 1 ≤ d ∧ d ≤ c ∧ v ≠ 0 ∧ L[j]? = some (v / 4 ^ d)) ∨ L[j]? = some (x / 4)) := by
            intro j
            constructor
            · rintro (q | ⟨d, d1, d2, d3, d4⟩)
              · exact Or.inl (Or.inl q)
              · by_cases g : d = c + 1
                · subst g; rw [xd] at d4; exact Or.inr d4
                · exact Or.inl (Or.inr ⟨d, d1, by omega, d3, d4⟩)
            · rintro ((q | ⟨d, d1, d2, d3⟩) | q)
              · exact Or.inl q
              · exact Or.inr ⟨d, d1, by omega, d3⟩
              · exact Or.inr ⟨c + 1, by omega, Nat.le_refl _, v0, by rw [xd]; exact q⟩
          have le : v / 4 ^ (c + 1) ≤ m := by rw [xd]; omega
          have ne : v ≠ 0 → c + 1 = 0 ∨ v / 4 ^ (c + 1 - 1) ≠ 0 := fun _ => Or.inr (by rw [Nat.add_sub_cancel, hx]; exact c0)
          refine ⟨n0 W, sp_N_tsAt W ht (by omega) ?_⟩
          rw [R2.2 p u hu]
          refine ⟨fun z => ?_, fun z => ?_⟩
          · dsimp only at z
            have := ih (c + 1) le h2 e2 (fun j hj => ⟨fun q => ?_, fun q => (b2 j hj).2 fun g => q ((nb j).mpr (Or.inl g))⟩) ne
            · rw [xd] at this; exact this
            · rcases (nb j).mp q with g | g
              · exact (b2 j hj).1 g
              · have := (rest j g).1; omega
          · dsimp only at z
            have eu : u = x / 4 := by omega
            simp (disch := omega) only [n0 W, nr_40 W, true_and, or_true, true_or]
            repeat (refine ⟨by omega, ?_⟩)
            have := ih (c + 1) le (ai_up h2 163 (p : Int) 1) (EX_upc e2 (by decide)) (fun j hj => ?_) ne
            · rw [xd] at this; exact this
            · by_cases g : j = p
              · subst g
                rw [up_same]
                exact ⟨fun _ => rfl, fun q => (q ((nb j).mpr (Or.inr (by rw [hu, eu])))).elim⟩
              · rw [up_oth (by omega)]
                refine ⟨fun q => ?_, fun q => (b2 j hj).2 fun y => q ((nb j).mpr (Or.inl y))⟩
                rcases (nb j).mp q with y | y
                · exact (b2 j hj).1 y
                · exact (g (rest j y).2).elim
    have := key v 0 (by rw [Nat.pow_zero, Nat.div_one]; exact Nat.le_refl _) h1 e1 (fun j hj => ⟨fun q => q.elim (b1 j hj).1 fun ⟨d, d1, d2, _⟩ => by omega, fun q => (b1 j hj).2 fun g => q (Or.inl g)⟩) fun _ => Or.inl rfl
    rw [Nat.pow_zero, Nat.div_one] at this
    exact this
  have g62 : ∀ h1, EX [163] [] h h1 → h1 162 (t : Int) = (L.length : Int) := fun h1 e1 => by rw [EX_fn e1 (c := 162) (by decide) (by decide)]; exact R.1
  have all := lupN (N := L.length) (P := fun k => ∀ h1, EX [163] [] h h1 → (∀ j : Nat, j < L.length → (BG L k j → h1 163 (j : Int) = 1) ∧ (¬ BG L k j → h1 163 (j : Int) = 0)) → p_N_drops_27 (n + 0) (ai_q 0 n Q) 138 (t : Int) (k : Int) n hr h1) ?_ ?_
  · have clear := lupN (N := L.length) (P := fun k => ∀ h1, EX [163] [] h h1 → (∀ j : Nat, j < k → h1 163 (j : Int) = 0) → p_N_drops_2 (n + 0) (ai_q 0 n Q) 138 (t : Int) (k : Int) n hr h1) ?_ ?_
    · exact clear h EX_rf fun j hj => by omega
    · intro h1 e1 z1
      refine b_N_drops_2 ?_
      simp (disch := omega) only [n0 W, nr_39 W, g62 h1 e1, true_and]
      repeat (refine ⟨by omega, ?_⟩)
      refine ⟨fun _ => all h1 e1 fun j hj => ⟨fun ⟨k', v, d, a, _⟩ => by omega, fun _ => z1 j hj⟩, fun z => by omega⟩
    · intro k hk ih h1 e1 z1
      refine b_N_drops_2 ?_
      simp (disch := omega) only [n0 W, nr_39 W, nr_40 W, g62 h1 e1, w32_id, true_and, or_true, true_or]
      repeat (refine ⟨by omega, ?_⟩)
      refine fun _ => ?_
      repeat (refine ⟨by omega, ?_⟩)
      refine ih _ (EX_upc e1 (by decide)) fun j hj => ?_
      by_cases g : j = k
      · subst g; rw [up_same]
      · rw [up_oth (by omega)]; exact z1 j (by omega)
  · intro h1 e1 b1
    refine b_N_drops_27 ?_
    simp (disch := omega) only [n0 W, nr_39 W, g62 h1 e1, true_and]
    repeat (refine ⟨by omega, ?_⟩)
    exact ⟨fun _ => pack h1 e1 b1, fun z => by omega⟩
  · intro k hk ih h1 e1 b1
    have hv := List.getElem?_eq_getElem hk
    generalize L[k] = v at hv
    have rv : h1 161 (1300 * (t : Int) + (k : Int)) = (v : Int) := by rw [EX_fn e1 (c := 161) (by decide) (by decide)]; exact R.2 k v hv
    refine b_N_drops_27 ?_
    simp (disch := omega) only [n0 W, nr_39 W, g62 h1 e1, true_and]
    repeat (refine ⟨by omega, ?_⟩)
    refine fun _ => ?_
    refine sp_N_tsAt W ht (by omega) ?_
    rw [rv]
    exact marks k h1 hk e1 b1 ih v hv
end
