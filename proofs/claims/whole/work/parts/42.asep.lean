-- deps: 18 19 20 21 23 24 25 26 27 28 29 22 30 31 32 33 34 35 36 37 38 39 40 41
/-! the class: separators, kinds -/
theorem sepT_s {m : Nat} {t o : Int → Int} {a b x : Int} {l : Nat} (h : sepT m t o a b l x) (hx : x ≠ -2) : sepT m t o a b (l + 1) x := by
  rcases h with ⟨h1, w, h2, h3, h4, h5⟩ | ⟨h1, h2⟩
  · exact Or.inl ⟨h1, w, h2, h3, by omega, h5⟩
  · exact (hx h1).elim
theorem sepT_no {m : Nat} {t o : Int → Int} {a b x : Int} {l : Nat} (h : sepT m t o a b l x) (hx : x = -2) : noS m t o a b l := by
  rcases h with ⟨h1, w, h2, h3, h4⟩ | ⟨h1, h2⟩
  · omega
  · exact h2
/-- the table in the midst of a round -/
def tabS (m S : Nat) (t o : Int → Int) (l a b : Nat) (h : HP) : Prop := ∀ c d : Nat, c < S → d < S → (sepT m t o (c : Int) (d : Int) l (h 21 (6 * (c : Int) + (d : Int))) ∨ sepT m t o (c : Int) (d : Int) (l + 1) (h 21 (6 * (c : Int) + (d : Int)))) ∧ (((c = d ∨ (c < d ∧ (c < a ∨ (c = a ∧ d < b))) ∨ (d < c ∧ (d < a ∨ (d = a ∧ c < b)))) → sepT m t o (c : Int) (d : Int) (l + 1) (h 21 (6 * (c : Int) + (d : Int))))) ∧ h 21 (6 * (c : Int) + (d : Int)) = h 21 (6 * (d : Int) + (c : Int))
theorem tabS_le {m S : Nat} {t o : Int → Int} {l a b a' b' : Nat} {h : HP} (H : tabS m S t o l a b h) (hle : ∀ c d : Nat, c < d → d < S → (c < a' ∨ (c = a' ∧ d < b')) → (c < a ∨ (c = a ∧ d < b))) : tabS m S t o l a' b' h := fun c d hc hd => ⟨(H c d hc hd).1, fun q => (H c d hc hd).2.1 (by
  rcases q with q | ⟨q1, q2⟩ | ⟨q1, q2⟩
  · exact Or.inl q
  · exact Or.inr (Or.inl ⟨q1, hle c d q1 hd q2⟩)
  · exact Or.inr (Or.inr ⟨q1, hle d c q1 hc q2⟩)), (H c d hc hd).2.2⟩
section
variable {Q : RP} {n : Nat} {hr h : HP} {S I : Nat} {t o : Int → Int}
theorem sp_A_separatorOfLength {a b l : Nat} (V : CW n hr) (T : TV S I t o) (X : CX S I t o h) (ha : a < S) (hb : b < S) (hl : l ≤ 4) (hT : ∀ c d : Nat, c < S → d < S → sepT I t o (c : Int) (d : Int) l (h 21 (6 * (c : Int) + (d : Int))) ∨ sepT I t o (c : Int) (d : Int) (l + 1) (h 21 (6 * (c : Int) + (d : Int)))) (h0 : noS I t o (a : Int) (b : Int) l) (hQ : ∀ r, sepT I t o (a : Int) (b : Int) (l + 1) r → Q (0, r) n hr h) : f_A_separatorOfLength [(2, 19), (0, (a : Int)), (0, (b : Int)), (0, ((l + 1 : Nat) : Int))] n hr h Q := by
  obtain ⟨hS, hI, hm, hc, hTT⟩ := T
  apply e_A_separatorOfLength
  have := lupN (N := I) (P := fun i => (∀ j, j < i → sepN I t o (a : Int) (b : Int) l j) → p_A_separatorOfLength_3 (n + 0) (ai_q 0 n Q) 19 (a : Int) (b : Int) ((l + 1 : Nat) : Int) (i : Int) n hr h) ?_ ?_
  · exact this fun j hj => by omega
  · intro hN
    refine b_A_separatorOfLength_3 ?_
    simp (disch := omega) only [ok_19 V.1, cr_19_0 V, ok_13 V.1, X.2.1, true_and]
    exact ⟨fun _ => (by first | exact q_at rfl (hQ _ (Or.inr ⟨rfl, sep_end hI hS hm (by omega) (by omega) h0 hN⟩)) | exact (hQ _ (Or.inr ⟨rfl, sep_end hI hS hm (by omega) (by omega) h0 hN⟩))), fun z => by omega⟩
  · intro i hi ih hN
    have g1 := X.2.2.1 (3 * (a : Int) + (i : Int)) (by omega) (by omega)
    have g2 := X.2.2.1 (3 * (b : Int) + (i : Int)) (by omega) (by omega)
    have g3 := X.2.2.2 (3 * (a : Int) + (i : Int)) (by omega) (by omega)
    have g4 := X.2.2.2 (3 * (b : Int) + (i : Int)) (by omega) (by omega)
    have ca := hc (a : Int) i (by omega) (by omega) (by omega)
    have cb := hc (b : Int) i (by omega) (by omega) (by omega)
    obtain ⟨c, hcc⟩ := Int.eq_ofNat_of_zero_le ca.1
    obtain ⟨d, hdd⟩ := Int.eq_ofNat_of_zero_le cb.1
    have tab := hT c d (by omega) (by omega)
    have hm1 : (a : Int) * 3 = 3 * (a : Int) := Int.mul_comm _ _
    have hm2 : (b : Int) * 3 = 3 * (b : Int) := Int.mul_comm _ _
    have hm3 : (c : Int) * 6 = 6 * (c : Int) := Int.mul_comm _ _
    refine b_A_separatorOfLength_3 ?_
    simp (disch := omega) only [ok_19 V.1, cr_19_0 V, cr_19_2 V, cr_13_0 V, cr_13_1 V, ok_13 V.1, X.2.1, w32_id, hm1, hm2, g1, g2, g3, g4, hcc, hdd, hm3, true_and]
    refine ⟨fun z => by omega, fun _ => ?_⟩
    repeat (refine ⟨by omega, ?_⟩)
    have next : o (3 * (a : Int) + (i : Int)) = o (3 * (b : Int) + (i : Int)) → (∀ u, wok I u → wlen u = l → aS t o (c : Int) u = aS t o (d : Int) u) → p_A_separatorOfLength_3 (n + 0) (ai_q 0 n Q) 19 (a : Int) (b : Int) ((l + 1 : Nat) : Int) ((i : Int) + 1) n hr h := by
      intro z1 z2
      refine ih fun j hj => ?_
      by_cases y : j = i
      · subst y
        exact ⟨z1, by rw [hcc, hdd]; exact z2⟩
      · exact hN j (by omega)
    refine ⟨fun zo => ?_, fun zo => ?_⟩
    · repeat (refine ⟨by omega, ?_⟩)
      generalize hx : h 21 (6 * (c : Int) + (d : Int)) = x at tab ⊢
      have no2 : x = -2 → ∀ u, wok I u → wlen u = l → aS t o (c : Int) u = aS t o (d : Int) u := by
        intro q u u1 u2
        rcases tab with g | g
        · exact sepT_no g q u u1 (by omega)
        · exact sepT_no g q u u1 (by omega)
      refine ⟨fun z => ?_, fun z => ?_⟩
      · refine next zo (no2 ?_)
        rcases tab with (⟨_, w, w1, w2, _⟩ | ⟨q, _⟩) | (⟨_, w, w1, w2, _⟩ | ⟨q, _⟩)
        · omega
        · exact q
        · omega
        · exact q
      · have tab2 : x = SPr I t o (c : Int) (d : Int) ∧ ∃ w : Nat, x = (w : Int) ∧ 0 < w ∧ wlen w ≤ l + 1 ∧ wok I w := by
          rcases tab with (⟨q1, w, w1, w2, w3, w4⟩ | ⟨q, _⟩) | (⟨q1, w, w1, w2, w3, w4⟩ | ⟨q, _⟩)
          · exact ⟨q1, w, w1, w2, by omega, w4⟩
          · omega
          · exact ⟨q1, w, w1, w2, by omega, w4⟩
          · omega
        obtain ⟨q1, w, rfl, w2, w3, w4⟩ := tab2
        have spw := fw_pos (P := fun w => wok I w ∧ aS t o (c : Int) w ≠ aS t o (d : Int) w) (k := w) q1.symm
        refine sp_B_lengthOf (wl15 (by omega)) ?_
        refine ⟨fun y => ?_, fun y => ?_⟩
        · dsimp only at y
          refine next zo fun u u1 u2 => Classical.byContradiction fun q => ?_
          by_cases yl : wlen w < l
          · have cu := cat_ok hI (wok_1 hI hi).1 w w4
            have w1' := (wok_1 hI hi).2
            have := h0 (cat (i + 1) w) cu.1 (by omega)
            have := ((aS_eq_f hm hm (by omega) (by omega) (by omega) (wok3 hI w4)).mp this).2
            rw [hcc, hdd] at this
            exact spw.1.2 this
          · exact spw.2 u (wlen_lt (by omega)) ⟨u1, q⟩
        · dsimp only at y
          have yl : wlen w = l := by omega
          have sp := sep_in hI hS hm hc (a := (a : Int)) (b := (b : Int)) (by omega) (by omega) (l := l) (u := w) hi h0 hN zo (by rw [hcc, hdd]; exact q1.symm) yl
          have pw : w < 4 ^ l := by rw [← yl]; exact wlen_le.mp (Nat.le_refl _)
          have p4 : 4 ^ l ≤ 4 ^ 4 := Nat.pow_le_pow_right (by decide) hl
          have p44 : (4 : Nat) ^ 4 = 256 := by decide
          have e : i_or (i_shl ((i : Int) + 1) (2 * (((l + 1 : Nat) : Int) - 1))) (w : Int) = ((cat (i + 1) w : Nat) : Int) := by
            rw [show (i : Int) + 1 = ((i + 1 : Nat) : Int) by omega, show 2 * (((l + 1 : Nat) : Int) - 1) = ((2 * l : Nat) : Int) by omega]
            have m1 : (i + 1) * 4 ^ l ≤ 3 * 4 ^ l := Nat.mul_le_mul_right _ (by omega)
            rw [shl_n (by omega) (by rw [p24]; omega), or_add (by rw [p24]; exact pw) (by rw [p24]; omega), p24]
            unfold cat
            rw [yl]
          have fact : sepT I t o (a : Int) (b : Int) (l + 1) ((cat (i + 1) w : Nat) : Int) := by
           refine Or.inl ⟨sp.symm, _, rfl, ?_, ?_, ?_⟩
           · unfold cat; have : 1 ≤ 4 ^ wlen w := Nat.pow_pos (by decide); have := Nat.mul_le_mul_left (i + 1) this; omega
           · have := (cat_ok hI (wok_1 hI hi).1 w w4).2
             have := (wok_1 hI hi).2
             omega
           · exact (cat_ok hI (wok_1 hI hi).1 w w4).1
          simp (disch := omega) only [w32_id, e]
          exact (by first | exact q_at rfl (hQ _ fact) | exact (hQ _ fact))
    · have so := sep_out hI hS hm (a := (a : Int)) (b := (b : Int)) (by omega) (by omega) hi h0 hN zo
      have := wok_1 hI hi
      exact (by first | exact q_at rfl (hQ _ (Or.inl ⟨so.2.symm, i + 1, rfl, by omega, by omega, this.1⟩)) | exact (hQ _ (Or.inl ⟨so.2.symm, i + 1, rfl, by omega, by omega, this.1⟩)))
end
