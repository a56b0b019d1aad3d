-- deps: 18 19 20 21 23 24 25 26 27 28 29 22 30 31 32 33 34 35 36 37 38 39 40 41 47 48 50 51 52 53 55 58 59 60
/-! the reference: trees told -/
theorem low_bits : ∀ x : Nat, x < 64 → (i_and (x : Int) (w32 ((x : Int) - 1)) = 0 ↔ popc x < 2) := by decide +kernel
section
variable {Q : RP} {n : Nat} {hr h : HP} {S I : Nat} {t o : Int → Int}
theorem sp_N_isTree {most set : Nat} (W : NW n hr) (T : TV S I t o) (X : NX S I t o h) (h1m : 1 ≤ most) (hmost : most ≤ 8) (hI1 : 1 ≤ I) (hV : VK S h 0 set) (htw : two set)
    (hQ1 : ∀ (h1 : HP) (i : Nat), FM 0 h h1 → h1 169 0 = (i : Int) → i < I → OKt S t o (TR S I t o (most - 1)) set i → (∀ x, x < i → ¬ OKt S t o (TR S I t o (most - 1)) set x) → Q (0, 1) n hr h1)
    (hQ0 : ∀ h1 : HP, FM 0 h h1 → (∀ x, x < I → ¬ OKt S t o (TR S I t o (most - 1)) set x) → Q (0, 0) n hr h1) : f_N_isTree [(2, 138), (0, (most : Int))] n hr h Q := by
  have TT := T
  obtain ⟨hS, hI, hm, hc, hTT⟩ := T
  apply e_N_isTree
  simp (disch := omega) only [n0 W, nr_52 W, nr_53 W, true_and]
  repeat (refine ⟨by omega, ?_⟩)
  have F0 : FM 0 h (ai_up (ai_up h 169 0 0) 170 0 (-1)) := ⟨EX_upc (EX_upc EX_rf (by decide)) (by decide), fun j _ => by simp (disch := omega) only [up_oth], fun j hj => by simp (disch := omega) only [up_oth]; exact ⟨trivial, trivial⟩⟩
  refine N_isTree_node W TT X hmost most 0 set 0 _ (by omega) h1m (VK_fr hV fun a ha => F0.2.1 _ (by omega)) htw (by omega) F0.1 (by rw [show ((0 : Nat) : Int) = 0 from rfl, up_oth (Or.inl (by decide)), up_same]) (by rw [show ((0 : Nat) : Int) = 0 from rfl, up_same]) (fun h2 i' g1 g2 g3 g4 g5 g6 => ?_) (fun h2 g1 g2 => ?_)
  · exact b_N_isTree_16 ⟨fun _ => ⟨Or.inr rfl, q_at rfl (hQ1 h2 i' (FM_tr F0 g1 (Nat.le_refl _)) g2 g4 g5 fun x hx => g6 x (by omega) hx)⟩, fun z => by omega⟩
  · exact b_N_isTree_96 ⟨fun _ => ⟨fun z => by omega, fun _ => ⟨Or.inl rfl, q_at rfl (hQ0 h2 (FM_tr F0 g1 (Nat.le_refl _)) fun x hx => g2 x (by omega) hx)⟩⟩, fun z => by omega⟩
/-- what tree tells -/
noncomputable def TRQ (S I : Nat) (t o : Int → Int) (set : Nat) (w : Int) : Int := if w = 0 then DP S I t o set else TI S I t o set
def trq (S : Nat) (x w : Int) : Prop := (0 ≤ w ∧ w ≤ 1) ∧ 0 ≤ x ∧ x < ((2 ^ S : Nat) : Int) ∧ ¬ popc x.toNat < 2
theorem sp_N_tree {x w : Int} (W : NW n hr) (T : TV S I t o) (X : NX S I t o h) (h1 : trq S x w → ∀ h1, EX [168, 169, 170] [(138, 0)] h h1 → Q (0, TRQ S I t o x.toNat w) n hr h1) (h0 : ¬ trq S x w → Q (0, -1) n hr (ai_up h 138 0 0)) : f_N_tree [(2, 138), (0, x), (0, w)] n hr h Q := by
  have TT := T
  obtain ⟨hS, hI, hm, hc, hTT⟩ := T
  have X1 := NX_1 (v := 0) X
  have p6 : 2 ^ S ≤ 2 ^ 6 := Nat.pow_le_pow_right (by decide) hS
  have p6' : (2 : Nat) ^ 6 = 64 := by decide
  apply e_N_tree
  refine ⟨n0 W, fun z => q_at rfl (h0 fun q => by have := q.1; omega), fun z => ⟨fun z2 => q_at rfl (h0 fun q => by have := q.1; omega), fun z2 => ⟨fun z3 => q_at rfl (h0 fun q => by have := q.2.1; omega), fun z3 => ⟨n0 W, sp_N_states W ?_⟩⟩⟩⟩
  obtain ⟨s, rfl⟩ := Int.eq_ofNat_of_zero_le z3
  simp only [X1.1, shl1_n (show S < 31 by omega)]
  refine ⟨fun z4 => q_at rfl (h0 fun q => by have := q.2.2.1; omega), fun z4 => ⟨fun z5 => ?_, fun z5 => ?_⟩⟩
  · have lb := low_bits s (by omega)
    have pc : ¬ popc s < 2 := fun q => z5 (lb.mpr q)
    have h1 := h1 ⟨by omega, by omega, z4, pc⟩
    have tw : two s := (popc_two (by omega)).mp pc
    have n0' : ¬ TR S I t o 0 s := fun q => q tw
    have hsS : ∀ x, s.testBit x = true → x < S := fun x hx => Nat.lt_of_not_le fun q => by
      rw [tb_lt (k := S) (by omega) q] at hx; cases hx
    have e0 : EX [168, 169, 170] [(138, 0)] h (ai_up h 138 0 0) := EX_upp EX_rf (by decide)
    have main := lupNa (N := 9) (P := fun most => ∀ h2 : HP, EX [168, 169, 170] [(138, 0)] h h2 → VK S h2 0 s → (∀ d, d < most → ¬ TR S I t o d s) → p_N_tree_74 (n + 0) (ai_q 0 n Q) 138 w (most : Int) n hr h2) 1 (by omega) ?_ ?_
    · have setup := lupN (N := 6) (P := fun a => ∀ h2 : HP, EX [168, 169, 170] [(138, 0)] h h2 → (∀ y : Nat, y < a → (s.testBit y = true → h2 168 (y : Int) = (y : Int)) ∧ (¬ s.testBit y = true → h2 168 (y : Int) = -1)) → p_N_tree_40 (n + 0) (ai_q 0 n Q) 138 (s : Int) w (a : Int) n hr h2) ?_ ?_
      · exact setup _ e0 fun y hy => by omega
      · intro h2 e1 e2
        refine b_N_tree_40 ⟨fun _ => main h2 e1 ?_ ?_, fun z => by omega⟩
        · have ez : ∀ a : Nat, 6 * ((0 : Nat) : Int) + (a : Int) = (a : Int) := fun a => by omega
          refine ⟨fun a ha => ?_, fun a b hab hb q => ?_, fun p => ?_⟩
          · rw [ez]
            by_cases y : s.testBit a = true
            · exact Or.inr ⟨a, hsS a y, (e2 a ha).1 y⟩
            · exact Or.inl ((e2 a ha).2 y)
          · rw [ez, ez] at q
            rw [ez]
            by_cases y : s.testBit a = true
            · by_cases y' : s.testBit b = true
              · rw [(e2 a (by omega)).1 y, (e2 b hb).1 y'] at q; omega
              · rw [(e2 a (by omega)).1 y, (e2 b hb).2 y'] at q; omega
            · exact (e2 a (by omega)).2 y
          · constructor
            · intro hp
              have := hsS p hp
              exact ⟨p, by omega, by rw [ez]; exact (e2 p (by omega)).1 hp⟩
            · rintro ⟨a, ha, hb⟩
              rw [ez] at hb
              by_cases y : s.testBit a = true
              · rw [(e2 a ha).1 y] at hb
                have : a = p := by omega
                subst this; exact y
              · rw [(e2 a ha).2 y] at hb; omega
        · intro d hd
          have : d = 0 := by omega
          subst this; exact n0'
      · intro a ha ih h2 e1 e2
        refine b_N_tree_40 ⟨fun z => by omega, fun _ => ?_⟩
        simp (disch := omega) only [n0 W, nr_51 W, bit_n, w32_id, true_and]
        refine ⟨fun z => ?_, fun z => ?_⟩
        · have hb : ¬ s.testBit a = true := fun q => by rw [if_pos q] at z; exact z rfl
          repeat (refine ⟨by omega, ?_⟩)
          refine ih _ (EX_upc e1 (by decide)) fun y hy => ?_
          by_cases q : y = a
          · subst q; rw [up_same]; exact ⟨fun g => (hb g).elim, fun _ => rfl⟩
          · rw [up_oth (Or.inr (by omega))]; exact e2 y (by omega)
        · have hb : s.testBit a = true := Classical.byContradiction fun q => by rw [if_neg q] at z; omega
          repeat (refine ⟨by omega, ?_⟩)
          refine ih _ (EX_upc e1 (by decide)) fun y hy => ?_
          by_cases q : y = a
          · subst q; rw [up_same]; exact ⟨fun _ => rfl, fun g => (g hb).elim⟩
          · rw [up_oth (Or.inr (by omega))]; exact e2 y (by omega)
    · intro h2 e1 hV e2
      have dp : DP S I t o s = -2 := fw_no fun d g => e2 d (by omega) g.2
      refine b_N_tree_74 ⟨fun _ => q_at rfl ?_, fun z => by omega⟩
      have := h1 h2 e1
      have e : TRQ S I t o (Int.toNat (s : Int)) w = -2 := by
        show TRQ S I t o s w = -2
        unfold TRQ TI; rw [dp]; simp
      rw [e] at this; exact this
    · intro most hm1 hm9 ih h2 e1 hV e2
      have X2 := NX_fr X e1 (by decide) (by decide)
      refine b_N_tree_74 ⟨fun z => by omega, fun _ => ⟨n0 W, sp_N_inputs W ⟨fun z => q_at rfl ?_, fun z => ⟨n0 W, ?_⟩⟩⟩⟩
      · dsimp only at z; rw [X2.2.1] at z
        have I0 : I = 0 := by omega
        have dp : DP S I t o s = -2 := fw_no fun d g => by
          cases d with
          | zero => exact n0' g.2
          | succ d => rcases g.2 with q | ⟨i, hi, _⟩
                      · exact q tw
                      · omega
        have := h1 h2 e1
        have e : TRQ S I t o (Int.toNat (s : Int)) w = -2 := by
          show TRQ S I t o s w = -2
          unfold TRQ TI; rw [dp]; simp
        rw [e] at this; exact this
      · dsimp only at z; rw [X2.2.1] at z
        have em : most = most - 1 + 1 := by omega
        refine sp_N_isTree W TT X2 hm1 (by omega) (by omega) hV tw (fun h3 i g1 g2 g3 g4 g5 => ?_) (fun h3 g1 g2 => ?_)
        · have tr : TR S I t o most s := by rw [em]; exact Or.inr ⟨i, g3, g4⟩
          have dp : DP S I t o s = (most : Int) := fw_at ⟨by omega, tr⟩ fun d hd g => e2 d hd g.2
          have ti : TI S I t o s = (i : Int) := by
            unfold TI
            rw [dp, if_neg (by omega)]
            exact fw_at ⟨g3, g4⟩ fun x hx q => g5 x hx q.2
          have := h1 h3 (EX_tr e1 (EX_le g1.1 (by decide) (by decide)))
          unfold TRQ at this
          refine ⟨fun q => absurd q (by decide), fun _ => ⟨fun zw => ?_, fun zw => ?_⟩⟩
          · simp (disch := omega) only [n0 W, nr_52 W, g2, true_and]
            repeat (refine ⟨by omega, ?_⟩)
            have hh : Q (0, (i : Int)) n hr h3 := by
              have e : (Int.toNat (s : Int)) = s := by omega
              rw [e, if_neg zw, ti] at this; exact this
            exact (by first | exact q_at rfl (hh) | exact (hh))
          · have hh : Q (0, (most : Int)) n hr h3 := by
              have e : (Int.toNat (s : Int)) = s := by omega
              rw [e, if_pos zw, dp] at this; exact this
            exact (by first | exact q_at rfl (hh) | exact (hh))
        · refine ⟨fun _ => ?_, fun q => absurd rfl q⟩
          rw [w32_id (by omega) (by omega)]
          refine ih h3 (EX_tr e1 (EX_le g1.1 (by decide) (by decide))) (VK_fr hV fun a ha => g1.2.1 _ (by omega)) fun d hd => ?_
          by_cases y : d = most
          · subst y
            rw [em]
            rintro (q | ⟨i, hi, ok⟩)
            · exact q tw
            · exact g2 i hi ok
          · exact e2 d (by omega)
  · have lb := low_bits s (by omega)
    exact q_at rfl (h0 fun q => q.2.2.2 (lb.mp z5))
end
