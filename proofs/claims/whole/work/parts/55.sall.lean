-- deps: 18 19 20 21 23 24 25 26 27 28 29 22 30 31 32 33 34 35 36 37 38 39 40 41 42 43 44 45 46 47 48 49 51 52 53 54
/-! the class: words for all -/
theorem or3 {a b c : Nat} (ha : a < 64) (hb : b < 64) (hc : c < 64) : i_or (i_or (a : Int) (i_shl (b : Int) 6)) (i_shl (c : Int) 12) = ((a + b * 64 + c * 4096 : Nat) : Int) := by
  rw [shl_6 (by omega) (by omega), shl_12 (by omega) (by omega), show (b : Int) * 64 = ((b * 64 : Nat) : Int) by omega, show (c : Int) * 4096 = ((c * 4096 : Nat) : Int) by omega, or_n (by omega) (by omega), Nat.or_comm, show b * 64 ||| a = b * 64 + a from by rw [show b * 64 = 2 ^ 6 * b by omega, Nat.two_pow_add_eq_or_of_lt (by omega)], or_n (by omega) (by omega), Nat.or_comm, show c * 4096 ||| (b * 64 + a) = c * 4096 + (b * 64 + a) from by rw [show c * 4096 = 2 ^ 12 * c by omega, Nat.two_pow_add_eq_or_of_lt (by omega)]]
  congr 1; omega
theorem popc_0 : popc 0 = 0 := by decide
section
variable {Q : RP} {n : Nat} {hr h : HP} {S I : Nat} {t o : Int → Int}
theorem sp_S_likeOnes {set s i : Nat} (V : CW n hr) (T : TV S I t o) (X : CX S I t o h) (hset : set < 64) (hs : s < S) (hi : i < 3) (hQ : Q (0, (LK S o set s i : Int)) n hr h) : f_S_likeOnes [(2, 27), (0, (set : Int)), (0, (s : Int)), (0, (i : Int))] n hr h Q := by
  obtain ⟨hS, hI, hm, hc, hTT⟩ := T
  have hm3 : (s : Int) * 3 = 3 * (s : Int) := Int.mul_comm _ _
  have g4 := X.2.2.2 (3 * (s : Int) + (i : Int)) (by omega) (by omega)
  apply e_S_likeOnes
  simp (disch := omega) only [ok_27 V.1, cr_27_0 V, ok_13 V.1, cr_13_1 V, w32_id, hm3, g4, true_and]
  repeat (refine ⟨by omega, ?_⟩)
  have lt64 : ∀ k, k ≤ S → orA (fun x => set.testBit x && decide (o (3 * (x : Int) + (i : Int)) = o (3 * (s : Int) + (i : Int)))) (fun x => x) k < 64 := fun k hk => orA_lt (k := 6) fun x h1 _ => by show x < 6; omega
  have := lupN (N := S) (P := fun k => p_S_likeOnes_21 (n + 0) (ai_q 0 n Q) 27 (set : Int) (i : Int) (o (3 * (s : Int) + (i : Int))) ((orA (fun x => set.testBit x && decide (o (3 * (x : Int) + (i : Int)) = o (3 * (s : Int) + (i : Int)))) (fun x => x) k : Nat) : Int) (k : Int) n hr h) ?_ ?_
  · exact this
  · refine b_S_likeOnes_21 ?_
    simp (disch := omega) only [ok_27 V.1, cr_27_0 V, ok_13 V.1, X.1, true_and]
    exact ⟨fun _ => (by first | exact q_at rfl (hQ) | exact (hQ)), fun z => by omega⟩
  · intro k hk ih
    have l := lt64 k (by omega)
    have g2 := X.2.2.2 (3 * (k : Int) + (i : Int)) (by omega) (by omega)
    have hk3 : (k : Int) * 3 = 3 * (k : Int) := Int.mul_comm _ _
    rw [orA_s] at ih
    refine b_S_likeOnes_21 ?_
    simp (disch := omega) only [ok_27 V.1, cr_27_0 V, ok_13 V.1, cr_13_1 V, X.1, w32_id, hk3, bit_n, g2, or_bit, true_and]
    refine ⟨fun z => by omega, fun _ => ⟨fun z => ?_, fun z => ?_⟩⟩
    · have hb : ¬ set.testBit k = true := fun q => by rw [if_pos q] at z; exact z rfl
      rw [if_neg (by rw [Bool.and_eq_true]; exact fun q => hb q.1)] at ih
      exact ih
    · have hb : set.testBit k = true := Classical.byContradiction fun q => by rw [if_neg q] at z; omega
      repeat (refine ⟨by omega, ?_⟩)
      refine ⟨fun z2 => ?_, fun z2 => ?_⟩
      · rw [if_neg (by rw [Bool.and_eq_true, decide_eq_true_eq]; exact fun q => z2 q.2)] at ih
        exact ih
      · rw [if_pos (by rw [Bool.and_eq_true, decide_eq_true_eq]; exact ⟨hb, z2⟩)] at ih
        exact ih
theorem sp_S_followAll {set i : Nat} (V : CW n hr) (T : TV S I t o) (X : CX S I t o h) (hset : set < 64) (hi : i < 3) (hQ : Q (0, (FAz S t set i : Int)) n hr h) : f_S_followAll [(2, 27), (0, (set : Int)), (0, (i : Int))] n hr h Q := by
  obtain ⟨hS, hI, hm, hc, hTT⟩ := T
  apply e_S_followAll
  have lt64 : ∀ k, k ≤ S → orA (fun x => set.testBit x) (fun x => (t (3 * (x : Int) + (i : Int))).toNat) k < 64 := fun k hk => orA_lt (k := 6) fun x h1 _ => by
    have := hc (x : Int) i (by omega) (by omega) hi
    show (t (3 * (x : Int) + (i : Int))).toNat < 6
    omega
  have := lupN (N := S) (P := fun k => p_S_followAll_5 (n + 0) (ai_q 0 n Q) 27 (set : Int) (i : Int) ((orA (fun x => set.testBit x) (fun x => (t (3 * (x : Int) + (i : Int))).toNat) k : Nat) : Int) (k : Int) n hr h) ?_ ?_
  · exact this
  · have l := lt64 S (Nat.le_refl _)
    have e : orA (fun x => set.testBit x) (fun x => (t (3 * (x : Int) + (i : Int))).toNat) S = FAs S t set i := rfl
    rw [e] at l ⊢
    refine b_S_followAll_5 ?_
    simp (disch := omega) only [ok_27 V.1, cr_27_0 V, ok_13 V.1, X.1, true_and]
    refine ⟨fun _ => sp_J_bitCount (by omega) ?_, fun z => by omega⟩
    unfold FAz at hQ
    refine ⟨fun z => ?_, fun z => ?_⟩
    · dsimp only at z
      rw [if_neg (by omega)] at hQ
      exact (by first | exact q_at rfl (hQ) | exact (hQ))
    · dsimp only at z
      rw [if_pos (by omega)] at hQ
      exact (by first | exact q_at rfl (hQ) | exact (hQ))
  · intro k hk ih
    have l := lt64 k (by omega)
    have g2 := X.2.2.1 (3 * (k : Int) + (i : Int)) (by omega) (by omega)
    have hk3 : (k : Int) * 3 = 3 * (k : Int) := Int.mul_comm _ _
    have cx := hc (k : Int) i (by omega) (by omega) hi
    obtain ⟨y, hy⟩ := Int.eq_ofNat_of_zero_le cx.1
    rw [orA_s, hy] at ih
    refine b_S_followAll_5 ?_
    simp (disch := omega) only [ok_27 V.1, cr_27_0 V, ok_13 V.1, cr_13_0 V, X.1, w32_id, hk3, bit_n, g2, hy, or_bit, true_and]
    refine ⟨fun z => by omega, fun _ => ⟨fun z => ?_, fun z => ?_⟩⟩
    · have hb : ¬ set.testBit k = true := fun q => by rw [if_pos q] at z; exact z rfl
      rw [if_neg hb] at ih
      exact ih
    · have hb : set.testBit k = true := Classical.byContradiction fun q => by rw [if_neg q] at z; omega
      repeat (refine ⟨by omega, ?_⟩)
      rw [if_pos hb] at ih
      exact ih
theorem sp_S_withGroup {F g : Nat} (hF : F < 262144) (hg : g < 64) (hQ : Q (0, (wG F g : Int)) n hr h) : f_S_withGroup [(0, (F : Int)), (0, (g : Int))] n hr h Q := by
  have e1 : (F : Int) % 64 = ((F % 64 : Nat) : Int) := by omega
  have e2 : (F : Int) / 64 % 64 = ((F / 64 % 64 : Nat) : Int) := by omega
  have e3 : (F : Int) / 4096 % 64 = ((F / 4096 % 64 : Nat) : Int) := by omega
  unfold wG at hQ
  apply e_S_withGroup
  simp (disch := omega) only [and_63, shr_6, shr_12, e1, e2, e3, or3]
  refine ⟨fun z => ?_, fun z => ⟨fun z2 => ?_, fun z2 => ⟨fun z3 => ⟨fun z4 => ⟨fun z5 => ?_, fun z5 => ?_⟩, fun z4 => ?_⟩, fun z3 => ?_⟩⟩⟩
  · rw [if_pos (by omega)] at hQ; exact (by first | exact q_at rfl (hQ) | exact (hQ))
  · rw [if_pos (by omega)] at hQ; exact (by first | exact q_at rfl (hQ) | exact (hQ))
  · rw [if_neg (by omega), if_neg (by omega), if_neg (by omega)] at hQ; exact (by first | exact q_at rfl (hQ) | exact (hQ))
  · rw [if_neg (by omega), if_neg (by omega), if_pos (by omega)] at hQ; exact (by first | exact q_at rfl (hQ) | exact (hQ))
  · rw [if_neg (by omega), if_pos (by omega)] at hQ; exact (by first | exact q_at rfl (hQ) | exact (hQ))
  · rw [if_pos (by omega)] at hQ; exact (by first | exact q_at rfl (hQ) | exact (hQ))
theorem gL_lt {g i : Nat} (hg : g < 64) : ∀ k, gL S o g i k < 64
  | 0 => hg
  | k + 1 => by
    have ih : gL S o g i k < 64 := gL_lt hg k
    show (if (gL S o g i k).testBit k = true then _ else _) < 64
    split
    · exact mdiff_le (k := 6) ih
    · exact ih
theorem wG_lt {F g : Nat} (hF : F < 262144) (hg : g < 64) : wG F g < 262144 := by
  unfold wG
  split
  · exact hF
  · split
    · omega
    · split <;> omega
theorem gN_lt (hS : S ≤ 6) (hc : clo S t) {g i nx : Nat} (hi : i < 3) (hn : nx < 262144) : ∀ k, gN S t o g i nx k < 262144
  | 0 => hn
  | k + 1 => by
    have ih : gN S t o g i nx k < 262144 := gN_lt hS hc hi hn k
    show (if (gL S o g i k).testBit k = true then (if FAz S t (LK S o (gL S o g i k) k i) i = 0 then gN S t o g i nx k else wG (gN S t o g i nx k) (FAz S t (LK S o (gL S o g i k) k i) i)) else gN S t o g i nx k) < 262144
    split
    · split
      · exact ih
      · exact wG_lt ih (FAz_lt hS hc hi)
    · exact ih
theorem sp_S_followGroups {F i : Nat} {ap : Bool} (V : CW n hr) (T : TV S I t o) (X : CX S I t o h) (hF : F < 262144) (hi : i < 3) (hQ : Q (0, if GT S t o ap F i = 262144 then -1 else (GT S t o ap F i : Int)) n hr h) : f_S_followGroups [(2, 27), (0, (F : Int)), (0, (i : Int)), (0, if ap = true then 1 else 0)] n hr h Q := by
  have TT := T
  obtain ⟨hS, hI, hm, hc, hTT⟩ := T
  apply e_S_followGroups
  have dead : ap = true ∧ GD S t o F i → ai_q 0 n Q (0, -1) n hr h := fun z => by
    rw [GT_y hF z, if_pos rfl] at hQ; exact q_at rfl hQ
  -- one field
  have field : ∀ (sh g nx : Nat), sh < 18 → g < 64 → nx < 262144 → (gD S t o g i S → GD S t o F i) → i_and (i_shr (F : Int) (sh : Int)) 63 = (g : Int) → (¬ (ap = true ∧ gD S t o g i S) → p_S_followGroups_6 (n + 0) (ai_q 0 n Q) 27 (F : Int) (i : Int) (if ap = true then 1 else 0) (gN S t o g i nx S : Int) ((sh : Int) + 6) n hr h) → p_S_followGroups_6 (n + 0) (ai_q 0 n Q) 27 (F : Int) (i : Int) (if ap = true then 1 else 0) (nx : Int) (sh : Int) n hr h := by
    intro sh g nx hsh hg hnx hD hval hnext
    refine b_S_followGroups_6 ⟨fun z => by omega, fun _ => ?_⟩
    rw [hval]
    have := lupN (N := S) (P := fun k => ¬ (ap = true ∧ gD S t o g i k) → p_S_followGroups_25 (n + 0) (ai_q 0 n Q) 27 (F : Int) (i : Int) (if ap = true then 1 else 0) (gN S t o g i nx k : Int) (sh : Int) (gL S o g i k : Int) (k : Int) n hr h) ?_ ?_
    · exact this fun q => by obtain ⟨y, hy, _⟩ := q.2; omega
    · intro hnd
      refine b_S_followGroups_25 ?_
      simp (disch := omega) only [ok_27 V.1, cr_27_0 V, ok_13 V.1, X.1, w32_id, true_and]
      exact ⟨fun _ => hnext hnd, fun z => by omega⟩
    · intro k hk ih hnd
      have hl := gL_lt (S := S) (o := o) (i := i) hg k
      have hnl := gN_lt (o := o) hS hc (g := g) hi hnx k
      have hlk := LK_lt (o := o) hS (gL S o g i k) k i
      have eL : gL S o g i (k + 1) = if (gL S o g i k).testBit k = true then mdiff (gL S o g i k) (LK S o (gL S o g i k) k i) else gL S o g i k := rfl
      have eN : gN S t o g i nx (k + 1) = if (gL S o g i k).testBit k = true then (if FAz S t (LK S o (gL S o g i k) k i) i = 0 then gN S t o g i nx k else wG (gN S t o g i nx k) (FAz S t (LK S o (gL S o g i k) k i) i)) else gN S t o g i nx k := rfl
      have eD : (¬ ((gL S o g i k).testBit k = true ∧ mrg t (LK S o (gL S o g i k) k i) i)) → ¬ (ap = true ∧ gD S t o g i k) → ¬ (ap = true ∧ gD S t o g i (k + 1)) := fun q1 q2 ⟨q3, y, y1, y2⟩ => by
        by_cases e : y = k
        · subst e; exact q1 y2
        · exact q2 ⟨q3, y, by omega, y2⟩
      refine b_S_followGroups_25 ?_
      simp (disch := omega) only [ok_27 V.1, cr_27_0 V, ok_13 V.1, X.1, w32_id, bit_n, true_and]
      refine ⟨fun z => by omega, fun _ => ⟨fun z => ?_, fun z => ?_⟩⟩
      · have hb : ¬ (gL S o g i k).testBit k = true := fun q => by rw [if_pos q] at z; exact z rfl
        have := ih (eD (fun q => hb q.1) hnd)
        rw [eL, eN, if_neg hb, if_neg hb] at this
        exact this
      · have hb : (gL S o g i k).testBit k = true := Classical.byContradiction fun q => by rw [if_neg q] at z; omega
        have hset : ∀ x, (LK S o (gL S o g i k) k i).testBit x = true → x < S := fun x hx => (LK_tb.mp hx).1
        have mi := mrg_iff hS hc hi hset
        have hfz := FAz_lt hS hc (t := t) (set := LK S o (gL S o g i k) k i) hi
        refine sp_S_likeOnes V TT X hl hk hi ⟨ok_27 V.1, sp_S_followAll V TT X hlk hi ?_⟩
        have hx : i_and ((gL S o g i k : Nat) : Int) (i_xor ((LK S o (gL S o g i k) k i : Nat) : Int) (-1)) = ((mdiff (gL S o g i k) (LK S o (gL S o g i k) k i) : Nat) : Int) := and_not (by omega)
        have goon : ¬ (ap = true ∧ mrg t (LK S o (gL S o g i k) k i) i) → ((FAz S t (LK S o (gL S o g i k) k i) i : Int) ≠ 0 → f_S_withGroup [(0, (gN S t o g i nx k : Int)), (0, (FAz S t (LK S o (gL S o g i k) k i) i : Int))] n hr h fun r n1 hr1 h1 => p_S_followGroups_25 (n + 0) (ai_q 0 n Q) 27 (F : Int) (i : Int) (if ap = true then 1 else 0) r.2 (sh : Int) (i_and ((gL S o g i k : Nat) : Int) (i_xor ((LK S o (gL S o g i k) k i : Nat) : Int) (-1))) ((k : Int) + 1) n1 hr1 h1) ∧ ((FAz S t (LK S o (gL S o g i k) k i) i : Int) = 0 → p_S_followGroups_25 (n + 0) (ai_q 0 n Q) 27 (F : Int) (i : Int) (if ap = true then 1 else 0) (gN S t o g i nx k : Int) (sh : Int) (i_and ((gL S o g i k : Nat) : Int) (i_xor ((LK S o (gL S o g i k) k i : Nat) : Int) (-1))) ((k : Int) + 1) n hr h) := by
          intro hnm
          have ih' := ih (fun ⟨q3, y, y1, y2, y3⟩ => by
            by_cases e : y = k
            · subst e; exact hnm ⟨q3, y3⟩
            · exact hnd ⟨q3, y, by omega, y2, y3⟩)
          rw [eL, eN, if_pos hb, if_pos hb] at ih'
          rw [hx]
          refine ⟨fun q => sp_S_withGroup hnl hfz ?_, fun q => ?_⟩
          · rw [if_neg (show ¬ FAz S t (LK S o (gL S o g i k) k i) i = 0 by omega)] at ih'; exact ih'
          · rw [if_pos (show FAz S t (LK S o (gL S o g i k) k i) i = 0 by omega)] at ih'; exact ih'
        by_cases hap : ap = true
        · rw [if_pos hap]
          refine ⟨fun q => absurd q (by decide), fun _ => sp_J_bitCount (by omega) (sp_J_bitCount (by omega) ?_)⟩
          have mx : i_max 1 (popc (FAz S t (LK S o (gL S o g i k) k i) i) : Int) = ((max 1 (popc (FAz S t (LK S o (gL S o g i k) k i) i)) : Nat) : Int) := by
            unfold i_max; split <;> omega
          refine ⟨fun q => ?_, fun q => ?_⟩
          · dsimp only at q; rw [mx] at q
            have g1 := goon (fun w => by have := mi.mpr w.2; omega)
            rw [if_pos hap] at g1
            exact g1
          · dsimp only at q; rw [mx] at q
            exact dead ⟨hap, hD ⟨k, hk, hb, mi.mp (by omega)⟩⟩
        · rw [if_neg hap]
          have g1 := goon (fun w => hap w.1)
          rw [if_neg hap] at g1
          exact ⟨fun _ => g1, fun q => absurd rfl q⟩
  have f0 : (F : Int) % 64 = ((F % 64 : Nat) : Int) := by omega
  have f1 : (F : Int) / 64 % 64 = ((F / 64 % 64 : Nat) : Int) := by omega
  have f2 : (F : Int) / 4096 % 64 = ((F / 4096 % 64 : Nat) : Int) := by omega
  have n1 := gN_lt (o := o) hS hc (g := F % 64) hi (show (0 : Nat) < 262144 by omega) S
  have n2 := gN_lt (o := o) hS hc (g := F / 64 % 64) hi n1 S
  refine field 0 (F % 64) 0 (by omega) (by omega) (by omega) Or.inl ?_ fun d0 => field 6 (F / 64 % 64) _ (by omega) (by omega) n1 (fun q => Or.inr (Or.inl q)) ?_ fun d1 => field 12 (F / 4096 % 64) _ (by omega) (by omega) n2 (fun q => Or.inr (Or.inr q)) ?_ fun d2 => ?_
  · have : i_shr (F : Int) ((0 : Nat) : Int) = (F : Int) := by
      rw [shr_n (by omega) (by omega)]; simp
    rw [this, and_63 (by omega) (by omega), f0]
  · rw [show ((6 : Nat) : Int) = 6 from rfl, shr_6 (by omega) (by omega), and_63 (by omega) (by omega), f1]
  · rw [show ((12 : Nat) : Int) = 12 from rfl, shr_12 (by omega) (by omega), and_63 (by omega) (by omega), f2]
  · have nd : ¬ (ap = true ∧ GD S t o F i) := fun ⟨q1, q2⟩ => by
      rcases q2 with q2 | q2 | q2
      · exact d0 ⟨q1, q2⟩
      · exact d1 ⟨q1, q2⟩
      · exact d2 ⟨q1, q2⟩
    have n3 := gN_lt (o := o) hS hc (g := F / 4096 % 64) hi n2 S
    have n3' : GN S t o F i < 262144 := n3
    rw [GT_n hF nd, if_neg (by omega)] at hQ
    exact b_S_followGroups_6 ⟨fun _ => q_at rfl hQ, fun z => by omega⟩
end
