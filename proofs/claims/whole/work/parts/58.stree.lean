-- deps: 18 19 20 21 23 24 25 26 27 28 29 22 30 31 32 33 34 35 36 37 38 39 40 41 47 48 51 52 53 55
/-! trees: pure; the class -/
def OKt (S : Nat) (t o : Int → Int) (P : Nat → Prop) (set i : Nat) : Prop := ∀ s, set.testBit s = true → ¬ mrg t (LK S o set s i) i ∧ P (FAz S t (LK S o set s i) i)
def TR (S I : Nat) (t o : Int → Int) : Nat → Nat → Prop
  | 0, set => ¬ two set
  | d + 1, set => ¬ two set ∨ ∃ i, i < I ∧ OKt S t o (TR S I t o d) set i
noncomputable def DP (S I : Nat) (t o : Int → Int) (set : Nat) : Int := fw fun d => d ≤ 8 ∧ TR S I t o d set
noncomputable def TI (S I : Nat) (t o : Int → Int) (set : Nat) : Int := if DP S I t o set ≤ 0 then -2 else fw fun i => i < I ∧ OKt S t o (TR S I t o (DP S I t o set).toNat.pred) set i
section
variable {Q : RP} {n : Nat} {hr h : HP} {S I : Nat} {t o : Int → Int}
theorem OKt_mono {P R : Nat → Prop} (hPR : ∀ x, P x → R x) {set i : Nat} (h : OKt S t o P set i) : OKt S t o R set i := fun s hs => ⟨(h s hs).1, hPR _ (h s hs).2⟩
theorem TR_s : ∀ (d set : Nat), TR S I t o d set → TR S I t o (d + 1) set
  | 0, _, h => Or.inl h
  | d + 1, set, h => h.elim Or.inl fun ⟨i, h1, h2⟩ => Or.inr ⟨i, h1, OKt_mono (TR_s d) h2⟩
theorem TR_le {d d' set : Nat} (h : TR S I t o d set) (hd : d ≤ d') : TR S I t o d' set := by
  have : ∀ e, TR S I t o (d + e) set := by
    intro e
    induction e with
    | zero => exact h
    | succ e ih => exact TR_s _ _ ih
  have := this (d' - d)
  rwa [show d + (d' - d) = d' by omega] at this
theorem DP_c (set : Nat) : (DP S I t o set = -2 ∧ ¬ TR S I t o 8 set) ∨ ∃ d : Nat, DP S I t o set = (d : Int) ∧ d ≤ 8 ∧ TR S I t o d set ∧ ∀ e, e < d → ¬ TR S I t o e set := by
  rcases fw_cases (fun d => d ≤ 8 ∧ TR S I t o d set) with ⟨d, a1, a2, a3⟩ | ⟨a1, a2⟩
  · exact Or.inr ⟨d, a1, a2.1, a2.2, fun e he g => a3 e he ⟨by omega, g⟩⟩
  · exact Or.inl ⟨a1, fun g => a2 8 ⟨Nat.le_refl _, g⟩⟩
/-- the depth, if it is d at most -/
noncomputable def dpB (S I : Nat) (t o : Int → Int) (d set : Nat) : Int := if DP S I t o set ≤ (d : Int) then DP S I t o set else -2
noncomputable def tiB (S I : Nat) (t o : Int → Int) (d set : Nat) : Int := if DP S I t o set ≤ (d : Int) then TI S I t o set else -2
theorem dpB_tr {d set : Nat} (hd : d ≤ 8) : (dpB S I t o d set = -2 ∧ ¬ TR S I t o d set) ∨ (0 ≤ dpB S I t o d set ∧ dpB S I t o d set ≤ (d : Int) ∧ TR S I t o d set ∧ dpB S I t o d set = DP S I t o set) := by
  unfold dpB
  rcases DP_c (S := S) (I := I) (t := t) (o := o) set with ⟨a1, a2⟩ | ⟨e, a1, a2, a3, a4⟩
  · rw [a1, if_pos (by omega)]
    exact Or.inl ⟨rfl, fun g => a2 (TR_le g hd)⟩
  · rw [a1]
    by_cases z : (e : Int) ≤ (d : Int)
    · rw [if_pos z]
      exact Or.inr ⟨by omega, z, TR_le a3 (by omega), rfl⟩
    · rw [if_neg z]
      exact Or.inl ⟨rfl, a4 d (by omega)⟩
theorem OKt_fst {P : Nat → Prop} {set i : Nat} : OKt S t o P set i ↔ ∀ y, fstO o set i y → ¬ mrg t (LK S o set y i) i ∧ P (FAz S t (LK S o set y i) i) := by
  constructor
  · intro h y hy; exact h y hy.1
  · intro h s hs
    obtain ⟨y, y1, y2, y3⟩ := fst_ex (o := o) (i := i) hs
    rw [← LK_same y3]
    exact h y y1
/-- the tables in the midst of a round -/
def tabT (S I : Nat) (t o : Int → Int) (d k : Nat) (h : HP) : Prop := ∀ set : Nat, set < 2 ^ S → h 33 (set : Int) = dpB S I t o (if set < k then d + 1 else d) set ∧ h 34 (set : Int) = tiB S I t o (if set < k then d + 1 else d) set
theorem sp_S_depthBehind {set i d k : Nat} (V : CW n hr) (T : TV S I t o) (X : CX S I t o h) (hset : set < 2 ^ S) (hi : i < 3) (hd : d < 8) (hT : tabT S I t o d k h) (hQ : ∀ r : Int, 0 ≤ r → r ≤ 99 → (r < (d : Int) + 1 ↔ OKt S t o (TR S I t o d) set i) → Q (0, r) n hr h) : f_S_depthBehind [(2, 27), (0, (set : Int)), (0, (i : Int))] n hr h Q := by
  have TT := T
  obtain ⟨hS, hI, hm, hc, hTT⟩ := T
  have p6 : 2 ^ S ≤ 2 ^ 6 := Nat.pow_le_pow_right (by decide) hS
  have p6' : (2 : Nat) ^ 6 = 64 := by decide
  have hg : ∀ x, set.testBit x = true → x < S := fun x hx => Nat.lt_of_not_le fun q => by
    rw [tb_lt hset q] at hx; cases hx
  apply e_S_depthBehind
  have deep : ¬ OKt S t o (TR S I t o d) set i → ai_q 0 n Q (0, 99) n hr h := fun z => q_at rfl (hQ 99 (by omega) (by omega) ⟨fun q => by omega, fun q => (z q).elim⟩)
  have := lupN (N := S) (P := fun y => ∀ worst : Int, 0 ≤ worst → worst ≤ 8 → (worst ≤ (d : Int) ↔ ∀ x, x < y → fstO o set i x → ¬ mrg t (LK S o set x i) i ∧ TR S I t o d (FAz S t (LK S o set x i) i)) → p_S_depthBehind_8 (n + 0) (ai_q 0 n Q) 27 (i : Int) worst (gL S o set i y : Int) (y : Int) n hr h) ?_ ?_
  · exact this 0 (by omega) (by omega) ⟨fun _ x hx => by omega, fun _ => by omega⟩
  · intro worst w1 w2 w3
    refine b_S_depthBehind_8 ?_
    simp (disch := omega) only [ok_27 V.1, cr_27_0 V, ok_13 V.1, X.1, true_and]
    refine ⟨fun _ => ?_, fun z => by omega⟩
    have := hQ worst w1 (by omega) ⟨fun q => OKt_fst.mpr fun y hy => w3.mp (by omega) y (hg y hy.1) hy, fun q => by
      have := w3.mpr fun x _ hx => OKt_fst.mp q x hx
      omega⟩
    exact (by first | exact q_at rfl (this) | exact (this))
  · intro y hy ih worst w1 w2 w3
    have hl := gL_lt (S := S) (o := o) (i := i) (show set < 64 by omega) y
    have hlk := LK_lt (o := o) hS (gL S o set i y) y i
    have tb := gL_tb (S := S) (o := o) set i hg y y
    have eL : gL S o set i (y + 1) = if (gL S o set i y).testBit y = true then mdiff (gL S o set i y) (LK S o (gL S o set i y) y i) else gL S o set i y := rfl
    refine b_S_depthBehind_8 ?_
    simp (disch := omega) only [ok_27 V.1, cr_27_0 V, ok_13 V.1, X.1, w32_id, bit_n, true_and]
    refine ⟨fun z => by omega, fun _ => ⟨fun z => ?_, fun z => ?_⟩⟩
    · have hb : ¬ (gL S o set i y).testBit y = true := fun q => by rw [if_pos q] at z; exact z rfl
      have := ih worst w1 w2 (w3.trans ⟨fun q x hx hf => by
        by_cases e : x = y
        · subst e; exact (hb (tb.mpr hf)).elim
        · exact q x (by omega) hf, fun q x hx hf => q x (by omega) hf⟩)
      rw [eL, if_neg hb] at this
      exact this
    · have hb : (gL S o set i y).testBit y = true := Classical.byContradiction fun q => by rw [if_neg q] at z; omega
      have hf := tb.mp hb
      have e := LK_f hg hf
      have hset2 : ∀ x, (LK S o set y i).testBit x = true → x < S := fun x hx => (LK_tb.mp hx).1
      have mi := mrg_iff hS hc hi hset2
      have hfz := FAz_lt hS hc (t := t) (set := LK S o set y i) hi
      have fzS : FAz S t (LK S o set y i) i < 2 ^ S := by
        unfold FAz
        split
        · exact Nat.pow_pos (by decide)
        · refine lt_of_tb fun j hj => ?_
          cases hh : (FAs S t (LK S o set y i) i).testBit j
          · rfl
          · obtain ⟨x, x1, x2, x3⟩ := FAs_tb.mp hh
            have := hc (x : Int) i (by omega) (by omega) hi
            omega
      rw [e] at hlk eL
      refine sp_S_likeOnes V TT X hl hy hi ⟨ok_27 V.1, ?_⟩
      rw [e]
      refine sp_S_followAll V TT X hlk hi (sp_J_bitCount (by omega) (sp_J_bitCount (by omega) ?_))
      have mx : i_max 1 (popc (FAz S t (LK S o set y i) i) : Int) = ((max 1 (popc (FAz S t (LK S o set y i) i)) : Nat) : Int) := by
        unfold i_max; split <;> omega
      have hv := (hT (FAz S t (LK S o set y i) i) fzS).1
      have hv2 : (h 33 (FAz S t (LK S o set y i) i : Int) = -2 ∧ ¬ TR S I t o d (FAz S t (LK S o set y i) i)) ∨ (0 ≤ h 33 (FAz S t (LK S o set y i) i : Int) ∧ h 33 (FAz S t (LK S o set y i) i : Int) ≤ 8 ∧ (h 33 (FAz S t (LK S o set y i) i : Int) ≤ (d : Int) ↔ TR S I t o d (FAz S t (LK S o set y i) i))) := by
        rw [hv]
        by_cases q : FAz S t (LK S o set y i) i < k
        · rw [if_pos q]
          rcases dpB_tr (S := S) (I := I) (t := t) (o := o) (d := d + 1) (set := FAz S t (LK S o set y i) i) (by omega) with ⟨a1, a2⟩ | ⟨a1, a2, a3, a4⟩
          · exact Or.inl ⟨a1, fun g => a2 (TR_s _ _ g)⟩
          · refine Or.inr ⟨a1, by omega, ?_⟩
            rw [a4]
            rcases DP_c (S := S) (I := I) (t := t) (o := o) (FAz S t (LK S o set y i) i) with ⟨b1, b2⟩ | ⟨e', b1, b2, b3, b4⟩
            · omega
            · rw [b1]
              exact ⟨fun g => TR_le b3 (by omega), fun g => Classical.byContradiction fun g2 => b4 d (by omega) g⟩
        · rw [if_neg q]
          rcases dpB_tr (S := S) (I := I) (t := t) (o := o) (d := d) (set := FAz S t (LK S o set y i) i) (by omega) with ⟨a1, a2⟩ | ⟨a1, a2, a3, a4⟩
          · exact Or.inl ⟨a1, a2⟩
          · exact Or.inr ⟨a1, by omega, ⟨fun _ => a3, fun _ => a2⟩⟩
      refine ⟨fun q => ?_, fun q => ?_⟩
      · dsimp only at q; rw [mx] at q
        exact deep fun g => (OKt_fst.mp g y hf).1 (mi.mp (by omega))
      · dsimp only at q; rw [mx] at q
        have nm : ¬ mrg t (LK S o set y i) i := fun g => by have := mi.mpr g; omega
        simp (disch := omega) only [ok_27 V.1, cr_27_7 V, true_and]
        repeat (refine ⟨by omega, ?_⟩)
        refine ⟨fun q2 => ?_, fun q2 => ?_⟩
        · repeat (refine ⟨by omega, ?_⟩)
          rcases hv2 with ⟨a1, _⟩ | ⟨a1, a2, a3⟩
          · exact (q2 a1).elim
          · rw [and_not (by omega)]
            have := ih (i_max worst (h 33 (FAz S t (LK S o set y i) i : Int))) (by unfold i_max; split <;> omega) (by unfold i_max; split <;> omega) (by
              constructor
              · intro g x hx hf2
                have g1 : worst ≤ (d : Int) ∧ h 33 (FAz S t (LK S o set y i) i : Int) ≤ (d : Int) := by unfold i_max at g; split at g <;> omega
                by_cases e2 : x = y
                · subst e2; exact ⟨nm, a3.mp g1.2⟩
                · exact w3.mp g1.1 x (by omega) hf2
              · intro g
                have g1 := w3.mpr fun x hx hf2 => g x (by omega) hf2
                have g2 := a3.mpr (g y (by omega) hf).2
                unfold i_max; split <;> omega)
            rw [eL, if_pos hb] at this
            exact this
        · rcases hv2 with ⟨_, a2⟩ | ⟨a1, a2, a3⟩
          · have := deep fun g => a2 (OKt_fst.mp g y hf).2
            exact this
          · omega
theorem sp_S_learnTree {set d : Nat} (V : CW n hr) (T : TV S I t o) (X : CX S I t o h) (hset : set < 2 ^ S) (hd : d < 8) (hT : tabT S I t o d set h) (hno : dpB S I t o d set = -2) (hQ : ∀ h1, EX [33, 34] [] h h1 → tabT S I t o d (set + 1) h1 → Q (9, 0) n hr h1) : f_S_learnTree [(2, 27), (0, (set : Int)), (0, ((d + 1 : Nat) : Int))] n hr h Q := by
  have TT := T
  obtain ⟨hS, hI, hm, hc, hTT⟩ := T
  have p6 : 2 ^ S ≤ 2 ^ 6 := Nat.pow_le_pow_right (by decide) hS
  have p6' : (2 : Nat) ^ 6 = 64 := by decide
  have ntr : ¬ TR S I t o d set := by
    rcases dpB_tr (S := S) (I := I) (t := t) (o := o) (d := d) (set := set) (by omega) with ⟨_, a⟩ | ⟨a, _⟩
    · exact a
    · omega
  have tw : two set := Classical.byContradiction fun q => ntr (TR_le (d := 0) q (by omega))
  apply e_S_learnTree
  have := lupN (N := I) (P := fun i => (∀ x, x < i → ¬ OKt S t o (TR S I t o d) set x) → p_S_learnTree_2 (n + 0) (ai_q 0 n Q) 27 (set : Int) ((d + 1 : Nat) : Int) (i : Int) n hr h) ?_ ?_
  · exact this fun x hx => by omega
  · intro e
    have n1 : ¬ TR S I t o (d + 1) set := fun q => q.elim (fun q => q tw) fun ⟨i, h1, h2⟩ => e i h1 h2
    refine b_S_learnTree_2 ?_
    simp (disch := omega) only [ok_27 V.1, cr_27_0 V, ok_13 V.1, X.2.1, true_and]
    refine ⟨fun _ => ?_, fun z => by omega⟩
    have := hQ h EX_rf fun s hs => by
      by_cases y : s = set
      · subst y
        obtain ⟨g1, g2⟩ := hT s hs
        rw [if_neg (by omega)] at g1 g2
        rw [if_pos (by omega), g1, g2]
        unfold dpB at hno
        unfold dpB tiB
        rcases DP_c (S := S) (I := I) (t := t) (o := o) s with ⟨b1, b2⟩ | ⟨e', b1, b2, b3, b4⟩
        · rw [b1, if_pos (by omega), if_pos (by omega)]
          rw [if_pos (by omega), if_pos (by omega)]
          exact ⟨rfl, rfl⟩
        · have : ¬ e' ≤ d + 1 := fun q => n1 (TR_le b3 q)
          rw [b1, if_neg (by omega), if_neg (by omega), if_neg (by omega), if_neg (by omega)]
          exact ⟨rfl, rfl⟩
      · have := hT s hs
        by_cases y2 : s < set
        · rw [if_pos y2] at this; rw [if_pos (by omega)]; exact this
        · rw [if_neg y2] at this; rw [if_neg (by omega)]; exact this
    exact (by first | exact q_at rfl (this) | exact (this))
  · intro i hi ih e
    refine b_S_learnTree_2 ?_
    simp (disch := omega) only [ok_27 V.1, cr_27_0 V, ok_13 V.1, X.2.1, w32_id, true_and]
    refine ⟨fun z => by omega, fun _ => ?_⟩
    refine sp_S_depthBehind V TT X hset (by omega) hd hT fun r r1 r2 r3 => ?_
    refine ⟨fun z => ?_, fun z => ?_⟩
    · dsimp only at z
      refine ih fun x hx => ?_
      by_cases y : x = i
      · subst y; exact fun q => by have := r3.mpr q; omega
      · exact e x (by omega)
    · dsimp only at z
      have ok := r3.mp (by omega)
      have tr1 : TR S I t o (d + 1) set := Or.inr ⟨i, hi, ok⟩
      have dp : DP S I t o set = ((d + 1 : Nat) : Int) := fw_at ⟨by omega, tr1⟩ fun x hx q => ntr (TR_le q.2 (by omega))
      have ti : TI S I t o set = (i : Int) := by
        unfold TI
        rw [dp, if_neg (by omega)]
        exact fw_at ⟨hi, ok⟩ fun x hx q => e x hx q.2
      simp (disch := omega) only [ok_27 V.1, cr_27_7 V, cr_27_8 V, true_and]
      repeat (refine ⟨by omega, ?_⟩)
      have := hQ (ai_up (ai_up h 33 (set : Int) ((d + 1 : Nat) : Int)) 34 (set : Int) (i : Int)) (EX_upc (EX_upc EX_rf (by decide)) (by decide)) fun s hs => by
        by_cases y : s = set
        · subst y
          rw [up_oth (Or.inl (by decide)), up_same, up_same, if_pos (by omega)]
          unfold dpB tiB
          rw [dp, if_pos (by omega), if_pos (by omega), ti]
          exact ⟨rfl, rfl⟩
        · rw [up_oth (Or.inl (by decide)), up_oth (Or.inr (by omega)), up_oth (Or.inr (by omega)), up_oth (Or.inl (by decide))]
          have := hT s hs
          by_cases y2 : s < set
          · rw [if_pos y2] at this; rw [if_pos (by omega)]; exact this
          · rw [if_neg y2] at this; rw [if_neg (by omega)]; exact this
      exact (by first | exact q_at rfl (this) | exact (this))
def CTt (S I : Nat) (t o : Int → Int) (h : HP) : Prop := h 27 9 = 0 ∨ (h 27 9 = 1 ∧ ∀ set : Nat, set < 2 ^ S → h 33 (set : Int) = DP S I t o set ∧ h 34 (set : Int) = TI S I t o set)
theorem sp_S_learnTrees (V : CW n hr) (T : TV S I t o) (X : CX S I t o h) (G : CTt S I t o h) (hQ : ∀ h1, EX [33, 34] [(27, 9)] h h1 → h1 27 9 = 1 → (∀ set : Nat, set < 2 ^ S → h1 33 (set : Int) = DP S I t o set ∧ h1 34 (set : Int) = TI S I t o set) → Q (9, 0) n hr h1) : f_S_learnTrees [(2, 27)] n hr h Q := by
  have TT := T
  obtain ⟨hS, hI, hm, hc, hTT⟩ := T
  have p6 : 2 ^ S ≤ 2 ^ 6 := Nat.pow_le_pow_right (by decide) hS
  have p6' : (2 : Nat) ^ 6 = 64 := by decide
  apply e_S_learnTrees
  have e0 : EX [33, 34] [(27, 9)] h (ai_up h 27 9 1) := EX_upp EX_rf (by decide)
  have X0 := CX_fr X e0 (by decide) (by decide)
  have sets : i_shl 1 (i_min (S : Int) 6) = ((2 ^ S : Nat) : Int) := by
    have : i_min (S : Int) 6 = (S : Int) := by unfold i_min; split <;> omega
    rw [this, shl1_n (by omega)]
  simp only [ok_27 V.1, cr_27_0 V, ok_13 V.1, X0.1, sets, true_and, true_or, or_true]
  refine ⟨fun z => ?_, fun z => ?_⟩
  · have rounds := lupN (N := 8) (P := fun d => ∀ h1, EX [33, 34] [(27, 9)] h h1 → h1 27 9 = 1 → tabT S I t o d 0 h1 → p_S_learnTrees_71 (n + 0) (ai_q 0 n Q) 27 ((2 ^ S : Nat) : Int) ((d + 1 : Nat) : Int) n hr h1) ?_ ?_
    · have init := lupN (N := 2 ^ S) (P := fun k => ∀ h1, EX [33, 34] [(27, 9)] h h1 → h1 27 9 = 1 → (∀ set : Nat, set < k → h1 33 (set : Int) = dpB S I t o 0 set ∧ h1 34 (set : Int) = tiB S I t o 0 set) → p_S_learnTrees_30 (n + 0) (ai_q 0 n Q) 27 ((2 ^ S : Nat) : Int) (k : Int) n hr h1) ?_ ?_
      · exact init _ e0 up_same fun set hs => by omega
      · intro h1 e1 e9 e2
        exact b_S_learnTrees_30 ⟨fun _ => rounds h1 e1 e9 fun set hs => by rw [if_neg (by omega)]; exact e2 set hs, fun z => by omega⟩
      · intro k hk ih h1 e1 e9 e2
        have tp := popc_two (m := k) (by omega)
        have go : ∀ v : Int, v = dpB S I t o 0 k → p_S_learnTrees_30 (n + 0) (ai_q 0 n Q) 27 ((2 ^ S : Nat) : Int) ((k : Int) + 1) n hr (ai_up (ai_up h1 33 (k : Int) v) 34 (k : Int) (-2)) := by
          rintro v rfl
          refine ih _ (EX_upc (EX_upc e1 (by decide)) (by decide)) (by rw [up_oth (Or.inl (by decide)), up_oth (Or.inl (by decide))]; exact e9) fun set hs => ?_
          by_cases y : set = k
          · subst y
            rw [up_oth (Or.inl (by decide)), up_same, up_same]
            refine ⟨rfl, ?_⟩
            unfold tiB TI
            rcases DP_c (S := S) (I := I) (t := t) (o := o) set with ⟨b1, b2⟩ | ⟨e', b1, b2, b3, b4⟩
            · rw [b1]; rfl
            · rw [b1]
              by_cases q : e' = 0
              · subst q; rfl
              · rw [if_neg (by omega)]
          · rw [up_oth (Or.inl (by decide)), up_oth (Or.inr (by omega)), up_oth (Or.inr (by omega)), up_oth (Or.inl (by decide))]
            exact e2 set (by omega)
        refine b_S_learnTrees_30 ⟨fun z => by omega, fun _ => ⟨ok_27 V.1, sp_J_bitCount (by omega) ⟨fun z => ?_, fun z => ?_⟩⟩⟩
        · dsimp only at z
          simp (disch := omega) only [ok_27 V.1, cr_27_7 V, cr_27_8 V, w32_id, true_and]
          repeat (refine ⟨by omega, ?_⟩)
          refine go (-2) ?_
          have t2 : two k := tp.mp (by omega)
          rcases dpB_tr (S := S) (I := I) (t := t) (o := o) (d := 0) (set := k) (by omega) with ⟨a, _⟩ | ⟨_, _, a, _⟩
          · exact a.symm
          · exact (a t2).elim
        · dsimp only at z
          simp (disch := omega) only [ok_27 V.1, cr_27_7 V, cr_27_8 V, w32_id, true_and]
          repeat (refine ⟨by omega, ?_⟩)
          refine go 0 ?_
          have t2 : ¬ two k := fun q => (tp.mpr q) (by omega)
          rcases dpB_tr (S := S) (I := I) (t := t) (o := o) (d := 0) (set := k) (by omega) with ⟨_, a⟩ | ⟨a1, a2, _, _⟩
          · exact (a t2).elim
          · omega
    · intro h1 e1 e9 e2
      refine b_S_learnTrees_71 ⟨fun _ => q_at rfl (hQ h1 e1 e9 fun set hs => ?_), fun z => by omega⟩
      have := e2 set hs
      rw [if_neg (by omega)] at this
      rw [this.1, this.2]
      unfold dpB tiB
      rcases DP_c (S := S) (I := I) (t := t) (o := o) set with ⟨b1, b2⟩ | ⟨e', b1, b2, b3, b4⟩
      · rw [if_pos (by omega), if_pos (by omega)]; exact ⟨rfl, rfl⟩
      · rw [if_pos (by omega), if_pos (by omega)]; exact ⟨rfl, rfl⟩
    · intro d hd ihd h1 e1 e9 e2
      refine b_S_learnTrees_71 ⟨fun z => by omega, fun _ => ?_⟩
      have := lupN (N := 2 ^ S) (P := fun k => ∀ h1, EX [33, 34] [(27, 9)] h h1 → h1 27 9 = 1 → tabT S I t o d k h1 → p_S_learnTrees_79 (n + 0) (ai_q 0 n Q) 27 ((2 ^ S : Nat) : Int) ((d + 1 : Nat) : Int) (k : Int) n hr h1) ?_ ?_
      · exact this h1 e1 e9 e2
      · intro h1 e1 e9 e2
        refine b_S_learnTrees_79 ⟨fun _ => ?_, fun z => by omega⟩
        rw [w32_id (by omega) (by omega)]
        refine ihd h1 e1 e9 fun set hs => ?_
        have := e2 set hs
        rw [if_pos hs] at this
        rw [if_neg (by omega)]; exact this
      · intro k hk ihk h1 e1 e9 e2
        have X1 := CX_fr X e1 (by decide) (by decide)
        obtain ⟨g1, g2⟩ := e2 k hk
        rw [if_neg (by omega)] at g1 g2
        refine b_S_learnTrees_79 ⟨fun z => by omega, fun _ => ?_⟩
        simp (disch := omega) only [ok_27 V.1, cr_27_7 V, w32_id, true_and]
        repeat (refine ⟨by omega, ?_⟩)
        refine ⟨fun z => ?_, fun z => ?_⟩
        · refine ihk h1 e1 e9 fun set hs => ?_
          by_cases y : set = k
          · subst y
            rw [if_pos (by omega), g1, g2]
            rw [g1] at z
            rcases dpB_tr (S := S) (I := I) (t := t) (o := o) (d := d) (set := set) (by omega) with ⟨a, _⟩ | ⟨a1, a2, _, a4⟩
            · exact (z a).elim
            · unfold dpB tiB
              rw [if_pos (by omega), if_pos (by omega), if_pos (by omega), if_pos (by omega)]
              exact ⟨rfl, rfl⟩
          · have := e2 set hs
            by_cases y2 : set < k
            · rw [if_pos y2] at this; rw [if_pos (by omega)]; exact this
            · rw [if_neg y2] at this; rw [if_neg (by omega)]; exact this
        · refine sp_S_learnTree V TT X1 hk hd e2 (by rw [← g1]; exact z) fun h2 f1 f2 => ?_
          exact ihk h2 (EX_tr e1 (EX_le f1 (by decide) (by decide))) (by rw [EX_at f1 (by decide) (by decide)]; exact e9) f2
  · rcases G with g | ⟨g1, g2⟩
    · exact (z g).elim
    · have := hQ h EX_rf g1 g2
      exact (by first | exact q_at rfl (this) | exact (this))
theorem sp_S_treeDepth {set : Nat} (V : CW n hr) (T : TV S I t o) (X : CX S I t o h) (G : CTt S I t o h) (hset : set < 2 ^ S) (hQ : ∀ h1, EX [33, 34] [(27, 9)] h h1 → CTt S I t o h1 → Q (0, DP S I t o set) n hr h1) : f_S_treeDepth [(2, 27), (0, (set : Int))] n hr h Q := by
  have hS := T.1
  have p6 : 2 ^ S ≤ 2 ^ 6 := Nat.pow_le_pow_right (by decide) hS
  have p6' : (2 : Nat) ^ 6 = 64 := by decide
  apply e_S_treeDepth
  refine ⟨ok_27 V.1, sp_S_learnTrees V T X G fun h1 e1 e2 e3 => ?_⟩
  simp (disch := omega) only [ok_27 V.1, cr_27_7 V, (e3 set hset).1, true_and]
  repeat (refine ⟨by omega, ?_⟩)
  have := hQ h1 e1 (Or.inr ⟨e2, e3⟩)
  exact (by first | exact q_at rfl (this) | exact (this))
theorem sp_S_treeInput {set : Nat} (V : CW n hr) (T : TV S I t o) (X : CX S I t o h) (G : CTt S I t o h) (hset : set < 2 ^ S) (hQ : ∀ h1, EX [33, 34] [(27, 9)] h h1 → CTt S I t o h1 → Q (0, TI S I t o set) n hr h1) : f_S_treeInput [(2, 27), (0, (set : Int))] n hr h Q := by
  have hS := T.1
  have p6 : 2 ^ S ≤ 2 ^ 6 := Nat.pow_le_pow_right (by decide) hS
  have p6' : (2 : Nat) ^ 6 = 64 := by decide
  apply e_S_treeInput
  refine ⟨ok_27 V.1, sp_S_learnTrees V T X G fun h1 e1 e2 e3 => ?_⟩
  simp (disch := omega) only [ok_27 V.1, cr_27_8 V, (e3 set hset).2, true_and]
  repeat (refine ⟨by omega, ?_⟩)
  have := hQ h1 e1 (Or.inr ⟨e2, e3⟩)
  exact (by first | exact q_at rfl (this) | exact (this))
end
