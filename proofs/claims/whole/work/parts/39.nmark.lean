-- deps: 18 19 20 21 23 24 25 26 27 28 29 22 30 31 32 33 34 35 36 37 38
/-! the reference: marks, kinds, the greatest output -/
theorem mkP_no {I : Nat} {t o : Int → Int} {s : Nat} {than : Int} {k : Nat} (h : ∀ v : Nat, ¬ (RD I t k ∧ SPr I t o (s : Int) (k : Int) = (v : Int) ∧ than < (v : Int))) : fw (mkP I t o s than (k + 1)) = fw (mkP I t o s than k) := fw_ext fun w => by
  constructor
  · rintro ⟨h1, x, h2, h3, h4⟩
    by_cases z : x = k
    · subst z; exact (h w ⟨h3, h4, h1⟩).elim
    · exact ⟨h1, x, by omega, h3, h4⟩
  · rintro ⟨h1, x, h2, h3⟩
    exact ⟨h1, x, by omega, h3⟩
theorem mkP_yes {I : Nat} {t o : Int → Int} {s : Nat} {than : Int} {k v : Nat} (h1 : RD I t k) (h2 : SPr I t o (s : Int) (k : Int) = (v : Int)) (h3 : than < (v : Int)) : fw (mkP I t o s than (k + 1)) = if fw (mkP I t o s than k) = -2 then (v : Int) else if (v : Int) < fw (mkP I t o s than k) then (v : Int) else fw (mkP I t o s than k) := by
  rw [← fw_or]
  refine fw_ext fun w => ?_
  constructor
  · rintro ⟨h1, x, a2, a3, a4⟩
    by_cases z : x = k
    · subst z; right; omega
    · exact Or.inl ⟨h1, x, by omega, a3, a4⟩
  · rintro (⟨h1, x, a2, a3⟩ | e)
    · exact ⟨h1, x, by omega, a3⟩
    · subst e; exact ⟨h3, k, by omega, h1, h2⟩
section
variable {Q : RP} {n : Nat} {hr h : HP} {S I : Nat} {t o : Int → Int}
theorem sp_N_markAbove {s : Nat} {than : Int} (W : NW n hr) (T : TV S I t o) (X : NX S I t o h) (P : NP S I t o h) (hs : s < S) (hQ : Q (0, MAb S I t o s than) n hr h) : f_N_markAbove [(2, 138), (0, (s : Int)), (0, than)] n hr h Q := by
  obtain ⟨hS, hI, hm, hc, hT⟩ := T
  apply e_N_markAbove
  have := lupN (N := S) (P := fun k => ∀ l4 : Int, ((l4 = 1 ∧ ∃ x, x < k ∧ RD I t x ∧ SPr I t o (s : Int) (x : Int) ≠ -2) ∨ (l4 = 0 ∧ ¬ ∃ x, x < k ∧ RD I t x ∧ SPr I t o (s : Int) (x : Int) ≠ -2)) → p_N_markAbove_9 (n + 0) (ai_q 0 n Q) 138 (s : Int) than (fw (mkP I t o s than k)) l4 (k : Int) n hr h) ?_ ?_
  · have e : fw (mkP I t o s than 0) = -2 := fw_no fun w q => by obtain ⟨_, x, hx, _⟩ := q; omega
    rw [← e]
    exact this 0 (Or.inr ⟨rfl, fun ⟨x, hx, _⟩ => by omega⟩)
  · intro l4 hl
    refine b_N_markAbove_9 ⟨n0 W, sp_N_states W ⟨fun _ => ⟨fun z => ⟨fun z2 => ?_, fun z2 => ?_⟩, fun z => ?_⟩, fun z => ?_⟩⟩
    · have e : MAb S I t o s than = -2 := by
        unfold MAb; rw [if_neg (by rcases hl with q | q; omega; exact q.2), if_neg (by omega)]
      rw [e] at hQ; exact q_at rfl hQ
    · have e : MAb S I t o s than = 0 := by
        unfold MAb; rw [if_neg (by rcases hl with q | q; omega; exact q.2), if_pos (by omega)]
      rw [e] at hQ; exact q_at rfl hQ
    · have e : MAb S I t o s than = fw (mkP I t o s than S) := by
        unfold MAb; rw [if_pos (by rcases hl with q | q; exact q.2; omega)]
      rw [e] at hQ; exact q_at rfl hQ
    · dsimp only at z; rw [X.1] at z; omega
  · intro k hk ih l4 hl
    have e := P.2.2.1 s k hs hk
    have ea := P.1 k hk
    refine b_N_markAbove_9 ⟨n0 W, sp_N_states W ⟨fun z => ?_, fun _ => ?_⟩⟩
    · dsimp only at z; rw [X.1] at z; omega
    · simp (disch := omega) only [n0 W, nr_27 W, w32_id, e, true_and]
      repeat (refine ⟨by omega, ?_⟩)
      refine sp_N_isReached W (by omega) (fun z => ?_) (fun z => ?_)
      · rw [ea] at z
        refine ⟨fun q => absurd q (by decide), fun _ => ⟨fun z2 => ?_, fun z2 => ?_⟩⟩
        · obtain ⟨v, v1⟩ : ∃ v : Nat, SPr I t o (s : Int) (k : Int) = (v : Int) := by
            rcases SPr_c (S := S) hI hS hm hc (a := (s : Int)) (b := (k : Int)) (by omega) (by omega) with ⟨q, _⟩ | ⟨v, q, _⟩
            · exact (z2 q).elim
            · exact ⟨v, q⟩
          have any : ((1 : Int) = 1 ∧ ∃ x, x < k + 1 ∧ RD I t x ∧ SPr I t o (s : Int) (x : Int) ≠ -2) ∨ ((1 : Int) = 0 ∧ ¬ ∃ x, x < k + 1 ∧ RD I t x ∧ SPr I t o (s : Int) (x : Int) ≠ -2) := Or.inl ⟨rfl, k, by omega, z, z2⟩
          have ih1 := ih 1 any
          rw [v1]
          refine ⟨fun z3 => ?_, fun z3 => ?_⟩
          · rw [mkP_no fun w q => by have := q.2.1; have := q.2.2; omega] at ih1
            exact ih1
          · rw [mkP_yes z v1 z3] at ih1
            refine ⟨fun z4 => ?_, fun z4 => ⟨fun z5 => ?_, fun z5 => ?_⟩⟩
            · rw [if_pos z4] at ih1; exact ih1
            · rw [if_neg z4, if_neg (by omega)] at ih1; exact ih1
            · rw [if_neg z4, if_pos z5] at ih1; exact ih1
        · have ih1 := ih l4 (by
            rcases hl with ⟨q1, x, q2, q3⟩ | ⟨q1, q2⟩
            · exact Or.inl ⟨q1, x, by omega, q3⟩
            · refine Or.inr ⟨q1, fun ⟨x, y1, y2, y3⟩ => ?_⟩
              by_cases y : x = k
              · subst y; exact y3 z2
              · exact q2 ⟨x, by omega, y2, y3⟩)
          rw [mkP_no fun w q => by have := q.2.1; omega] at ih1
          exact ih1
      · rw [ea] at z
        have hno : ¬ RD I t k := by unfold RD; omega
        refine ⟨fun _ => ?_, fun q => absurd rfl q⟩
        have ih1 := ih l4 (by
          rcases hl with ⟨q1, x, q2, q3⟩ | ⟨q1, q2⟩
          · exact Or.inl ⟨q1, x, by omega, q3⟩
          · refine Or.inr ⟨q1, fun ⟨x, y1, y2, y3⟩ => ?_⟩
            by_cases y : x = k
            · subst y; exact hno y2
            · exact q2 ⟨x, by omega, y2, y3⟩)
        rw [mkP_no fun w q => hno q.1] at ih1
        exact ih1
theorem MK_neg {S I : Nat} {t o : Int → Int} {s k : Nat} (h : MK S I t o s k = -2) : ∀ d, MK S I t o s (k + d) = -2
  | 0 => h
  | d + 1 => by
    show (if MK S I t o s (k + d) = -2 then -2 else _) = _
    rw [if_pos (MK_neg h d)]
theorem sp_N_mark {s k : Int} (W : NW n hr) (T : TV S I t o) (X : NX S I t o h) (P : NP S I t o h) (h1 : (0 ≤ s ∧ s < (S : Int)) → 0 ≤ k → Q (0, MK S I t o s.toNat k.toNat) n hr (ai_up h 138 0 0)) (h0 : ¬ ((0 ≤ s ∧ s < (S : Int)) ∧ 0 ≤ k) → Q (0, -1) n hr (ai_up h 138 0 0)) (hk : k ≤ 2147483647) : f_N_mark [(2, 138), (0, s), (0, k)] n hr h Q := by
  have X1 := NX_1 (v := 0) X
  have P1 := NP_1 (v := 0) P
  apply e_N_mark
  refine ⟨n0 W, n0 W, sp_N_isState W (fun z => ?_) (fun z => ⟨fun _ => q_at rfl (h0 ?_), fun q => absurd rfl q⟩)⟩
  · rw [X1.1] at z
    refine ⟨fun q => absurd q (by decide), fun _ => ⟨fun z2 => ⟨n0 W, ?_⟩, fun z2 => q_at rfl (h0 fun q => by omega)⟩⟩
    obtain ⟨v, rfl⟩ := Int.eq_ofNat_of_zero_le z.1
    obtain ⟨j, rfl⟩ := Int.eq_ofNat_of_zero_le z2
    refine sp_N_markAbove W T X1 P1 (by omega) ?_
    have h1' := h1 z z2
    have := lupN (N := j) (P := fun i => p_N_mark_29 (n + 0) (ai_q 0 n Q) 138 (v : Int) (j : Int) (MK S I t o v i) (i : Int) n hr (ai_up h 138 0 0)) ?_ ?_
    · exact this
    · exact b_N_mark_29 ⟨fun _ => q_at rfl h1', fun z => by omega⟩
    · intro i hi ih
      refine b_N_mark_29 ⟨fun z => by omega, fun _ => ⟨fun z3 => q_at rfl ?_, fun z3 => ⟨n0 W, ?_⟩⟩⟩
      · have := MK_neg z3 (j - i)
        rw [show i + (j - i) = j by omega] at this
        have e : MK S I t o (v : Int).toNat (j : Int).toNat = -2 := this
        rw [e] at h1'
        rw [z3]; exact h1'
      · refine sp_N_markAbove W T X1 P1 (by omega) ?_
        rw [w32_id (by omega) (by omega)]
        have e : MK S I t o v (i + 1) = MAb S I t o v (MK S I t o v i) := if_neg z3
        rw [e] at ih
        exact ih
  · rw [X1.1] at z; exact fun q => z q.1
theorem sp_N_kinds (W : NW n hr) (T : TV S I t o) (X : NX S I t o h) (P : NP S I t o h) (hQ : Q (0, (cntP (isNew I t o) S : Int)) n hr h) : f_N_kinds [(2, 138)] n hr h Q := by
  obtain ⟨hS, hI, hm, hc, hT⟩ := T
  apply e_N_kinds
  have := lupN (N := S) (P := fun s => p_N_kinds_4 (n + 0) (ai_q 0 n Q) 138 (cntP (isNew I t o) s : Int) (s : Int) n hr h) ?_ ?_
  · exact this
  · refine b_N_kinds_4 ⟨n0 W, sp_N_states W ⟨fun _ => q_at rfl hQ, fun z => ?_⟩⟩
    dsimp only at z; rw [X.1] at z; omega
  · intro s hs ih
    have ea := P.1 s hs
    have hcl := cntP_le (isNew I t o) s
    have fin : ∀ l3 : Int, ((l3 = 1 ∧ isNew I t o s) ∨ (l3 = 0 ∧ ¬ isNew I t o s)) → p_N_kinds_21 (n + 0) (ai_q 0 n Q) 138 (cntP (isNew I t o) s : Int) (s : Int) l3 (s : Int) n hr h := by
      intro l3 hl
      refine b_N_kinds_21 ⟨fun _ => ⟨fun z => ?_, fun z => ?_⟩, fun z => by omega⟩
      · simp (disch := omega) only [w32_id]
        rw [cntP_n (by rcases hl with q | q; omega; exact q.2)] at ih
        rw [Int.add_zero]; exact ih
      · simp (disch := omega) only [w32_id]
        rw [cntP_y (by rcases hl with q | q; exact q.2; omega)] at ih
        exact ih
    have loop := lupN (N := s) (P := fun a => ∀ l3 : Int, ((l3 = 1 ∧ RD I t s ∧ ∀ x, x < a → ¬ (RD I t x ∧ SPr I t o (x : Int) (s : Int) = -2)) ∨ (l3 = 0 ∧ ¬ isNew I t o s)) → p_N_kinds_21 (n + 0) (ai_q 0 n Q) 138 (cntP (isNew I t o) s : Int) (s : Int) l3 (a : Int) n hr h) ?_ ?_
    · refine b_N_kinds_4 ⟨n0 W, sp_N_states W ⟨fun z => ?_, fun _ => ⟨n0 W, sp_N_isReached W (by omega) (fun z => ?_) (fun z => ?_)⟩⟩⟩
      · dsimp only at z; rw [X.1] at z; omega
      · rw [ea] at z
        exact loop 1 (Or.inl ⟨rfl, z, fun x hx => by omega⟩)
      · rw [ea] at z
        exact loop 0 (Or.inr ⟨rfl, fun q => by have := q.1; unfold RD at this; omega⟩)
    · intro l3 hl
      exact fin l3 (hl.elim (fun q => Or.inl ⟨q.1, q.2⟩) Or.inr)
    · intro a ha iha l3 hl
      have eb := P.1 a (by omega)
      have e := P.2.2.1 a s (by omega) hs
      refine b_N_kinds_21 ⟨fun z => by omega, fun _ => ⟨fun z => ?_, fun z => ?_⟩⟩
      · rw [w32_id (by omega) (by omega)]
        refine iha 0 (Or.inr ⟨rfl, ?_⟩)
        rcases hl with q | q
        · omega
        · exact q.2
      · have hl2 : RD I t s ∧ ∀ x, x < a → ¬ (RD I t x ∧ SPr I t o (x : Int) (s : Int) = -2) := by
          rcases hl with q | q
          · exact q.2
          · omega
        have nx : ¬ (RD I t a ∧ SPr I t o (a : Int) (s : Int) = -2) → ∀ x, x < a + 1 → ¬ (RD I t x ∧ SPr I t o (x : Int) (s : Int) = -2) := fun q x hx => by
          by_cases y : x = a
          · subst y; exact q
          · exact hl2.2 x (by omega)
        refine ⟨n0 W, sp_N_isReached W (by omega) (fun z2 => ?_) (fun z2 => ?_)⟩
        · rw [eb] at z2
          refine ⟨fun q => absurd q (by decide), fun _ => ?_⟩
          simp (disch := omega) only [n0 W, nr_27 W, w32_id, e, true_and]
          repeat (refine ⟨by omega, ?_⟩)
          refine ⟨fun z3 => ?_, fun z3 => ?_⟩
          · exact iha 0 (Or.inr ⟨rfl, fun q => q.2 a ha ⟨z2, z3⟩⟩)
          · exact iha 1 (Or.inl ⟨rfl, hl2.1, nx fun q => z3 q.2⟩)
        · rw [eb] at z2
          refine ⟨fun _ => ?_, fun q => absurd rfl q⟩
          rw [w32_id (by omega) (by omega)]
          exact iha 1 (Or.inl ⟨rfl, hl2.1, nx fun q => by have := q.1; unfold RD at this; omega⟩)
theorem sp_N_top (W : NW n hr) (T : TV S I t o) (X : NX S I t o h) (hQ : Q (0, tpR o 24) n hr h) : f_N_top [(2, 138)] n hr h Q := by
  obtain ⟨hS, hI, hm, hc, hT⟩ := T
  apply e_N_top
  have := lupN (N := S) (P := fun s => p_N_top_4 (n + 0) (ai_q 0 n Q) 138 (tpR o (3 * s)) (s : Int) n hr h) ?_ ?_
  · exact this
  · refine b_N_top_4 ⟨n0 W, sp_N_states W ⟨fun _ => q_at rfl ?_, fun z => ?_⟩⟩
    · have := tpR_z (o := o) (k := 3 * S) (24 - 3 * S) fun j h1 h2 => (hT (j : Int) (by omega) (by omega) (by omega)).2
      rw [show 3 * S + (24 - 3 * S) = 24 by omega] at this
      rw [← this]; exact hQ
    · dsimp only at z; rw [X.1] at z; omega
  · intro s hs ih
    refine b_N_top_4 ⟨n0 W, sp_N_states W ⟨fun z => ?_, fun _ => ?_⟩⟩
    · dsimp only at z; rw [X.1] at z; omega
    · have := lupN (N := I) (P := fun i => p_N_top_14 (n + 0) (ai_q 0 n Q) 138 (tpR o (3 * s + i)) (s : Int) (i : Int) n hr h) ?_ ?_
      · exact this
      · refine b_N_top_14 ⟨n0 W, sp_N_inputs W ⟨fun _ => ?_, fun z => ?_⟩⟩
        · rw [w32_id (by omega) (by omega)]
          have := tpR_z (o := o) (k := 3 * s + I) (3 - I) fun j h1 h2 => (hT (j : Int) (by omega) (by omega) (by omega)).2
          rw [← this, show 3 * s + I + (3 - I) = 3 * (s + 1) by omega]
          exact ih
        · dsimp only at z; rw [X.2.1] at z; omega
      · intro i hi ihi
        have g := X.2.2.2 (3 * (s : Int) + (i : Int)) (by omega) (by omega)
        have eo : o ((3 * s + i : Nat) : Int) = o (3 * (s : Int) + (i : Int)) := by congr 1
        refine b_N_top_14 ⟨n0 W, sp_N_inputs W ⟨fun z => ?_, fun _ => ?_⟩⟩
        · dsimp only at z; rw [X.2.1] at z; omega
        · simp (disch := omega) only [n0 W, nr_21 W, Int.zero_add, w32_id, g, true_and]
          repeat (refine ⟨by omega, ?_⟩)
          have ihi2 : p_N_top_14 (n + 0) (ai_q 0 n Q) 138 (if tpR o (3 * s + i) < o ((3 * s + i : Nat) : Int) then o ((3 * s + i : Nat) : Int) else tpR o (3 * s + i)) (s : Int) ((i + 1 : Nat) : Int) n hr h := ihi
          rw [eo] at ihi2
          refine ⟨fun z => ?_, fun z => ?_⟩
          · rw [if_neg (by omega)] at ihi2; exact ihi2
          · rw [if_pos z] at ihi2; exact ihi2
end
