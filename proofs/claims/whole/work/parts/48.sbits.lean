-- deps: 18 19 20 21 23 24 25 26 27 28 29 22 30 31 32 33 34 35 36 37 38 39 40 41 42 43 44 45 46 47
/-! the class: how many bits; where sets lead; signs -/
def popc (x : Nat) : Nat := cntB (fun i => x.testBit i) 32
def bcX (l0 : Int) : Int := i_and (w32 ((w32 ((i_and (w32 ((w32 ((i_and (w32 (l0 - (i_and (i_ushr l0 1) 1431655765))) 858993459) + (i_and (i_ushr (w32 (l0 - (i_and (i_ushr l0 1) 1431655765))) 2) 858993459))) + (i_ushr (w32 ((i_and (w32 (l0 - (i_and (i_ushr l0 1) 1431655765))) 858993459) + (i_and (i_ushr (w32 (l0 - (i_and (i_ushr l0 1) 1431655765))) 2) 858993459))) 4))) 252645135) + (i_ushr (i_and (w32 ((w32 ((i_and (w32 (l0 - (i_and (i_ushr l0 1) 1431655765))) 858993459) + (i_and (i_ushr (w32 (l0 - (i_and (i_ushr l0 1) 1431655765))) 2) 858993459))) + (i_ushr (w32 ((i_and (w32 (l0 - (i_and (i_ushr l0 1) 1431655765))) 858993459) + (i_and (i_ushr (w32 (l0 - (i_and (i_ushr l0 1) 1431655765))) 2) 858993459))) 4))) 252645135) 8))) + (i_ushr (w32 ((i_and (w32 ((w32 ((i_and (w32 (l0 - (i_and (i_ushr l0 1) 1431655765))) 858993459) + (i_and (i_ushr (w32 (l0 - (i_and (i_ushr l0 1) 1431655765))) 2) 858993459))) + (i_ushr (w32 ((i_and (w32 (l0 - (i_and (i_ushr l0 1) 1431655765))) 858993459) + (i_and (i_ushr (w32 (l0 - (i_and (i_ushr l0 1) 1431655765))) 2) 858993459))) 4))) 252645135) + (i_ushr (i_and (w32 ((w32 ((i_and (w32 (l0 - (i_and (i_ushr l0 1) 1431655765))) 858993459) + (i_and (i_ushr (w32 (l0 - (i_and (i_ushr l0 1) 1431655765))) 2) 858993459))) + (i_ushr (w32 ((i_and (w32 (l0 - (i_and (i_ushr l0 1) 1431655765))) 858993459) + (i_and (i_ushr (w32 (l0 - (i_and (i_ushr l0 1) 1431655765))) 2) 858993459))) 4))) 252645135) 8))) 16))) 63
set_option maxRecDepth 100000 in
theorem bcX_8 : ∀ x : Nat, x < 256 → bcX (x : Int) = (popc x : Int) := by decide +kernel
theorem popc_2 {x : Nat} (hx : x < 2 ^ 32) : popc x < 2 ↔ ∀ a b, x.testBit a = true → x.testBit b = true → a = b := by
  have key : ∀ n, cntB (fun i => x.testBit i) n < 2 ↔ ∀ a b, a < n → b < n → x.testBit a = true → x.testBit b = true → a = b := by
    intro n
    induction n with
    | zero => exact ⟨fun _ a b h => by omega, fun _ => by show 0 < 2; omega⟩
    | succ n ih =>
      have pos : ∀ m, 0 < cntB (fun i => x.testBit i) m ↔ ∃ a, a < m ∧ x.testBit a = true := by
        intro m
        induction m with
        | zero => exact ⟨fun h => absurd h (by show ¬ 0 < 0; omega), fun ⟨a, h, _⟩ => by omega⟩
        | succ m ihm =>
          show 0 < cntB _ m + _ ↔ _
          by_cases z : x.testBit m = true
          · rw [if_pos z]; exact ⟨fun _ => ⟨m, by omega, z⟩, fun _ => by omega⟩
          · rw [if_neg z, Nat.add_zero, ihm]
            constructor
            · rintro ⟨a, h1, h2⟩; exact ⟨a, by omega, h2⟩
            · rintro ⟨a, h1, h2⟩
              by_cases y : a = m
              · subst y; exact (z h2).elim
              · exact ⟨a, by omega, h2⟩
      show cntB _ n + _ < 2 ↔ _
      by_cases z : x.testBit n = true
      · rw [if_pos z]
        constructor
        · intro h a b ha hb h1 h2
          have no : ∀ c, c < n → x.testBit c = true → False := fun c hc h3 => by
            have := (pos n).mpr ⟨c, hc, h3⟩; omega
          have ea : a = n := Classical.byContradiction fun q => no a (by omega) h1
          have eb : b = n := Classical.byContradiction fun q => no b (by omega) h2
          rw [ea, eb]
        · intro h
          have : ¬ 0 < cntB (fun i => x.testBit i) n := fun q => by
            obtain ⟨a, h1, h2⟩ := (pos n).mp q
            have := h a n (by omega) (by omega) h2 z
            omega
          omega
      · rw [if_neg z, Nat.add_zero, ih]
        constructor
        · intro h a b ha hb h1 h2
          by_cases ya : a = n
          · subst ya; exact (z h1).elim
          · by_cases yb : b = n
            · subst yb; exact (z h2).elim
            · exact h a b (by omega) (by omega) h1 h2
        · intro h a b ha hb h1 h2; exact h a b (by omega) (by omega) h1 h2
  rw [show popc x = cntB (fun i => x.testBit i) 32 from rfl, key]
  constructor
  · intro h a b h1 h2
    refine h a b ?_ ?_ h1 h2
    · exact Nat.lt_of_not_le fun q => by rw [tb_lt hx q] at h1; cases h1
    · exact Nat.lt_of_not_le fun q => by rw [tb_lt hx q] at h2; cases h2
  · intro h a b _ _; exact h a b
section
variable {Q : RP} {n : Nat} {hr h : HP} {S I : Nat} {t o : Int → Int}
theorem sp_J_bitCount {x : Nat} (hx : x < 256) (hQ : Q (0, (popc x : Int)) n hr h) : f_J_bitCount [(0, (x : Int))] n hr h Q := by
  apply e_J_bitCount
  have e := bcX_8 x hx
  unfold bcX at e
  rw [e]
  exact q_at rfl hQ
theorem tb_div {x k i : Nat} : (x / 2 ^ k).testBit i = x.testBit (k + i) := by
  rw [Nat.testBit_div_two_pow, Nat.add_comm]
theorem sp_S_followSign {s j : Nat} (V : CW n hr) (T : TV S I t o) (X : CX S I t o h) (hs : s < 512) (hs2 : s % 8 < S) (hj : j < 3) (hQ : Q (0, if SGT S t o s j = 512 then -1 else (SGT S t o s j : Int)) n hr h) : f_S_followSign [(2, 27), (0, (s : Int)), (0, (j : Int))] n hr h Q := by
  obtain ⟨hS, hI, hm, hc, hTT⟩ := T
  have ct := hc ((s % 8 : Nat) : Int) j (by omega) (by omega) hj
  have g3 := X.2.2.1 (3 * ((s % 8 : Nat) : Int) + (j : Int)) (by omega) (by omega)
  have g4 := X.2.2.2 (3 * ((s % 8 : Nat) : Int) + (j : Int)) (by omega) (by omega)
  have earc : w32 (w32 (i_and (s : Int) 7 * 3) + (j : Int)) = 3 * ((s % 8 : Nat) : Int) + (j : Int) := by
    rw [and_7 (by omega) (by omega), w32_id (x := (s : Int) % 8 * 3) (by omega) (by omega), w32_id (by omega) (by omega)]; omega
  apply e_S_followSign
  rw [earc]
  have P0 := fun (x : Nat) => (s / 8).testBit x && decide (o (3 * (x : Int) + (j : Int)) = o (3 * ((s % 8 : Nat) : Int) + (j : Int)))
  have lt64 : ∀ k, k ≤ S → orA (fun x => (s / 8).testBit x && decide (o (3 * (x : Int) + (j : Int)) = o (3 * ((s % 8 : Nat) : Int) + (j : Int)))) (fun x => (t (3 * (x : Int) + (j : Int))).toNat) k < 64 := fun k hk => orA_lt (k := 6) fun x h1 _ => by
    have := hc (x : Int) j (by omega) (by omega) hj
    show (t (3 * (x : Int) + (j : Int))).toNat < 6
    omega
  have := lupN (N := S) (P := fun k => p_S_followSign_15 (n + 0) (ai_q 0 n Q) 27 (s : Int) (j : Int) (3 * ((s % 8 : Nat) : Int) + (j : Int)) ((orA (fun x => (s / 8).testBit x && decide (o (3 * (x : Int) + (j : Int)) = o (3 * ((s % 8 : Nat) : Int) + (j : Int)))) (fun x => (t (3 * (x : Int) + (j : Int))).toNat) k : Nat) : Int) (k : Int) n hr h) ?_ ?_
  · exact this
  · have l := lt64 S (Nat.le_refl _)
    obtain ⟨y, hy⟩ := Int.eq_ofNat_of_zero_le ct.1
    have eS : SGo S t o s j = orA (fun x => (s / 8).testBit x && decide (o (3 * (x : Int) + (j : Int)) = o (3 * ((s % 8 : Nat) : Int) + (j : Int)))) (fun x => (t (3 * (x : Int) + (j : Int))).toNat) S := rfl
    rw [← eS] at l ⊢
    have eT : SGT S t o s j = if (SGo S t o s j).testBit y = true then 512 else 8 * SGo S t o s j + y := by
      unfold SGT; rw [if_neg (by omega), hy]; rfl
    refine b_S_followSign_15 ?_
    simp (disch := omega) only [ok_27 V.1, cr_27_0 V, ok_13 V.1, cr_13_0 V, X.1, g3, hy, bit_n (show y < 32 by omega), true_and]
    refine ⟨fun _ => ?_, fun z => by omega⟩
    repeat (refine ⟨by omega, ?_⟩)
    refine ⟨fun z => ?_, fun z => ?_⟩
    · have hb : ¬ (SGo S t o s j).testBit y = true := fun q => by rw [if_pos q] at z; exact z rfl
      rw [if_neg hb] at eT
      rw [eT, if_neg (by omega)] at hQ
      rw [shl_3 (by omega) (by omega), show ((SGo S t o s j : Nat) : Int) * 8 = ((SGo S t o s j * 2 ^ 3 : Nat) : Int) by omega, or_add (by omega) (by omega), show SGo S t o s j * 2 ^ 3 + y = 8 * SGo S t o s j + y by omega]
      repeat (refine ⟨by omega, ?_⟩)
      exact (by first | exact q_at rfl (hQ) | exact (hQ))
    · have hb : (SGo S t o s j).testBit y = true := Classical.byContradiction fun q => by rw [if_neg q] at z; omega
      rw [if_pos hb] at eT
      rw [eT, if_pos rfl] at hQ
      exact (by first | exact q_at rfl (hQ) | exact (hQ))
  · intro k hk ih
    have l := lt64 k (by omega)
    have cx := hc (k : Int) j (by omega) (by omega) hj
    have g1 := X.2.2.1 (3 * (k : Int) + (j : Int)) (by omega) (by omega)
    have g2 := X.2.2.2 (3 * (k : Int) + (j : Int)) (by omega) (by omega)
    have hm3 : (k : Int) * 3 = 3 * (k : Int) := Int.mul_comm _ _
    have e3 : (3 : Int) + (k : Int) = ((3 + k : Nat) : Int) := by omega
    have tb : (s / 8).testBit k = s.testBit (3 + k) := tb_div (k := 3)
    obtain ⟨y, hy⟩ := Int.eq_ofNat_of_zero_le cx.1
    refine b_S_followSign_15 ?_
    simp (disch := omega) only [ok_27 V.1, cr_27_0 V, ok_13 V.1, cr_13_0 V, cr_13_1 V, X.1, w32_id, hm3, e3, bit_n, g1, g2, g4, hy, or_bit, true_and]
    refine ⟨fun z => by omega, fun _ => ?_⟩
    have skip : ¬ ((s / 8).testBit k && decide (o (3 * (k : Int) + (j : Int)) = o (3 * ((s % 8 : Nat) : Int) + (j : Int)))) = true → orA (fun x => (s / 8).testBit x && decide (o (3 * (x : Int) + (j : Int)) = o (3 * ((s % 8 : Nat) : Int) + (j : Int)))) (fun x => (t (3 * (x : Int) + (j : Int))).toNat) (k + 1) = orA (fun x => (s / 8).testBit x && decide (o (3 * (x : Int) + (j : Int)) = o (3 * ((s % 8 : Nat) : Int) + (j : Int)))) (fun x => (t (3 * (x : Int) + (j : Int))).toNat) k := fun q => by
      show (if _ then _ else _) = _
      rw [if_neg q]
    refine ⟨fun z => ?_, fun z => ?_⟩
    · have hb : ¬ s.testBit (3 + k) = true := fun q => by rw [if_pos q] at z; exact z rfl
      rw [skip (by rw [tb]; simp [hb])] at ih
      exact ih
    · have hb : s.testBit (3 + k) = true := Classical.byContradiction fun q => by rw [if_neg q] at z; omega
      repeat (refine ⟨by omega, ?_⟩)
      refine ⟨fun z2 => ?_, fun z2 => ?_⟩
      · rw [skip (by rw [Bool.and_eq_true, decide_eq_true_eq]; exact fun q => z2 q.2)] at ih
        exact ih
      · repeat (refine ⟨by omega, ?_⟩)
        have e : orA (fun x => (s / 8).testBit x && decide (o (3 * (x : Int) + (j : Int)) = o (3 * ((s % 8 : Nat) : Int) + (j : Int)))) (fun x => (t (3 * (x : Int) + (j : Int))).toNat) (k + 1) = orA (fun x => (s / 8).testBit x && decide (o (3 * (x : Int) + (j : Int)) = o (3 * ((s % 8 : Nat) : Int) + (j : Int)))) (fun x => (t (3 * (x : Int) + (j : Int))).toNat) k ||| 2 ^ y := by
          show (if _ then _ else _) = _
          rw [if_pos (by show ((s / 8).testBit k && decide _) = true; rw [Bool.and_eq_true, decide_eq_true_eq, tb]; exact ⟨hb, z2⟩)]
          show _ ||| 2 ^ (t (3 * (k : Int) + (j : Int))).toNat = _
          rw [hy]; rfl
        rw [e] at ih
        exact ih
end
