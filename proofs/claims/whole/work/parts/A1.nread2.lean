-- deps: 18 19 20 21 22 23 24 25 26 27 28 29 30 31 32 33 34 35 36 9S 9T 9U 9V 9W 9X 9Y A0
/-! the reference reads a text's lines: what each of them tells -/
section
variable {Q : RP} {n : Nat} {hr h : HP} {T : Int → Int} {N : Nat} {s : DS}
abbrev NRp : List (Int × Int) := (138, 10) :: (138, 11) :: NQp
/-- what was told before stays -/
def fxRn (h h1 : HP) : Prop := EX [140, 141, 142, 143, 144, 145, 146] NRp h h1 ∧ (∀ j : Int, j < 5 → h1 140 j = h 140 j) ∧ (∀ j : Int, j < 8 → h1 141 j = h 141 j) ∧ (∀ j : Int, j < 3 → h1 142 j = h 142 j) ∧ (∀ j : Int, j < 18 → h1 143 j = h 143 j ∧ h1 144 j = h 144 j) ∧ ∀ j : Int, j < 24 → h1 145 j = h 145 j ∧ h1 146 j = h 146 j
theorem fxRn_tr {h1 h2 : HP} (a : fxRn h h1) (b : fxRn h1 h2) : fxRn h h2 := ⟨EX_tr a.1 b.1, fun j hj => (b.2.1 j hj).trans (a.2.1 j hj), fun j hj => (b.2.2.1 j hj).trans (a.2.2.1 j hj), fun j hj => (b.2.2.2.1 j hj).trans (a.2.2.2.1 j hj), fun j hj => ⟨(b.2.2.2.2.1 j hj).1.trans (a.2.2.2.2.1 j hj).1, (b.2.2.2.2.1 j hj).2.trans (a.2.2.2.2.1 j hj).2⟩, fun j hj => ⟨(b.2.2.2.2.2 j hj).1.trans (a.2.2.2.2.2 j hj).1, (b.2.2.2.2.2 j hj).2.trans (a.2.2.2.2.2 j hj).2⟩⟩
theorem fxRn_E {h1 : HP} (e : EX [] NRp h h1) : fxRn h h1 := by
  have k : ∀ c : Int, 140 ≤ c → h1 c = h c := fun c c1 => EX_fn e (by simp) (by simp; omega)
  refine ⟨EX_le e (by decide) (by decide), ?_, ?_, ?_, ?_, ?_⟩ <;> intro j _ <;> simp only [k _ (show (140 : Int) ≤ 140 by decide), k _ (show (140 : Int) ≤ 141 by decide), k _ (show (140 : Int) ≤ 142 by decide), k _ (show (140 : Int) ≤ 143 by decide), k _ (show (140 : Int) ≤ 144 by decide), k _ (show (140 : Int) ≤ 145 by decide), k _ (show (140 : Int) ≤ 146 by decide), and_self]
theorem fxRn_Q {h1 : HP} (e : EX [] NQp h h1) : fxRn h h1 := fxRn_E (EX_le e (by decide) (by decide))
theorem fxRn_P {h1 : HP} (e : EX [] NPp h h1) : fxRn h h1 := fxRn_E (EX_le e (by decide) (by decide))
theorem fxRn_u {c i v : Int} (hc : (c = 140 ∧ 5 ≤ i) ∨ (c = 141 ∧ 8 ≤ i) ∨ (c = 142 ∧ 3 ≤ i) ∨ ((c = 143 ∨ c = 144) ∧ 18 ≤ i) ∨ ((c = 145 ∨ c = 146) ∧ 24 ≤ i) ∨ (c = 138 ∧ i = 10)) : fxRn h (ai_up h c i v) := by
  refine ⟨?_, fun j hj => up_oth (by omega), fun j hj => up_oth (by omega), fun j hj => up_oth (by omega), fun j hj => ⟨up_oth (by omega), up_oth (by omega)⟩, fun j hj => ⟨up_oth (by omega), up_oth (by omega)⟩⟩
  by_cases z : c = 138
  · have : i = 10 := by omega
    subst z; subst this
    exact EX_upp EX_rf (by decide)
  · exact EX_upc EX_rf (by simp only [List.mem_cons, List.not_mem_nil, or_false]; omega)
def RdN (hr : HP) (n : Nat) (T : Int → Int) (N : Nat) (X : FR' (DS × Nat)) (h : HP) (Q : RP) : Prop := (∀ f p, X = .inl (f, p) → ∀ h1, fxRn h h1 → FTn f p h1 → Q (9, 0) n hr h1) ∧ ∀ v, X = .inr v → ∀ h1, fxRn h h1 → NDr v.1 h1 → NTk T N v.2 h1 → Q (9, 0) n hr h1
theorem sp_N_readState {a : Nat} (W : NW n hr) (O : dOK s) (D : NDr s h) (P : TPn T h) (hN : N ≤ 700) (ha : a ≤ N) (t : NTk T N a h) (hQ : RdN hr n T N (pSt T N s (tok T N a)) h Q) : f_N_readState [(2, 138)] n hr h Q := by
  obtain ⟨hE, hK⟩ := hQ
  have tb := tok_b (T := T) ha
  have OO := O
  obtain ⟨⟨o1, o2, o3, o4, o5⟩, -⟩ := O
  have d0 := D.1.1
  have d2 : h 140 7 = ((dN s).length : Int) - (dM s : Int) := by have := D.1.2.1; omega
  apply e_N_readState
  refine ⟨n0 W, sp_N_reading W (by omega) ?_⟩
  show (h 140 7 ≤ 0 → _) ∧ (0 < h 140 7 → _)
  rw [d2]
  refine ⟨fun q => ⟨n0 W, sp_N_reading W (by omega) ?_⟩, fun q => ⟨n0 W, ?_⟩⟩
  · show (h 140 5 ≠ 6 → _) ∧ (h 140 5 = 6 → _)
    rw [d0]
    have el : (dN s).length = dM s := by omega
    refine ⟨fun q2 => ⟨n0 W, ?_⟩, fun q2 => ⟨n0 W, ?_⟩⟩
    · refine NTk_go W P hN ha t fun h1 e1 t1 => ⟨n0 W, ?_⟩
      have D1 := ND_Q (NQ_P e1) D
      refine sp_N_fresh W OO D1 (TPn_Q (NQ_P e1) P) hN tb.2.2.2.1 t1 (fun f p e h2 e2 f2 => ⟨n0 W, fun y => absurd y (FTn_z f2), fun _ => ?_⟩) fun v e h2 e2 t2 => ⟨n0 W, fun _ => ⟨n0 W, n0 W, sp_N_readPlaces W ?_⟩, fun y => absurd t2.2.2 y⟩
      · exact (by first | exact q_at rfl (hE f p (by unfold pSt; rw [if_neg (by omega), if_neg (by omega), e]; rfl) h2 (fxRn_Q (EX_tr (NQ_P e1) e2)) f2) | exact (hE f p (by unfold pSt; rw [if_neg (by omega), if_neg (by omega), e]; rfl) h2 (fxRn_Q (EX_tr (NQ_P e1) e2)) f2))
      · have D2 := ND_Q (NQ_P e2) D1
        have eP : w32 (h2 140 5 + h2 140 7) = (dM s : Int) := by rw [D2.1.2.1, el, w32_id (by omega) (by omega)]
        dsimp only
        rw [eP]
        simp (disch := omega) only [n0 W, nr_3 W, nr_4 W, D2.1.1, up_oth, w32_id, true_and]
        refine ⟨by omega, by omega, by omega, by omega, by omega, by omega, ?_⟩
        refine q_at rfl (hK ((dN s ++ [v.1], dM s + 1, dJ s, dA s, dB s, dX s, dD s, dL s), v.2) (by unfold pSt; rw [if_neg (by omega), if_neg (by omega), e]; rfl) _ (fxRn_tr (fxRn_P (EX_tr e1 e2)) (fxRn_tr (fxRn_u (Or.inr (Or.inl ⟨rfl, by omega⟩))) (fxRn_u (Or.inl ⟨rfl, by omega⟩)))) ⟨⟨?_, ?_, ?_⟩, ⟨?_, ?_, ?_⟩, ?_, ?_, ?_, ?_⟩ ⟨?_, ?_, ?_⟩)
        · rw [up_same]; show _ = ((dM s + 1 : Nat) : Int); omega
        · rw [up_same, up_oth (by omega), up_oth (by omega)]
          have := D2.1.2.1
          have := D2.1.1
          show _ = ((dN s ++ [v.1]).length : Int)
          rw [List.length_append, List.length_singleton]; omega
        · rw [up_oth (by omega), up_oth (by omega)]; exact D2.1.2.2
        · rw [up_oth (by omega), up_oth (by omega)]; exact D2.2.1.1
        · rw [up_oth (by omega), up_oth (by omega)]; exact D2.2.1.2.1
        · rw [up_oth (by omega), up_oth (by omega)]; exact D2.2.1.2.2
        · intro j w hj
          rw [up_oth (by omega)]
          rcases Nat.lt_or_ge j (dN s).length with g | g
          · have hj' : (dN s ++ [v.1])[j]? = some w := hj
            rw [List.getElem?_append_left g] at hj'
            rw [up_oth (by omega)]
            exact D2.2.2.1 j w hj'
          · have hj' : (dN s ++ [v.1])[j]? = some w := hj
            rw [List.getElem?_append_right g] at hj'
            have j0 : j - (dN s).length = 0 := by have := (List.getElem?_eq_some_iff.mp hj').1; simp at this; omega
            rw [j0] at hj'
            cases hj'
            rw [show (8 : Int) + (j : Int) = 8 + (dM s : Int) by omega, up_same]
        · exact rowL_fn D2.2.2.2.1 (by funext j; rw [up_oth (by omega), up_oth (by omega)])
        · exact NRow_fr D2.2.2.2.2.1 (by funext j; rw [up_oth (by omega), up_oth (by omega)]) (by funext j; rw [up_oth (by omega), up_oth (by omega)])
        · exact NRow_fr D2.2.2.2.2.2 (by funext j; rw [up_oth (by omega), up_oth (by omega)]) (by funext j; rw [up_oth (by omega), up_oth (by omega)])
        · rw [up_oth (by omega), up_oth (by omega)]; exact t2.1
        · unfold NTs
          simp (disch := omega) only [up_oth]
          exact t2.2.1
        · rw [up_oth (by omega), up_oth (by omega)]; exact t2.2.2
    · refine sp_N_wrong (f := 2) W t.2.2 t.2.1.2.1 (by decide) fun h1 e1 f1 => ⟨n0 W, sp_N_goOn_f W (FTn_z f1) ⟨n0 W, sp_N_fresh_f W (FTn_z f1) ⟨n0 W, fun y => absurd y (FTn_z f1), fun _ => ?_⟩⟩⟩
      exact (by first | exact q_at rfl (hE 2 _ (by unfold pSt; rw [if_neg (by omega), if_pos (by omega)]) h1 (fxRn_Q e1) f1) | exact (hE 2 _ (by unfold pSt; rw [if_neg (by omega), if_pos (by omega)]) h1 (fxRn_Q e1) f1))
  · refine sp_N_wrong (f := 1) W t.2.2 t.2.1.2.1 (by decide) fun h1 e1 f1 => ⟨n0 W, sp_N_goOn_f W (FTn_z f1) ⟨n0 W, sp_N_fresh_f W (FTn_z f1) ⟨n0 W, fun y => absurd y (FTn_z f1), fun _ => ?_⟩⟩⟩
    exact (by first | exact q_at rfl (hE 1 _ (by unfold pSt; rw [if_pos (by omega)]) h1 (fxRn_Q e1) f1) | exact (hE 1 _ (by unfold pSt; rw [if_pos (by omega)]) h1 (fxRn_Q e1) f1))
theorem sp_N_readInput {a : Nat} (W : NW n hr) (O : dOK s) (D : NDr s h) (P : TPn T h) (hN : N ≤ 700) (ha : a ≤ N) (t : NTk T N a h) (hQ : RdN hr n T N (pIp T N s (tok T N a)) h Q) : f_N_readInput [(2, 138)] n hr h Q := by
  obtain ⟨hE, hK⟩ := hQ
  have tb := tok_b (T := T) ha
  have OO := O
  obtain ⟨⟨o1, o2, o3, o4, o5⟩, -⟩ := O
  have d1 := D.1.2.2
  apply e_N_readInput
  refine ⟨n0 W, sp_N_reading W (by omega) ?_⟩
  show (h 140 6 ≠ 3 → _) ∧ (h 140 6 = 3 → _)
  rw [d1]
  refine ⟨fun q => ⟨n0 W, ?_⟩, fun q => ⟨n0 W, ?_⟩⟩
  · refine NTk_go W P hN ha t fun h1 e1 t1 => ⟨n0 W, ?_⟩
    have D1 := ND_Q (NQ_P e1) D
    refine sp_N_fresh W OO D1 (TPn_Q (NQ_P e1) P) hN tb.2.2.2.1 t1 (fun f p e h2 e2 f2 => ⟨n0 W, fun y => absurd y (FTn_z f2), fun _ => ?_⟩) fun v e h2 e2 t2 => ⟨n0 W, fun _ => ⟨n0 W, n0 W, sp_N_reading W (by omega) ?_⟩, fun y => absurd t2.2.2 y⟩
    · exact (by first | exact q_at rfl (hE f p (by unfold pIp; rw [if_neg (by omega), e]; rfl) h2 (fxRn_Q (EX_tr (NQ_P e1) e2)) f2) | exact (hE f p (by unfold pIp; rw [if_neg (by omega), e]; rfl) h2 (fxRn_Q (EX_tr (NQ_P e1) e2)) f2))
    · have D2 := ND_Q (NQ_P e2) D1
      dsimp only
      have e6 : h2 140 (5 + 1) = ((dJ s).length : Int) := D2.1.2.2
      have e6' := D2.1.2.2
      simp (disch := omega) only [n0 W, nr_3 W, nr_5 W, e6, e6', up_oth, w32_id, true_and]
      refine ⟨by omega, by omega, by omega, by omega, by omega, by omega, ?_⟩
      refine q_at rfl (hK ((dN s, dM s, dJ s ++ [v.1], dA s, dB s, dX s, dD s, dL s), v.2) (by unfold pIp; rw [if_neg (by omega), e]; rfl) _ (fxRn_tr (fxRn_P (EX_tr e1 e2)) (fxRn_tr (fxRn_u (Or.inr (Or.inr (Or.inl ⟨rfl, by omega⟩)))) (fxRn_u (Or.inl ⟨rfl, by omega⟩)))) ⟨⟨?_, ?_, ?_⟩, ⟨?_, ?_, ?_⟩, ?_, ?_, ?_, ?_⟩ ⟨?_, ?_, ?_⟩)
      · rw [up_oth (by omega), up_oth (by omega)]; exact D2.1.1
      · rw [up_oth (by omega), up_oth (by omega), up_oth (by omega), up_oth (by omega)]; exact D2.1.2.1
      · rw [up_same]
        show _ = ((dJ s ++ [v.1]).length : Int)
        rw [List.length_append, List.length_singleton]; omega
      · rw [up_oth (by omega), up_oth (by omega)]; exact D2.2.1.1
      · rw [up_oth (by omega), up_oth (by omega)]; exact D2.2.1.2.1
      · rw [up_oth (by omega), up_oth (by omega)]; exact D2.2.1.2.2
      · exact rowL_fn D2.2.2.1 (by funext j; rw [up_oth (by omega), up_oth (by omega)])
      · intro j w hj
        rw [up_oth (by omega)]
        have hj' : (dJ s ++ [v.1])[j]? = some w := hj
        rcases Nat.lt_or_ge j (dJ s).length with g | g
        · rw [List.getElem?_append_left g] at hj'
          rw [up_oth (by omega)]
          exact D2.2.2.2.1 j w hj'
        · rw [List.getElem?_append_right g] at hj'
          have j0 : j - (dJ s).length = 0 := by have := (List.getElem?_eq_some_iff.mp hj').1; simp at this; omega
          rw [j0] at hj'
          cases hj'
          rw [show (3 : Int) + (j : Int) = 3 + ((dJ s).length : Int) by omega, up_same]
      · exact NRow_fr D2.2.2.2.2.1 (by funext j; rw [up_oth (by omega), up_oth (by omega)]) (by funext j; rw [up_oth (by omega), up_oth (by omega)])
      · exact NRow_fr D2.2.2.2.2.2 (by funext j; rw [up_oth (by omega), up_oth (by omega)]) (by funext j; rw [up_oth (by omega), up_oth (by omega)])
      · rw [up_oth (by omega), up_oth (by omega)]; exact t2.1
      · unfold NTs
        simp (disch := omega) only [up_oth]
        exact t2.2.1
      · rw [up_oth (by omega), up_oth (by omega)]; exact t2.2.2
  · refine sp_N_wrong (f := 2) W t.2.2 t.2.1.2.1 (by decide) fun h1 e1 f1 => ⟨n0 W, sp_N_goOn_f W (FTn_z f1) ⟨n0 W, sp_N_fresh_f W (FTn_z f1) ⟨n0 W, fun y => absurd y (FTn_z f1), fun _ => ?_⟩⟩⟩
    exact (by first | exact q_at rfl (hE 2 _ (by unfold pIp; rw [if_pos (by omega)]) h1 (fxRn_Q e1) f1) | exact (hE 2 _ (by unfold pIp; rw [if_pos (by omega)]) h1 (fxRn_Q e1) f1))
theorem sp_N_readMore {a : Nat} (W : NW n hr) (O : dOK s) (D : NDr s h) (P : TPn T h) (hN : N ≤ 700) (ha : a ≤ N) (t : NTk T N a h) (hQ : RdN hr n T N (pMo T N s (tok T N a)) h Q) : f_N_readMore [(2, 138)] n hr h Q := by
  obtain ⟨hE, hK⟩ := hQ
  have tb := tok_b (T := T) ha
  have OO := O
  obtain ⟨⟨o1, o2, o3, o4, o5⟩, -⟩ := O
  have d0 := D.1.1
  have d2 : h 140 7 = ((dN s).length : Int) - (dM s : Int) := by have := D.1.2.1; omega
  apply e_N_readMore
  refine ⟨n0 W, sp_N_reading W (by omega) ?_⟩
  show (h 140 5 ≠ 0 → _) ∧ (h 140 5 = 0 → _)
  rw [d0]
  refine ⟨fun q => ⟨n0 W, sp_N_reading W (by omega) ?_⟩, fun q => ⟨n0 W, ?_⟩⟩
  · show (h 140 7 ≠ 2 → _) ∧ (h 140 7 = 2 → _)
    rw [d2]
    refine ⟨fun q2 => ⟨n0 W, ?_⟩, fun q2 => ⟨n0 W, ?_⟩⟩
    · refine NTk_go W P hN ha t fun h1 e1 t1 => ⟨n0 W, ?_⟩
      have D1 := ND_Q (NQ_P e1) D
      refine sp_N_fresh W OO D1 (TPn_Q (NQ_P e1) P) hN tb.2.2.2.1 t1 (fun f p e h2 e2 f2 => ⟨n0 W, fun y => absurd y (FTn_z f2), fun _ => ?_⟩) fun v e h2 e2 t2 => ⟨n0 W, fun _ => ⟨n0 W, n0 W, sp_N_readPlaces W ?_⟩, fun y => absurd t2.2.2 y⟩
      · exact (by first | exact q_at rfl (hE f p (by unfold pMo; rw [if_neg (by omega), if_neg (by omega), e]; rfl) h2 (fxRn_Q (EX_tr (NQ_P e1) e2)) f2) | exact (hE f p (by unfold pMo; rw [if_neg (by omega), if_neg (by omega), e]; rfl) h2 (fxRn_Q (EX_tr (NQ_P e1) e2)) f2))
      · have D2 := ND_Q (NQ_P e2) D1
        have eP : w32 (h2 140 5 + h2 140 7) = ((dN s).length : Int) := by rw [D2.1.2.1, w32_id (by omega) (by omega)]
        have e7 : h2 140 7 = ((dN s).length : Int) - (dM s : Int) := by have := D2.1.2.1; have := D2.1.1; omega
        dsimp only
        rw [eP]
        simp (disch := omega) only [n0 W, nr_3 W, nr_4 W, e7, up_oth, w32_id, true_and]
        refine ⟨by omega, by omega, by omega, by omega, by omega, by omega, ?_⟩
        refine q_at rfl (hK ((dN s ++ [v.1], dM s, dJ s, dA s, dB s, dX s, dD s, dL s), v.2) (by unfold pMo; rw [if_neg (by omega), if_neg (by omega), e]; rfl) _ (fxRn_tr (fxRn_P (EX_tr e1 e2)) (fxRn_tr (fxRn_u (Or.inr (Or.inl ⟨rfl, by omega⟩))) (fxRn_u (Or.inl ⟨rfl, by omega⟩)))) ⟨⟨?_, ?_, ?_⟩, ⟨?_, ?_, ?_⟩, ?_, ?_, ?_, ?_⟩ ⟨?_, ?_, ?_⟩)
        · rw [up_oth (by omega), up_oth (by omega)]; exact D2.1.1
        · rw [up_same, up_oth (by omega), up_oth (by omega)]
          have := D2.1.1
          show _ = ((dN s ++ [v.1]).length : Int)
          rw [List.length_append, List.length_singleton]; omega
        · rw [up_oth (by omega), up_oth (by omega)]; exact D2.1.2.2
        · rw [up_oth (by omega), up_oth (by omega)]; exact D2.2.1.1
        · rw [up_oth (by omega), up_oth (by omega)]; exact D2.2.1.2.1
        · rw [up_oth (by omega), up_oth (by omega)]; exact D2.2.1.2.2
        · intro j w hj
          rw [up_oth (by omega)]
          have hj' : (dN s ++ [v.1])[j]? = some w := hj
          rcases Nat.lt_or_ge j (dN s).length with g | g
          · rw [List.getElem?_append_left g] at hj'
            rw [up_oth (by omega)]
            exact D2.2.2.1 j w hj'
          · rw [List.getElem?_append_right g] at hj'
            have j0 : j - (dN s).length = 0 := by have := (List.getElem?_eq_some_iff.mp hj').1; simp at this; omega
            rw [j0] at hj'
            cases hj'
            rw [show (8 : Int) + (j : Int) = 8 + ((dN s).length : Int) by omega, up_same]
        · exact rowL_fn D2.2.2.2.1 (by funext j; rw [up_oth (by omega), up_oth (by omega)])
        · exact NRow_fr D2.2.2.2.2.1 (by funext j; rw [up_oth (by omega), up_oth (by omega)]) (by funext j; rw [up_oth (by omega), up_oth (by omega)])
        · exact NRow_fr D2.2.2.2.2.2 (by funext j; rw [up_oth (by omega), up_oth (by omega)]) (by funext j; rw [up_oth (by omega), up_oth (by omega)])
        · rw [up_oth (by omega), up_oth (by omega)]; exact t2.1
        · unfold NTs
          simp (disch := omega) only [up_oth]
          exact t2.2.1
        · rw [up_oth (by omega), up_oth (by omega)]; exact t2.2.2
    · refine sp_N_wrong (f := 2) W t.2.2 t.2.1.2.1 (by decide) fun h1 e1 f1 => ⟨n0 W, sp_N_goOn_f W (FTn_z f1) ⟨n0 W, sp_N_fresh_f W (FTn_z f1) ⟨n0 W, fun y => absurd y (FTn_z f1), fun _ => ?_⟩⟩⟩
      exact (by first | exact q_at rfl (hE 2 _ (by unfold pMo; rw [if_neg (by omega), if_pos (by omega)]) h1 (fxRn_Q e1) f1) | exact (hE 2 _ (by unfold pMo; rw [if_neg (by omega), if_pos (by omega)]) h1 (fxRn_Q e1) f1))
  · refine sp_N_wrong (f := 1) W t.2.2 t.2.1.2.1 (by decide) fun h1 e1 f1 => ⟨n0 W, sp_N_goOn_f W (FTn_z f1) ⟨n0 W, sp_N_fresh_f W (FTn_z f1) ⟨n0 W, fun y => absurd y (FTn_z f1), fun _ => ?_⟩⟩⟩
    exact (by first | exact q_at rfl (hE 1 _ (by unfold pMo; rw [if_pos (by omega)]) h1 (fxRn_Q e1) f1) | exact (hE 1 _ (by unfold pMo; rw [if_pos (by omega)]) h1 (fxRn_Q e1) f1))
/-- a number that is told once; k is where it stands -/
theorem sp_N_readOnce {a m : Nat} {k x : Int} (W : NW n hr) (D : NDr s h) (P : TPn T h) (hN : N ≤ 700) (ha : a ≤ N) (hm : m ≤ 99999) (t : NTk T N a h) (hk : k = 3 ∨ k = 4) (ex : h 140 (5 + k) = x) (hE1 : x ≠ 0 → ∀ h1, fxRn h h1 → FTn 3 (tok T N a).2.2.1 h1 → Q (9, 0) n hr h1) (hE : x = 0 → ∀ f p, pNum T N m (tok T N a).2.2.2 = .inl (f, p) → ∀ h1, fxRn h h1 → FTn f p h1 → Q (9, 0) n hr h1) (hK : x = 0 → ∀ v, pNum T N m (tok T N a).2.2.2 = .inr v → ∀ h1 h2, EX [] NPp h h1 → NTk T N v.2 h1 → h2 = ai_up h1 140 (5 + k) ((v.1 : Int) + 1) → Q (9, 0) n hr h2) : f_N_readOnce [(2, 138), (0, k), (0, (m : Int))] n hr h Q := by
  have tb := tok_b (T := T) ha
  have ek : w32 (5 + k) = 5 + k := w32_id (by omega) (by omega)
  apply e_N_readOnce
  refine ⟨n0 W, sp_N_reading W (by omega) ?_⟩
  dsimp only
  rw [ex, ek]
  refine ⟨fun q => ⟨n0 W, ?_⟩, fun q => ⟨n0 W, ?_⟩⟩
  · refine NTk_go W P hN ha t fun h1 e1 t1 => ⟨n0 W, ?_⟩
    refine sp_N_numeral W (TPn_Q (NQ_P e1) P) hN tb.2.2.2.1 t1 (fun f p e h2 e2 f2 => ?_) fun v e h2 e2 t2 => ?_
    · simp only [n0 W, nr_3 W, true_and]
      refine ⟨by omega, by omega, q_at rfl (hE q f p e _ (fxRn_tr (fxRn_Q (EX_tr (NQ_P e1) e2)) (fxRn_u (Or.inl ⟨rfl, by omega⟩))) ⟨?_, f2.2.1, ?_⟩)⟩
      · rw [up_oth (by omega)]; exact f2.1
      · rw [up_oth (by omega)]; exact f2.2.2
    · have bv := pNum_r tb.2.2.2.1 e
      simp only [n0 W, nr_3 W, true_and]
      refine ⟨by omega, by omega, q_at rfl (hK q v e h2 _ (EX_tr e1 e2) t2 ?_)⟩
      rw [w32_id (by omega) (by omega)]
  · refine sp_N_wrong (f := 3) W t.2.2 t.2.1.2.1 (by decide) fun h1 e1 f1 => ⟨n0 W, sp_N_goOn_f W (FTn_z f1) ⟨n0 W, sp_N_numeral_f W (FTn_z f1) ?_⟩⟩
    simp only [n0 W, nr_3 W, true_and]
    refine ⟨by omega, by omega, q_at rfl (hE1 q _ (fxRn_tr (fxRn_Q e1) (fxRn_u (Or.inl ⟨rfl, by omega⟩))) ⟨?_, f1.2.1, ?_⟩)⟩
    · rw [up_oth (by omega)]; exact f1.1
    · rw [up_oth (by omega)]; exact f1.2.2
theorem ND_X {h1 h2 : HP} {v : Int} (D : NDr s h) (e1 : EX [] NPp h h1) (e2 : h2 = ai_up h1 140 8 v) : NDr (dN s, dM s, dJ s, dA s, dB s, v, dD s, dL s) h2 := by
  have D1 := ND_Q (NQ_P e1) D
  subst e2
  refine ⟨⟨?_, ?_, ?_⟩, ⟨?_, ?_, ?_⟩, ?_, ?_, ?_, ?_⟩
  · rw [up_oth (by omega)]; exact D1.1.1
  · rw [up_oth (by omega), up_oth (by omega)]; exact D1.1.2.1
  · rw [up_oth (by omega)]; exact D1.1.2.2
  · rw [up_same]; rfl
  · rw [up_oth (by omega)]; exact D1.2.1.2.1
  · rw [up_oth (by omega)]; exact D1.2.1.2.2
  · exact rowL_fn D1.2.2.1 (by funext j; rw [up_oth (by omega)])
  · exact rowL_fn D1.2.2.2.1 (by funext j; rw [up_oth (by omega)])
  · exact NRow_fr D1.2.2.2.2.1 (by funext j; rw [up_oth (by omega)]) (by funext j; rw [up_oth (by omega)])
  · exact NRow_fr D1.2.2.2.2.2 (by funext j; rw [up_oth (by omega)]) (by funext j; rw [up_oth (by omega)])
theorem ND_D {h1 h2 : HP} {v : Int} (D : NDr s h) (e1 : EX [] NPp h h1) (e2 : h2 = ai_up h1 140 9 v) : NDr (dN s, dM s, dJ s, dA s, dB s, dX s, v, dL s) h2 := by
  have D1 := ND_Q (NQ_P e1) D
  subst e2
  refine ⟨⟨?_, ?_, ?_⟩, ⟨?_, ?_, ?_⟩, ?_, ?_, ?_, ?_⟩
  · rw [up_oth (by omega)]; exact D1.1.1
  · rw [up_oth (by omega), up_oth (by omega)]; exact D1.1.2.1
  · rw [up_oth (by omega)]; exact D1.1.2.2
  · rw [up_oth (by omega)]; exact D1.2.1.1
  · rw [up_same]; rfl
  · rw [up_oth (by omega)]; exact D1.2.1.2.2
  · exact rowL_fn D1.2.2.1 (by funext j; rw [up_oth (by omega)])
  · exact rowL_fn D1.2.2.2.1 (by funext j; rw [up_oth (by omega)])
  · exact NRow_fr D1.2.2.2.2.1 (by funext j; rw [up_oth (by omega)]) (by funext j; rw [up_oth (by omega)])
  · exact NRow_fr D1.2.2.2.2.2 (by funext j; rw [up_oth (by omega)]) (by funext j; rw [up_oth (by omega)])
end
