-- deps: 18 19 20 21 22 23 24 25 26 27 28 29 30 31 32 33 34 35 36 9S 9T 9W 9X
/-! the class reads a text's lines: what each of them tells -/
theorem rowL_ap {f g : Int → Int} {L : List Nat} {v : Nat} (H : rowL f 0 L) (e : ∀ j : Int, j < (L.length : Int) → g j = f j) (ev : g (L.length : Int) = (v : Int)) : rowL g 0 (L ++ [v]) := fun j w hj => by
  rcases Nat.lt_or_ge j L.length with q | q
  · rw [List.getElem?_append_left q] at hj
    rw [e _ (by omega)]
    exact H j w hj
  · rw [List.getElem?_append_right q] at hj
    have j0 : j - L.length = 0 := by have := (List.getElem?_eq_some_iff.mp hj).1; simp at this; omega
    rw [j0] at hj
    cases hj
    rw [show (0 : Int) + (j : Int) = (L.length : Int) by omega]; exact ev
theorem r24_f2 {f g k : Int → Int} (r : r24 g f) (e : k = g) : r24 k f := by rw [e]; exact r
theorem rowL_fn {f g : Int → Int} {b : Int} {L : List Nat} (H : rowL f b L) (e : g = f) : rowL g b L := by rw [e]; exact H
section
variable {Q : RP} {n : Nat} {hr h : HP} {T : Int → Int} {N : Nat} {d : Int} {s : DS}
abbrev CSd (d : Int) : List Int := [d + 1, d + 2, d + 3, d + 4]
abbrev PSd (d : Int) : List (Int × Int) := RWs ++ [(d, 4), (d, 5), (d, 6), (d, 7), (d, 8), (d, 9), (d, 10), (d, 11)]
abbrev PSo (d : Int) : List (Int × Int) := RPs ++ [(d, 4), (d, 5), (d, 6), (d, 7), (d, 8), (d, 9), (d, 10), (d, 11)]
theorem EX_o {h1 : HP} (e : EX [] RPs h h1) : EX (CSd d) (PSo d) h h1 := EX_le e (fun c hc => by cases hc) (fun p hp => Or.inl (List.mem_append_left _ hp))
theorem EX_W {h1 : HP} (e : EX [] RWs h h1) : EX (CSd d) (PSd d) h h1 := EX_le e (fun c hc => by cases hc) (fun p hp => Or.inl (List.mem_append_left _ hp))
/-- what comes of a line -/
def RdE (hr : HP) (n : Nat) (d : Int) (X : FR' (DS × Nat)) (h : HP) (Q : RP) : Prop := (∀ f p, X = .inl (f, p) → ∀ h1, EX (CSd d) (PSd d) h h1 → FTc f p h1 → Q (0, 0) n hr h1) ∧ ∀ v, X = .inr v → ∀ h1, EX (CSd d) (PSo d) h h1 → DFT d v.1 h1 → h1 1 6 = (v.2 : Int) → Q (0, 1) n hr h1
theorem sp_R_readState {a : Nat} (V : CW n hr) (hd : d = 3 ∨ d = 8) (rd : hr 1 1 = d) (O : dOK s) (D : DFT d s h) (P : TPc T h) (hN : N ≤ 700) (ha : a ≤ N) (t : RTk T N a h) (hQ : RdE hr n d (pSt T N s (tok T N a)) h Q) : f_R_readState [(2, 1)] n hr h Q := by
  obtain ⟨p0, p1, p2, p3, p4⟩ := prow_of V hd
  obtain ⟨t5, t6, t7, t8, t9⟩ := t
  have tb := tok_b (T := T) ha
  have OO := O
  obtain ⟨⟨o1, o2, o3, o4, o5⟩, -⟩ := O
  obtain ⟨hE, hK⟩ := hQ
  have d4 := D.1.1
  have d5 : h d 5 = ((dN s).length : Int) - (dM s : Int) := by have := D.1.2.1; omega
  apply e_R_readState
  simp only [ok_1 V.1, rd, p0, d4, d5, true_and]
  refine ⟨fun q => ⟨fun q2 => ?_, fun q2 => ?_⟩, fun q => ?_⟩
  · have el : (dN s).length = dM s := by omega
    refine sp_R_readNewName V hd rd OO D P hN tb.2.2.2.1 t5 t6 (fun f p e h1 e1 f1 => ⟨fun r => absurd rfl r, fun _ => ⟨(by first | exact Or.inl rfl | exact Or.inl trivial), ?_⟩⟩) fun v e h1 e1 c8 c6 => ⟨fun _ => ?_, fun r => absurd r (by decide)⟩
    · exact (by first | exact q_at rfl (hE f p (by unfold pSt; rw [if_neg (by omega), if_neg (by omega), e]; rfl) h1 (EX_W e1) f1) | exact (hE f p (by unfold pSt; rw [if_neg (by omega), if_neg (by omega), e]; rfl) h1 (EX_W e1) f1))
    · have D1 := DFT_W hd (RP_W e1) D
      have g4 := D1.1.1
      simp (disch := omega) only [ok_1 V.1, rd, p0, p1, g4, c8, up_oth, w32_id, true_and, or_true]
      repeat (refine ⟨by omega, ?_⟩)
      refine hK ((dN s ++ [v.1], dM s + 1, dJ s, dA s, dB s, dX s, dD s, dL s), v.2) (by unfold pSt; rw [if_neg (by omega), if_neg (by omega), e]; rfl) _ ?_ ⟨⟨?_, ?_, ?_⟩, ?_, ?_, ?_, ?_, ?_⟩ ?_
      · exact EX_upp (EX_upc (EX_o e1) (by simp)) (by simp)
      · rw [up_same]; show _ = ((dM s + 1 : Nat) : Int); omega
      · rw [up_same, up_oth (by omega), up_oth (by omega)]
        have := D1.1.2.1
        show _ = ((dN s ++ [v.1]).length : Int)
        rw [List.length_append, List.length_singleton]; omega
      · rw [up_oth (by omega), up_oth (by omega)]; exact D1.1.2.2
      · simp (disch := omega) only [up_oth]; exact D1.2.1
      · refine rowL_ap D1.2.2.1 (fun j hj => ?_) ?_
        · rw [up_oth (by omega), up_oth (by omega)]
        · rw [up_oth (by omega), el, up_same]
      · exact rowL_fn D1.2.2.2.1 (by funext j; rw [up_oth (by omega), up_oth (by omega)])
      · exact r24_f2 D1.2.2.2.2.1 (by funext j; rw [up_oth (by omega), up_oth (by omega)])
      · exact r24_f2 D1.2.2.2.2.2 (by funext j; rw [up_oth (by omega), up_oth (by omega)])
      · simp (disch := omega) only [up_oth]; exact c6
  · refine sp_R_wrong (f := 2) V t9 fun h2 e2 f2 => ⟨Or.inl rfl, (by first | exact q_at rfl (hE 2 _ (by unfold pSt; rw [if_neg (by omega), if_pos (by omega)]) h2 (EX_W e2) f2) | exact (hE 2 _ (by unfold pSt; rw [if_neg (by omega), if_pos (by omega)]) h2 (EX_W e2) f2))⟩
  · refine sp_R_wrong (f := 1) V t9 fun h2 e2 f2 => ⟨Or.inl rfl, (by first | exact q_at rfl (hE 1 _ (by unfold pSt; rw [if_pos (by omega)]) h2 (EX_W e2) f2) | exact (hE 1 _ (by unfold pSt; rw [if_pos (by omega)]) h2 (EX_W e2) f2))⟩
theorem sp_R_readInput {a : Nat} (V : CW n hr) (hd : d = 3 ∨ d = 8) (rd : hr 1 1 = d) (O : dOK s) (D : DFT d s h) (P : TPc T h) (hN : N ≤ 700) (ha : a ≤ N) (t : RTk T N a h) (hQ : RdE hr n d (pIp T N s (tok T N a)) h Q) : f_R_readInput [(2, 1)] n hr h Q := by
  obtain ⟨p0, p1, p2, p3, p4⟩ := prow_of V hd
  obtain ⟨t5, t6, t7, t8, t9⟩ := t
  have tb := tok_b (T := T) ha
  have OO := O
  obtain ⟨⟨o1, o2, o3, o4, o5⟩, -⟩ := O
  obtain ⟨hE, hK⟩ := hQ
  have d6 := D.1.2.2
  apply e_R_readInput
  simp only [ok_1 V.1, rd, p0, d6, true_and]
  refine ⟨fun q => ?_, fun q => ?_⟩
  · refine sp_R_readNewName V hd rd OO D P hN tb.2.2.2.1 t5 t6 (fun f p e h1 e1 f1 => ⟨fun r => absurd rfl r, fun _ => ⟨(by first | exact Or.inl rfl | exact Or.inl trivial), ?_⟩⟩) fun v e h1 e1 c8 c6 => ⟨fun _ => ?_, fun r => absurd r (by decide)⟩
    · exact (by first | exact q_at rfl (hE f p (by unfold pIp; rw [if_neg (by omega), e]; rfl) h1 (EX_W e1) f1) | exact (hE f p (by unfold pIp; rw [if_neg (by omega), e]; rfl) h1 (EX_W e1) f1))
    · have D1 := DFT_W hd (RP_W e1) D
      have g6 := D1.1.2.2
      simp (disch := omega) only [ok_1 V.1, rd, p0, p2, g6, c8, up_oth, w32_id, true_and, or_true]
      repeat (refine ⟨by omega, ?_⟩)
      refine hK ((dN s, dM s, dJ s ++ [v.1], dA s, dB s, dX s, dD s, dL s), v.2) (by unfold pIp; rw [if_neg (by omega), e]; rfl) _ ?_ ⟨⟨?_, ?_, ?_⟩, ?_, ?_, ?_, ?_, ?_⟩ ?_
      · exact EX_upp (EX_upc (EX_o e1) (by simp)) (by simp)
      · rw [up_oth (by omega), up_oth (by omega)]; exact D1.1.1
      · rw [up_oth (by omega), up_oth (by omega), up_oth (by omega), up_oth (by omega)]; exact D1.1.2.1
      · rw [up_same]
        show _ = ((dJ s ++ [v.1]).length : Int)
        rw [List.length_append, List.length_singleton]; omega
      · simp (disch := omega) only [up_oth]; exact D1.2.1
      · exact rowL_fn D1.2.2.1 (by funext j; rw [up_oth (by omega), up_oth (by omega)])
      · refine rowL_ap D1.2.2.2.1 (fun j hj => ?_) ?_
        · rw [up_oth (by omega), up_oth (by omega)]
        · rw [up_oth (by omega), up_same]
      · exact r24_f2 D1.2.2.2.2.1 (by funext j; rw [up_oth (by omega), up_oth (by omega)])
      · exact r24_f2 D1.2.2.2.2.2 (by funext j; rw [up_oth (by omega), up_oth (by omega)])
      · simp (disch := omega) only [up_oth]; exact c6
  · refine sp_R_wrong (f := 2) V t9 fun h2 e2 f2 => ⟨Or.inl rfl, (by first | exact q_at rfl (hE 2 _ (by unfold pIp; rw [if_pos (by omega)]) h2 (EX_W e2) f2) | exact (hE 2 _ (by unfold pIp; rw [if_pos (by omega)]) h2 (EX_W e2) f2))⟩
theorem sp_R_readMore {a : Nat} (V : CW n hr) (hd : d = 3 ∨ d = 8) (rd : hr 1 1 = d) (O : dOK s) (D : DFT d s h) (P : TPc T h) (hN : N ≤ 700) (ha : a ≤ N) (t : RTk T N a h) (hQ : RdE hr n d (pMo T N s (tok T N a)) h Q) : f_R_readMore [(2, 1)] n hr h Q := by
  obtain ⟨p0, p1, p2, p3, p4⟩ := prow_of V hd
  obtain ⟨t5, t6, t7, t8, t9⟩ := t
  have tb := tok_b (T := T) ha
  have OO := O
  obtain ⟨⟨o1, o2, o3, o4, o5⟩, -⟩ := O
  obtain ⟨hE, hK⟩ := hQ
  have d4 := D.1.1
  have d5 : h d 5 = ((dN s).length : Int) - (dM s : Int) := by have := D.1.2.1; omega
  apply e_R_readMore
  simp only [ok_1 V.1, rd, p0, d4, d5, true_and]
  refine ⟨fun q => ⟨fun q2 => ?_, fun q2 => ?_⟩, fun q => ?_⟩
  · refine sp_R_readNewName V hd rd OO D P hN tb.2.2.2.1 t5 t6 (fun f p e h1 e1 f1 => ⟨fun r => absurd rfl r, fun _ => ⟨(by first | exact Or.inl rfl | exact Or.inl trivial), ?_⟩⟩) fun v e h1 e1 c8 c6 => ⟨fun _ => ?_, fun r => absurd r (by decide)⟩
    · exact (by first | exact q_at rfl (hE f p (by unfold pMo; rw [if_neg (by omega), if_neg (by omega), e]; rfl) h1 (EX_W e1) f1) | exact (hE f p (by unfold pMo; rw [if_neg (by omega), if_neg (by omega), e]; rfl) h1 (EX_W e1) f1))
    · have D1 := DFT_W hd (RP_W e1) D
      have g4 := D1.1.1
      have g5 : h1 d 5 = ((dN s).length : Int) - (dM s : Int) := by have := D1.1.2.1; omega
      simp (disch := omega) only [ok_1 V.1, rd, p0, p1, g4, g5, c8, up_oth, w32_id, true_and, or_true]
      repeat (refine ⟨by omega, ?_⟩)
      refine hK ((dN s ++ [v.1], dM s, dJ s, dA s, dB s, dX s, dD s, dL s), v.2) (by unfold pMo; rw [if_neg (by omega), if_neg (by omega), e]; rfl) _ ?_ ⟨⟨?_, ?_, ?_⟩, ?_, ?_, ?_, ?_, ?_⟩ ?_
      · exact EX_upp (EX_upc (EX_o e1) (by simp)) (by simp)
      · rw [up_oth (by omega), up_oth (by omega)]; exact D1.1.1
      · rw [up_same, up_oth (by omega), up_oth (by omega)]
        show _ = ((dN s ++ [v.1]).length : Int)
        rw [List.length_append, List.length_singleton]; omega
      · rw [up_oth (by omega), up_oth (by omega)]; exact D1.1.2.2
      · simp (disch := omega) only [up_oth]; exact D1.2.1
      · refine rowL_ap D1.2.2.1 (fun j hj => ?_) ?_
        · rw [up_oth (by omega), up_oth (by omega)]
        · have el : (dM s : Int) + (((dN s).length : Int) - (dM s : Int)) = ((dN s).length : Int) := by omega
          rw [up_oth (by omega), el, up_same]
      · exact rowL_fn D1.2.2.2.1 (by funext j; rw [up_oth (by omega), up_oth (by omega)])
      · exact r24_f2 D1.2.2.2.2.1 (by funext j; rw [up_oth (by omega), up_oth (by omega)])
      · exact r24_f2 D1.2.2.2.2.2 (by funext j; rw [up_oth (by omega), up_oth (by omega)])
      · simp (disch := omega) only [up_oth]; exact c6
  · refine sp_R_wrong (f := 2) V t9 fun h2 e2 f2 => ⟨Or.inl rfl, (by first | exact q_at rfl (hE 2 _ (by unfold pMo; rw [if_neg (by omega), if_pos (by omega)]) h2 (EX_W e2) f2) | exact (hE 2 _ (by unfold pMo; rw [if_neg (by omega), if_pos (by omega)]) h2 (EX_W e2) f2))⟩
  · refine sp_R_wrong (f := 1) V t9 fun h2 e2 f2 => ⟨Or.inl rfl, (by first | exact q_at rfl (hE 1 _ (by unfold pMo; rw [if_pos (by omega)]) h2 (EX_W e2) f2) | exact (hE 1 _ (by unfold pMo; rw [if_pos (by omega)]) h2 (EX_W e2) f2))⟩
theorem sp_R_readExtra {a : Nat} (V : CW n hr) (hd : d = 3 ∨ d = 8) (rd : hr 1 1 = d) (O : dOK s) (D : DFT d s h) (P : TPc T h) (hN : N ≤ 700) (ha : a ≤ N) (t : RTk T N a h) (hQ : RdE hr n d (pEx T N s (tok T N a)) h Q) : f_R_readExtra [(2, 1)] n hr h Q := by
  obtain ⟨p0, p1, p2, p3, p4⟩ := prow_of V hd
  obtain ⟨t5, t6, t7, t8, t9⟩ := t
  have tb := tok_b (T := T) ha
  obtain ⟨hE, hK⟩ := hQ
  have d10 := D.2.1.2.2.2.1
  apply e_R_readExtra
  simp only [ok_1 V.1, rd, p0, d10, true_and]
  refine ⟨fun q => ?_, fun q => ?_⟩
  · have z : dX s = 0 := Classical.byContradiction fun y => by rw [if_neg y] at q; omega
    refine sp_R_readNumber (m := 2) V P hN tb.2.2.2.1 t5 t6 (fun f p e h1 e1 f1 => ⟨fun r => absurd rfl r, fun _ => ⟨(by first | exact Or.inl rfl | exact Or.inl trivial), ?_⟩⟩) fun v e h1 e1 c8 c6 => ⟨fun _ => ?_, fun r => absurd r (by decide)⟩
    · exact (by first | exact q_at rfl (hE f p (by unfold pEx; rw [if_neg (fun y => y z), e]; rfl) h1 (EX_W e1) f1) | exact (hE f p (by unfold pEx; rw [if_neg (fun y => y z), e]; rfl) h1 (EX_W e1) f1))
    · have D1 := DFT_W hd (RP_W e1) D
      simp (disch := omega) only [ok_1 V.1, rd, p0, c8, up_oth, true_and, or_true]
      have nz : ¬ (v.1 : Int) + 1 = 0 := by omega
      refine q_at rfl (hK ((dN s, dM s, dJ s, dA s, dB s, (v.1 : Int) + 1, dD s, dL s), v.2) (by unfold pEx; rw [if_neg (fun y => y z), e]; rfl) _ ?_ ⟨⟨?_, ?_, ?_⟩, ⟨?_, ?_, ?_, ?_, ?_⟩, ?_, ?_, ?_, ?_⟩ ?_)
      · exact EX_upp (EX_upp (EX_o e1) (by simp)) (by simp)
      · simp (disch := omega) only [up_oth]; exact D1.1.1
      · simp (disch := omega) only [up_oth]; exact D1.1.2.1
      · simp (disch := omega) only [up_oth]; exact D1.1.2.2
      · rw [up_same]
        show _ = if (v.1 : Int) + 1 = 0 then 0 else (v.1 : Int) + 1 - 1
        rw [if_neg nz]; omega
      · simp (disch := omega) only [up_oth]; exact D1.2.1.2.1
      · simp (disch := omega) only [up_oth]; exact D1.2.1.2.2.1
      · rw [up_oth (by omega), up_same]
        show _ = if (v.1 : Int) + 1 = 0 then 0 else 1
        rw [if_neg nz]
      · simp (disch := omega) only [up_oth]; exact D1.2.1.2.2.2.2
      · exact rowL_fn D1.2.2.1 (by funext j; rw [up_oth (by omega), up_oth (by omega)])
      · exact rowL_fn D1.2.2.2.1 (by funext j; rw [up_oth (by omega), up_oth (by omega)])
      · exact r24_f2 D1.2.2.2.2.1 (by funext j; rw [up_oth (by omega), up_oth (by omega)])
      · exact r24_f2 D1.2.2.2.2.2 (by funext j; rw [up_oth (by omega), up_oth (by omega)])
      · simp (disch := omega) only [up_oth]; exact c6
  · have z : dX s ≠ 0 := fun y => q (if_pos y)
    refine sp_R_wrong (f := 3) V t9 fun h2 e2 f2 => ⟨Or.inl rfl, (by first | exact q_at rfl (hE 3 _ (by unfold pEx; rw [if_pos z]) h2 (EX_W e2) f2) | exact (hE 3 _ (by unfold pEx; rw [if_pos z]) h2 (EX_W e2) f2))⟩
theorem sp_R_readSeed {a : Nat} (V : CW n hr) (hd : d = 3 ∨ d = 8) (rd : hr 1 1 = d) (O : dOK s) (D : DFT d s h) (P : TPc T h) (hN : N ≤ 700) (ha : a ≤ N) (t : RTk T N a h) (hQ : RdE hr n d (pSe T N s (tok T N a)) h Q) : f_R_readSeed [(2, 1)] n hr h Q := by
  obtain ⟨p0, p1, p2, p3, p4⟩ := prow_of V hd
  obtain ⟨t5, t6, t7, t8, t9⟩ := t
  have tb := tok_b (T := T) ha
  obtain ⟨hE, hK⟩ := hQ
  have d11 := D.2.1.2.2.2.2
  apply e_R_readSeed
  simp only [ok_1 V.1, rd, p0, d11, true_and]
  refine ⟨fun q => ?_, fun q => ?_⟩
  · have z : dD s = 0 := Classical.byContradiction fun y => by rw [if_neg y] at q; omega
    refine sp_R_readNumber (m := 99999) V P hN tb.2.2.2.1 t5 t6 (fun f p e h1 e1 f1 => ⟨fun r => absurd rfl r, fun _ => ⟨(by first | exact Or.inl rfl | exact Or.inl trivial), ?_⟩⟩) fun v e h1 e1 c8 c6 => ⟨fun _ => ?_, fun r => absurd r (by decide)⟩
    · exact (by first | exact q_at rfl (hE f p (by unfold pSe; rw [if_neg (fun y => y z), e]; rfl) h1 (EX_W e1) f1) | exact (hE f p (by unfold pSe; rw [if_neg (fun y => y z), e]; rfl) h1 (EX_W e1) f1))
    · have D1 := DFT_W hd (RP_W e1) D
      simp (disch := omega) only [ok_1 V.1, rd, p0, c8, up_oth, true_and, or_true]
      have nz : ¬ (v.1 : Int) + 1 = 0 := by omega
      refine q_at rfl (hK ((dN s, dM s, dJ s, dA s, dB s, dX s, (v.1 : Int) + 1, dL s), v.2) (by unfold pSe; rw [if_neg (fun y => y z), e]; rfl) _ ?_ ⟨⟨?_, ?_, ?_⟩, ⟨?_, ?_, ?_, ?_, ?_⟩, ?_, ?_, ?_, ?_⟩ ?_)
      · exact EX_upp (EX_upp (EX_o e1) (by simp)) (by simp)
      · simp (disch := omega) only [up_oth]; exact D1.1.1
      · simp (disch := omega) only [up_oth]; exact D1.1.2.1
      · simp (disch := omega) only [up_oth]; exact D1.1.2.2
      · simp (disch := omega) only [up_oth]; exact D1.2.1.1
      · rw [up_same]
        show _ = if (v.1 : Int) + 1 = 0 then 0 else (v.1 : Int) + 1 - 1
        rw [if_neg nz]; omega
      · simp (disch := omega) only [up_oth]; exact D1.2.1.2.2.1
      · simp (disch := omega) only [up_oth]; exact D1.2.1.2.2.2.1
      · rw [up_oth (by omega), up_same]
        show _ = if (v.1 : Int) + 1 = 0 then 0 else 1
        rw [if_neg nz]
      · exact rowL_fn D1.2.2.1 (by funext j; rw [up_oth (by omega), up_oth (by omega)])
      · exact rowL_fn D1.2.2.2.1 (by funext j; rw [up_oth (by omega), up_oth (by omega)])
      · exact r24_f2 D1.2.2.2.2.1 (by funext j; rw [up_oth (by omega), up_oth (by omega)])
      · exact r24_f2 D1.2.2.2.2.2 (by funext j; rw [up_oth (by omega), up_oth (by omega)])
      · simp (disch := omega) only [up_oth]; exact c6
  · have z : dD s ≠ 0 := fun y => q (if_pos y)
    refine sp_R_wrong (f := 3) V t9 fun h2 e2 f2 => ⟨Or.inl rfl, (by first | exact q_at rfl (hE 3 _ (by unfold pSe; rw [if_pos z]) h2 (EX_W e2) f2) | exact (hE 3 _ (by unfold pSe; rw [if_pos z]) h2 (EX_W e2) f2))⟩
/-- an arc that is told; x is the row that holds such -/
theorem sp_R_readArc {a c : Nat} {g : Int → Int} {x : Int} (V : CW n hr) (hd : d = 3 ∨ d = 8) (rd : hr 1 1 = d) (hx : x = d + 3 ∨ x = d + 4) (O : dOK s) (D : DFT d s h) (r : r24 (h x) g) (gO : rOK g c (dJ s).length) (hc : c ≤ 8) (P : TPc T h) (hN : N ≤ 700) (ha : a ≤ N) (a5 : h 1 5 = (N : Int)) (a6 : h 1 6 = (a : Int)) (hE : ∀ f p, pArc T N s c g a = .inl (f, p) → ∀ h1, EX [] RWs h h1 → FTc f p h1 → Q (0, 0) n hr h1) (hK : ∀ v, pArc T N s c g a = .inr v → ∀ h1 h2, EX [] RPs h h1 → h2 = ai_up h1 x (v.1 : Int) (v.2.1 : Int) → h2 1 6 = (v.2.2 : Int) → Q (0, 1) n hr h2) : f_R_readArc [(2, 1), (2, x), (0, (c : Int))] n hr h Q := by
  obtain ⟨p0, p1, p2, p3, p4⟩ := prow_of V hd
  have okx : ai_ok n x 50 ∧ ai_l x = 24 := by
    rcases hx with z | z
    · rw [z]; exact p3.2
    · rw [z]; exact p4.2
  have OO := O
  obtain ⟨⟨o1, o2, o3, o4, o5⟩, -⟩ := O
  apply e_R_readArc
  refine ⟨ok_1 V.1, sp_R_readPlace V hd rd OO D P hN ha a5 a6 (fun f p e h1 e1 f1 => ⟨fun q => absurd q (by decide), fun _ => ⟨Or.inl rfl, ?_⟩⟩) fun f ef h1 e1 c9 c6 => ⟨fun _ => ⟨ok_1 V.1, ?_⟩, fun q => by dsimp only at q; omega⟩⟩
  · exact (by first | exact q_at rfl (hE f p (by unfold pArc; rw [e]; rfl) h1 e1 f1) | exact (hE f p (by unfold pArc; rw [e]; rfl) h1 e1 f1))
  have bf := pPl_r ha ef
  have D1 := DFT_W hd (RP_W e1) D
  have q5 : h1 1 5 = (N : Int) := by rw [e1 1 5 (by decide) (by decide)]; exact a5
  refine sp_R_readKnownInput V hd rd OO D1 (TPc_fr P (EX_fn e1 (by decide) (by decide))) hN bf.2.2.2 q5 c6 (fun f2 p e h2 e2 f3 => ⟨fun q => absurd q (by decide), fun _ => ⟨Or.inl rfl, ?_⟩⟩) fun i ei h2 e2 k9 k6 => ⟨fun _ => ?_, fun q => by dsimp only at q; omega⟩
  · exact (by first | exact q_at rfl (hE f2 p (by unfold pArc; rw [ef, sb_r, e]; rfl) h2 (EX_tr (RP_W e1) e2) f3) | exact (hE f2 p (by unfold pArc; rw [ef, sb_r, e]; rfl) h2 (EX_tr (RP_W e1) e2) f3))
  have bi := pIn_r bf.2.2.2 ei
  have E2 := EX_tr e1 e2
  have D2 := DFT_W hd (RP_W E2) D
  have arc : w32 (w32 ((f.1 : Int) * 3) + (i.1 : Int)) = ((3 * f.1 + i.1 : Nat) : Int) := by rw [w32_id (x := (f.1 : Int) * 3) (by omega) (by omega), w32_id (by omega) (by omega)]; omega
  have gx : h2 x ((3 * f.1 + i.1 : Nat) : Int) = g ((3 * f.1 + i.1 : Nat) : Int) := by
    rw [EX_fn E2 (c := x) (by simp) (by simp; omega)]; exact r _ (by omega) (by omega)
  dsimp only
  rw [arc, gx, okx.2]
  refine ⟨okx.1, by omega, by omega, fun q => ⟨ok_1 V.1, ?_⟩, fun q => ⟨ok_1 V.1, ?_⟩⟩
  · have q5 : h2 1 5 = (N : Int) := by rw [E2 1 5 (by decide) (by decide)]; exact a5
    refine sp_R_readPlace V hd rd OO D2 (TPc_fr P (EX_fn E2 (by decide) (by decide))) hN bi.2.2 q5 k6 (fun f2 p e h3 e3 f3 => ⟨fun _ => ⟨Or.inl rfl, ?_⟩, fun q => absurd q (by decide)⟩) fun t et h3 e3 l9 l6 => ⟨fun q => by dsimp only at q; omega, fun _ => ⟨ok_1 V.1, ?_⟩⟩
    · exact (by first | exact q_at rfl (hE f2 p (by unfold pArc; rw [ef, sb_r, ei, sb_r, if_pos q, e]; rfl) h3 (EX_tr (RP_W E2) e3) f3) | exact (hE f2 p (by unfold pArc; rw [ef, sb_r, ei, sb_r, if_pos q, e]; rfl) h3 (EX_tr (RP_W E2) e3) f3))
    have bt := pPl_r bi.2.2 et
    have E3 := EX_tr E2 e3
    have q5 : h3 1 5 = (N : Int) := by rw [E3 1 5 (by decide) (by decide)]; exact a5
    refine sp_R_readNumber (m := 9) V (TPc_fr P (EX_fn E3 (by decide) (by decide))) hN bt.2.2.2 q5 l6 (fun f2 p e h4 e4 f3 => ⟨fun q => absurd rfl q, fun _ => ⟨Or.inl rfl, ?_⟩⟩) fun v ev h4 e4 m8 m6 => ⟨fun _ => ?_, fun q => absurd q (by decide)⟩
    · exact (by first | exact q_at rfl (hE f2 p (by unfold pArc; rw [ef, sb_r, ei, sb_r, if_pos q, et, sb_r, e]; rfl) h4 (EX_tr (RP_W E3) e4) f3) | exact (hE f2 p (by unfold pArc; rw [ef, sb_r, ei, sb_r, if_pos q, et, sb_r, e]; rfl) h4 (EX_tr (RP_W E3) e4) f3))
    have bv := pNum_r bt.2.2.2 ev
    have val : i_or (i_shl (t.1 : Int) 4) (v.1 : Int) = ((16 * t.1 + v.1 : Nat) : Int) := by
      rw [shl_4 (by omega) (by omega), show (t.1 : Int) * 16 = ((t.1 * 2 ^ 4 : Nat) : Int) by omega, or_add (by omega) (by omega)]; omega
    rw [m8, val]
    refine ⟨ok_1 V.1, okx.1, by omega, by omega, Or.inr rfl, q_at rfl (hK (3 * f.1 + i.1, 16 * t.1 + v.1, v.2) (by unfold pArc; rw [ef, sb_r, ei, sb_r, if_pos q, et, sb_r, ev]; rfl) h4 _ (EX_tr E3 e4) rfl ?_)⟩
    rw [up_oth (by omega)]; exact m6
  · refine sp_R_wrong (f := 3) V k9 fun h3 e3 f3 => ⟨Or.inl rfl, (by first | exact q_at rfl (hE 3 _ (by unfold pArc; rw [ef, sb_r, ei, sb_r, if_neg q]) h3 (EX_tr (RP_W E2) e3) f3) | exact (hE 3 _ (by unfold pArc; rw [ef, sb_r, ei, sb_r, if_neg q]) h3 (EX_tr (RP_W E2) e3) f3))⟩
end
