-- deps: 18 19 20 21 22 23 24 25 26 27 28 29 30 31 32 33 34 35 36 9S 9T 9U 9V 9W 9X 9Y A0 A1
/-! the reference reads arcs, lines, a text -/
section
variable {Q : RP} {n : Nat} {hr h : HP} {T : Int → Int} {N : Nat} {s : DS}
/-- the rest of an arc, behind its input -/
def pArcR (T : Int → Int) (N : Nat) (s : DS) (c : Nat) (g : Int → Int) (f i p nx : Nat) : FR' (Nat × Nat × Nat) := if g ((3 * f + i : Nat) : Int) = -1 then sb (pPl T N s c nx) fun t => sb (pNum T N 9 t.2.2) fun v => .inr (3 * f + i, 16 * t.1 + v.1, v.2) else .inl (3, p)
theorem N_arc69f {b c cell : Int} (W : NW n hr) (z : h 138 16 ≠ 0) (hQ : Q (9, 0) n hr h) : p_N_readArc_69 (n + 0) (ai_q 0 n Q) 138 b c cell n hr h := by
  refine b_N_readArc_69 ⟨n0 W, fun _ => ⟨n0 W, sp_N_goOn_f W z ⟨n0 W, sp_N_atHand_f W z ⟨n0 W, sp_N_goOn_f W z ⟨n0 W, sp_N_numeral_f W z ⟨n0 W, fun q => absurd q z, fun _ => q_at rfl hQ⟩⟩⟩⟩⟩, fun q => absurd q z⟩
theorem N_arc69_0 {a c f i : Nat} {g : Int → Int} (W : NW n hr) (O : dOK s) (D : NDr s h) (P : TPn T h) (hN : N ≤ 700) (ha : a ≤ N) (t : NTk T N a h) (R : NRow 143 144 18 18 g h) (gO : rOK g c (dJ s).length) (hc : c ≤ (dN s).length) (hf : 3 * f + i < 18) (hE : ∀ f1 p, pArcR T N s c g f i (tok T N a).2.2.1 (tok T N a).2.2.2 = .inl (f1, p) → ∀ h1, EX [] NQp h h1 → FTn f1 p h1 → Q (9, 0) n hr h1) (hK : ∀ v, pArcR T N s c g f i (tok T N a).2.2.1 (tok T N a).2.2.2 = .inr v → ∀ h1 h2, EX [] NPp h h1 → NTk T N v.2.2 h1 → h2 = ai_up (ai_up h1 143 (18 + (v.1 : Int)) ((v.2.1 / 16 + 1 : Nat) : Int)) 144 (18 + (v.1 : Int)) ((v.2.1 % 16 : Nat) : Int) → Q (9, 0) n hr h2) : p_N_readArc_69 (n + 0) (ai_q 0 n Q) 138 0 (c : Int) (18 + ((3 * f + i : Nat) : Int)) n hr h := by
  have z := t.2.2
  have tb := tok_b (T := T) ha
  have OO := O
  obtain ⟨⟨o1, o2, o3, o4, o5⟩, -⟩ := O
  have Ra := R ((3 * f + i : Nat) : Int) (by omega) (by omega)
  have gb := gO ((3 * f + i : Nat) : Int) (by omega) (by omega)
  refine b_N_readArc_69 ⟨n0 W, fun q => absurd z q, fun _ => ⟨fun _ => ?_, fun q => absurd rfl q⟩⟩
  simp only [n0 W, nr_6 W, true_and]
  refine ⟨by omega, by omega, fun q => ?_, fun q => ?_⟩
  · have g1 : g ((3 * f + i : Nat) : Int) = -1 := Classical.byContradiction fun y => by have := (Ra.2 y).1; omega
    have eX : pArcR T N s c g f i (tok T N a).2.2.1 (tok T N a).2.2.2 = sb (pPl T N s c (tok T N a).2.2.2) fun t => sb (pNum T N 9 t.2.2) fun v => .inr (3 * f + i, 16 * t.1 + v.1, v.2) := if_pos g1
    rw [eX] at hE hK
    refine NTk_go W P hN ha t fun h1 e1 t1 => ⟨n0 W, ?_⟩
    have D1 := ND_Q (NQ_P e1) D
    refine sp_N_atHand1 W OO D1 hN hc t1 (fun f1 p e h2 e2 f2 => ⟨n0 W, sp_N_goOn_f W (FTn_z f2) ⟨n0 W, sp_N_numeral_f W (FTn_z f2) ⟨n0 W, fun y => absurd y (FTn_z f2), fun _ => ?_⟩⟩⟩) fun v e ep ex => ⟨n0 W, ?_⟩
    · exact (by first | exact q_at rfl (hE f1 p (by rw [e]; rfl) h2 (EX_tr (NQ_P e1) e2) f2) | exact (hE f1 p (by rw [e]; rfl) h2 (EX_tr (NQ_P e1) e2) f2))
    have bv := pPl_r tb.2.2.2.1 e
    refine NTk_go W (TPn_Q (NQ_P e1) P) hN tb.2.2.2.1 t1 fun h2 e2 t2 => ⟨n0 W, ?_⟩
    rw [← ex] at t2
    refine sp_N_numeral (m := 9) W (TPn_Q (NQ_P (EX_tr e1 e2)) P) hN bv.2.2.2 t2 (fun f1 p e3 h3 e4 f2 => ⟨n0 W, fun y => absurd y (FTn_z f2), fun _ => ?_⟩) fun w ew h3 e3 t3 => ⟨n0 W, fun _ => ⟨fun _ => ?_, fun q => absurd rfl q⟩, fun y => absurd t3.2.2 y⟩
    · exact (by first | exact q_at rfl (hE f1 p (by rw [e, sb_r, e3]; rfl) h3 (EX_tr (NQ_P (EX_tr e1 e2)) e4) f2) | exact (hE f1 p (by rw [e, sb_r, e3]; rfl) h3 (EX_tr (NQ_P (EX_tr e1 e2)) e4) f2))
    · have bw := pNum_r bv.2.2.2 ew
      simp only [n0 W, nr_6 W, nr_7 W, true_and]
      refine ⟨by omega, by omega, by omega, by omega, q_at rfl (hK (3 * f + i, 16 * v.1 + w.1, w.2) (by rw [e, sb_r, ew]; rfl) h3 _ (EX_tr (EX_tr e1 e2) e3) t3 ?_)⟩
      rw [w32_id (by omega) (by omega), show (16 * v.1 + w.1) / 16 = v.1 by omega, show (16 * v.1 + w.1) % 16 = w.1 by omega]
      rfl
  · have g1 : ¬ g ((3 * f + i : Nat) : Int) = -1 := fun y => q (Ra.1 y)
    refine sp_N_wrong (f := 3) W z t.2.1.2.1 (by decide) fun h1 e1 f1 => ⟨n0 W, sp_N_goOn_f W (FTn_z f1) ⟨n0 W, sp_N_atHand_f W (FTn_z f1) ⟨n0 W, sp_N_goOn_f W (FTn_z f1) ⟨n0 W, sp_N_numeral_f W (FTn_z f1) ⟨n0 W, fun y => absurd y (FTn_z f1), fun _ => ?_⟩⟩⟩⟩⟩
    exact (by first | exact q_at rfl (hE 3 _ (if_neg g1) h1 e1 f1) | exact (hE 3 _ (if_neg g1) h1 e1 f1))
theorem sp_N_readArc0 {a c : Nat} {g : Int → Int} (W : NW n hr) (O : dOK s) (D : NDr s h) (P : TPn T h) (hN : N ≤ 700) (ha : a ≤ N) (t : NTk T N a h) (R : NRow 143 144 18 18 g h) (gO : rOK g c (dJ s).length) (ec : c = dM s) (hE : ∀ f1 p, pArc T N s c g (tok T N a).2.2.2 = .inl (f1, p) → ∀ h1, EX [] NQp h h1 → FTn f1 p h1 → Q (9, 0) n hr h1) (hK : ∀ v, pArc T N s c g (tok T N a).2.2.2 = .inr v → ∀ h1 h2, EX [] NPp h h1 → NTk T N v.2.2 h1 → h2 = ai_up (ai_up h1 143 (18 + (v.1 : Int)) ((v.2.1 / 16 + 1 : Nat) : Int)) 144 (18 + (v.1 : Int)) ((v.2.1 % 16 : Nat) : Int) → Q (9, 0) n hr h2) : f_N_readArc [(2, 138), (0, 0)] n hr h Q := by
  have tb := tok_b (T := T) ha
  have OO := O
  obtain ⟨⟨o1, o2, o3, o4, o5⟩, -⟩ := O
  have hc : c ≤ (dN s).length := by omega
  apply e_N_readArc
  refine ⟨n0 W, NTk_go W P hN ha t fun h1 e1 t1 => ⟨fun _ => ⟨n0 W, sp_N_reading W (by omega) ?_⟩, fun q => absurd rfl q⟩⟩
  have D1 := ND_Q (NQ_P e1) D
  have P1 := TPn_Q (NQ_P e1) P
  dsimp only
  have ecc : h1 140 (5 + 0) = (c : Int) := by rw [ec]; exact D1.1.1
  rw [ecc]
  refine b_N_readArc_20 ⟨n0 W, sp_N_atHand1 W OO D1 hN hc t1 (fun f1 p e h2 e2 f2 => ⟨n0 W, sp_N_goOn_f W (FTn_z f2) ⟨n0 W, sp_N_reading W (by omega) ⟨n0 W, sp_N_atHand_f W (FTn_z f2) ⟨fun _ => ?_, fun q => absurd rfl q⟩⟩⟩⟩) fun v e ep ex => ⟨n0 W, ?_⟩⟩
  · exact N_arc69f W (FTn_z f2) (hE f1 p (by unfold pArc; rw [e]; rfl) h2 (EX_tr (NQ_P e1) e2) f2)
  have bv := pPl_r tb.2.2.2.1 e
  refine NTk_go W P1 hN tb.2.2.2.1 t1 fun h2 e2 t2 => ⟨n0 W, sp_N_reading W (by omega) ?_⟩
  rw [← ex] at t2
  have D2 := ND_Q (NQ_P e2) D1
  have P2 := TPn_Q (NQ_P e2) P1
  have d6 : h2 140 (5 + 1) = ((dJ s).length : Int) := D2.1.2.2
  dsimp only
  rw [d6]
  refine ⟨n0 W, sp_N_atHand0 W OO D2 hN t2 (fun f1 p e3 h3 e4 f2 => ⟨fun _ => ?_, fun q => absurd rfl q⟩) fun i ei ip ix => ⟨fun _ => ?_, fun q => absurd rfl q⟩⟩
  · exact N_arc69f W (FTn_z f2) (hE f1 p (by unfold pArc; rw [e, sb_r, e3]; rfl) h3 (EX_tr (NQ_P (EX_tr e1 e2)) e4) f2)
  have bi := pIn_r bv.2.2.2 ei
  have cell : w32 (w32 (18 + w32 (3 * (v.1 : Int))) + (i.1 : Int)) = 18 + ((3 * v.1 + i.1 : Nat) : Int) := by
    rw [w32_id (x := 3 * (v.1 : Int)) (by omega) (by omega), w32_id (x := 18 + 3 * (v.1 : Int)) (by omega) (by omega), w32_id (by omega) (by omega)]; omega
  rw [cell]
  have eA : pArc T N s c g (tok T N a).2.2.2 = pArcR T N s c g v.1 i.1 (tok T N v.2.2).2.2.1 (tok T N v.2.2).2.2.2 := by
    unfold pArc; rw [e, sb_r, ei, sb_r, ip, ix]; rfl
  rw [eA] at hE hK
  have E2 := EX_tr e1 e2
  refine N_arc69_0 W OO D2 P2 hN bv.2.2.2 t2 (NRow_fr R (EX_fn E2 (by decide) (by decide)) (EX_fn E2 (by decide) (by decide))) gO hc (by omega) (fun f1 p e3 h3 e4 f2 => hE f1 p e3 h3 (EX_tr (NQ_P E2) e4) f2) fun w ew h3 h4 e3 t3 e4 => hK w ew h3 h4 (EX_tr E2 e3) t3 e4
theorem N_arc69_1 {a c f i : Nat} {g : Int → Int} (W : NW n hr) (O : dOK s) (D : NDr s h) (P : TPn T h) (hN : N ≤ 700) (ha : a ≤ N) (t : NTk T N a h) (R : NRow 145 146 24 24 g h) (gO : rOK g c (dJ s).length) (hc : c ≤ (dN s).length) (hf : 3 * f + i < 24) (hE : ∀ f1 p, pArcR T N s c g f i (tok T N a).2.2.1 (tok T N a).2.2.2 = .inl (f1, p) → ∀ h1, EX [] NQp h h1 → FTn f1 p h1 → Q (9, 0) n hr h1) (hK : ∀ v, pArcR T N s c g f i (tok T N a).2.2.1 (tok T N a).2.2.2 = .inr v → ∀ h1 h2, EX [] NPp h h1 → NTk T N v.2.2 h1 → h2 = ai_up (ai_up h1 145 (24 + (v.1 : Int)) ((v.2.1 / 16 + 1 : Nat) : Int)) 146 (24 + (v.1 : Int)) ((v.2.1 % 16 : Nat) : Int) → Q (9, 0) n hr h2) : p_N_readArc_69 (n + 0) (ai_q 0 n Q) 138 1 (c : Int) (24 + ((3 * f + i : Nat) : Int)) n hr h := by
  have z := t.2.2
  have tb := tok_b (T := T) ha
  have OO := O
  obtain ⟨⟨o1, o2, o3, o4, o5⟩, -⟩ := O
  have Ra := R ((3 * f + i : Nat) : Int) (by omega) (by omega)
  have gb := gO ((3 * f + i : Nat) : Int) (by omega) (by omega)
  refine b_N_readArc_69 ⟨n0 W, fun q => absurd z q, fun _ => ⟨fun q => absurd q (by decide), fun _ => ?_⟩⟩
  simp only [n0 W, nr_8 W, true_and]
  refine ⟨by omega, by omega, fun q => ?_, fun q => ?_⟩
  · have g1 : g ((3 * f + i : Nat) : Int) = -1 := Classical.byContradiction fun y => by have := (Ra.2 y).1; omega
    have eX : pArcR T N s c g f i (tok T N a).2.2.1 (tok T N a).2.2.2 = sb (pPl T N s c (tok T N a).2.2.2) fun t => sb (pNum T N 9 t.2.2) fun v => .inr (3 * f + i, 16 * t.1 + v.1, v.2) := if_pos g1
    rw [eX] at hE hK
    refine NTk_go W P hN ha t fun h1 e1 t1 => ⟨n0 W, ?_⟩
    have D1 := ND_Q (NQ_P e1) D
    refine sp_N_atHand1 W OO D1 hN hc t1 (fun f1 p e h2 e2 f2 => ⟨n0 W, sp_N_goOn_f W (FTn_z f2) ⟨n0 W, sp_N_numeral_f W (FTn_z f2) ⟨n0 W, fun y => absurd y (FTn_z f2), fun _ => ?_⟩⟩⟩) fun v e ep ex => ⟨n0 W, ?_⟩
    · exact (by first | exact q_at rfl (hE f1 p (by rw [e]; rfl) h2 (EX_tr (NQ_P e1) e2) f2) | exact (hE f1 p (by rw [e]; rfl) h2 (EX_tr (NQ_P e1) e2) f2))
    have bv := pPl_r tb.2.2.2.1 e
    refine NTk_go W (TPn_Q (NQ_P e1) P) hN tb.2.2.2.1 t1 fun h2 e2 t2 => ⟨n0 W, ?_⟩
    rw [← ex] at t2
    refine sp_N_numeral (m := 9) W (TPn_Q (NQ_P (EX_tr e1 e2)) P) hN bv.2.2.2 t2 (fun f1 p e3 h3 e4 f2 => ⟨n0 W, fun y => absurd y (FTn_z f2), fun _ => ?_⟩) fun w ew h3 e3 t3 => ⟨n0 W, fun _ => ⟨fun q => absurd q (by decide), fun _ => ?_⟩, fun y => absurd t3.2.2 y⟩
    · exact (by first | exact q_at rfl (hE f1 p (by rw [e, sb_r, e3]; rfl) h3 (EX_tr (NQ_P (EX_tr e1 e2)) e4) f2) | exact (hE f1 p (by rw [e, sb_r, e3]; rfl) h3 (EX_tr (NQ_P (EX_tr e1 e2)) e4) f2))
    · have bw := pNum_r bv.2.2.2 ew
      simp only [n0 W, nr_8 W, nr_9 W, true_and]
      refine ⟨by omega, by omega, by omega, by omega, q_at rfl (hK (3 * f + i, 16 * v.1 + w.1, w.2) (by rw [e, sb_r, ew]; rfl) h3 _ (EX_tr (EX_tr e1 e2) e3) t3 ?_)⟩
      rw [w32_id (by omega) (by omega), show (16 * v.1 + w.1) / 16 = v.1 by omega, show (16 * v.1 + w.1) % 16 = w.1 by omega]
      rfl
  · have g1 : ¬ g ((3 * f + i : Nat) : Int) = -1 := fun y => q (Ra.1 y)
    refine sp_N_wrong (f := 3) W z t.2.1.2.1 (by decide) fun h1 e1 f1 => ⟨n0 W, sp_N_goOn_f W (FTn_z f1) ⟨n0 W, sp_N_atHand_f W (FTn_z f1) ⟨n0 W, sp_N_goOn_f W (FTn_z f1) ⟨n0 W, sp_N_numeral_f W (FTn_z f1) ⟨n0 W, fun y => absurd y (FTn_z f1), fun _ => ?_⟩⟩⟩⟩⟩
    exact (by first | exact q_at rfl (hE 3 _ (if_neg g1) h1 e1 f1) | exact (hE 3 _ (if_neg g1) h1 e1 f1))
theorem sp_N_readArc1 {a c : Nat} {g : Int → Int} (W : NW n hr) (O : dOK s) (D : NDr s h) (P : TPn T h) (hN : N ≤ 700) (ha : a ≤ N) (t : NTk T N a h) (R : NRow 145 146 24 24 g h) (gO : rOK g c (dJ s).length) (ec : c = (dN s).length) (hE : ∀ f1 p, pArc T N s c g (tok T N a).2.2.2 = .inl (f1, p) → ∀ h1, EX [] NQp h h1 → FTn f1 p h1 → Q (9, 0) n hr h1) (hK : ∀ v, pArc T N s c g (tok T N a).2.2.2 = .inr v → ∀ h1 h2, EX [] NPp h h1 → NTk T N v.2.2 h1 → h2 = ai_up (ai_up h1 145 (24 + (v.1 : Int)) ((v.2.1 / 16 + 1 : Nat) : Int)) 146 (24 + (v.1 : Int)) ((v.2.1 % 16 : Nat) : Int) → Q (9, 0) n hr h2) : f_N_readArc [(2, 138), (0, 1)] n hr h Q := by
  have tb := tok_b (T := T) ha
  have OO := O
  obtain ⟨⟨o1, o2, o3, o4, o5⟩, -⟩ := O
  have hc : c ≤ (dN s).length := by omega
  apply e_N_readArc
  refine ⟨n0 W, NTk_go W P hN ha t fun h1 e1 t1 => ⟨fun q => absurd q (by decide), fun _ => ⟨n0 W, sp_N_readPlaces W ?_⟩⟩⟩
  have D1 := ND_Q (NQ_P e1) D
  have P1 := TPn_Q (NQ_P e1) P
  dsimp only
  have ecc : w32 (h1 140 5 + h1 140 7) = (c : Int) := by rw [D1.1.2.1, w32_id (by omega) (by omega), ec]
  rw [ecc]
  refine b_N_readArc_20 ⟨n0 W, sp_N_atHand1 W OO D1 hN hc t1 (fun f1 p e h2 e2 f2 => ⟨n0 W, sp_N_goOn_f W (FTn_z f2) ⟨n0 W, sp_N_reading W (by omega) ⟨n0 W, sp_N_atHand_f W (FTn_z f2) ⟨fun q => absurd q (by decide), fun _ => ?_⟩⟩⟩⟩) fun v e ep ex => ⟨n0 W, ?_⟩⟩
  · exact N_arc69f W (FTn_z f2) (hE f1 p (by unfold pArc; rw [e]; rfl) h2 (EX_tr (NQ_P e1) e2) f2)
  have bv := pPl_r tb.2.2.2.1 e
  refine NTk_go W P1 hN tb.2.2.2.1 t1 fun h2 e2 t2 => ⟨n0 W, sp_N_reading W (by omega) ?_⟩
  rw [← ex] at t2
  have D2 := ND_Q (NQ_P e2) D1
  have P2 := TPn_Q (NQ_P e2) P1
  have d6 : h2 140 (5 + 1) = ((dJ s).length : Int) := D2.1.2.2
  dsimp only
  rw [d6]
  refine ⟨n0 W, sp_N_atHand0 W OO D2 hN t2 (fun f1 p e3 h3 e4 f2 => ⟨fun q => absurd q (by decide), fun _ => ?_⟩) fun i ei ip ix => ⟨fun q => absurd q (by decide), fun _ => ?_⟩⟩
  · exact N_arc69f W (FTn_z f2) (hE f1 p (by unfold pArc; rw [e, sb_r, e3]; rfl) h3 (EX_tr (NQ_P (EX_tr e1 e2)) e4) f2)
  have bi := pIn_r bv.2.2.2 ei
  have cell : w32 (w32 (24 + w32 (3 * (v.1 : Int))) + (i.1 : Int)) = 24 + ((3 * v.1 + i.1 : Nat) : Int) := by
    rw [w32_id (x := 3 * (v.1 : Int)) (by omega) (by omega), w32_id (x := 24 + 3 * (v.1 : Int)) (by omega) (by omega), w32_id (by omega) (by omega)]; omega
  rw [cell]
  have eA : pArc T N s c g (tok T N a).2.2.2 = pArcR T N s c g v.1 i.1 (tok T N v.2.2).2.2.1 (tok T N v.2.2).2.2.2 := by
    unfold pArc; rw [e, sb_r, ei, sb_r, ip, ix]; rfl
  rw [eA] at hE hK
  have E2 := EX_tr e1 e2
  refine N_arc69_1 W OO D2 P2 hN bv.2.2.2 t2 (NRow_fr R (EX_fn E2 (by decide) (by decide)) (EX_fn E2 (by decide) (by decide))) gO hc (by omega) (fun f1 p e3 h3 e4 f2 => hE f1 p e3 h3 (EX_tr (NQ_P E2) e4) f2) fun w ew h3 h4 e3 t3 e4 => hK w ew h3 h4 (EX_tr E2 e3) t3 e4
theorem ND_A {h1 h2 : HP} {v : Nat × Nat × Nat} (D : NDr s h) (e1 : EX [] NPp h h1) (hv : v.1 < 18) (e2 : h2 = ai_up (ai_up h1 143 (18 + (v.1 : Int)) ((v.2.1 / 16 + 1 : Nat) : Int)) 144 (18 + (v.1 : Int)) ((v.2.1 % 16 : Nat) : Int)) : fxRn h h2 ∧ NDr (dN s, dM s, dJ s, (fun b => if b = (v.1 : Int) then (v.2.1 : Int) else dA s b), dB s, dX s, dD s, dL s) h2 := by
  have D1 := ND_Q (NQ_P e1) D
  subst e2
  refine ⟨fxRn_tr (fxRn_P e1) (fxRn_tr (fxRn_u (Or.inr (Or.inr (Or.inr (Or.inl ⟨Or.inl rfl, by omega⟩))))) (fxRn_u (Or.inr (Or.inr (Or.inr (Or.inl ⟨Or.inr rfl, by omega⟩)))))), ⟨?_, ?_, ?_⟩, ⟨?_, ?_, ?_⟩, ?_, ?_, fun a a1 a2 => ?_, ?_⟩
  · rw [up_oth (by omega), up_oth (by omega)]; exact D1.1.1
  · rw [up_oth (by omega), up_oth (by omega), up_oth (by omega), up_oth (by omega)]; exact D1.1.2.1
  · rw [up_oth (by omega), up_oth (by omega)]; exact D1.1.2.2
  · rw [up_oth (by omega), up_oth (by omega)]; exact D1.2.1.1
  · rw [up_oth (by omega), up_oth (by omega)]; exact D1.2.1.2.1
  · rw [up_oth (by omega), up_oth (by omega)]; exact D1.2.1.2.2
  · exact rowL_fn D1.2.2.1 (by funext j; rw [up_oth (by omega), up_oth (by omega)])
  · exact rowL_fn D1.2.2.2.1 (by funext j; rw [up_oth (by omega), up_oth (by omega)])
  · show ((if a = (v.1 : Int) then (v.2.1 : Int) else dA s a) = -1 → _) ∧ ((if a = (v.1 : Int) then (v.2.1 : Int) else dA s a) ≠ -1 → _ = (if a = (v.1 : Int) then (v.2.1 : Int) else dA s a) / 16 + 1 ∧ _ = (if a = (v.1 : Int) then (v.2.1 : Int) else dA s a) % 16)
    by_cases z : a = (v.1 : Int)
    · rw [if_pos z, z]
      simp (disch := omega) only [up_oth, up_same]
      exact ⟨fun q => by omega, fun _ => by omega⟩
    · rw [if_neg z]
      simp (disch := omega) only [up_oth]
      exact D1.2.2.2.2.1 a a1 a2
  · exact NRow_fr D1.2.2.2.2.2 (by funext j; rw [up_oth (by omega), up_oth (by omega)]) (by funext j; rw [up_oth (by omega), up_oth (by omega)])
theorem ND_B {h1 h2 : HP} {v : Nat × Nat × Nat} (D : NDr s h) (e1 : EX [] NPp h h1) (hv : v.1 < 24) (e2 : h2 = ai_up (ai_up h1 145 (24 + (v.1 : Int)) ((v.2.1 / 16 + 1 : Nat) : Int)) 146 (24 + (v.1 : Int)) ((v.2.1 % 16 : Nat) : Int)) : fxRn h h2 ∧ NDr (dN s, dM s, dJ s, dA s, (fun b => if b = (v.1 : Int) then (v.2.1 : Int) else dB s b), dX s, dD s, dL s) h2 := by
  have D1 := ND_Q (NQ_P e1) D
  subst e2
  refine ⟨fxRn_tr (fxRn_P e1) (fxRn_tr (fxRn_u (Or.inr (Or.inr (Or.inr (Or.inr (Or.inl ⟨Or.inl rfl, by omega⟩)))))) (fxRn_u (Or.inr (Or.inr (Or.inr (Or.inr (Or.inl ⟨Or.inr rfl, by omega⟩))))))), ⟨?_, ?_, ?_⟩, ⟨?_, ?_, ?_⟩, ?_, ?_, ?_, fun a a1 a2 => ?_⟩
  · rw [up_oth (by omega), up_oth (by omega)]; exact D1.1.1
  · rw [up_oth (by omega), up_oth (by omega), up_oth (by omega), up_oth (by omega)]; exact D1.1.2.1
  · rw [up_oth (by omega), up_oth (by omega)]; exact D1.1.2.2
  · rw [up_oth (by omega), up_oth (by omega)]; exact D1.2.1.1
  · rw [up_oth (by omega), up_oth (by omega)]; exact D1.2.1.2.1
  · rw [up_oth (by omega), up_oth (by omega)]; exact D1.2.1.2.2
  · exact rowL_fn D1.2.2.1 (by funext j; rw [up_oth (by omega), up_oth (by omega)])
  · exact rowL_fn D1.2.2.2.1 (by funext j; rw [up_oth (by omega), up_oth (by omega)])
  · exact NRow_fr D1.2.2.2.2.1 (by funext j; rw [up_oth (by omega), up_oth (by omega)]) (by funext j; rw [up_oth (by omega), up_oth (by omega)])
  · show ((if a = (v.1 : Int) then (v.2.1 : Int) else dB s a) = -1 → _) ∧ ((if a = (v.1 : Int) then (v.2.1 : Int) else dB s a) ≠ -1 → _ = (if a = (v.1 : Int) then (v.2.1 : Int) else dB s a) / 16 + 1 ∧ _ = (if a = (v.1 : Int) then (v.2.1 : Int) else dB s a) % 16)
    by_cases z : a = (v.1 : Int)
    · rw [if_pos z, z]
      simp (disch := omega) only [up_oth, up_same]
      exact ⟨fun q => by omega, fun _ => by omega⟩
    · rw [if_neg z]
      simp (disch := omega) only [up_oth]
      exact D1.2.2.2.2.2 a a1 a2
theorem NTk_u {c i v : Int} {a : Nat} (hc : 139 ≤ c) (t : NTk T N a h) : NTk T N a (ai_up h c i v) := by
  unfold NTk NTs
  simp (disch := omega) only [up_oth]
  exact t
end
