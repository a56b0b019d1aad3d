-- deps: 18 19 20 21 22 23 24 25 26 27 28 29 30 31 32 33 34 35 36 9S 9U 9V 9W 9Y 9X 9T
/-! the reference reads a text's lines -/
theorem srt_1 (k : TK) : srtN k = 1 ↔ k.1 = 1 ∧ wi k.2.1 < 0 := by
  unfold srtN
  repeat (first | omega | split)
theorem srt_0 (k : TK) : srtN k = 0 ↔ k.1 = 1 ∧ 0 ≤ wi k.2.1 := by
  unfold srtN
  repeat (first | omega | split)
theorem srt_2 (k : TK) : srtN k = 2 ↔ k.1 = 2 := by
  unfold srtN
  repeat (first | omega | split)
theorem srt_3 (k : TK) : srtN k = 3 ↔ k.1 = 3 := by
  unfold srtN
  repeat (first | omega | split)
theorem srt_4 (k : TK) : srtN k = 4 ↔ k.1 = 0 := by
  unfold srtN
  repeat (first | omega | split)
section
variable {Q : RP} {n : Nat} {hr h : HP} {T : Int → Int} {N : Nat} {s : DS}
def FTn (f p : Nat) (h : HP) : Prop := h 138 16 = (f : Int) ∧ f ≠ 0 ∧ h 138 17 = (p : Int)
theorem FTn_z {f p : Nat} (H : FTn f p h) : h 138 16 ≠ 0 := by rw [H.1]; have := H.2.1; omega
abbrev NQp : List (Int × Int) := [(138, 12), (138, 13), (138, 14), (138, 15), (138, 16), (138, 17)]
theorem NQ_P {h1 : HP} (e : EX [] NPp h h1) : EX [] NQp h h1 := EX_le e (by decide) (by decide)
/-- a piece is at hand, no fault yet -/
def NTk (T : Int → Int) (N a : Nat) (h : HP) : Prop := h 138 11 = (N : Int) ∧ NTs (tok T N a) h ∧ h 138 16 = 0
theorem sp_N_wrong {f p : Nat} (W : NW n hr) (z : h 138 16 = 0) (c13 : h 138 13 = (p : Int)) (hf : f ≠ 0) (hQ : ∀ h1, EX [] NQp h h1 → FTn f p h1 → Q (9, 0) n hr h1) : f_N_wrong [(2, 138), (0, (f : Int))] n hr h Q := by
  apply e_N_wrong
  simp (disch := omega) only [n0 W, up_oth, c13, true_and]
  refine ⟨fun _ => q_at rfl (hQ _ (EX_upp (EX_upp EX_rf (by decide)) (by decide)) ⟨?_, hf, ?_⟩), fun q => absurd z q⟩
  · rw [up_oth (by omega), up_same]
  · rw [up_same]
theorem sp_N_goOn_f (W : NW n hr) (z : h 138 16 ≠ 0) (hQ : Q (9, 0) n hr h) : f_N_goOn [(2, 138)] n hr h Q := by
  apply e_N_goOn
  exact ⟨n0 W, fun _ => q_at rfl hQ, fun q => absurd q z⟩
theorem sp_N_goOn {a : Nat} (W : NW n hr) (P : TPn T h) (hN : N ≤ 700) (ha : a ≤ N) (z : h 138 16 = 0) (c11 : h 138 11 = (N : Int)) (c12 : h 138 12 = (a : Int)) (hQ : ∀ h1, EX [] NPp h h1 → NTk T N a h1 → Q (9, 0) n hr h1) : f_N_goOn [(2, 138)] n hr h Q := by
  apply e_N_goOn
  refine ⟨n0 W, fun q => absurd z q, fun _ => ⟨n0 W, sp_N_token W P hN ha c11 c12 fun h1 e1 t1 => q_at rfl (hQ h1 e1 ⟨?_, t1, ?_⟩)⟩⟩
  · rw [e1 138 11 (by decide) (by decide)]; exact c11
  · rw [e1 138 16 (by decide) (by decide)]; exact z
theorem NTk_go {a : Nat} {R : RP} (W : NW n hr) (P : TPn T h) (hN : N ≤ 700) (ha : a ≤ N) (t : NTk T N a h) (hQ : ∀ h1, EX [] NPp h h1 → NTk T N (tok T N a).2.2.2 h1 → R (9, 0) n hr h1) : f_N_goOn [(2, 138)] n hr h R := sp_N_goOn W P hN (tok_b ha).2.2.2.1 t.2.2 t.1 t.2.1.1 hQ
theorem sp_N_found {x b : Int} {v : Int} {L : List Nat} (ok : ai_ok n x 50) (hb : 0 ≤ b ∧ b + (L.length : Int) ≤ ai_l x) (hl : ai_l x ≤ 1000) (r : rowL (h x) b L) (hQ : Q (0, fnK L v 0) n hr h) : f_N_found [(2, x), (0, b), (0, (L.length : Int)), (0, v)] n hr h Q := by
  apply e_N_found
  have main := lupN (N := L.length) (P := fun k => fnK L v k = fnK L v 0 → p_N_found_3 (n + 0) (ai_q 0 n Q) x b (L.length : Int) v (k : Int) n hr h) ?_ ?_
  · exact main rfl
  · intro e
    refine b_N_found_3 ⟨fun _ => ?_, fun q => by omega⟩
    rw [fnK_e (Nat.le_refl _)] at e
    rw [← e] at hQ
    exact (by first | exact q_at rfl (hQ) | exact (hQ))
  · intro k hk ih e
    have hx := List.getElem?_eq_getElem hk
    generalize L[k] = y at hx
    have g := r k y hx
    refine b_N_found_3 ⟨fun q => by omega, fun _ => ?_⟩
    simp (disch := omega) only [ok, g, w32_id, true_and]
    repeat (refine ⟨by omega, ?_⟩)
    refine ⟨fun q => ih (by rw [← fnK_n hx q]; exact e), fun q => ?_⟩
    rw [fnK_y hx q] at e
    rw [← e] at hQ
    exact (by first | exact q_at rfl (hQ) | exact (hQ))
/-- an arc's row: next places one more (0: untold), outputs -/
def NRow (x y b m : Int) (g : Int → Int) (h : HP) : Prop := ∀ a : Int, 0 ≤ a → a < m → (g a = -1 → h x (b + a) = 0) ∧ (g a ≠ -1 → h x (b + a) = g a / 16 + 1 ∧ h y (b + a) = g a % 16)
theorem NRow_fr {x y b m : Int} {g : Int → Int} {h1 : HP} (H : NRow x y b m g h) (e1 : h1 x = h x) (e2 : h1 y = h y) : NRow x y b m g h1 := by unfold NRow; rw [e1, e2]; exact H
/-- what the reference has read -/
def NDr (s : DS) (h : HP) : Prop := (h 140 5 = (dM s : Int) ∧ h 140 5 + h 140 7 = ((dN s).length : Int) ∧ h 140 6 = ((dJ s).length : Int)) ∧ (h 140 8 = dX s ∧ h 140 9 = dD s ∧ h 138 10 = (dL s : Int)) ∧ rowL (h 141) 8 (dN s) ∧ rowL (h 142) 3 (dJ s) ∧ NRow 143 144 18 18 (dA s) h ∧ NRow 145 146 24 24 (dB s) h
theorem ND_fr {h1 : HP} (H : NDr s h) (e : ∀ c : Int, 140 ≤ c → c ≤ 146 → h1 c = h c) (l : h1 138 10 = h 138 10) : NDr s h1 := by
  unfold NDr NRow
  rw [e 140 (by decide) (by decide), e 141 (by decide) (by decide), e 142 (by decide) (by decide), e 143 (by decide) (by decide), e 144 (by decide) (by decide), e 145 (by decide) (by decide), e 146 (by decide) (by decide), l]
  exact H
theorem ND_Q {h1 : HP} (e : EX [] NQp h h1) (H : NDr s h) : NDr s h1 := ND_fr H (fun c c1 c2 => EX_fn e (by simp) (by simp; omega)) (e 138 10 (by decide) (by decide))
theorem TPn_Q {h1 : HP} (e : EX [] NQp h h1) (H : TPn T h) : TPn T h1 := TPn_fr H (EX_fn e (by decide) (by decide))
theorem sp_N_numeral_f {m : Int} (W : NW n hr) (z : h 138 16 ≠ 0) (hQ : Q (0, 0) n hr h) : f_N_numeral [(2, 138), (0, m)] n hr h Q := by
  apply e_N_numeral
  exact ⟨n0 W, fun q => absurd q z, fun _ => q_at rfl hQ⟩
theorem sp_N_numeral {a m : Nat} (W : NW n hr) (P : TPn T h) (hN : N ≤ 700) (ha : a ≤ N) (t : NTk T N a h) (hE : ∀ f p, pNum T N m a = .inl (f, p) → ∀ h1, EX [] NQp h h1 → FTn f p h1 → Q (0, 0) n hr h1) (hK : ∀ v, pNum T N m a = .inr v → ∀ h1, EX [] NPp h h1 → NTk T N v.2 h1 → Q (0, (v.1 : Int)) n hr h1) : f_N_numeral [(2, 138), (0, (m : Int))] n hr h Q := by
  have z := t.2.2
  have tt := t.2.1
  apply e_N_numeral
  refine ⟨n0 W, fun _ => ⟨n0 W, fun q => ?_, fun q => ⟨n0 W, ?_⟩⟩, fun q => absurd z q⟩
  · rw [tt.2.2.1, srt_2] at q
    have v15 : h 138 15 = ((tok T N a).2.1 : Int) := by rw [tt.2.2.2 (Or.inr q)]; unfold vln; rw [if_neg (by omega)]
    rw [v15]
    refine ⟨n0 W, fun q2 => ⟨n0 W, fun y => absurd z y, fun _ => ⟨n0 W, n0 W, ?_⟩⟩, fun q2 => ⟨n0 W, ?_⟩⟩
    · have e : pNum T N m a = .inr ((tok T N a).2.1, (tok T N a).2.2.2) := by unfold pNum; rw [if_pos q, if_pos (by omega)]
      exact NTk_go W P hN ha t fun h1 e1 t1 => (by first | exact q_at rfl (hK _ e h1 e1 t1) | exact (hK _ e h1 e1 t1))
    · refine sp_N_wrong (f := 2) W z tt.2.1 (by decide) fun h1 e1 f1 => ⟨n0 W, fun _ => ⟨n0 W, sp_N_goOn_f W (FTn_z f1) ?_⟩, fun y => absurd y (FTn_z f1)⟩
      exact (by first | exact q_at rfl (hE 2 _ (by unfold pNum; rw [if_pos q, if_neg (by omega)]) h1 e1 f1) | exact (hE 2 _ (by unfold pNum; rw [if_pos q, if_neg (by omega)]) h1 e1 f1))
  · rw [tt.2.2.1] at q
    have q' : ¬ (tok T N a).1 = 2 := fun y => q ((srt_2 _).mpr y)
    refine sp_N_wrong (f := 1) W z tt.2.1 (by decide) fun h1 e1 f1 => ⟨n0 W, fun _ => ⟨n0 W, sp_N_goOn_f W (FTn_z f1) ?_⟩, fun y => absurd y (FTn_z f1)⟩
    exact (by first | exact q_at rfl (hE 1 _ (by unfold pNum; rw [if_neg q']) h1 e1 f1) | exact (hE 1 _ (by unfold pNum; rw [if_neg q']) h1 e1 f1))
theorem sp_N_fresh_f (W : NW n hr) (z : h 138 16 ≠ 0) (hQ : Q (0, 0) n hr h) : f_N_fresh [(2, 138)] n hr h Q := by
  apply e_N_fresh
  exact ⟨n0 W, fun q => absurd q z, fun _ => q_at rfl hQ⟩
theorem sp_N_fresh {a : Nat} (W : NW n hr) (O : dOK s) (D : NDr s h) (P : TPn T h) (hN : N ≤ 700) (ha : a ≤ N) (t : NTk T N a h) (hE : ∀ f p, pNew T N s a = .inl (f, p) → ∀ h1, EX [] NQp h h1 → FTn f p h1 → Q (0, 0) n hr h1) (hK : ∀ v, pNew T N s a = .inr v → ∀ h1, EX [] NPp h h1 → NTk T N v.2 h1 → Q (0, (v.1 : Int)) n hr h1) : f_N_fresh [(2, 138)] n hr h Q := by
  obtain ⟨⟨o1, o2, o3, o4, o5⟩, -⟩ := O
  have z := t.2.2
  have tt := t.2.1
  have eP : w32 (h 140 5 + h 140 7) = ((dN s).length : Int) := by rw [D.1.2.1, w32_id (by omega) (by omega)]
  apply e_N_fresh
  refine ⟨n0 W, fun _ => ⟨n0 W, fun q => ⟨n0 W, n0 W, sp_N_readPlaces W ?_⟩, fun q => ⟨n0 W, ?_⟩⟩, fun q => absurd z q⟩
  · rw [tt.2.2.1, srt_1] at q
    have eN : pName T N a = .inr ((tok T N a).2.1, (tok T N a).2.2.1, (tok T N a).2.2.2) := if_pos q
    have v15 : h 138 15 = ((tok T N a).2.1 : Int) := by rw [tt.2.2.2 (Or.inl q.1)]; unfold vln; rw [if_neg (by omega)]
    have fb := fnK_bd (dN s) ((tok T N a).2.1 : Int)
    have gb := fnK_bd (dJ s) ((tok T N a).2.1 : Int)
    dsimp only
    rw [eP, v15, (nr_4 W).1]
    refine ⟨n0 W, sp_N_found (L := dN s) (nr_4 W).2.1 (by rw [(nr_4 W).2.2]; omega) (by rw [(nr_4 W).2.2]; omega) D.2.2.1 ⟨fun y => ⟨n0 W, ?_⟩, fun y => ⟨n0 W, n0 W, sp_N_reading W (by omega) ?_⟩⟩⟩
    · dsimp only at y
      refine sp_N_wrong (f := 3) W z tt.2.1 (by decide) fun h1 e1 f1 => ⟨n0 W, fun _ => ⟨n0 W, sp_N_goOn_f W (FTn_z f1) ?_⟩, fun y => absurd y (FTn_z f1)⟩
      exact (by first | exact q_at rfl (hE 3 _ (by unfold pNew; rw [eN, sb_r, if_pos (Or.inl (by dsimp only; omega))]) h1 e1 f1) | exact (hE 3 _ (by unfold pNew; rw [eN, sb_r, if_pos (Or.inl (by dsimp only; omega))]) h1 e1 f1))
    · dsimp only at y
      show ai_ok n 138 12 ∧ f_N_found [(2, hr 138 5), (0, 3), (0, h 140 6), (0, h 138 15)] n hr h _
      rw [D.1.2.2, v15, (nr_5 W).1]
      refine ⟨n0 W, sp_N_found (L := dJ s) (nr_5 W).2.1 (by rw [(nr_5 W).2.2]; omega) (by rw [(nr_5 W).2.2]; omega) D.2.2.2.1 ⟨fun y2 => ⟨n0 W, fun y => absurd z y, fun _ => ⟨n0 W, n0 W, ?_⟩⟩, fun y2 => ⟨n0 W, ?_⟩⟩⟩
      · dsimp only at y2
        rw [v15]
        have e : pNew T N s a = .inr ((tok T N a).2.1, (tok T N a).2.2.2) := by unfold pNew; rw [eN, sb_r, if_neg (by dsimp only; omega)]
        exact NTk_go W P hN ha t fun h1 e1 t1 => (by first | exact q_at rfl (hK _ e h1 e1 t1) | exact (hK _ e h1 e1 t1))
      · dsimp only at y2
        refine sp_N_wrong (f := 3) W z tt.2.1 (by decide) fun h1 e1 f1 => ⟨n0 W, fun _ => ⟨n0 W, sp_N_goOn_f W (FTn_z f1) ?_⟩, fun y => absurd y (FTn_z f1)⟩
        exact (by first | exact q_at rfl (hE 3 _ (by unfold pNew; rw [eN, sb_r, if_pos (Or.inr (by dsimp only; omega))]) h1 e1 f1) | exact (hE 3 _ (by unfold pNew; rw [eN, sb_r, if_pos (Or.inr (by dsimp only; omega))]) h1 e1 f1))
  · rw [tt.2.2.1] at q
    have eN : pName T N a = .inl (1, (tok T N a).2.2.1) := if_neg fun y => q ((srt_1 _).mpr y)
    refine sp_N_wrong (f := 1) W z tt.2.1 (by decide) fun h1 e1 f1 => ⟨n0 W, fun _ => ⟨n0 W, sp_N_goOn_f W (FTn_z f1) ?_⟩, fun y => absurd y (FTn_z f1)⟩
    exact (by first | exact q_at rfl (hE 1 _ (by unfold pNew; rw [eN]; rfl) h1 e1 f1) | exact (hE 1 _ (by unfold pNew; rw [eN]; rfl) h1 e1 f1))
theorem sp_N_atHand_f {b c : Int} (W : NW n hr) (z : h 138 16 ≠ 0) (hQ : Q (0, 0) n hr h) : f_N_atHand [(2, 138), (0, b), (0, c)] n hr h Q := by
  apply e_N_atHand
  exact ⟨n0 W, fun q => absurd q z, fun _ => q_at rfl hQ⟩
theorem sp_N_atHand1 {a c : Nat} (W : NW n hr) (O : dOK s) (D : NDr s h) (hN : N ≤ 700) (hc : c ≤ (dN s).length) (t : NTk T N a h) (hE : ∀ f p, pPl T N s c a = .inl (f, p) → ∀ h1, EX [] NQp h h1 → FTn f p h1 → Q (0, 0) n hr h1) (hK : ∀ v, pPl T N s c a = .inr v → v.2.1 = (tok T N a).2.2.1 → v.2.2 = (tok T N a).2.2.2 → Q (0, (v.1 : Int)) n hr h) : f_N_atHand [(2, 138), (0, 1), (0, (c : Int))] n hr h Q := by
  obtain ⟨⟨o1, o2, o3, o4, o5⟩, -⟩ := O
  have z := t.2.2
  have tt := t.2.1
  apply e_N_atHand
  refine ⟨n0 W, fun _ => ⟨n0 W, fun q => ⟨n0 W, fun _ => ⟨fun q => absurd q (by decide), fun _ => ?_⟩, fun q => absurd z q⟩, fun q => ⟨n0 W, ?_⟩⟩, fun q => absurd z q⟩
  · rw [tt.2.2.1, srt_1] at q
    have eN : pName T N a = .inr ((tok T N a).2.1, (tok T N a).2.2.1, (tok T N a).2.2.2) := if_pos q
    have v15 : h 138 15 = ((tok T N a).2.1 : Int) := by rw [tt.2.2.2 (Or.inl q.1)]; unfold vln; rw [if_neg (by omega)]
    have fb := fnK_bd (dN s) ((tok T N a).2.1 : Int)
    have ft := fnK_tk (dN s) ((tok T N a).2.1 : Int) c hc _ 0 rfl (Nat.zero_le _)
    have tl : ((dN s).take c).length = c := by rw [List.length_take]; omega
    have rt : rowL (h 141) 8 ((dN s).take c) := fun j w hj => by
      rw [List.getElem?_take] at hj
      split at hj
      · exact D.2.2.1 j w hj
      · cases hj
    simp only [n0 W, nr_4 W, v15, true_and]
    have F := sp_N_found (n := n) (hr := hr) (h := h) (Q := fun r3 n3 hr3 h3 => (r3.2 ≠ -1 → ai_ok n3 138 12 ∧ (h3 138 16 ≠ 0 → ai_q 0 n Q (0, 0) n3 hr3 h3) ∧ (h3 138 16 = 0 → ai_q 0 n Q (0, r3.2) n3 hr3 h3)) ∧ (r3.2 = -1 → ai_ok n3 138 12 ∧ f_N_wrong [(2, 138), (0, 4)] n3 hr3 h3 fun r4 n4 hr4 h4 => ai_ok n4 138 12 ∧ (h4 138 16 ≠ 0 → ai_q 0 n Q (0, 0) n4 hr4 h4) ∧ (h4 138 16 = 0 → ai_q 0 n Q (0, r3.2) n4 hr4 h4))) (L := (dN s).take c) (v := ((tok T N a).2.1 : Int)) (nr_4 W).2.1 (by rw [(nr_4 W).2.2, tl]; omega) (by rw [(nr_4 W).2.2]; omega) rt ?_
    · rw [tl] at F; exact F
    · rw [ft]
      refine ⟨fun y => ⟨n0 W, fun y => absurd z y, fun _ => ?_⟩, fun y => ⟨n0 W, ?_⟩⟩
      · dsimp only at y ⊢
        by_cases c1 : fnK (dN s) ((tok T N a).2.1 : Int) 0 < (c : Int)
        · rw [if_pos c1] at y ⊢
          have e : pPl T N s c a = .inr ((fnK (dN s) ((tok T N a).2.1 : Int) 0).toNat, (tok T N a).2.2.1, (tok T N a).2.2.2) := by unfold pPl; rw [eN, sb_r, if_pos ⟨by dsimp only; omega, c1⟩]
          have H := hK _ e rfl rfl
          dsimp only at H
          rw [Int.toNat_of_nonneg (by omega)] at H
          exact (by first | exact q_at rfl (H) | exact (H))
        · rw [if_neg c1] at y; exact absurd rfl y
      · dsimp only at y
        refine sp_N_wrong (f := 4) W z tt.2.1 (by decide) fun h1 e1 f1 => ⟨n0 W, fun _ => ?_, fun y => absurd y (FTn_z f1)⟩
        refine q_at rfl (hE 4 (tok T N a).2.2.1 ?_ h1 e1 f1)
        unfold pPl; rw [eN, sb_r, if_neg]
        dsimp only
        intro w
        rw [if_pos w.2] at y
        omega
  · rw [tt.2.2.1] at q
    have eN : pName T N a = .inl (1, (tok T N a).2.2.1) := if_neg fun y => q ((srt_1 _).mpr y)
    refine sp_N_wrong (f := 1) W z tt.2.1 (by decide) fun h1 e1 f1 => ⟨n0 W, fun y => absurd y (FTn_z f1), fun _ => ⟨fun _ => ⟨n0 W, fun _ => ?_, fun y => absurd y (FTn_z f1)⟩, fun y => absurd y (by decide)⟩⟩
    exact (by first | exact q_at rfl (hE 1 _ (by unfold pPl; rw [eN]; rfl) h1 e1 f1) | exact (hE 1 _ (by unfold pPl; rw [eN]; rfl) h1 e1 f1))
theorem sp_N_atHand0 {a : Nat} (W : NW n hr) (O : dOK s) (D : NDr s h) (hN : N ≤ 700) (t : NTk T N a h) (hE : ∀ f p, pIn T N s a = .inl (f, p) → ∀ h1, EX [] NQp h h1 → FTn f p h1 → Q (0, 0) n hr h1) (hK : ∀ v, pIn T N s a = .inr v → v.2.1 = (tok T N a).2.2.1 → v.2.2 = (tok T N a).2.2.2 → Q (0, (v.1 : Int)) n hr h) : f_N_atHand [(2, 138), (0, 0), (0, ((dJ s).length : Int))] n hr h Q := by
  obtain ⟨⟨o1, o2, o3, o4, o5⟩, -⟩ := O
  have z := t.2.2
  have tt := t.2.1
  apply e_N_atHand
  refine ⟨n0 W, fun _ => ⟨n0 W, fun q => ⟨n0 W, fun _ => ⟨fun _ => ?_, fun q => absurd rfl q⟩, fun q => absurd z q⟩, fun q => ⟨n0 W, ?_⟩⟩, fun q => absurd z q⟩
  · rw [tt.2.2.1, srt_1] at q
    have eN : pName T N a = .inr ((tok T N a).2.1, (tok T N a).2.2.1, (tok T N a).2.2.2) := if_pos q
    have v15 : h 138 15 = ((tok T N a).2.1 : Int) := by rw [tt.2.2.2 (Or.inl q.1)]; unfold vln; rw [if_neg (by omega)]
    have fb := fnK_bd (dJ s) ((tok T N a).2.1 : Int)
    simp only [n0 W, nr_5 W, v15, true_and]
    refine sp_N_found (L := dJ s) (nr_5 W).2.1 (by rw [(nr_5 W).2.2]; omega) (by rw [(nr_5 W).2.2]; omega) D.2.2.2.1 ?_
    refine ⟨fun y => ⟨n0 W, fun y => absurd z y, fun _ => ?_⟩, fun y => ⟨n0 W, ?_⟩⟩
    · dsimp only at y
      have e : pIn T N s a = .inr ((fnK (dJ s) ((tok T N a).2.1 : Int) 0).toNat, (tok T N a).2.2.1, (tok T N a).2.2.2) := by unfold pIn; rw [eN, sb_r, if_pos (by dsimp only; omega)]
      have H := hK _ e rfl rfl
      dsimp only at H
      rw [Int.toNat_of_nonneg (by omega)] at H
      exact (by first | exact q_at rfl (H) | exact (H))
    · dsimp only at y
      refine sp_N_wrong (f := 4) W z tt.2.1 (by decide) fun h1 e1 f1 => ⟨n0 W, fun _ => ?_, fun y => absurd y (FTn_z f1)⟩
      exact (by first | exact q_at rfl (hE 4 _ (by unfold pIn; rw [eN, sb_r, if_neg (by dsimp only; omega)]) h1 e1 f1) | exact (hE 4 _ (by unfold pIn; rw [eN, sb_r, if_neg (by dsimp only; omega)]) h1 e1 f1))
  · rw [tt.2.2.1] at q
    have eN : pName T N a = .inl (1, (tok T N a).2.2.1) := if_neg fun y => q ((srt_1 _).mpr y)
    refine sp_N_wrong (f := 1) W z tt.2.1 (by decide) fun h1 e1 f1 => ⟨n0 W, fun y => absurd y (FTn_z f1), fun _ => ⟨fun _ => ⟨n0 W, fun _ => ?_, fun y => absurd y (FTn_z f1)⟩, fun y => absurd y (by decide)⟩⟩
    exact (by first | exact q_at rfl (hE 1 _ (by unfold pIn; rw [eN]; rfl) h1 e1 f1) | exact (hE 1 _ (by unfold pIn; rw [eN]; rfl) h1 e1 f1))
theorem sp_N_isWord {a : Nat} {w : Int} (W : NW n hr) (t : NTk T N a h) (hw : 0 ≤ w) (h1 : ((tok T N a).1 = 1 ∧ wi (tok T N a).2.1 = w) → Q (0, 1) n hr h) (h0 : ¬ ((tok T N a).1 = 1 ∧ wi (tok T N a).2.1 = w) → Q (0, 0) n hr h) : f_N_isWord [(2, 138), (0, w)] n hr h Q := by
  have z := t.2.2
  have tt := t.2.1
  apply e_N_isWord
  simp only [n0 W, true_and, true_or, or_true]
  refine ⟨fun q => absurd z q, fun _ => ⟨fun q => ?_, fun q => ⟨fun q2 => ?_, fun q2 => ?_⟩⟩⟩
  · rw [tt.2.2.1] at q
    exact (by first | exact q_at rfl (h0 (fun y => q ((srt_0 _).mpr ⟨y.1, by omega⟩))) | exact (h0 (fun y => q ((srt_0 _).mpr ⟨y.1, by omega⟩))))
  · rw [tt.2.2.1, srt_0] at q
    rw [tt.2.2.2 (Or.inl q.1)] at q2
    have e : vln (tok T N a) = wi (tok T N a).2.1 := if_pos q
    exact (by first | exact q_at rfl (h0 (fun y => q2 (by omega))) | exact (h0 (fun y => q2 (by omega))))
  · rw [tt.2.2.1, srt_0] at q
    rw [tt.2.2.2 (Or.inl q.1)] at q2
    have e : vln (tok T N a) = wi (tok T N a).2.1 := if_pos q
    exact (by first | exact q_at rfl (h1 ⟨q.1, by omega⟩) | exact (h1 ⟨q.1, by omega⟩))
end
