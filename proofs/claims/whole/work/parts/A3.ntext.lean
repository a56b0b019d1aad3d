-- deps: 18 19 20 21 22 23 24 25 26 27 28 29 30 31 32 33 34 35 36 9S 9T 9U 9V 9W 9X 9Y A0 A1 A2
/-! the reference reads a text -/
section
variable {Q : RP} {n : Nat} {hr h : HP} {T : Int → Int} {N : Nat} {s : DS}
theorem N_114E {f p : Nat} (W : NW n hr) (F : FTn f p h) (hQ : ∀ h1, fxRn h h1 → FTn f p h1 → Q (9, 0) n hr h1) : p_N_readLine_114 (n + 0) (ai_q 0 n Q) 138 n hr h := by
  refine b_N_readLine_114 ⟨n0 W, fun _ => ⟨n0 W, sp_N_goOn_f W (FTn_z F) ⟨n0 W, n0 W, q_at rfl (hQ _ (fxRn_u (Or.inr (Or.inr (Or.inr (Or.inr (Or.inr ⟨rfl, rfl⟩)))))) ⟨?_, F.2.1, ?_⟩)⟩⟩, fun q => absurd q (FTn_z F)⟩
  · rw [up_oth (by omega)]; exact F.1
  · rw [up_oth (by omega)]; exact F.2.2
theorem N_114K {a : Nat} (W : NW n hr) (O : dOK s) (D : NDr s h) (hL : dL s ≤ 1000) (P : TPn T h) (hN : N ≤ 700) (ha : a ≤ N) (t : NTk T N a h) (hQ : RdN hr n T N (pClose T N s a) h Q) : p_N_readLine_114 (n + 0) (ai_q 0 n Q) 138 n hr h := by
  have z := t.2.2
  have tb := tok_b (T := T) ha
  refine b_N_readLine_114 ⟨n0 W, fun q => absurd z q, fun _ => ⟨n0 W, fun q => ⟨n0 W, ?_⟩, fun q => ⟨n0 W, ?_⟩⟩⟩
  · rw [t.2.1.2.2.1, srt_3] at q
    refine NTk_go W P hN ha t fun h1 e1 t1 => ⟨n0 W, n0 W, ?_⟩
    have D1 := ND_Q (NQ_P e1) D
    rw [D1.2.1.2.2, w32_id (by omega) (by omega)]
    refine q_at rfl (hQ.2 _ (if_pos q) _ (fxRn_tr (fxRn_P e1) (fxRn_u (Or.inr (Or.inr (Or.inr (Or.inr (Or.inr ⟨rfl, rfl⟩))))))) ⟨?_, ⟨?_, ?_, ?_⟩, ?_, ?_, ?_, ?_⟩ ⟨?_, ?_, ?_⟩)
    · simp (disch := omega) only [up_oth]; exact D1.1
    · rw [up_oth (by omega)]; exact D1.2.1.1
    · rw [up_oth (by omega)]; exact D1.2.1.2.1
    · rw [up_same]; show _ = ((dL s + 1 : Nat) : Int); omega
    · exact rowL_fn D1.2.2.1 (by funext j; rw [up_oth (by omega)])
    · exact rowL_fn D1.2.2.2.1 (by funext j; rw [up_oth (by omega)])
    · exact NRow_fr D1.2.2.2.2.1 (by funext j; rw [up_oth (by omega)]) (by funext j; rw [up_oth (by omega)])
    · exact NRow_fr D1.2.2.2.2.2 (by funext j; rw [up_oth (by omega)]) (by funext j; rw [up_oth (by omega)])
    · rw [up_oth (by omega)]; exact t1.1
    · unfold NTs
      simp (disch := omega) only [up_oth]
      exact t1.2.1
    · rw [up_oth (by omega)]; exact t1.2.2
  · rw [t.2.1.2.2.1] at q
    have q' : ¬ (tok T N a).1 = 3 := fun y => q ((srt_3 _).mpr y)
    refine sp_N_wrong (f := 1) W z t.2.1.2.1 (by decide) fun h1 e1 f1 => ⟨n0 W, sp_N_goOn_f W (FTn_z f1) ⟨n0 W, n0 W, ?_⟩⟩
    refine q_at rfl (hQ.1 1 _ (if_neg q') _ (fxRn_tr (fxRn_Q e1) (fxRn_u (Or.inr (Or.inr (Or.inr (Or.inr (Or.inr ⟨rfl, rfl⟩))))))) ⟨?_, f1.2.1, ?_⟩)
    · rw [up_oth (by omega)]; exact f1.1
    · rw [up_oth (by omega)]; exact f1.2.2
theorem TPn_X {h1 : HP} (e : fxRn h h1) (H : TPn T h) : TPn T h1 := TPn_fr H (EX_fn e.1 (by decide) (by decide))
theorem sp_N_readLine {a : Nat} (W : NW n hr) (O : dOK s) (D : NDr s h) (hL : dL s ≤ 1000) (P : TPn T h) (hN : N ≤ 700) (ha : a ≤ N) (t : NTk T N a h) (hQ : RdN hr n T N (pLine T N s (tok T N a)) h Q) : f_N_readLine [(2, 138)] n hr h Q := by
  have tb := tok_b (T := T) ha
  have hQE : ∀ f p, pBody T N s (tok T N a) = .inl (f, p) → ∀ h1, fxRn h h1 → FTn f p h1 → p_N_readLine_114 (n + 0) (ai_q 0 n Q) 138 n hr h1 := fun f p e h1 e1 f1 => N_114E W f1 fun h2 e2 f2 => hQ.1 f p (by unfold pLine; rw [e]; rfl) h2 (fxRn_tr e1 e2) f2
  have hQK : ∀ v, pBody T N s (tok T N a) = .inr v → ∀ h1, fxRn h h1 → NDr v.1 h1 → NTk T N v.2 h1 → p_N_readLine_114 (n + 0) (ai_q 0 n Q) 138 n hr h1 := fun v e h1 e1 d1 t1 => by
    have bv := pBody_r O tb.2.2.2.1 e
    refine N_114K W bv.1 d1 (by omega) (TPn_X e1 P) hN bv.2.2.1 t1 ⟨fun f p e2 h2 k2 f2 => ?_, fun w e2 h2 k2 d2 t2 => ?_⟩
    · exact hQ.1 f p (by unfold pLine; rw [e, sb_r]; exact e2) h2 (fxRn_tr e1 k2) f2
    · exact hQ.2 w (by unfold pLine; rw [e, sb_r]; exact e2) h2 (fxRn_tr e1 k2) d2 t2
  have OO := O
  obtain ⟨⟨o1, o2, o3, o4, o5⟩, oA, oB, -⟩ := O
  have one : ∀ X, pBody T N s (tok T N a) = X → RdN hr n T N X h (fun _ n1 hr1 h1 => p_N_readLine_114 (n + 0) (ai_q 0 n Q) 138 n1 hr1 h1) := fun X e => ⟨fun f p e1 => hQE f p (e.trans e1), fun v e1 => hQK v (e.trans e1)⟩
  have hb : (tok T N a).1 = 1 → pBody T N s (tok T N a) = (if wi (tok T N a).2.1 = 0 then pSt T N s (tok T N a) else if wi (tok T N a).2.1 = 1 then pIp T N s (tok T N a) else if wi (tok T N a).2.1 = 2 then pMo T N s (tok T N a) else if wi (tok T N a).2.1 = 3 then pAr T N s (tok T N a) else if wi (tok T N a).2.1 = 4 then pTw T N s (tok T N a) else if wi (tok T N a).2.1 = 5 then pEx T N s (tok T N a) else if wi (tok T N a).2.1 = 6 then pSe T N s (tok T N a) else .inl (1, (tok T N a).2.2.1)) := fun k1 => if_pos k1
  apply e_N_readLine
  refine ⟨n0 W, sp_N_isWord W t (by decide) (fun q0 => ⟨fun y => absurd y (by decide), fun _ => ⟨n0 W, ?_⟩⟩) fun q0 => ⟨fun _ => ⟨n0 W, ?_⟩, fun y => absurd rfl y⟩⟩
  · refine sp_N_readState W OO D P hN ha t (one _ ?_)
    rw [hb q0.1, if_pos q0.2]
  refine sp_N_isWord W t (by decide) (fun q1 => ⟨fun y => absurd y (by decide), fun _ => ⟨n0 W, ?_⟩⟩) fun q1 => ⟨fun _ => ⟨n0 W, ?_⟩, fun y => absurd rfl y⟩
  · refine sp_N_readInput W OO D P hN ha t (one _ ?_)
    rw [hb q1.1, q1.2]; rfl
  refine sp_N_isWord W t (by decide) (fun q2 => ⟨fun y => absurd y (by decide), fun _ => ⟨n0 W, ?_⟩⟩) fun q2 => ⟨fun _ => ⟨n0 W, ?_⟩, fun y => absurd rfl y⟩
  · refine sp_N_readMore W OO D P hN ha t (one _ ?_)
    rw [hb q2.1, q2.2]; rfl
  refine sp_N_isWord W t (by decide) (fun q3 => ⟨fun _ => ⟨n0 W, ?_⟩, fun y => absurd y (by decide)⟩) fun q3 => ⟨fun y => absurd rfl y, fun _ => ⟨n0 W, ?_⟩⟩
  · have e3 : pBody T N s (tok T N a) = pAr T N s (tok T N a) := by rw [hb q3.1, q3.2]; rfl
    refine sp_N_isWord W t (by decide) (fun q4 => by omega) fun _ => ⟨n0 W, ?_⟩
    refine sp_N_readArc0 W OO D P hN ha t D.2.2.2.2.1 oA rfl (fun f p e h1 e1 f1 => hQE f p ?_ h1 (fxRn_Q e1) f1) fun v e h1 h2 e1 t1 e2 => ?_
    · rw [e3]; unfold pAr; rw [e]; rfl
    · obtain ⟨⟨p, i, u, o, w1, w2, w3, w4, w5, w6⟩, -⟩ := pArc_r o5 tb.2.2.2.1 e
      have X := ND_A D e1 (by omega) e2
      refine hQK ((dN s, dM s, dJ s, (fun b => if b = (v.1 : Int) then (v.2.1 : Int) else dA s b), dB s, dX s, dD s, dL s), v.2.2) ?_ h2 X.1 X.2 ?_
      · rw [e3]; unfold pAr; rw [e]; rfl
      · rw [e2]; exact NTk_u (by decide) (NTk_u (by decide) t1)
  refine sp_N_isWord W t (by decide) (fun q4 => ⟨fun y => absurd y (by decide), fun _ => ⟨n0 W, ?_⟩⟩) fun q4 => ⟨fun _ => ⟨n0 W, ?_⟩, fun y => absurd rfl y⟩
  · have e4 : pBody T N s (tok T N a) = pTw T N s (tok T N a) := by rw [hb q4.1, q4.2]; rfl
    refine sp_N_isWord W t (by decide) (fun _ => ⟨n0 W, ?_⟩) fun q => absurd q4 q
    refine sp_N_readArc1 W OO D P hN ha t D.2.2.2.2.2 oB rfl (fun f p e h1 e1 f1 => hQE f p ?_ h1 (fxRn_Q e1) f1) fun v e h1 h2 e1 t1 e2 => ?_
    · rw [e4]; unfold pTw; rw [e]; rfl
    · obtain ⟨⟨p, i, u, o, w1, w2, w3, w4, w5, w6⟩, -⟩ := pArc_r o5 tb.2.2.2.1 e
      have X := ND_B D e1 (by omega) e2
      refine hQK ((dN s, dM s, dJ s, dA s, (fun b => if b = (v.1 : Int) then (v.2.1 : Int) else dB s b), dX s, dD s, dL s), v.2.2) ?_ h2 X.1 X.2 ?_
      · rw [e4]; unfold pTw; rw [e]; rfl
      · rw [e2]; exact NTk_u (by decide) (NTk_u (by decide) t1)
  refine sp_N_isWord W t (by decide) (fun q5 => ⟨fun y => absurd y (by decide), fun _ => ⟨n0 W, ?_⟩⟩) fun q5 => ⟨fun _ => ⟨n0 W, ?_⟩, fun y => absurd rfl y⟩
  · have e5 : pBody T N s (tok T N a) = pEx T N s (tok T N a) := by rw [hb q5.1, q5.2]; rfl
    refine sp_N_readOnce (m := 2) W D P hN ha (by decide) t (Or.inl rfl) D.2.1.1 (fun z h1 e1 f1 => hQE 3 _ ?_ h1 e1 f1) (fun z f p e h1 e1 f1 => hQE f p ?_ h1 e1 f1) fun z v e h1 h2 e1 t1 e2 => ?_
    · rw [e5]; exact if_pos z
    · rw [e5]; unfold pEx; rw [if_neg (fun y => y z), e]; rfl
    · refine hQK ((dN s, dM s, dJ s, dA s, dB s, (v.1 : Int) + 1, dD s, dL s), v.2) ?_ h2 (by rw [e2]; exact fxRn_tr (fxRn_P e1) (fxRn_u (Or.inl ⟨rfl, by decide⟩))) (ND_X D e1 e2) ?_
      · rw [e5]; unfold pEx; rw [if_neg (fun y => y z), e]; rfl
      · rw [e2]; exact NTk_u (by decide) t1
  refine sp_N_isWord W t (by decide) (fun q6 => ⟨fun y => absurd y (by decide), fun _ => ⟨n0 W, ?_⟩⟩) fun q6 => ⟨fun _ => ⟨n0 W, ?_⟩, fun y => absurd rfl y⟩
  · have e6 : pBody T N s (tok T N a) = pSe T N s (tok T N a) := by rw [hb q6.1, q6.2]; rfl
    refine sp_N_readOnce (m := 99999) W D P hN ha (by decide) t (Or.inr rfl) D.2.1.2.1 (fun z h1 e1 f1 => hQE 3 _ ?_ h1 e1 f1) (fun z f p e h1 e1 f1 => hQE f p ?_ h1 e1 f1) fun z v e h1 h2 e1 t1 e2 => ?_
    · rw [e6]; exact if_pos z
    · rw [e6]; unfold pSe; rw [if_neg (fun y => y z), e]; rfl
    · refine hQK ((dN s, dM s, dJ s, dA s, dB s, dX s, (v.1 : Int) + 1, dL s), v.2) ?_ h2 (by rw [e2]; exact fxRn_tr (fxRn_P e1) (fxRn_u (Or.inl ⟨rfl, by decide⟩))) (ND_D D e1 e2) ?_
      · rw [e6]; unfold pSe; rw [if_neg (fun y => y z), e]; rfl
      · rw [e2]; exact NTk_u (by decide) t1
  · refine sp_N_wrong (f := 1) W t.2.2 t.2.1.2.1 (by decide) fun h1 e1 f1 => hQE 1 _ ?_ h1 (fxRn_Q e1) f1
    by_cases k1 : (tok T N a).1 = 1
    · rw [hb k1, if_neg (fun y => q0 ⟨k1, y⟩), if_neg (fun y => q1 ⟨k1, y⟩), if_neg (fun y => q2 ⟨k1, y⟩), if_neg (fun y => q3 ⟨k1, y⟩), if_neg (fun y => q4 ⟨k1, y⟩), if_neg (fun y => q5 ⟨k1, y⟩), if_neg (fun y => q6 ⟨k1, y⟩)]
    · exact if_neg k1
theorem sp_N_readText (W : NW n hr) (P : TPn T h) (hN : N ≤ 700) (hE : ∀ f p, pText T N 701 ds0 0 = .inl (f, p) → ∀ h1, fxRn h h1 → FTn f p h1 → Q (9, 0) n hr h1) (hK : ∀ s, pText T N 701 ds0 0 = .inr s → dOK s → ∀ h1, fxRn h h1 → NDr s h1 → h1 138 16 = 0 → Q (9, 0) n hr h1) : f_N_readText [(2, 138), (0, (N : Int))] n hr h Q := by
  have key : ∀ (m k : Nat), k + m = 701 → ∀ (s : DS) (a : Nat) (h1 : HP), k ≤ a → a ≤ N → dL s = k → dOK s → pText T N m s a = pText T N 701 ds0 0 → fxRn h h1 → NDr s h1 → NTk T N a h1 → p_N_readText_94 (n + 0) (ai_q 0 n Q) 138 n hr h1 := by
    intro m
    induction m with
    | zero => intro k hk s a h1 k1 k2; omega
    | succ m ih =>
      intro k hk s a h1 ka aN lk O et e1 D t
      have tb := tok_b (T := T) aN
      have eU : pText T N (m + 1) s a = if (tok T N a).1 = 0 then .inr s else sb (pLine T N s (tok T N a)) fun v => pText T N m v.1 v.2 := rfl
      refine b_N_readText_94 ⟨n0 W, fun q => absurd t.2.2 q, fun _ => ⟨n0 W, fun q => ?_, fun q => ⟨n0 W, ?_⟩⟩⟩
      · rw [t.2.1.2.2.1, srt_4] at q
        rw [eU, if_pos q] at et
        exact (by first | exact q_at rfl (hK s et.symm O h1 e1 D t.2.2) | exact (hK s et.symm O h1 e1 D t.2.2))
      · rw [t.2.1.2.2.1] at q
        have q' : ¬ (tok T N a).1 = 0 := fun y => q ((srt_4 _).mpr y)
        rw [eU, if_neg q'] at et
        refine sp_N_readLine W O D (by omega) (TPn_X e1 P) hN aN t ⟨fun f p e h2 e2 f2 => ?_, fun v e h2 e2 d2 t2 => ?_⟩
        · refine b_N_readText_94 ⟨n0 W, fun _ => (by first | exact q_at rfl (hE f p (by rw [← et, e]; rfl) h2 (fxRn_tr e1 e2) f2) | exact (hE f p (by rw [← et, e]; rfl) h2 (fxRn_tr e1 e2) f2)), fun y => absurd y (FTn_z f2)⟩
        · have bv := pLine_r O tb.2.2.2.1 e
          refine ih (k + 1) (by omega) v.1 v.2 h2 ?_ bv.2.2.1 (by omega) bv.1 (by rw [← et, e]; rfl) (fxRn_tr e1 e2) d2 t2
          have := tb.2.2.1; have := tb.2.1; have := bv.2.1; omega
  apply e_N_readText
  refine ⟨n0 W, n0 W, n0 W, n0 W, ?_⟩
  have E0 : fxRn h (ai_up (ai_up (ai_up (ai_up h 138 11 (N : Int)) 138 12 0) 138 16 0) 138 10 0) := fxRn_E (EX_upp (EX_upp (EX_upp (EX_upp EX_rf (by decide)) (by decide)) (by decide)) (by decide))
  have C0 : (ai_up (ai_up (ai_up (ai_up h 138 11 (N : Int)) 138 12 0) 138 16 0) 138 10 0) 138 11 = (N : Int) ∧ (ai_up (ai_up (ai_up (ai_up h 138 11 (N : Int)) 138 12 0) 138 16 0) 138 10 0) 138 12 = 0 ∧ (ai_up (ai_up (ai_up (ai_up h 138 11 (N : Int)) 138 12 0) 138 16 0) 138 10 0) 138 16 = 0 ∧ (ai_up (ai_up (ai_up (ai_up h 138 11 (N : Int)) 138 12 0) 138 16 0) 138 10 0) 138 10 = 0 := by
    simp (disch := omega) only [up_oth, up_same, and_self]
  generalize ai_up (ai_up (ai_up (ai_up h 138 11 (N : Int)) 138 12 0) 138 16 0) 138 10 0 = h0 at E0 C0
  have L1 := lupN (N := 5) (P := fun k => ∀ h1, EX [140, 143, 145] [] h0 h1 → fxRn h0 h1 → (∀ j : Int, 0 ≤ j → j < (k : Int) → h1 140 (5 + j) = 0) → p_N_readText_22 (n + 0) (ai_q 0 n Q) 138 (k : Int) n hr h1) ?_ ?_
  · exact L1 h0 EX_rf (fxRn_E EX_rf) fun j a b => by omega
  · intro h1 e1 f1 g1
    refine b_N_readText_22 ⟨fun _ => ?_, fun q => by omega⟩
    have L2 := lupN (N := 18) (P := fun k => ∀ h2, EX [140, 143, 145] [] h0 h2 → fxRn h0 h2 → (∀ j : Int, 0 ≤ j → j < 5 → h2 140 (5 + j) = 0) → (∀ j : Int, 0 ≤ j → j < (k : Int) → h2 143 (18 + j) = 0) → p_N_readText_44 (n + 0) (ai_q 0 n Q) 138 (k : Int) n hr h2) ?_ ?_
    · exact L2 h1 e1 f1 g1 fun j a b => by omega
    · intro h2 e2 f2 g2 k2
      refine b_N_readText_44 ⟨fun _ => ?_, fun q => by omega⟩
      have L3 := lupN (N := 24) (P := fun k => ∀ h3, EX [140, 143, 145] [] h0 h3 → fxRn h0 h3 → (∀ j : Int, 0 ≤ j → j < 5 → h3 140 (5 + j) = 0) → (∀ j : Int, 0 ≤ j → j < 18 → h3 143 (18 + j) = 0) → (∀ j : Int, 0 ≤ j → j < (k : Int) → h3 145 (24 + j) = 0) → p_N_readText_68 (n + 0) (ai_q 0 n Q) 138 (k : Int) n hr h3) ?_ ?_
      · exact L3 h2 e2 f2 g2 k2 fun j a b => by omega
      · intro h3 e3 f3 g3 k3 l3
        refine b_N_readText_68 ⟨fun _ => ⟨n0 W, ?_⟩, fun q => by omega⟩
        have c : ∀ j : Int, h3 138 j = h0 138 j := fun j => e3 138 j (by simp) (by simp)
        have F3 := fxRn_tr E0 f3
        refine sp_N_token (a := 0) W (TPn_X F3 P) hN (Nat.zero_le _) (by rw [c]; exact C0.1) (by rw [c]; exact C0.2.1) fun h4 e4 t4 => ?_
        refine key 701 0 rfl ds0 0 h4 (Nat.le_refl _) (Nat.zero_le _) rfl dOK_0 rfl (fxRn_tr F3 (fxRn_P e4)) ?_ ⟨?_, t4, ?_⟩
        · refine ND_Q (NQ_P e4) ⟨⟨?_, ?_, ?_⟩, ⟨?_, ?_, ?_⟩, (fun j w hj => by cases hj), (fun j w hj => by cases hj), fun a a1 a2 => ⟨fun _ => k3 a a1 a2, fun y => absurd rfl y⟩, fun a a1 a2 => ⟨fun _ => l3 a a1 a2, fun y => absurd rfl y⟩⟩
          · exact g3 0 (by decide) (by decide)
          · have := g3 0 (by decide) (by decide)
            have := g3 2 (by decide) (by decide)
            show h3 140 (5 + 0) + h3 140 (5 + 2) = 0
            omega
          · exact g3 1 (by decide) (by decide)
          · exact g3 3 (by decide) (by decide)
          · exact g3 4 (by decide) (by decide)
          · rw [c]; exact C0.2.2.2
        · rw [e4 138 11 (by decide) (by decide), c]; exact C0.1
        · rw [e4 138 16 (by decide) (by decide), c]; exact C0.2.2.1
      · intro k hk ih h3 e3 f3 g3 k3 l3
        refine b_N_readText_68 ⟨fun q => by omega, fun _ => ?_⟩
        simp (disch := omega) only [n0 W, nr_8 W, w32_id, true_and]
        refine ⟨by omega, by omega, ih _ (EX_upc e3 (by decide)) (fxRn_tr f3 (fxRn_u (Or.inr (Or.inr (Or.inr (Or.inr (Or.inl ⟨Or.inl rfl, by omega⟩))))))) (fun j a b => ?_) (fun j a b => ?_) fun j a b => ?_⟩
        · rw [up_oth (by omega)]; exact g3 j a b
        · rw [up_oth (by omega)]; exact k3 j a b
        · by_cases y : j = (k : Int)
          · subst y; rw [up_same]
          · rw [up_oth (by omega)]; exact l3 j a (by omega)
    · intro k hk ih h3 e3 f3 g3 k3
      refine b_N_readText_44 ⟨fun q => by omega, fun _ => ?_⟩
      simp (disch := omega) only [n0 W, nr_6 W, w32_id, true_and]
      refine ⟨by omega, by omega, ih _ (EX_upc e3 (by decide)) (fxRn_tr f3 (fxRn_u (Or.inr (Or.inr (Or.inr (Or.inl ⟨Or.inl rfl, by omega⟩)))))) (fun j a b => ?_) fun j a b => ?_⟩
      · rw [up_oth (by omega)]; exact g3 j a b
      · by_cases y : j = (k : Int)
        · subst y; rw [up_same]
        · rw [up_oth (by omega)]; exact k3 j a (by omega)
  · intro k hk ih h3 e3 f3 g3
    refine b_N_readText_22 ⟨fun q => by omega, fun _ => ?_⟩
    simp (disch := omega) only [n0 W, nr_3 W, w32_id, true_and]
    refine ⟨by omega, by omega, ih _ (EX_upc e3 (by decide)) (fxRn_tr f3 (fxRn_u (Or.inl ⟨rfl, by omega⟩))) fun j a b => ?_⟩
    by_cases y : j = (k : Int)
    · subst y; rw [up_same]
    · rw [up_oth (by omega)]; exact g3 j a (by omega)
end
