-- deps: 18 19 20 21 22 23 24 25 26 27 28 29 30 31 32 33 34 35 36 9S 9T 9W 9X 9Y
/-! the class reads a text -/
section
variable {Q : RP} {n : Nat} {hr h : HP} {T : Int → Int} {N : Nat} {d : Int} {s : DS}
theorem RdE_q {X : FR' (DS × Nat)} (H : RdE hr n d X h Q) : RdE hr n d X h (fun r n1 hr1 h1 => (r.2 = 0 ∨ r.2 = 1) ∧ (ai_q 0 n Q) (0, r.2) n1 hr1 h1) := ⟨fun f p e h1 e1 f1 => ⟨Or.inl rfl, q_at rfl (H.1 f p e h1 e1 f1)⟩, fun v e h1 e1 d1 c6 => ⟨Or.inr rfl, q_at rfl (H.2 v e h1 e1 d1 c6)⟩⟩
theorem RdE_eq {X Y : FR' (DS × Nat)} (e : X = Y) (H : RdE hr n d X h Q) : RdE hr n d Y h Q := by rw [← e]; exact H
theorem DFT_A {h1 h2 : HP} {v : Nat × Nat × Nat} (hd : d = 3 ∨ d = 8) (D : DFT d s h) (e1 : EX [] RPs h h1) (e2 : h2 = ai_up h1 (d + 3) (v.1 : Int) (v.2.1 : Int)) : EX (CSd d) (PSo d) h h2 ∧ DFT d (dN s, dM s, dJ s, (fun b => if b = (v.1 : Int) then (v.2.1 : Int) else dA s b), dB s, dX s, dD s, dL s) h2 := by
  have D1 := DFT_W hd (RP_W e1) D
  subst e2
  refine ⟨EX_upc (EX_o e1) (by simp), ⟨?_, ?_, ?_⟩, ?_, ?_, ?_, fun a a1 a2 => ?_, ?_⟩
  · rw [up_oth (by omega)]; exact D1.1.1
  · rw [up_oth (by omega), up_oth (by omega)]; exact D1.1.2.1
  · rw [up_oth (by omega)]; exact D1.1.2.2
  · simp (disch := omega) only [up_oth]; exact D1.2.1
  · exact rowL_fn D1.2.2.1 (by funext j; rw [up_oth (by omega)])
  · exact rowL_fn D1.2.2.2.1 (by funext j; rw [up_oth (by omega)])
  · show _ = if a = (v.1 : Int) then (v.2.1 : Int) else dA s a
    by_cases z : a = (v.1 : Int)
    · rw [if_pos z, z, up_same]
    · rw [if_neg z, up_oth (Or.inr z)]; exact D1.2.2.2.2.1 a a1 a2
  · exact r24_f2 D1.2.2.2.2.2 (by funext j; rw [up_oth (by omega)])
theorem DFT_B {h1 h2 : HP} {v : Nat × Nat × Nat} (hd : d = 3 ∨ d = 8) (D : DFT d s h) (e1 : EX [] RPs h h1) (e2 : h2 = ai_up h1 (d + 4) (v.1 : Int) (v.2.1 : Int)) : EX (CSd d) (PSo d) h h2 ∧ DFT d (dN s, dM s, dJ s, dA s, (fun b => if b = (v.1 : Int) then (v.2.1 : Int) else dB s b), dX s, dD s, dL s) h2 := by
  have D1 := DFT_W hd (RP_W e1) D
  subst e2
  refine ⟨EX_upc (EX_o e1) (by simp), ⟨?_, ?_, ?_⟩, ?_, ?_, ?_, ?_, fun a a1 a2 => ?_⟩
  · rw [up_oth (by omega)]; exact D1.1.1
  · rw [up_oth (by omega), up_oth (by omega)]; exact D1.1.2.1
  · rw [up_oth (by omega)]; exact D1.1.2.2
  · simp (disch := omega) only [up_oth]; exact D1.2.1
  · exact rowL_fn D1.2.2.1 (by funext j; rw [up_oth (by omega)])
  · exact rowL_fn D1.2.2.2.1 (by funext j; rw [up_oth (by omega)])
  · exact r24_f2 D1.2.2.2.2.1 (by funext j; rw [up_oth (by omega)])
  · show _ = if a = (v.1 : Int) then (v.2.1 : Int) else dB s a
    by_cases z : a = (v.1 : Int)
    · rw [if_pos z, z, up_same]
    · rw [if_neg z, up_oth (Or.inr z)]; exact D1.2.2.2.2.2 a a1 a2
theorem sp_R_readLine {a : Nat} (V : CW n hr) (hd : d = 3 ∨ d = 8) (rd : hr 1 1 = d) (O : dOK s) (D : DFT d s h) (P : TPc T h) (hN : N ≤ 700) (ha : a ≤ N) (t : RTk T N a h) (hQ : RdE hr n d (pBody T N s (tok T N a)) h Q) : f_R_readLine [(2, 1)] n hr h Q := by
  obtain ⟨p0, p1, p2, p3, p4⟩ := prow_of V hd
  have tt := t
  obtain ⟨t5, t6, t7, t8, t9⟩ := t
  have tb := tok_b (T := T) ha
  have OO := O
  obtain ⟨⟨o1, o2, o3, o4, o5⟩, oA, oB, -⟩ := O
  apply e_R_readLine
  rw [t7]
  refine ⟨ok_1 V.1, fun q => ?_, fun q => ?_⟩
  · rw [t8 (Or.inl (by omega))]
    have k1 : (tok T N a).1 = 1 := by omega
    have hb : pBody T N s (tok T N a) = (if wi (tok T N a).2.1 = 0 then pSt T N s (tok T N a) else if wi (tok T N a).2.1 = 1 then pIp T N s (tok T N a) else if wi (tok T N a).2.1 = 2 then pMo T N s (tok T N a) else if wi (tok T N a).2.1 = 3 then pAr T N s (tok T N a) else if wi (tok T N a).2.1 = 4 then pTw T N s (tok T N a) else if wi (tok T N a).2.1 = 5 then pEx T N s (tok T N a) else if wi (tok T N a).2.1 = 6 then pSe T N s (tok T N a) else .inl (1, (tok T N a).2.2.1)) := if_pos k1
    rw [hb] at hQ
    refine ⟨ok_1 V.1, fun q1 => ?_, fun n1 => ⟨fun q2 => ⟨ok_1 V.1, ?_⟩, fun n2 => ⟨fun q3 => ⟨ok_1 V.1, ?_⟩, fun n3 => ⟨fun q4 => ⟨ok_1 V.1, ?_⟩, fun n4 => ⟨fun q5 => ⟨ok_1 V.1, ?_⟩, fun n5 => ⟨fun q6 => ⟨ok_1 V.1, ?_⟩, fun n6 => ⟨fun q7 => ?_, fun n7 => ⟨ok_1 V.1, ?_⟩⟩⟩⟩⟩⟩⟩⟩
    · have w : wi (tok T N a).2.1 = 3 := by rw [show (tok T N a).2.1 = 52527104 by omega]; rfl
      rw [w, if_neg (by decide), if_neg (by decide), if_neg (by decide), if_pos rfl] at hQ
      simp only [ok_1 V.1, rd, p0, p3, D.1.1, true_and]
      refine sp_R_readArc V hd rd (Or.inl rfl) OO D D.2.2.2.2.1 oA (by omega) P hN tb.2.2.2.1 t5 t6 (fun f p e h1 e1 f1 => ⟨Or.inl rfl, (by first | exact q_at rfl (hQ.1 f p (by unfold pAr; rw [e]; rfl) h1 (EX_W e1) f1) | exact (hQ.1 f p (by unfold pAr; rw [e]; rfl) h1 (EX_W e1) f1))⟩) fun v e h1 h2 e1 e2 c6 => ⟨Or.inr rfl, ?_⟩
      have DA := DFT_A hd D e1 e2
      exact (by first | exact q_at rfl (hQ.2 _ (by unfold pAr; rw [e]; rfl) h2 DA.1 DA.2 c6) | exact (hQ.2 _ (by unfold pAr; rw [e]; rfl) h2 DA.1 DA.2 c6))
    · have w : wi (tok T N a).2.1 = 5 := by rw [show (tok T N a).2.1 = 193611808 by omega]; rfl
      rw [w, if_neg (by decide), if_neg (by decide), if_neg (by decide), if_neg (by decide), if_neg (by decide), if_pos rfl] at hQ
      exact sp_R_readExtra V hd rd OO D P hN ha tt (RdE_q hQ)
    · have w : wi (tok T N a).2.1 = 1 := by rw [show (tok T N a).2.1 = 317216384 by omega]; rfl
      rw [w, if_neg (by decide), if_pos rfl] at hQ
      exact sp_R_readInput V hd rd OO D P hN ha tt (RdE_q hQ)
    · have w : wi (tok T N a).2.1 = 2 := by rw [show (tok T N a).2.1 = 452531200 by omega]; rfl
      rw [w, if_neg (by decide), if_neg (by decide), if_pos rfl] at hQ
      exact sp_R_readMore V hd rd OO D P hN ha tt (RdE_q hQ)
    · have w : wi (tok T N a).2.1 = 6 := by rw [show (tok T N a).2.1 = 642945024 by omega]; rfl
      rw [w, if_neg (by decide), if_neg (by decide), if_neg (by decide), if_neg (by decide), if_neg (by decide), if_neg (by decide), if_pos rfl] at hQ
      exact sp_R_readSeed V hd rd OO D P hN ha tt (RdE_q hQ)
    · have w : wi (tok T N a).2.1 = 0 := by rw [show (tok T N a).2.1 = 658559136 by omega]; rfl
      rw [w, if_pos rfl] at hQ
      exact sp_R_readState V hd rd OO D P hN ha tt (RdE_q hQ)
    · have w : wi (tok T N a).2.1 = 4 := by rw [show (tok T N a).2.1 = 695520896 by omega]; rfl
      rw [w, if_neg (by decide), if_neg (by decide), if_neg (by decide), if_neg (by decide), if_pos rfl] at hQ
      have e45 : w32 (h d 4 + h d 5) = ((dN s).length : Int) := by rw [D.1.2.1, w32_id (by omega) (by omega)]
      simp only [ok_1 V.1, rd, p0, p4, e45, true_and]
      refine sp_R_readArc V hd rd (Or.inr rfl) OO D D.2.2.2.2.2 oB (by omega) P hN tb.2.2.2.1 t5 t6 (fun f p e h1 e1 f1 => ⟨Or.inl rfl, (by first | exact q_at rfl (hQ.1 f p (by unfold pTw; rw [e]; rfl) h1 (EX_W e1) f1) | exact (hQ.1 f p (by unfold pTw; rw [e]; rfl) h1 (EX_W e1) f1))⟩) fun v e h1 h2 e1 e2 c6 => ⟨Or.inr rfl, ?_⟩
      have DA := DFT_B hd D e1 e2
      exact (by first | exact q_at rfl (hQ.2 _ (by unfold pTw; rw [e]; rfl) h2 DA.1 DA.2 c6) | exact (hQ.2 _ (by unfold pTw; rw [e]; rfl) h2 DA.1 DA.2 c6))
    · have w : ¬ (0 ≤ wi (tok T N a).2.1) := by
        have := (wi_0 (tok T N a).2.1).mpr (by omega)
        omega
      rw [if_neg (by omega), if_neg (by omega), if_neg (by omega), if_neg (by omega), if_neg (by omega), if_neg (by omega), if_neg (by omega)] at hQ
      exact sp_R_wrong (f := 1) V t9 fun h2 e2 f2 => ⟨Or.inl rfl, (by first | exact q_at rfl (hQ.1 1 _ rfl h2 (EX_W e2) f2) | exact (hQ.1 1 _ rfl h2 (EX_W e2) f2))⟩
  · have hb : pBody T N s (tok T N a) = .inl (1, (tok T N a).2.2.1) := if_neg (by omega)
    rw [hb] at hQ
    exact ⟨ok_1 V.1, sp_R_wrong (f := 1) V t9 fun h2 e2 f2 => ⟨Or.inl rfl, (by first | exact q_at rfl (hQ.1 1 _ rfl h2 (EX_W e2) f2) | exact (hQ.1 1 _ rfl h2 (EX_W e2) f2))⟩⟩
abbrev PSt (d : Int) : List (Int × Int) := (1, 2) :: (1, 5) :: PSd d
theorem EX_t1 {h1 : HP} (e : EX (CSd d) (PSd d) h h1) : EX (CSd d) (PSt d) h h1 := EX_le e (fun _ q => q) (fun p hp => Or.inl (List.mem_cons_of_mem _ (List.mem_cons_of_mem _ hp)))
theorem rps_sub : ∀ p ∈ RPs, p ∈ RWs := by decide
theorem EX_oW {h1 : HP} (e : EX (CSd d) (PSo d) h h1) : EX (CSd d) (PSd d) h h1 := EX_le e (fun _ q => q) (fun p hp => Or.inl (by
  rcases List.mem_append.mp hp with y | y
  · exact List.mem_append_left _ (rps_sub p y)
  · exact List.mem_append_right _ y))
theorem EX_o34 {h1 : HP} (hd : d = 3 ∨ d = 8) (e : EX (CSd d) (PSo d) h h1) : h1 1 2 = h 1 2 ∧ h1 1 3 = h 1 3 ∧ h1 1 4 = h 1 4 ∧ h1 1 5 = h 1 5 ∧ h1 2 = h 2 := by
  rcases hd with rfl | rfl
  · exact ⟨e 1 2 (by decide) (by decide), e 1 3 (by decide) (by decide), e 1 4 (by decide) (by decide), e 1 5 (by decide) (by decide), EX_fn e (by decide) (by decide)⟩
  · exact ⟨e 1 2 (by decide) (by decide), e 1 3 (by decide) (by decide), e 1 4 (by decide) (by decide), e 1 5 (by decide) (by decide), EX_fn e (by decide) (by decide)⟩
theorem EX_d2 {h1 : HP} (hd : d = 3 ∨ d = 8) (e : EX (CSd d) (PSd d) h h1) : h1 1 2 = h 1 2 := by
  rcases hd with rfl | rfl
  · exact e 1 2 (by decide) (by decide)
  · exact e 1 2 (by decide) (by decide)
theorem sp_R_reads (V : CW n hr) (hd : d = 3 ∨ d = 8) (rd : hr 1 1 = d) (P : TPc T h) (hN : N ≤ 700) (hE : ∀ f p, pText T N 701 ds0 0 = .inl (f, p) → ∀ h1, EX (CSd d) (PSt d) h h1 → h1 1 2 = 0 → FTc f p h1 → Q (0, 0) n hr h1) (hK : ∀ s, pText T N 701 ds0 0 = .inr s → dOK s → ∀ h1, EX (CSd d) (PSt d) h h1 → h1 1 2 = 0 → h1 1 3 = 0 → h1 1 4 = -1 → DFT d s h1 → Q (0, 1) n hr h1) : f_R_reads [(2, 1), (0, (N : Int))] n hr h Q := by
  have p0 := (prow_of V hd).1
  have key : ∀ (m k : Nat), k + m = 701 → ∀ (s : DS) (a : Nat) (h1 : HP), k ≤ a → a ≤ N → dL s = k → dOK s → pText T N m s a = pText T N 701 ds0 0 → EX (CSd d) (PSt d) h h1 → DFT d s h1 → h1 1 2 = 0 → h1 1 3 = 0 → h1 1 4 = -1 → h1 1 5 = (N : Int) → h1 1 6 = (a : Int) → h1 2 = h 2 → p_R_reads_40 (n + 0) (ai_q 0 n Q) 1 (k : Int) n hr h1 := by
    intro m
    induction m with
    | zero => intro k hk s a h1 k1 k2; omega
    | succ m ih =>
      intro k hk s a h1 ka aN lk O et e1 D c2 c3 c4 c5 c6 ct
      have tb := tok_b (T := T) aN
      have P1 := TPc_fr P ct
      have eU : pText T N (m + 1) s a = if (tok T N a).1 = 0 then .inr s else sb (pLine T N s (tok T N a)) fun v => pText T N m v.1 v.2 := rfl
      refine b_R_reads_40 ⟨fun q => by omega, fun _ => ⟨ok_1 V.1, sp_R_advance V P1 hN aN c5 c6 fun h2 e2 t2 => ?_⟩⟩
      have E2 : EX (CSd d) (PSo d) h1 h2 := EX_o e2
      have F2 := EX_o34 hd E2
      have D2 := DFT_W hd (RP_W e2) D
      have tt := t2
      obtain ⟨t5, t6, t7, t8, t9⟩ := t2
      rw [t7]
      refine ⟨ok_1 V.1, fun q => ⟨ok_1 V.1, ?_⟩, fun q => ?_⟩
      · rw [eU, if_neg (by omega)] at et
        refine sp_R_readLine V hd rd O D2 (TPc_fr P1 F2.2.2.2.2) hN aN tt ⟨fun f p e h3 e3 f3 => ⟨fun _ => ⟨Or.inl rfl, ?_⟩, fun r => absurd rfl r⟩, fun v e h3 e3 d3 m6 => ⟨fun r => absurd r (by decide), fun _ => ⟨ok_1 V.1, ?_⟩⟩⟩
        · refine q_at rfl (hE f p ?_ h3 (EX_tr e1 (EX_tr (EX_t1 (EX_oW E2)) (EX_t1 e3))) ?_ f3)
          · rw [← et]; unfold pLine; rw [e]; rfl
          · rw [EX_d2 hd e3, F2.1]; exact c2
        · have bv := pBody_r O tb.2.2.2.1 e
          have F3 := EX_o34 hd e3
          have P3 : TPc T h3 := TPc_fr P1 (by rw [F3.2.2.2.2, F2.2.2.2.2])
          have E3 := EX_tr E2 e3
          have m5 : h3 1 5 = (N : Int) := by rw [F3.2.2.2.1, F2.2.2.2.1]; exact c5
          refine sp_R_readClose V P3 hN bv.2.2.1 m5 m6 (fun f p e4 h4 e5 f5 => ⟨fun r => absurd rfl r, fun _ => ⟨Or.inl rfl, ?_⟩⟩) fun c e4 h4 e5 k6 => ⟨fun _ => ?_, fun r => absurd r (by decide)⟩
          · have E5 := EX_W (d := d) e5
            refine q_at rfl (hE f p ?_ h4 (EX_tr e1 (EX_tr (EX_t1 (EX_oW E3)) (EX_t1 E5))) ?_ f5)
            · rw [← et]; unfold pLine; rw [e, sb_r, e4]; rfl
            · rw [EX_d2 hd E5, F3.1, F2.1]; exact c2
          · have E5 : EX (CSd d) (PSo d) h3 h4 := EX_o e5
            have F5 := EX_o34 hd E5
            have D5 := DFT_W hd (RP_W e5) d3
            have cr := pClose_r bv.1 bv.2.2.1 (e4 v.1)
            have l9 : h4 d 9 = (dL v.1 : Int) := D5.2.1.2.2.1
            simp (disch := omega) only [ok_1 V.1, rd, p0, l9, true_and]
            have E6 : EX (CSd d) (PSo d) h1 (ai_up h4 d 9 (w32 ((dL v.1 : Int) + 1))) := EX_upp (EX_tr E3 E5) (by simp)
            have F6 := EX_o34 hd E6
            have lb : dL v.1 = k := by have := bv.2.2.2; omega
            rw [w32_id (x := (k : Int) + 1) (by omega) (by omega), show (k : Int) + 1 = ((k + 1 : Nat) : Int) by omega]
            refine ih (k + 1) (by omega) (dN v.1, dM v.1, dJ v.1, dA v.1, dB v.1, dX v.1, dD v.1, dL v.1 + 1) c _ ?_ cr.2.2.1 (by show dL v.1 + 1 = k + 1; omega) cr.1 ?_ (EX_tr e1 (EX_t1 (EX_oW E6))) ?_ (by rw [F6.1]; exact c2) (by rw [F6.2.1]; exact c3) (by rw [F6.2.2.1]; exact c4) (by rw [F6.2.2.2.1]; exact c5) ?_ (by rw [F6.2.2.2.2]; exact ct)
            · have := cr.2.1; dsimp only at this; have := tb.2.2.1; have := tb.2.1; have := bv.2.1; omega
            · rw [← et]; unfold pLine; rw [e, sb_r, e4]; rfl
            · rw [w32_id (by omega) (by omega)]
              refine ⟨⟨?_, ?_, ?_⟩, ⟨?_, ?_, ?_, ?_, ?_⟩, ?_, ?_, ?_, ?_⟩
              · rw [up_oth (by omega)]; exact D5.1.1
              · rw [up_oth (by omega), up_oth (by omega)]; exact D5.1.2.1
              · rw [up_oth (by omega)]; exact D5.1.2.2
              · rw [up_oth (by omega)]; exact D5.2.1.1
              · rw [up_oth (by omega)]; exact D5.2.1.2.1
              · rw [up_same]; show _ = ((dL v.1 + 1 : Nat) : Int); omega
              · rw [up_oth (by omega)]; exact D5.2.1.2.2.2.1
              · rw [up_oth (by omega)]; exact D5.2.1.2.2.2.2
              · exact rowL_fn D5.2.2.1 (by funext j; rw [up_oth (by omega)])
              · exact rowL_fn D5.2.2.2.1 (by funext j; rw [up_oth (by omega)])
              · exact r24_f2 D5.2.2.2.2.1 (by funext j; rw [up_oth (by omega)])
              · exact r24_f2 D5.2.2.2.2.2 (by funext j; rw [up_oth (by omega)])
            · rw [up_oth (by omega)]; exact k6
      · rw [eU, if_pos (by omega)] at et
        refine ⟨Or.inr rfl, q_at rfl (hK s et.symm O h2 (EX_tr e1 (EX_t1 (EX_oW E2))) ?_ ?_ ?_ D2)⟩
        · rw [F2.1]; exact c2
        · rw [F2.2.1]; exact c3
        · rw [F2.2.2.1]; exact c4
  have E0 : EX (CSd d) (PSt d) h (ai_up (ai_up (ai_up (ai_up (ai_up h 1 5 (N : Int)) 1 6 0) 1 2 0) 1 3 0) 1 4 (-1)) := EX_upp (EX_upp (EX_upp (EX_upp (EX_upp EX_rf (by simp)) (by simp)) (by simp)) (by simp)) (by simp)
  have m7 : i_min (N : Int) 700 = (N : Int) := by unfold i_min; rw [if_neg (by omega)]
  apply e_R_reads
  simp only [ok_1 V.1, rd, m7, true_and]
  refine ⟨p0, sp_P_clear V hd fun h1 e1 d1 => ?_⟩
  have k1 : ∀ j, h1 1 j = (ai_up (ai_up (ai_up (ai_up (ai_up h 1 5 (N : Int)) 1 6 0) 1 2 0) 1 3 0) 1 4 (-1)) 1 j := fun j => e1 1 j (by simp; omega) (by simp; omega)
  have k2 : h1 2 = h 2 := by
    funext j
    rw [e1 2 j (by simp; omega) (by simp; omega)]
    simp (disch := omega) only [up_oth]
  refine key 701 0 rfl ds0 0 h1 (Nat.le_refl _) (Nat.zero_le _) rfl dOK_0 rfl (EX_tr E0 (EX_le e1 (fun _ q => q) fun p hp => Or.inl (List.mem_cons_of_mem _ (List.mem_cons_of_mem _ (List.mem_append_right _ hp))))) d1 ?_ ?_ ?_ ?_ ?_ k2
  · rw [k1]; simp (disch := omega) only [up_oth, up_same]
  · rw [k1]; simp (disch := omega) only [up_oth, up_same]
  · rw [k1]; simp (disch := omega) only [up_oth, up_same]
  · rw [k1]; simp (disch := omega) only [up_oth, up_same]
  · rw [k1]; simp (disch := omega) only [up_oth, up_same]; rfl
end
