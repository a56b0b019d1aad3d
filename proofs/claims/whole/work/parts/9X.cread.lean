-- deps: 18 19 20 21 22 23 24 25 26 27 28 29 30 31 32 33 34 35 36 9S 9T 9W
/-! the class reads a text's lines -/
section
variable {Q : RP} {n : Nat} {hr h : HP} {T : Int → Int} {N : Nat} {d : Int} {s : DS}
def prow (hr : HP) (d : Int) (n : Nat) : Prop := ai_ok n d 3 ∧ (hr d 0 = d + 1 ∧ ai_ok n (d + 1) 50 ∧ ai_l (d + 1) = 8) ∧ (hr d 1 = d + 2 ∧ ai_ok n (d + 2) 50 ∧ ai_l (d + 2) = 3) ∧ (hr d 2 = d + 3 ∧ ai_ok n (d + 3) 50 ∧ ai_l (d + 3) = 24) ∧ (hr d 3 = d + 4 ∧ ai_ok n (d + 4) 50 ∧ ai_l (d + 4) = 24)
theorem prow_of (V : CW n hr) (hd : d = 3 ∨ d = 8) : prow hr d n := by
  rcases hd with rfl | rfl
  · exact ⟨ok_3 V.1, cr_3_0 V, cr_3_1 V, cr_3_2 V, cr_3_3 V⟩
  · exact ⟨ok_8 V.1, cr_8_0 V, cr_8_1 V, cr_8_2 V, cr_8_3 V⟩
/-- what plan d holds -/
def DFT (d : Int) (s : DS) (h : HP) : Prop := (h d 4 = (dM s : Int) ∧ h d 4 + h d 5 = ((dN s).length : Int) ∧ h d 6 = ((dJ s).length : Int)) ∧ (h d 7 = (if dX s = 0 then 0 else dX s - 1) ∧ h d 8 = (if dD s = 0 then 0 else dD s - 1) ∧ h d 9 = (dL s : Int) ∧ h d 10 = (if dX s = 0 then 0 else 1) ∧ h d 11 = (if dD s = 0 then 0 else 1)) ∧ rowL (h (d + 1)) 0 (dN s) ∧ rowL (h (d + 2)) 0 (dJ s) ∧ r24 (h (d + 3)) (dA s) ∧ r24 (h (d + 4)) (dB s)
theorem DFT_fr {h1 : HP} (H : DFT d s h) (a : h1 d = h d) (b : h1 (d + 1) = h (d + 1)) (c : h1 (d + 2) = h (d + 2)) (e : h1 (d + 3) = h (d + 3)) (f : h1 (d + 4) = h (d + 4)) : DFT d s h1 := by
  unfold DFT; rw [a, b, c, e, f]; exact H
abbrev RWs : List (Int × Int) := [(1, 3), (1, 4), (1, 6), (1, 7), (1, 8), (1, 9)]
theorem DFT_W {h1 : HP} (hd : d = 3 ∨ d = 8) (e : EX [] RWs h h1) (H : DFT d s h) : DFT d s h1 := by
  have k : ∀ c : Int, c ≠ 1 → h1 c = h c := fun c hc => EX_fn e (by simp) (by simp [hc])
  exact DFT_fr H (k _ (by omega)) (k _ (by omega)) (k _ (by omega)) (k _ (by omega)) (k _ (by omega))
theorem sp_P_placeNamed {v : Int} (V : CW n hr) (hd : d = 3 ∨ d = 8) (O : dOK s) (D : DFT d s h) (hQ : Q (0, fnK (dN s) v 0) n hr h) : f_P_placeNamed [(2, d), (0, v)] n hr h Q := by
  obtain ⟨p0, p1, p2, p3, p4⟩ := prow_of V hd
  obtain ⟨⟨o1, o2, o3, o4, o5⟩, -⟩ := O
  apply e_P_placeNamed
  have main := lupN (N := (dN s).length) (P := fun k => fnK (dN s) v k = fnK (dN s) v 0 → p_P_placeNamed_2 (n + 0) (ai_q 0 n Q) d v (k : Int) n hr h) ?_ ?_
  · exact main rfl
  · intro e
    refine b_P_placeNamed_2 ?_
    rw [fnK_e (Nat.le_refl _)] at e
    rw [← e] at hQ
    simp (disch := omega) only [p0, D.1.2.1, w32_id, true_and]
    exact ⟨fun _ => (by first | exact q_at rfl (hQ) | exact (hQ)), fun q => by omega⟩
  · intro k hk ih e
    have hx := List.getElem?_eq_getElem hk
    generalize (dN s)[k] = x at hx
    have g := D.2.2.1 k x hx
    rw [Int.zero_add] at g
    refine b_P_placeNamed_2 ?_
    simp (disch := omega) only [p0, p1, D.1.2.1, g, w32_id, true_and]
    refine ⟨fun q => by omega, fun _ => ⟨fun q => by omega, fun _ => ?_⟩⟩
    repeat (refine ⟨by omega, ?_⟩)
    refine ⟨fun q => ih (by rw [← fnK_n hx q]; exact e), fun q => ?_⟩
    rw [fnK_y hx q] at e
    rw [← e] at hQ
    exact (by first | exact q_at rfl (hQ) | exact (hQ))
theorem sp_P_inputNamed {v : Int} (V : CW n hr) (hd : d = 3 ∨ d = 8) (O : dOK s) (D : DFT d s h) (hQ : Q (0, fnK (dJ s) v 0) n hr h) : f_P_inputNamed [(2, d), (0, v)] n hr h Q := by
  obtain ⟨p0, p1, p2, p3, p4⟩ := prow_of V hd
  obtain ⟨⟨o1, o2, o3, o4, o5⟩, -⟩ := O
  apply e_P_inputNamed
  have main := lupN (N := (dJ s).length) (P := fun k => fnK (dJ s) v k = fnK (dJ s) v 0 → p_P_inputNamed_2 (n + 0) (ai_q 0 n Q) d v (k : Int) n hr h) ?_ ?_
  · exact main rfl
  · intro e
    refine b_P_inputNamed_2 ?_
    rw [fnK_e (Nat.le_refl _)] at e
    rw [← e] at hQ
    simp (disch := omega) only [p0, D.1.2.2, w32_id, true_and]
    exact ⟨fun _ => (by first | exact q_at rfl (hQ) | exact (hQ)), fun q => by omega⟩
  · intro k hk ih e
    have hx := List.getElem?_eq_getElem hk
    generalize (dJ s)[k] = x at hx
    have g := D.2.2.2.1 k x hx
    rw [Int.zero_add] at g
    refine b_P_inputNamed_2 ?_
    simp (disch := omega) only [p0, p2, D.1.2.2, g, w32_id, true_and]
    refine ⟨fun q => by omega, fun _ => ⟨fun q => by omega, fun _ => ?_⟩⟩
    repeat (refine ⟨by omega, ?_⟩)
    refine ⟨fun q => ih (by rw [← fnK_n hx q]; exact e), fun q => ?_⟩
    rw [fnK_y hx q] at e
    rw [← e] at hQ
    exact (by first | exact q_at rfl (hQ) | exact (hQ))
theorem sp_P_isTold {v : Int} (V : CW n hr) (hd : d = 3 ∨ d = 8) (O : dOK s) (D : DFT d s h) (h1 : (0 ≤ fnK (dN s) v 0 ∨ 0 ≤ fnK (dJ s) v 0) → Q (0, 1) n hr h) (h0 : ¬ (0 ≤ fnK (dN s) v 0 ∨ 0 ≤ fnK (dJ s) v 0) → Q (0, 0) n hr h) : f_P_isTold [(2, d), (0, v)] n hr h Q := by
  have p0 := (prow_of V hd).1
  apply e_P_isTold
  refine ⟨p0, sp_P_placeNamed V hd O D ⟨fun q => ⟨Or.inr rfl, (by first | exact q_at rfl (h1 (Or.inl q)) | exact (h1 (Or.inl q)))⟩, fun q => ⟨p0, sp_P_inputNamed V hd O D ⟨fun q2 => ⟨Or.inl rfl, (by first | exact q_at rfl (h0 (fun r => by rcases r with r | r; exact absurd q (Int.not_lt.mpr r); exact absurd q2 (Int.not_lt.mpr r))) | exact (h0 (fun r => by rcases r with r | r; exact absurd q (Int.not_lt.mpr r); exact absurd q2 (Int.not_lt.mpr r))))⟩, fun q2 => ⟨Or.inr rfl, (by first | exact q_at rfl (h1 (Or.inr q2)) | exact (h1 (Or.inr q2)))⟩⟩⟩⟩⟩
theorem sp_P_clear (V : CW n hr) (hd : d = 3 ∨ d = 8) (hQ : ∀ h1, EX [d + 1, d + 2, d + 3, d + 4] [(d, 4), (d, 5), (d, 6), (d, 7), (d, 8), (d, 9), (d, 10), (d, 11)] h h1 → DFT d ds0 h1 → Q (9, 0) n hr h1) : f_P_clear [(2, d)] n hr h Q := by
  obtain ⟨p0, p1, p2, p3, p4⟩ := prow_of V hd
  apply e_P_clear
  rw [p3.1]
  refine ⟨p0, sp_J_fill p3.2.1 ?_⟩
  rw [p4.1]
  refine ⟨p0, sp_J_fill p4.2.1 ?_⟩
  rw [p3.2.2, p4.2.2]
  simp only [p0, true_and, true_or]
  refine q_at rfl (hQ _ ?_ ⟨⟨?_, ?_, ?_⟩, ⟨?_, ?_, ?_, ?_, ?_⟩, (fun j w hj => by cases hj), (fun j w hj => by cases hj), fun a a1 a2 => ?_, fun a a1 a2 => ?_⟩)
  · exact EX_upp (EX_upp (EX_upp (EX_upp (EX_upp (EX_upp (EX_upp (EX_upp (EX_fl (EX_fl EX_rf (by simp)) (by simp)) (by simp)) (by simp)) (by simp)) (by simp)) (by simp)) (by simp)) (by simp)) (by simp)
  · simp (disch := omega) only [up_oth, up_same]; rfl
  · simp (disch := omega) only [up_oth, up_same]; rfl
  · simp (disch := omega) only [up_oth, up_same]; rfl
  · simp (disch := omega) only [up_oth, up_same]; rfl
  · simp (disch := omega) only [up_oth, up_same]; rfl
  · simp (disch := omega) only [up_oth, up_same]; rfl
  · simp (disch := omega) only [up_oth, up_same]; rfl
  · simp (disch := omega) only [up_oth, up_same]; rfl
  · simp (disch := omega) only [up_oth]
    rw [fl_out (by omega), fl_in a1 a2]; rfl
  · simp (disch := omega) only [up_oth]
    rw [fl_in a1 a2]; rfl
/-- a fault -/
def FTc (f p : Nat) (h : HP) : Prop := h 1 3 = (f : Int) ∧ h 1 4 = (p : Int)
theorem sp_R_wrong {f : Nat} {p : Nat} (V : CW n hr) (c9 : h 1 9 = (p : Int)) (hQ : ∀ h1, EX [] RWs h h1 → FTc f p h1 → Q (0, 0) n hr h1) : f_R_wrong [(2, 1), (0, (f : Int))] n hr h Q := by
  apply e_R_wrong
  simp (disch := omega) only [ok_1 V.1, up_oth, c9, true_and, true_or]
  refine q_at rfl (hQ _ (EX_upp (EX_upp EX_rf (by decide)) (by decide)) ⟨?_, ?_⟩)
  · rw [up_oth (by omega), up_same]
  · rw [up_same]
theorem wi_0 (v : Nat) : wi v < 0 ↔ ¬ (v = 658559136 ∨ v = 317216384 ∨ v = 452531200 ∨ v = 52527104 ∨ v = 695520896 ∨ v = 193611808 ∨ v = 642945024) := by
  unfold wi
  repeat (first | omega | split)
theorem sp_R_isOfLanguage {v : Nat} (h1 : ¬ wi v < 0 → Q (0, 1) n hr h) (h0 : wi v < 0 → Q (0, 0) n hr h) : f_R_isOfLanguage [(0, (v : Int))] n hr h Q := by
  rw [wi_0] at h0 h1
  apply e_R_isOfLanguage
  simp only [true_or, or_true, true_and]
  refine ⟨fun q => (by first | exact q_at rfl (h1 (by omega)) | exact (h1 (by omega))), fun q => ⟨fun q => (by first | exact q_at rfl (h1 (by omega)) | exact (h1 (by omega))), fun q => ⟨fun q => (by first | exact q_at rfl (h1 (by omega)) | exact (h1 (by omega))), fun q => ⟨fun q => (by first | exact q_at rfl (h1 (by omega)) | exact (h1 (by omega))), fun q => ⟨fun q => (by first | exact q_at rfl (h1 (by omega)) | exact (h1 (by omega))), fun q => ⟨fun q => (by first | exact q_at rfl (h1 (by omega)) | exact (h1 (by omega))), fun q => ⟨fun q => (by first | exact q_at rfl (h0 (by omega)) | exact (h0 (by omega))), fun q => (by first | exact q_at rfl (h1 (by omega)) | exact (h1 (by omega)))⟩⟩⟩⟩⟩⟩⟩
theorem RP_W {h1 : HP} (e : EX [] RPs h h1) : EX [] RWs h h1 := EX_le e (by decide) (by decide)
theorem sp_R_readName {a : Nat} (V : CW n hr) (P : TPc T h) (hN : N ≤ 700) (ha : a ≤ N) (a5 : h 1 5 = (N : Int)) (a6 : h 1 6 = (a : Int)) (hE : ∀ f p, pName T N a = .inl (f, p) → ∀ h1, EX [] RWs h h1 → FTc f p h1 → Q (0, 0) n hr h1) (hK : ∀ v, pName T N a = .inr v → ∀ h1, EX [] RPs h h1 → h1 1 8 = (v.1 : Int) → h1 1 9 = (v.2.1 : Int) → h1 1 6 = (v.2.2 : Int) → Q (0, 1) n hr h1) : f_R_readName [(2, 1)] n hr h Q := by
  apply e_R_readName
  refine ⟨ok_1 V.1, sp_R_advance V P hN ha a5 a6 fun h1 e1 t1 => ?_⟩
  obtain ⟨t5, t6, t7, t8, t9⟩ := t1
  simp (disch := omega) only [ok_1 V.1, t7, true_and, true_or, or_true]
  refine ⟨fun q => ?_, fun q => ?_⟩
  · refine sp_R_wrong (f := 1) V t9 fun h2 e2 f2 => ⟨fun _ => (by first | exact q_at rfl (hE 1 _ (if_neg fun r => q (by omega)) h2 (EX_tr (RP_W e1) e2) f2) | exact (hE 1 _ (if_neg fun r => q (by omega)) h2 (EX_tr (RP_W e1) e2) f2)), fun r => absurd rfl r⟩
  · rw [t8 (Or.inl (by omega))]
    refine sp_R_isOfLanguage (fun y => ⟨fun r => absurd r (by decide), fun _ => ?_⟩) fun y => ⟨fun _ => ?_, fun r => absurd rfl r⟩
    · refine ⟨ok_1 V.1, sp_R_wrong (f := 1) V t9 fun h2 e2 f2 => ⟨fun _ => (by first | exact q_at rfl (hE 1 _ (if_neg fun r => y r.2) h2 (EX_tr (RP_W e1) e2) f2) | exact (hE 1 _ (if_neg fun r => y r.2) h2 (EX_tr (RP_W e1) e2) f2)), fun r => absurd rfl r⟩⟩
    · have e : pName T N a = .inr ((tok T N a).2.1, (tok T N a).2.2.1, (tok T N a).2.2.2) := if_pos ⟨by omega, y⟩
      exact (by first | exact q_at rfl (hK _ e h1 e1 (t8 (Or.inl (by omega))) t9 t6) | exact (hK _ e h1 e1 (t8 (Or.inl (by omega))) t9 t6))
theorem sp_R_readNewName {a : Nat} (V : CW n hr) (hd : d = 3 ∨ d = 8) (rd : hr 1 1 = d) (O : dOK s) (D : DFT d s h) (P : TPc T h) (hN : N ≤ 700) (ha : a ≤ N) (a5 : h 1 5 = (N : Int)) (a6 : h 1 6 = (a : Int)) (hE : ∀ f p, pNew T N s a = .inl (f, p) → ∀ h1, EX [] RWs h h1 → FTc f p h1 → Q (0, 0) n hr h1) (hK : ∀ v, pNew T N s a = .inr v → ∀ h1, EX [] RPs h h1 → h1 1 8 = (v.1 : Int) → h1 1 6 = (v.2 : Int) → Q (0, 1) n hr h1) : f_R_readNewName [(2, 1)] n hr h Q := by
  have p0 := (prow_of V hd).1
  apply e_R_readNewName
  refine ⟨ok_1 V.1, sp_R_readName V P hN ha a5 a6 (fun f p e h1 e1 f1 => ⟨fun _ => ⟨Or.inl rfl, ?_⟩, fun r => absurd rfl r⟩) fun v e h1 e1 c8 c9 c6 => ⟨fun r => absurd r (by decide), fun _ => ?_⟩⟩
  · exact (by first | exact q_at rfl (hE f p (by unfold pNew; rw [e]; rfl) h1 e1 f1) | exact (hE f p (by unfold pNew; rw [e]; rfl) h1 e1 f1))
  · have D1 := DFT_W hd (RP_W e1) D
    simp (disch := omega) only [ok_1 V.1, rd, p0, c8, true_and, true_or, or_true]
    refine sp_P_isTold V hd O D1 (fun q => ⟨fun r => absurd r (by decide), fun _ => ?_⟩) fun q => ⟨fun _ => ?_, fun r => absurd rfl r⟩
    · refine ⟨ok_1 V.1, sp_R_wrong (f := 3) V c9 fun h2 e2 f2 => ⟨fun _ => (by first | exact q_at rfl (hE 3 _ (by unfold pNew; rw [e, sb_r, if_pos q]) h2 (EX_tr (RP_W e1) e2) f2) | exact (hE 3 _ (by unfold pNew; rw [e, sb_r, if_pos q]) h2 (EX_tr (RP_W e1) e2) f2)), fun r => absurd rfl r⟩⟩
    · exact (by first | exact q_at rfl (hK (v.1, v.2.2) (by unfold pNew; rw [e, sb_r, if_neg q]) h1 e1 c8 c6) | exact (hK (v.1, v.2.2) (by unfold pNew; rw [e, sb_r, if_neg q]) h1 e1 c8 c6))
theorem sp_R_readPlace {a c : Nat} (V : CW n hr) (hd : d = 3 ∨ d = 8) (rd : hr 1 1 = d) (O : dOK s) (D : DFT d s h) (P : TPc T h) (hN : N ≤ 700) (ha : a ≤ N) (a5 : h 1 5 = (N : Int)) (a6 : h 1 6 = (a : Int)) (hE : ∀ f p, pPl T N s c a = .inl (f, p) → ∀ h1, EX [] RWs h h1 → FTc f p h1 → Q (0, -1) n hr h1) (hK : ∀ v, pPl T N s c a = .inr v → ∀ h1, EX [] RPs h h1 → h1 1 9 = (v.2.1 : Int) → h1 1 6 = (v.2.2 : Int) → Q (0, (v.1 : Int)) n hr h1) : f_R_readPlace [(2, 1), (0, (c : Int))] n hr h Q := by
  have p0 := (prow_of V hd).1
  apply e_R_readPlace
  refine ⟨ok_1 V.1, sp_R_readName V P hN ha a5 a6 (fun f p e h1 e1 f1 => ⟨fun r => absurd rfl r, fun _ => ?_⟩) fun v e h1 e1 c8 c9 c6 => ⟨fun _ => ?_, fun r => absurd r (by decide)⟩⟩
  · exact (by first | exact q_at rfl (hE f p (by unfold pPl; rw [e]; rfl) h1 e1 f1) | exact (hE f p (by unfold pPl; rw [e]; rfl) h1 e1 f1))
  · have D1 := DFT_W hd (RP_W e1) D
    have fb := fnK_bd (dN s) (v.1 : Int)
    simp (disch := omega) only [ok_1 V.1, rd, p0, c8, true_and, true_or, or_true]
    refine sp_P_placeNamed V hd O D1 ⟨fun q => ?_, fun q => ⟨fun q2 => ?_, fun q2 => ?_⟩⟩
    · refine ⟨ok_1 V.1, sp_R_wrong (f := 4) V c9 fun h2 e2 f2 => (by first | exact q_at rfl (hE 4 _ (by unfold pPl; rw [e, sb_r, if_neg (by dsimp only at q; omega)]) h2 (EX_tr (RP_W e1) e2) f2) | exact (hE 4 _ (by unfold pPl; rw [e, sb_r, if_neg (by dsimp only at q; omega)]) h2 (EX_tr (RP_W e1) e2) f2))⟩
    · have eK : pPl T N s c a = .inr ((fnK (dN s) v.1 0).toNat, v.2.1, v.2.2) := by unfold pPl; rw [e, sb_r, if_pos ⟨q, q2⟩]
      have H := hK _ eK h1 e1 c9 c6
      dsimp only at q H
      rw [Int.toNat_of_nonneg q] at H
      exact (by first | exact q_at rfl (H) | exact (H))
    · refine ⟨ok_1 V.1, sp_R_wrong (f := 4) V c9 fun h2 e2 f2 => (by first | exact q_at rfl (hE 4 _ (by unfold pPl; rw [e, sb_r, if_neg (by dsimp only at q2; omega)]) h2 (EX_tr (RP_W e1) e2) f2) | exact (hE 4 _ (by unfold pPl; rw [e, sb_r, if_neg (by dsimp only at q2; omega)]) h2 (EX_tr (RP_W e1) e2) f2))⟩
theorem sp_R_readKnownInput {a : Nat} (V : CW n hr) (hd : d = 3 ∨ d = 8) (rd : hr 1 1 = d) (O : dOK s) (D : DFT d s h) (P : TPc T h) (hN : N ≤ 700) (ha : a ≤ N) (a5 : h 1 5 = (N : Int)) (a6 : h 1 6 = (a : Int)) (hE : ∀ f p, pIn T N s a = .inl (f, p) → ∀ h1, EX [] RWs h h1 → FTc f p h1 → Q (0, -1) n hr h1) (hK : ∀ v, pIn T N s a = .inr v → ∀ h1, EX [] RPs h h1 → h1 1 9 = (v.2.1 : Int) → h1 1 6 = (v.2.2 : Int) → Q (0, (v.1 : Int)) n hr h1) : f_R_readKnownInput [(2, 1)] n hr h Q := by
  have p0 := (prow_of V hd).1
  apply e_R_readKnownInput
  refine ⟨ok_1 V.1, sp_R_readName V P hN ha a5 a6 (fun f p e h1 e1 f1 => ⟨fun r => absurd rfl r, fun _ => ?_⟩) fun v e h1 e1 c8 c9 c6 => ⟨fun _ => ?_, fun r => absurd r (by decide)⟩⟩
  · exact (by first | exact q_at rfl (hE f p (by unfold pIn; rw [e]; rfl) h1 e1 f1) | exact (hE f p (by unfold pIn; rw [e]; rfl) h1 e1 f1))
  · have D1 := DFT_W hd (RP_W e1) D
    have fb := fnK_bd (dJ s) (v.1 : Int)
    simp (disch := omega) only [ok_1 V.1, rd, p0, c8, true_and, true_or, or_true]
    refine sp_P_inputNamed V hd O D1 ⟨fun q => ?_, fun q => ?_⟩
    · have eK : pIn T N s a = .inr ((fnK (dJ s) v.1 0).toNat, v.2.1, v.2.2) := by unfold pIn; rw [e, sb_r, if_pos q]
      have H := hK _ eK h1 e1 c9 c6
      dsimp only at q H
      rw [Int.toNat_of_nonneg q] at H
      exact (by first | exact q_at rfl (H) | exact (H))
    · dsimp only at q
      have f1 : fnK (dJ s) v.1 0 = -1 := by omega
      rw [f1]
      refine ⟨ok_1 V.1, sp_R_wrong (f := 4) V c9 fun h2 e2 f2 => (by first | exact q_at rfl (hE 4 _ (by unfold pIn; rw [e, sb_r, if_neg (by omega)]) h2 (EX_tr (RP_W e1) e2) f2) | exact (hE 4 _ (by unfold pIn; rw [e, sb_r, if_neg (by omega)]) h2 (EX_tr (RP_W e1) e2) f2))⟩
theorem sp_R_readNumber {a m : Nat} (V : CW n hr) (P : TPc T h) (hN : N ≤ 700) (ha : a ≤ N) (a5 : h 1 5 = (N : Int)) (a6 : h 1 6 = (a : Int)) (hE : ∀ f p, pNum T N m a = .inl (f, p) → ∀ h1, EX [] RWs h h1 → FTc f p h1 → Q (0, 0) n hr h1) (hK : ∀ v, pNum T N m a = .inr v → ∀ h1, EX [] RPs h h1 → h1 1 8 = (v.1 : Int) → h1 1 6 = (v.2 : Int) → Q (0, 1) n hr h1) : f_R_readNumber [(2, 1), (0, (m : Int))] n hr h Q := by
  apply e_R_readNumber
  refine ⟨ok_1 V.1, sp_R_advance V P hN ha a5 a6 fun h1 e1 t1 => ?_⟩
  obtain ⟨t5, t6, t7, t8, t9⟩ := t1
  simp (disch := omega) only [ok_1 V.1, t7, true_and, true_or, or_true]
  refine ⟨fun q => ?_, fun q => ?_⟩
  · have t8' := t8 (Or.inr (by omega))
    rw [t8']
    refine ⟨fun q2 => ?_, fun q2 => ?_⟩
    · have e : pNum T N m a = .inr ((tok T N a).2.1, (tok T N a).2.2.2) := by unfold pNum; rw [if_pos (by omega), if_pos (by omega)]
      exact (by first | exact q_at rfl (hK _ e h1 e1 t8' t6) | exact (hK _ e h1 e1 t8' t6))
    · refine sp_R_wrong (f := 2) V t9 fun h2 e2 f2 => ⟨fun _ => (by first | exact q_at rfl (hE 2 _ (by unfold pNum; rw [if_pos (by omega), if_neg (by omega)]) h2 (EX_tr (RP_W e1) e2) f2) | exact (hE 2 _ (by unfold pNum; rw [if_pos (by omega), if_neg (by omega)]) h2 (EX_tr (RP_W e1) e2) f2)), fun r => absurd rfl r⟩
  · refine sp_R_wrong (f := 1) V t9 fun h2 e2 f2 => ⟨Or.inl rfl, (by first | exact q_at rfl (hE 1 _ (by unfold pNum; rw [if_neg (by omega)]) h2 (EX_tr (RP_W e1) e2) f2) | exact (hE 1 _ (by unfold pNum; rw [if_neg (by omega)]) h2 (EX_tr (RP_W e1) e2) f2))⟩
theorem sp_R_readClose {a : Nat} (V : CW n hr) (P : TPc T h) (hN : N ≤ 700) (ha : a ≤ N) (a5 : h 1 5 = (N : Int)) (a6 : h 1 6 = (a : Int)) (hE : ∀ f p, (∀ s, pClose T N s a = .inl (f, p)) → ∀ h1, EX [] RWs h h1 → FTc f p h1 → Q (0, 0) n hr h1) (hK : ∀ c : Nat, (∀ s, pClose T N s a = .inr ((dN s, dM s, dJ s, dA s, dB s, dX s, dD s, dL s + 1), c)) → ∀ h1, EX [] RPs h h1 → h1 1 6 = (c : Int) → Q (0, 1) n hr h1) : f_R_readClose [(2, 1)] n hr h Q := by
  apply e_R_readClose
  refine ⟨ok_1 V.1, sp_R_advance V P hN ha a5 a6 fun h1 e1 t1 => ?_⟩
  obtain ⟨t5, t6, t7, t8, t9⟩ := t1
  simp (disch := omega) only [ok_1 V.1, t7, true_and, true_or, or_true]
  refine ⟨fun q => ?_, fun q => ?_⟩
  · exact (by first | exact q_at rfl (hK _ (fun s => if_pos (by omega)) h1 e1 t6) | exact (hK _ (fun s => if_pos (by omega)) h1 e1 t6))
  · refine sp_R_wrong (f := 1) V t9 fun h2 e2 f2 => ⟨fun _ => (by first | exact q_at rfl (hE 1 _ (fun s => if_neg (by omega)) h2 (EX_tr (RP_W e1) e2) f2) | exact (hE 1 _ (fun s => if_neg (by omega)) h2 (EX_tr (RP_W e1) e2) f2)), fun r => absurd rfl r⟩
end
