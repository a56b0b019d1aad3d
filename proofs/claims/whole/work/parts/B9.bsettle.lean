-- deps: 18 19 20 21 22 23 24 25 26 27 28 29 30 31 32 33 34 35 36 37 38 39 40 41 42 43 44 45 46 47 48 49 50 51 52 53 54 55 56 57 58 59 60 61 62 63 64 65 66 67 68 69 70 71 72 73 74 75 76 77 78 79 80 81 82 83 84 85 86 87 88 89 90 91 92 93 94 95 96 97 98 99 9A 9B 9C 9D 9E 9F 9G 9H 9I 9J 9K 9L 9M 9N 9O 9P 9Q 9R 9S 9T 9U 9V 9W 9X 9Y 9Z A0 A1 A2 A3 A4 A5 A6 A7 B0 B1 B2 B3 B4 B5 B6 B7 B8
/-! the class's own methods: a text is taken -/
section
variable {Q : RP} {n : Nat} {hr h : HP} {z : ST} {d : Int} {k : Nat} {s : DS}
theorem sp_M_stl {R : RP} {m a b : Int} (hm : mrow hr m n) (hQ : ∀ h1, EX [m + 1, m + 2] [(m, 2), (m, 3)] h h1 → h1 m 2 = a → h1 m 3 = b → (∀ j : Int, 0 ≤ j → j < 24 → h1 (m + 1) j = j / 3 ∧ h1 (m + 2) j = 0) → R (9, 0) n hr h1) : f_M_still [(2, m), (0, a), (0, b)] n hr h R := by
  refine sp_M_still hm (hQ _ (EX_fl (EX_fl (EX_upp (EX_upp EX_rf (by simp)) (by simp)) (by simp)) (by simp)) ?_ ?_ fun j a b => ⟨?_, ?_⟩)
  · rw [fl_out (by omega), fl_out (by omega), up_oth (by omega), up_same]
  · rw [fl_out (by omega), fl_out (by omega), up_same]
  · rw [fl_out (by omega), fl_in a b]
  · rw [fl_in a b]
theorem sp_M_tla {R : RP} {m x : Int} {t o : Int → Int} {g : Int → Int} {c J : Nat} (hm : mrow hr m n) (hx : ai_ok n x 50) (hxl : ai_l x = 24) (hx1 : x ≠ m + 1) (hx2 : x ≠ m + 2) (G : r24 (h x) g) (O : rOK g c J) (hc : c ≤ 8) (rt : r24 (h (m + 1)) t) (ro : r24 (h (m + 2)) o) (hQ : ∀ h1, EX [m + 1, m + 2] [] h h1 → TRm m (fun a => if g a = -1 then t a else g a / 16) (fun a => if g a = -1 then o a else g a % 16) h1 → R (9, 0) n hr h1) : f_M_tellArcs [(2, m), (2, x)] n hr h R := by
  refine sp_M_tellArcs hm hx hxl hx1 hx2 (fun j a b => ?_) (hQ _ (EX_fl (EX_fl EX_rf (by simp)) (by simp)) ⟨fun j a b => ?_, fun j a b => ?_⟩)
  · rw [G j a b]
    rcases O j a b with q | q <;> omega
  · rw [fl_out (by omega), fl_in a b]
    unfold tlT
    rw [G j a b, rt j a b]
  · rw [fl_in a b]
    unfold tlO
    rw [G j a b, ro j a b]
theorem sc_tc {su e : Nat} (hs : su < 2) (he : e < 3) : tc su e = sc (3 * su + e) := by unfold tc sc; split <;> (try split) <;> omega
theorem sc_tw {wh : Nat} (hw : wh < 2) : tw wh = sc (6 + wh) := by unfold tw sc; split <;> (try split) <;> omega
theorem sp_B_settle {R : RP} {it io : Int → Int} {iG : LGT} (V : CW n hr) (hd : d = 3 ∨ d = 8) (rt : hr 0 12 = d) (O : dOK s) (D : DFT d s h) (hc : SC h) (tl : CTl h) (sb : STB h) (st : h 121 12 ≤ 13125 * (k : Int)) (hQ : ∀ h1, (∀ c : Int, 138 ≤ c → h1 c = h c) → (∀ c : Int, 1 ≤ c → c ≤ 12 → h1 c = h c) → C2 s (tB s) (oB s) h1 → C3 s h1 → C4 s h1 → C5 s h1 → C6 s h1 → C7 [] h1 → C8 s [] k h1 → C9 [] h1 → C10 0 it io iG h1 → R (9, 0) n hr h1) : f_B_settle [(2, 0)] n hr h R := by
  have TT := TV_s O
  obtain ⟨⟨o1, o2, o3, o4, o5⟩, oA, oB', oX, oD, -⟩ := O
  obtain ⟨p0, p1, p2, p3, p4⟩ := prow_of V hd
  obtain ⟨⟨d1, d2, d3⟩, ⟨d7, d8, d9, d10, d11⟩, dn, dj, da, db⟩ := D
  have dn13 : d ≠ 13 ∧ d ≠ 14 ∧ d ≠ 15 ∧ d ≠ 16 ∧ d ≠ 17 ∧ d ≠ 18 := by omega
  apply e_B_settle
  simp only [ok_0 V.1, cr_0_1 V, ok_13 V.1, rt, p0, d1, d3, true_and]
  refine sp_M_stl (mr_13 V) fun h1 e1 x2 x3 x4 => ?_
  have k1 : ∀ c : Int, c ∉ [13, 14, 15, 16, 17, (18 : Int)] → h1 c = h c := fun c hc => EX_fn e1 (fun q => hc (by revert q; simp; omega)) (fun q => hc (by revert q; simp; omega))
  simp only [ok_0 V.1, cr_0_1 V, ok_13 V.1, rt, p0, p3.1, true_and]
  refine sp_M_tla (t := fun a => a / 3) (o := fun _ => 0) (mr_13 V) p3.2.1 p3.2.2 (by omega) (by omega) (by rw [k1 (d + 3) (by simp; omega)]; exact da) oA (by omega) (fun a a1 a2 => (x4 a a1 a2).1) (fun a a1 a2 => (x4 a a1 a2).2) fun h2 e2 r2 => ?_
  have k2 : ∀ c : Int, c ∉ [13, 14, 15, 16, 17, (18 : Int)] → h2 c = h c := fun c hc => (EX_fn e2 (fun q => hc (by revert q; simp; omega)) (by simp)).trans (k1 c hc)
  have X : CX (dM s) (dJ s).length (tM s) (oM s) h2 := ⟨by rw [e2 13 2 (by decide) (by decide)]; exact x2, by rw [e2 13 3 (by decide) (by decide)]; exact x3, r2⟩
  have dd : h2 d = h d := k2 d (by simp; omega)
  simp only [ok_0 V.1, cr_0_2 V, ok_16 V.1, rt, p0, dd, d2, d3, true_and]
  rw [w32_id (by omega) (by omega)]
  refine sp_M_stl (mr_16 V) fun h3 e3 y2 y3 y4 => ?_
  have k3 : ∀ c : Int, c ∉ [13, 14, 15, 16, 17, (18 : Int)] → h3 c = h c := fun c hc => (EX_fn e3 (fun q => hc (by revert q; simp; omega)) (fun q => hc (by revert q; simp; omega))).trans (k2 c hc)
  simp only [ok_0 V.1, cr_0_2 V, ok_16 V.1, rt, p0, p3.1, true_and]
  refine sp_M_tla (t := fun a => a / 3) (o := fun _ => 0) (mr_16 V) p3.2.1 p3.2.2 (by omega) (by omega) (by rw [k3 (d + 3) (by simp; omega)]; exact da) oA (by omega) (fun a a1 a2 => (y4 a a1 a2).1) (fun a a1 a2 => (y4 a a1 a2).2) fun h4 e4 r4 => ?_
  have k4 : ∀ c : Int, c ∉ [13, 14, 15, 16, 17, (18 : Int)] → h4 c = h c := fun c hc => (EX_fn e4 (fun q => hc (by revert q; simp; omega)) (by simp)).trans (k3 c hc)
  simp only [ok_0 V.1, cr_0_2 V, ok_16 V.1, rt, p0, p4.1, true_and]
  refine sp_M_tla (t := tM s) (o := oM s) (mr_16 V) p4.2.1 p4.2.2 (by omega) (by omega) (by rw [k4 (d + 4) (by simp; omega)]; exact db) oB' (by omega) r4.1 r4.2 fun h5 e5 r5 => ?_
  have k5 : ∀ c : Int, c ∉ [13, 14, 15, 16, 17, (18 : Int)] → h5 c = h c := fun c hc => (EX_fn e5 (fun q => hc (by revert q; simp; omega)) (by simp)).trans (k4 c hc)
  have j5 : ∀ c : Int, c ∉ [16, 17, (18 : Int)] → h5 c = h2 c := fun c hc => (EX_fn e5 (fun q => hc (by revert q; simp; omega)) (by simp)).trans ((EX_fn e4 (fun q => hc (by revert q; simp; omega)) (by simp)).trans (EX_fn e3 (fun q => hc (by revert q; simp; omega)) (fun q => hc (by revert q; simp; omega))))
  have X5 : CX (dM s) (dJ s).length (tM s) (oM s) h5 := by unfold CX; rw [j5 13 (by decide), j5 14 (by decide), j5 15 (by decide)]; exact X
  have c52 : h5 16 2 = ((dN s).length : Int) := by rw [e5 16 2 (by decide) (by decide), e4 16 2 (by decide) (by decide)]; exact y2
  have c53 : h5 16 3 = ((dJ s).length : Int) := by rw [e5 16 3 (by decide) (by decide), e4 16 3 (by decide) (by decide)]; exact y3
  have B2 : C2 s (tB s) (oB s) h5 := ⟨X5, c52, c53, r5⟩
  simp only [ok_0 V.1, cr_0_3 V, ok_19 V.1, true_and]
  refine sp_A_learn V TT X5 fun h6 e6 B3 => ?_
  have X6 : CX (dM s) (dJ s).length (tM s) (oM s) h6 := by unfold CX; rw [EX_fn e6 (c := 13) (by decide) (by decide), EX_fn e6 (c := 14) (by decide) (by decide), EX_fn e6 (c := 15) (by decide) (by decide)]; exact X5
  simp only [ok_0 V.1, cr_0_4 V, ok_27 V.1, true_and]
  refine sp_S_renew V fun h7 e7 s1 s2 s3 => ?_
  have X7 : CX (dM s) (dJ s).length (tM s) (oM s) h7 := by unfold CX; rw [EX_fn e7 (c := 13) (by decide) (by decide), EX_fn e7 (c := 14) (by decide) (by decide), EX_fn e7 (c := 15) (by decide) (by decide)]; exact X6
  have E7 : EX [19, 20, 21, 22, 23, 24, 25, 26, 31, 32] [(27, 9)] h5 h7 := EX_tr (EX_le e6 (by decide) (by decide)) (EX_le e7 (by decide) (by decide))
  have dd7 : h7 d 7 = (sE s : Int) := by
    rw [E7 d 7 (by simp; omega) (by simp), k5 d (by simp; omega), d7]
    unfold sE
    split <;> omega
  simp only [ok_0 V.1, cr_0_5 V, ok_35 V.1, rt, p0, dd7, true_and]
  refine sp_T_renew V fun h8 e8 t1 t2 => ?_
  have q8 : ∀ c : Int, c < 35 ∨ 95 < c ∨ (35 < c ∧ c < 46) → h8 c = h7 c := fun c hc => funext fun j => e8 c j (by omega) (fun y => by omega)
  have X8 : CX (dM s) (dJ s).length (tM s) (oM s) h8 := by unfold CX; rw [q8 13 (by omega), q8 14 (by omega), q8 15 (by omega)]; exact X7
  have b1 : h8 19 11 = tpR (oM s) 24 := by rw [q8 19 (by omega), EX_fn e7 (c := 19) (by decide) (by decide)]; exact B3.1
  have b2 : h8 19 8 = (RMk (dM s) (dJ s).length (tM s) : Int) := by rw [q8 19 (by omega), EX_fn e7 (c := 19) (by decide) (by decide)]; exact B3.2.2.1
  simp only [ok_0 V.1, cr_0_6 V, ok_102 V.1, true_and]
  refine sp_U_list V TT X8 b1 b2 fun h9 e9 u1 u2 => ?_
  simp only [ok_0 V.1, cr_0_7 V, cr_0_8 V, ok_118 V.1, ok_121 V.1, true_and]
  refine sp_X_renew V ?_
  have e : EX [109, 111, 113, 114] [(102, 14), (102, 15), (118, 2), (121, 16), (121, 17), (0, 13), (0, 14), (0, 15)] h8 (ai_up (ai_up (ai_up (ai_up (ai_up (ai_up h9 118 2 0) 121 16 0) 121 17 0) 0 13 0) 0 14 0) 0 15 0) := EX_upp (EX_upp (EX_upp (EX_upp (EX_upp (EX_upp (EX_le e9 (by decide) (by decide)) (by decide)) (by decide)) (by decide)) (by decide)) (by decide)) (by decide)
  have e' : EX [] [(118, 2), (121, 16), (121, 17), (0, 13), (0, 14), (0, 15)] h9 (ai_up (ai_up (ai_up (ai_up (ai_up (ai_up h9 118 2 0) 121 16 0) 121 17 0) 0 13 0) 0 14 0) 0 15 0) := EX_upp (EX_upp (EX_upp (EX_upp (EX_upp (EX_upp EX_rf (by decide)) (by decide)) (by decide)) (by decide)) (by decide)) (by decide)
  have g1 : (ai_up (ai_up (ai_up (ai_up (ai_up (ai_up h9 118 2 0) 121 16 0) 121 17 0) 0 13 0) 0 14 0) 0 15 0) 118 2 = 0 := by simp (disch := omega) only [up_oth, up_same]
  have g2 : (ai_up (ai_up (ai_up (ai_up (ai_up (ai_up h9 118 2 0) 121 16 0) 121 17 0) 0 13 0) 0 14 0) 0 15 0) 121 16 = 0 := by simp (disch := omega) only [up_oth, up_same]
  have g3 : (ai_up (ai_up (ai_up (ai_up (ai_up (ai_up h9 118 2 0) 121 16 0) 121 17 0) 0 13 0) 0 14 0) 0 15 0) 121 17 = 0 := by simp (disch := omega) only [up_oth, up_same]
  have g4 : (ai_up (ai_up (ai_up (ai_up (ai_up (ai_up h9 118 2 0) 121 16 0) 121 17 0) 0 13 0) 0 14 0) 0 15 0) 0 13 = 0 := by simp (disch := omega) only [up_oth, up_same]
  have g5 : (ai_up (ai_up (ai_up (ai_up (ai_up (ai_up h9 118 2 0) 121 16 0) 121 17 0) 0 13 0) 0 14 0) 0 15 0) 0 14 = 0 := by simp (disch := omega) only [up_oth, up_same]
  have g6 : (ai_up (ai_up (ai_up (ai_up (ai_up (ai_up h9 118 2 0) 121 16 0) 121 17 0) 0 13 0) 0 14 0) 0 15 0) 0 15 = 0 := by simp (disch := omega) only [up_oth, up_same]
  simp only [ok_0 V.1, true_and, true_or, or_true]
  revert e e' g1 g2 g3 g4 g5 g6
  generalize (ai_up (ai_up (ai_up (ai_up (ai_up (ai_up h9 118 2 0) 121 16 0) 121 17 0) 0 13 0) 0 14 0) 0 15 0) = hf
  intro e e' g1 g2 g3 g4 g5 g6
  -- what is left alone from the machines on
  have F : ∀ c : Int, c ∉ [0, 19, 20, 21, 22, 23, 24, 25, 26, 27, 31, 32, 35, 102, 109, 111, 113, 114, 118, (121 : Int)] → (c < 46 ∨ 95 < c) → hf c = h5 c := fun c hc hc2 => by
    simp only [List.mem_cons, List.not_mem_nil, or_false, not_or] at hc
    rw [EX_fn e (by simp; omega) (by simp; omega), q8 c (by omega), EX_fn E7 (by simp; omega) (by simp; omega)]
  have F0 : ∀ c : Int, c ∉ [0, 13, 14, 15, 16, 17, 18, 19, 20, 21, 22, 23, 24, 25, 26, 27, 31, 32, 35, 102, 109, 111, 113, 114, 118, (121 : Int)] → (c < 46 ∨ 95 < c) → hf c = h c := fun c hc hc2 => by
    simp only [List.mem_cons, List.not_mem_nil, or_false, not_or] at hc
    rw [F c (by simp; omega) hc2, k5 c (by simp; omega)]
  have F1 : hf 121 12 = h 121 12 := by
    rw [e 121 12 (by decide) (by decide), q8 121 (by omega), EX_fn E7 (by decide) (by decide), k5 121 (by decide)]
  have f27 : hf 27 = h7 27 := by rw [EX_fn e (by decide) (by decide), q8 27 (by omega)]
  have f30 : hf 30 = h 30 := F0 30 (by decide) (by decide)
  have f31 : hf 31 = h7 31 := by rw [EX_fn e (by decide) (by decide), q8 31 (by omega)]
  have f32 : hf 32 = h7 32 := by rw [EX_fn e (by decide) (by decide), q8 32 (by omega)]
  have f46 : ∀ c : Int, 46 ≤ c → c ≤ 101 → hf c = h8 c := fun c a b => EX_fn e (by simp; omega) (by simp; omega)
  refine q_at rfl (hQ hf (fun c hc => F0 c (by simp; omega) (by omega)) (fun c a b => F0 c (by simp; omega) (by omega)) (C2_fr B2 fun c a b => F c (by simp; omega) (by omega)) (C3_fr B3 fun c a b => ?_) ⟨⟨?_, ?_⟩, ?_, ?_, ?_⟩ ⟨?_, ?_, ?_⟩ ⟨⟨?_, ?_⟩, ?_, ?_, ?_, ?_, ?_⟩ ⟨?_, ?_⟩ ⟨Or.inl g2, Or.inl g3, ⟨?_, ?_⟩, ?_⟩ ⟨?_, ?_, fun j p hj => (by cases hj)⟩ ⟨?_, fun q => absurd q (by decide)⟩)
  · rw [EX_fn e (by simp; omega) (by simp; omega), q8 c (by omega), EX_fn e7 (by simp; omega) (by simp; omega)]
  · rw [f27, E7 27 10 (by decide) (by decide), k5 27 (by decide)]; exact hc.1
  · intro q hq; rw [f30]; exact hc.2 q hq
  · intro x hx; rw [f31]; exact Or.inl (s1 x (by omega))
  · intro x hx; rw [f32]; exact Or.inl (s2 x hx)
  · exact Or.inl (by rw [f27]; exact s3)
  · rw [EX_fn e (by decide) (by decide)]; exact t1
  · intro su e1 hs he
    have t := t2 (3 * su + e1) (by omega)
    rw [← sc_tc hs he] at t
    have b := sc_tc hs he
    refine Or.inl ?_
    rw [f46 (tc su e1) (by unfold tc; omega) (by unfold tc; omega)]
    exact ⟨t.2.2, t.1, t.2.1⟩
  · intro wh hw
    have t := t2 (6 + wh) (by omega)
    rw [← sc_tw hw] at t
    refine Or.inl ?_
    rw [f46 (tw wh) (by unfold tw; omega) (by unfold tw; omega)]
    exact ⟨t.2.2, t.1, t.2.1⟩
  · rw [EX_fn e' (by decide) (by decide)]; exact u1.1
  · intro j hj; rw [EX_fn e' (c := 109) (by decide) (by decide)]; exact u1.2 j hj
  · exact Or.inl (by rw [EX_fn e' (by decide) (by decide)]; exact u2.1)
  · intro su hs; rw [EX_fn e' (c := 111) (by decide) (by decide)]; exact Or.inl (u2.2.1 su hs).1
  · intro x su hx hs
    rw [EX_fn e' (c := 114) (by decide) (by decide)]
    refine Or.inl ?_
    have := (u2.2.1 (2 * (x - 1) + su) (by omega)).2
    rw [show 2 * ((x : Int) - 1) + (su : Int) = ((2 * (x - 1) + su : Nat) : Int) by omega]
    exact this
  · intro su hs; rw [EX_fn e' (c := 113) (by decide) (by decide)]; exact Or.inl (u2.2.2 su hs)
  · unfold CTl
    rw [F0 104 (by decide) (by decide), F0 105 (by decide) (by decide)]; exact tl
  · exact g1
  · intro j w a hj; cases hj
  · rw [F1]; exact sb.1
  · intro x hx; rw [F0 131 (by decide) (by decide), F1]; exact sb.2 x hx
  · rw [F1]; exact st
  · rw [g4]; decide
  · rw [g5]; rfl
  · rw [g6]; rfl
end
