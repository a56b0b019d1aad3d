-- deps: 18 19 20 21 22 23 24 25 26 27 28 29 30 31 32 33 34 35 36 37 38 39 40 41 42 43 44 45 46 47 48 49 50 51 52 53 54 55 56 57 58 59 60 61 62 63 64 65 66 67 68 69 70 71 72 73 74 75 76 77 78 79 80 81 82 83 84 85 86 87 88 89 90 91 92 93 94 95 96 97 98 99 9A 9B 9C 9D 9E 9F 9G 9H 9I 9J 9K 9L 9M 9N 9O 9P 9Q 9R 9S 9T 9U 9V 9W 9X 9Y 9Z A0 A1 A2 A3 A4 A5 A6 A7 B0 B1 B2 B3 B4
/-! the class's own methods: the log, who is suspected, what to ask next, words by chance -/
/-- another log -/
def zsG (z : ST) (G : LGT) : ST := (zT z, zL z, zF z, zP z, zS z, zt z, zo z, G, zU z, zI z, zit z, zio z, ziG z)
section
variable {Q : RP} {n : Nat} {hr h : HP} {z : ST} {d : Int} {k : Nat}
theorem zOK_G {G : LGT} (O : zOK z) (g : LGok ((dJ (zS z)).length) G) : zOK (zsG z G) := ⟨O.1, O.2.1, O.2.2.1, g, O.2.2.2.2.1, O.2.2.2.2.2⟩
theorem sp_X_renew {R : RP} (V : CW n hr) (hQ : R (9, 0) n hr (ai_up (ai_up h 121 16 0) 121 17 0)) : f_X_renew [(2, 121)] n hr h R := by
  apply e_X_renew
  simp only [ok_121 V.1, true_and, true_or]
  exact (by first | exact q_at rfl (hQ) | exact (hQ))
theorem C8_new {s : DS} {G G' : LGT} {h1 : HP} (H : C8 s G k h) (a : h1 121 16 = 0) (b : h1 121 17 = 0) (c : h1 121 12 = h 121 12) (e : h1 131 = h 131) : C8 s G' k h1 := by
  refine ⟨Or.inl a, Or.inl b, ?_, by rw [c]; exact H.2.2.2⟩
  unfold STB; rw [c, e]; exact H.2.2.1
theorem LGok_add {I : Nat} {G : LGT} {w : Nat} {a : Int} (g : LGok I G) (hl : G.length < 20) (hw : wok I w) (h15 : wlen w ≤ 15) : LGok I (G ++ [(w, a)]) := by
  refine ⟨by rw [List.length_append, List.length_singleton]; omega, fun p hp => ?_⟩
  rcases List.mem_append.mp hp with y | y
  · exact g.2 p y
  · rw [List.mem_singleton.mp y]; exact ⟨hw, h15⟩
theorem sp_B_ask {w : Int} (V : CW n hr) (hd : d = 3 ∨ d = 8) (O : zOK z) (C : CAL z d k h) (h0 : ¬ (0 < (dM (zS z)) ∧ wq ((dJ (zS z)).length) w) → Q (1, -1) n hr h) (h2 : (0 < (dM (zS z)) ∧ wq ((dJ (zS z)).length) w) → ¬ (zG z).length < 20 → Q (1, -3) n hr h) (h1 : (0 < (dM (zS z)) ∧ wq ((dJ (zS z)).length) w) → (zG z).length < 20 → ∀ h1, (∀ c : Int, 138 ≤ c → h1 c = h c) → CAL (zsG z (zG z ++ [(w.toNat, aS (zt z) (zo z) 0 w.toNat)])) d k h1 → Q (1, aS (zt z) (zo z) 0 w.toNat) n hr h1) : f_B_ask [(2, 0), (0, w)] n hr h Q := by
  obtain ⟨hS, hI, hm, hc, hT⟩ := TV_s O.2.1
  obtain ⟨a1, a2, a3, a4, a5, a6, a7, a8, a9, a10⟩ := C
  apply e_B_ask
  simp only [ok_0 V.1, cr_0_1 V, cr_0_2 V, cr_0_7 V, ok_13 V.1, ok_16 V.1, ok_118 V.1, a2.1.1, a2.2.2.1, true_and]
  refine ⟨fun q => (by first | exact q_at rfl (h0 (fun r => by omega)) | exact (h0 (fun r => by omega))), fun q => ?_⟩
  refine sp_B_isWord hI (fun q2 => ⟨fun _ => ⟨ok_0 V.1, ?_⟩, fun r => absurd r (by decide)⟩) fun q2 => ⟨fun r => absurd rfl r, fun _ => (by first | exact q_at rfl (h0 (fun r => q2 r.2)) | exact (h0 (fun r => q2 r.2)))⟩
  obtain ⟨v, rfl⟩ := Int.eq_ofNat_of_zero_le q2.1
  obtain ⟨b1, b2, b3⟩ := wq15 q2
  rw [Int.toNat_natCast] at b1 b2 h1
  have S0 : 0 < (dM (zS z)) := by omega
  rw [(cr_0_7 V).1, a7.1]
  refine ⟨ok_118 V.1, fun q3 => ⟨ok_0 V.1, ?_⟩, fun q3 => (by first | exact q_at rfl (h2 ⟨S0, q2⟩ (by omega)) | exact (h2 ⟨S0, q2⟩ (by omega)))⟩
  have H := h1 ⟨S0, q2⟩ (by omega)
  have gl := O.2.2.2.1.1
  rw [(cr_0_2 V).1]
  refine ⟨ok_16 V.1, sp_M_tl (mr_16 V) O.2.2.1.1 a2.2.2.2.1 a2.2.2.2.2 (by omega) b1 (wok_mono hI b2) ⟨ok_0 V.1, ?_⟩⟩
  rw [(cr_0_7 V).1]
  refine ⟨ok_118 V.1, sp_L_add V a7 gl (fun _ h3 e3 g3 => ⟨ok_0 V.1, ?_⟩) fun y => absurd (by omega) y⟩
  rw [(cr_0_8 V).1]
  refine ⟨ok_121 V.1, sp_X_renew V ?_⟩
  have e : EX [119, 120] [(118, 2), (121, 16), (121, 17)] h (ai_up (ai_up h3 121 16 0) 121 17 0) := EX_upp (EX_upp (EX_le e3 (by decide) (by decide)) (by decide)) (by decide)
  refine q_at rfl (H _ (fun c p => EX_fn (e) (by simp <;> omega) (by simp <;> omega)) ⟨C1_fr hd a1 (fun c p q => EX_fn (e) (by simp <;> omega) (by simp <;> omega)), C2_fr a2 (fun c p q => EX_fn (e) (by simp <;> omega) (by simp <;> omega)), C3_fr a3 (fun c p q => EX_fn (e) (by simp <;> omega) (by simp <;> omega)), C4_fr a4 (EX_fn (e) (by decide) (by decide)) (EX_fn (e) (by decide) (by decide)) (EX_fn (e) (by decide) (by decide)) (EX_fn (e) (by decide) (by decide)) (EX_fn (e) (by decide) (by decide)) (EX_fn (e) (by decide) (by decide)), C5_fr a5 ((e) _ _ (by decide) (by decide)) (fun c p q => EX_fn (e) (by simp <;> omega) (by simp <;> omega)), C6_fr a6 (fun c p q => EX_fn (e) (by simp <;> omega) (by simp <;> omega)), C7_fr (h := h3) g3 fun c p q => by funext j; rw [up_oth (by omega), up_oth (by omega)], C8_new a8 (by rw [up_oth (by omega), up_same]) up_same ((e) _ _ (by decide) (by decide)) (EX_fn (e) (by decide) (by decide)), C9_fr a9 ((e) _ _ (by decide) (by decide)) ((e) _ _ (by decide) (by decide)) (EX_fn (e) (by decide) (by decide)), C10_fr a10 ((e) _ _ (by decide) (by decide)) (fun c p q => EX_fn (e) (by simp <;> omega) (by simp <;> omega))⟩)
theorem sp_B_forget (V : CW n hr) (hd : d = 3 ∨ d = 8) (O : zOK z) (C : CAL z d k h) (hQ : ∀ h1, (∀ c : Int, 138 ≤ c → h1 c = h c) → CAL (zsG z []) d k h1 → Q (0, ((zG z).length : Int)) n hr h1) : f_B_forget [(2, 0)] n hr h Q := by
  obtain ⟨a1, a2, a3, a4, a5, a6, a7, a8, a9, a10⟩ := C
  apply e_B_forget
  simp only [ok_0 V.1, cr_0_7 V, cr_0_8 V, ok_118 V.1, ok_121 V.1, a7.1, true_and]
  refine sp_X_renew V ?_
  have e : EX [] [(118, 2), (121, 16), (121, 17)] h (ai_up (ai_up (ai_up h 118 2 0) 121 16 0) 121 17 0) := EX_upp (EX_upp (EX_upp EX_rf (by decide)) (by decide)) (by decide)
  exact q_at rfl (hQ _ (fun c p => EX_fn (e) (by simp <;> omega) (by simp <;> omega)) ⟨C1_fr hd a1 (fun c p q => EX_fn (e) (by simp <;> omega) (by simp <;> omega)), C2_fr a2 (fun c p q => EX_fn (e) (by simp <;> omega) (by simp <;> omega)), C3_fr a3 (fun c p q => EX_fn (e) (by simp <;> omega) (by simp <;> omega)), C4_fr a4 (EX_fn (e) (by decide) (by decide)) (EX_fn (e) (by decide) (by decide)) (EX_fn (e) (by decide) (by decide)) (EX_fn (e) (by decide) (by decide)) (EX_fn (e) (by decide) (by decide)) (EX_fn (e) (by decide) (by decide)), C5_fr a5 ((e) _ _ (by decide) (by decide)) (fun c p q => EX_fn (e) (by simp <;> omega) (by simp <;> omega)), C6_fr a6 (fun c p q => EX_fn (e) (by simp <;> omega) (by simp <;> omega)), ⟨by rw [up_oth (by omega), up_oth (by omega), up_same]; rfl, fun j w a hj => (by cases hj)⟩, C8_new a8 (by rw [up_oth (by omega), up_same]) up_same ((e) _ _ (by decide) (by decide)) (EX_fn (e) (by decide) (by decide)), C9_fr a9 ((e) _ _ (by decide) (by decide)) ((e) _ _ (by decide) (by decide)) (EX_fn (e) (by decide) (by decide)), C10_fr a10 ((e) _ _ (by decide) (by decide)) (fun c p q => EX_fn (e) (by simp <;> omega) (by simp <;> omega))⟩)
/-- the suspects were worked out -/
theorem CAL_X {h1 : HP} (hd : d = 3 ∨ d = 8) (C : CAL z d k h) (f : fxX h h1) (a : h1 121 16 = 1) (K : XKn (dM (zS z)) ((dJ (zS z)).length) (tM (zS z)) (oM (zS z)) (zG z) h1) : (∀ c : Int, 138 ≤ c → h1 c = h c) ∧ CAL z d k h1 := by
  obtain ⟨a1, a2, a3, a4, a5, a6, a7, a8, a9, a10⟩ := C
  have e := f
  unfold fxX at e
  refine ⟨(fun c p => EX_fn (e) (by simp <;> omega) (by simp <;> omega)), C1_fr hd a1 (fun c p q => EX_fn (e) (by simp <;> omega) (by simp <;> omega)), C2_fr a2 (fun c p q => EX_fn (e) (by simp <;> omega) (by simp <;> omega)), C3_fr a3 (fun c p q => EX_fn (e) (by simp <;> omega) (by simp <;> omega)), C4_fr a4 (EX_fn (e) (by decide) (by decide)) (EX_fn (e) (by decide) (by decide)) (EX_fn (e) (by decide) (by decide)) (EX_fn (e) (by decide) (by decide)) (EX_fn (e) (by decide) (by decide)) (EX_fn (e) (by decide) (by decide)), C5_fr a5 ((e) _ _ (by decide) (by decide)) (fun c p q => EX_fn (e) (by simp <;> omega) (by simp <;> omega)), C6_fr a6 (fun c p q => EX_fn (e) (by simp <;> omega) (by simp <;> omega)), C7_fr a7 (fun c p q => EX_fn (e) (by simp <;> omega) (by simp <;> omega)), ⟨Or.inr ⟨a, K⟩, ?_, ?_, ?_⟩, C9_fr a9 ((e) _ _ (by decide) (by decide)) ((e) _ _ (by decide) (by decide)) (EX_fn (e) (by decide) (by decide)), C10_fr a10 ((e) _ _ (by decide) (by decide)) (fun c p q => EX_fn (e) (by simp <;> omega) (by simp <;> omega))⟩
  · unfold XNx; rw [e 121 17 (by decide) (by decide), e 121 15 (by decide) (by decide)]; exact a8.2.1
  · unfold STB; rw [e 121 12 (by decide) (by decide), EX_fn e (c := 131) (by decide) (by decide)]; exact a8.2.2.1
  · rw [e 121 12 (by decide) (by decide)]; exact a8.2.2.2
theorem sp_B_suspects {what : Int} (V : CW n hr) (hd : d = 3 ∨ d = 8) (O : zOK z) (C : CAL z d k h) (h0 : ¬ (0 ≤ what ∧ what ≤ 1) → Q (0, -1) n hr h) (h1 : (0 ≤ what ∧ what ≤ 1) → ∀ h1, (∀ c : Int, 138 ≤ c → h1 c = h c) → CAL z d k h1 → Q (0, if what = 0 then ((SUS (dM (zS z)) ((dJ (zS z)).length) (tM (zS z)) (oM (zS z)) (zG z)).length : Int) - vMa (dM (zS z)) ((dJ (zS z)).length) (tM (zS z)) (oM (zS z)) (zG z) else vMa (dM (zS z)) ((dJ (zS z)).length) (tM (zS z)) (oM (zS z)) (zG z)) n hr h1) : f_B_suspects [(2, 0), (0, what)] n hr h Q := by
  have TT := TV_s O.2.1
  have TT' := TT
  obtain ⟨hS, hI, hm, hc, hT⟩ := TT'
  have sb := SUS_b (LG := zG z) (o := (oM (zS z))) hm hS hI
  have ma := SUS_ma (LG := zG z) (o := (oM (zS z))) hm hS hI
  apply e_B_suspects
  refine ⟨fun q => ⟨fun q2 => (by first | exact q_at rfl (h0 (by omega)) | exact (h0 (by omega))), fun q2 => ⟨ok_0 V.1, ?_⟩⟩, fun q => ⟨ok_0 V.1, ?_⟩⟩
  · have H := h1 (by omega)
    rw [if_neg q] at H
    rw [(cr_0_8 V).1]
    refine ⟨ok_121 V.1, sp_X_machineAmong V TT C.2.1.1 C.2.2.2.2.2.1.1 C.2.2.2.2.2.2.1 O.2.2.2.1 C.2.2.2.2.2.2.2.1.1 fun h2 f2 a2 k2 => ?_⟩
    have B := CAL_X hd C f2 a2 k2
    exact (by first | exact q_at rfl (H h2 B.1 B.2) | exact (H h2 B.1 B.2))
  · have H := h1 (by omega)
    rw [if_pos q] at H
    rw [(cr_0_8 V).1]
    refine ⟨ok_121 V.1, sp_X_all V TT C.2.1.1 C.2.2.2.2.2.1.1 C.2.2.2.2.2.2.1 O.2.2.2.1 C.2.2.2.2.2.2.2.1.1 fun h2 f2 a2 k2 => ⟨ok_0 V.1, ?_⟩⟩
    have B := CAL_X hd C f2 a2 k2
    have C2 := B.2
    rw [(cr_0_8 V).1]
    refine ⟨ok_121 V.1, sp_X_machineAmong V TT C2.2.1.1 C2.2.2.2.2.2.1.1 C2.2.2.2.2.2.2.1 O.2.2.2.1 C2.2.2.2.2.2.2.2.1.1 fun h3 f3 a3 k3 => ?_⟩
    have B3 := CAL_X hd C2 f3 a3 k3
    dsimp only
    rw [w32_id (by omega) (by omega)]
    exact (by first | exact q_at rfl (H h3 (fun c hc' => by rw [B3.1 c hc', B.1 c hc']) B3.2) | exact (H h3 (fun c hc' => by rw [B3.1 c hc', B.1 c hc']) B3.2))
theorem sp_B_suspect {x : Int} (V : CW n hr) (hd : d = 3 ∨ d = 8) (O : zOK z) (C : CAL z d k h) (h0 : x < 0 → Q (0, -1) n hr h) (h1 : 0 ≤ x → ∀ h1, (∀ c : Int, 138 ≤ c → h1 c = h c) → CAL z d k h1 → Q (0, match (SUS (dM (zS z)) ((dJ (zS z)).length) (tM (zS z)) (oM (zS z)) (zG z))[x.toNat]? with | some v => (v : Int) | none => -2) n hr h1) : f_B_suspect [(2, 0), (0, x)] n hr h Q := by
  have TT := TV_s O.2.1
  apply e_B_suspect
  refine ⟨fun q => ⟨ok_0 V.1, ?_⟩, fun q => (by first | exact q_at rfl (h0 q) | exact (h0 q))⟩
  obtain ⟨i, rfl⟩ := Int.eq_ofNat_of_zero_le q
  have H := h1 q
  rw [Int.toNat_natCast] at H
  rw [(cr_0_8 V).1]
  refine ⟨ok_121 V.1, sp_X_number V TT C.2.1.1 C.2.2.2.2.2.1.1 C.2.2.2.2.2.2.1 O.2.2.2.1 C.2.2.2.2.2.2.2.1.1 fun h2 f2 a2 k2 => ?_⟩
  have B := CAL_X hd C f2 a2 k2
  exact q_at rfl (H h2 B.1 B.2)
theorem sp_B_next (V : CW n hr) (hd : d = 3 ∨ d = 8) (O : zOK z) (C : CAL z d k h) (hk : k ≤ 100000) (h0 : (SUS (dM (zS z)) ((dJ (zS z)).length) (tM (zS z)) (oM (zS z)) (zG z)).length < 2 → ∀ h1, (∀ c : Int, 138 ≤ c → h1 c = h c) → CAL z d k h1 → Q (0, -2) n hr h1) (h1 : 2 ≤ (SUS (dM (zS z)) ((dJ (zS z)).length) (tM (zS z)) (oM (zS z)) (zG z)).length → ∀ h1, (∀ c : Int, 138 ≤ c → h1 c = h c) → CAL z d (k + 1) h1 → Q (0, vNx (dM (zS z)) ((dJ (zS z)).length) (tM (zS z)) (oM (zS z)) (CRD (dM (zS z)) ((dJ (zS z)).length) (tM (zS z)) (oM (zS z)) (zG z)) (SWl (dM (zS z)) ((dJ (zS z)).length) (tM (zS z)) (oM (zS z)) (sE (zS z)) 1)) n hr h1) : f_B_next [(2, 0)] n hr h Q := by
  have TT := TV_s O.2.1
  have TT' := TT
  obtain ⟨hS, hI, hm, hc, hT⟩ := TT'
  have he := (sE_3 O.2.1).1
  apply e_B_next
  simp only [ok_0 V.1, cr_0_8 V, ok_121 V.1, true_and]
  refine sp_X_all V TT C.2.1.1 C.2.2.2.2.2.1.1 C.2.2.2.2.2.2.1 O.2.2.2.1 C.2.2.2.2.2.2.2.1.1 fun h2 f2 a2 k2 => ?_
  have B := CAL_X hd C f2 a2 k2
  refine ⟨fun q => ?_, fun q => (by first | exact q_at rfl (h0 (by dsimp only at q; omega) h2 B.1 B.2) | exact (h0 (by dsimp only at q; omega) h2 B.1 B.2))⟩
  dsimp only at q
  have H := h1 (by omega)
  simp only [ok_0 V.1, cr_0_8 V, cr_0_5 V, ok_35 V.1, true_and]
  refine sp_B_give (su := 1) V hd O B.2 (by omega) fun h3 f3 c3 g3 => ?_
  have k3 : XKn (dM (zS z)) ((dJ (zS z)).length) (tM (zS z)) (oM (zS z)) (zG z) h3 := by unfold XKn; rw [f3 121 (by decide), f3 125 (by decide)]; exact k2
  have S0 : 0 < (dM (zS z)) := SUS_0 (o := (oM (zS z))) (LG := zG z) hm hS hI (by omega)
  have a8 := c3.2.2.2.2.2.2.2.1
  have bk := a8.2.2.2
  refine ⟨ok_121 V.1, sp_X_nextWord V TT c3.2.1.1 c3.2.2.2.2.2.1.1 k3 (by omega) he g3 (SWl_ne hS S0 hI hm hc he (by omega)) a8.2.2.1 (by omega) a8.2.1 fun h4 e s4 b4 n4 => ?_⟩
  obtain ⟨a1, a2, a3, a4, a5, a6, a7, a8, a9, a10⟩ := c3
  refine q_at rfl (H h4 (fun c hc' => by rw [EX_fn e (c := c) (by simp <;> omega) (by simp <;> omega), f3 c (by omega), B.1 c hc']) ⟨C1_fr hd a1 (fun c p q => EX_fn (e) (by simp <;> omega) (by simp <;> omega)), C2_fr a2 (fun c p q => EX_fn (e) (by simp <;> omega) (by simp <;> omega)), C3_fr a3 (fun c p q => EX_fn (e) (by simp <;> omega) (by simp <;> omega)), C4_fr a4 (EX_fn (e) (by decide) (by decide)) (EX_fn (e) (by decide) (by decide)) (EX_fn (e) (by decide) (by decide)) (EX_fn (e) (by decide) (by decide)) (EX_fn (e) (by decide) (by decide)) (EX_fn (e) (by decide) (by decide)), C5_fr a5 ((e) _ _ (by decide) (by decide)) (fun c p q => EX_fn (e) (by simp <;> omega) (by simp <;> omega)), C6_fr a6 (fun c p q => EX_fn (e) (by simp <;> omega) (by simp <;> omega)), C7_fr a7 (fun c p q => EX_fn (e) (by simp <;> omega) (by simp <;> omega)), ⟨?_, n4, s4, by omega⟩, C9_fr a9 ((e) _ _ (by decide) (by decide)) ((e) _ _ (by decide) (by decide)) (EX_fn (e) (by decide) (by decide)), C10_fr a10 ((e) _ _ (by decide) (by decide)) (fun c p q => EX_fn (e) (by simp <;> omega) (by simp <;> omega))⟩)
  unfold XK XKn; rw [e 121 16 (by decide) (by decide), e 121 14 (by decide) (by decide), EX_fn e (c := 125) (by decide) (by decide)]; exact a8.1
end
