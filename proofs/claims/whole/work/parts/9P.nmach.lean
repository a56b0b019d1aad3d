-- deps: 18 19 20 21 23 24 25 26 27 28 29 22 30 31 32 33 34 35 36 37 38 39 40 41 42 43 44 45 46 47 48 49 50 51 62 63 64 65 66 67 68 69 70 71 72 73 74 75 76 77 78 79 80 81 82 83 84 85 86 87 88 89 90 91 92 93 94 95 96 97 9D 9H 9I 9N 9O
/-! the reference: what is kept of the built machine; twists -/
section
variable {Q : RP} {n : Nat} {hr h : HP} {S I N : Nat} {t o t' o' : Int → Int}
/-- the k-th one that is kept -/
def KPd (k : Int) (t o : Int → Int) (h : HP) : Prop := ∀ a : Int, 0 ≤ a → a < 24 → h 180 (48 * k + a) = t a ∧ h 180 (48 * k + 24 + a) = o a
theorem KPd_fr {k : Int} {h1 : HP} (H : KPd k t o h) (e : h1 180 = h 180) : KPd k t o h1 := by unfold KPd; rw [e]; exact H
theorem KPd_ot {k g : Int} {h1 : HP} (H : KPd k t o h) (e : ∀ j : Int, (j < 48 * g ∨ 48 * g + 48 ≤ j) → h1 180 j = h 180 j) (hd : k < g ∨ g < k) : KPd k t o h1 := fun a h1 h2 => by rw [e _ (by omega), e _ (by omega)]; exact H a h1 h2
theorem sp_N_copies0 {k : Int} (W : NW n hr) (hk : 0 ≤ k ∧ k ≤ 20) (M : NM 24 t o h) (hQ : ∀ h1, EX [180] [] h h1 → (∀ j : Int, (j < 48 * k ∨ 48 * k + 48 ≤ j) → h1 180 j = h 180 j) → KPd k t o h1 → Q (9, 0) n hr h1) : f_N_copies [(2, 138), (0, k), (0, 0)] n hr h Q := by
  apply e_N_copies
  have main := lupN (N := 24) (P := fun c => ∀ h1, EX [180] [] h h1 → (∀ j : Int, (j < 48 * k ∨ 48 * k + 48 ≤ j) → h1 180 j = h 180 j) → (∀ a : Int, 0 ≤ a → a < (c : Int) → h1 180 (48 * k + a) = t a ∧ h1 180 (48 * k + 24 + a) = o a) → p_N_copies_2 (n + 0) (ai_q 0 n Q) 138 k 0 (c : Int) n hr h1) ?_ ?_
  · exact main h EX_rf (fun _ _ => rfl) fun a h1 h2 => by omega
  · intro h1 e1 e2 e3
    exact b_N_copies_2 ⟨fun _ => q_at rfl (hQ h1 e1 e2 e3), fun z => by omega⟩
  · intro c hc ih h1 e1 e2 e3
    have g1 := M.1 (c : Int) (by omega) (by omega)
    have g2 := M.2 (c : Int) (by omega) (by omega)
    dsimp only at g1 g2
    rw [← EX_fn e1 (c := 147) (by decide) (by decide)] at g1
    rw [← EX_fn e1 (c := 148) (by decide) (by decide)] at g2
    refine b_N_copies_2 ⟨fun z => by omega, fun _ => ⟨fun _ => ?_, fun q => absurd rfl q⟩⟩
    simp (disch := omega) only [n0 W, nr_20 W, nr_21 W, nr_66 W, w32_id, up_oth, g1, g2, true_and]
    repeat (refine ⟨by omega, ?_⟩)
    refine ih _ (EX_upc (EX_upc e1 (by decide)) (by decide)) (fun j hj => ?_) fun a a1 a2 => ?_
    · simp (disch := omega) only [up_oth]; exact e2 j hj
    · by_cases z : a = (c : Int)
      · subst z
        simp (disch := omega) only [up_oth, up_same]
        exact ⟨trivial, trivial⟩
      · simp (disch := omega) only [up_oth]
        exact e3 a a1 (by omega)
theorem sp_N_copies1 {k : Int} (W : NW n hr) (hk : 0 ≤ k ∧ k ≤ 20) (M : KPd k t o h) (hQ : ∀ h1, EX [147, 148] [] h h1 → (∀ j : Int, (j < 24 ∨ 48 ≤ j) → h1 147 j = h 147 j ∧ h1 148 j = h 148 j) → NM 24 t o h1 → Q (9, 0) n hr h1) : f_N_copies [(2, 138), (0, k), (0, 1)] n hr h Q := by
  apply e_N_copies
  have main := lupN (N := 24) (P := fun c => ∀ h1, EX [147, 148] [] h h1 → (∀ j : Int, (j < 24 ∨ 48 ≤ j) → h1 147 j = h 147 j ∧ h1 148 j = h 148 j) → (∀ a : Int, 0 ≤ a → a < (c : Int) → h1 147 (24 + a) = t a ∧ h1 148 (24 + a) = o a) → p_N_copies_2 (n + 0) (ai_q 0 n Q) 138 k 1 (c : Int) n hr h1) ?_ ?_
  · exact main h EX_rf (fun _ _ => ⟨rfl, rfl⟩) fun a h1 h2 => by omega
  · intro h1 e1 e2 e3
    exact b_N_copies_2 ⟨fun _ => q_at rfl (hQ h1 e1 e2 ⟨fun a a1 a2 => (e3 a a1 a2).1, fun a a1 a2 => (e3 a a1 a2).2⟩), fun z => by omega⟩
  · intro c hc ih h1 e1 e2 e3
    have g := M (c : Int) (by omega) (by omega)
    rw [← EX_fn e1 (c := 180) (by decide) (by decide)] at g
    refine b_N_copies_2 ⟨fun z => by omega, fun _ => ⟨fun q => absurd q (by decide), fun _ => ?_⟩⟩
    simp (disch := omega) only [n0 W, nr_20 W, nr_21 W, nr_66 W, w32_id, up_oth, g, true_and]
    repeat (refine ⟨by omega, ?_⟩)
    refine ih _ (EX_upc (EX_upc e1 (by decide)) (by decide)) (fun j hj => ?_) fun a a1 a2 => ?_
    · simp (disch := omega) only [up_oth]; exact e2 j hj
    · by_cases z : a = (c : Int)
      · subst z
        simp (disch := omega) only [up_oth, up_same]
        exact ⟨trivial, trivial⟩
      · simp (disch := omega) only [up_oth]
        exact e3 a a1 (by omega)
/-- machines in a row, the latest twenty -/
abbrev ML := List ((Int → Int) × (Int → Int))
def pshL (PL : ML) (m : (Int → Int) × (Int → Int)) : ML := (if PL.length = 20 then PL.drop 1 else PL) ++ [m]
theorem pshL_len {PL : ML} {m} (h : PL.length ≤ 20) : (pshL PL m).length = (if PL.length = 20 then 20 else PL.length + 1) := by
  unfold pshL
  split
  · next q => rw [List.length_append, List.length_drop, q]; rfl
  · rw [List.length_append]; rfl
def NPs (PL : ML) (h : HP) : Prop := h 138 67 = (PL.length : Int) ∧ PL.length ≤ 20 ∧ ∀ (k : Nat) p, PL[k]? = some p → KPd (k : Int) p.1 p.2 h
theorem NPs_fr {PL : ML} {h1 : HP} (H : NPs PL h) (a : h1 138 67 = h 138 67) (e : h1 180 = h 180) : NPs PL h1 := ⟨by rw [a]; exact H.1, H.2.1, fun k p hp => KPd_fr (H.2.2 k p hp) e⟩
/-- of what is kept the image stays -/
def fxPa (h h1 : HP) : Prop := EX [180] [(138, 67)] h h1 ∧ ∀ j : Int, 960 ≤ j → h1 180 j = h 180 j
theorem sp_N_remembers {PL : ML} (W : NW n hr) (M : NM 24 t o h) (P : NPs PL h) (hQ : ∀ h1, fxPa h h1 → NPs (pshL PL (t, o)) h1 → Q (9, 0) n hr h1) : f_N_remembers [(2, 138)] n hr h Q := by
  obtain ⟨p1, p2, p3⟩ := P
  apply e_N_remembers
  simp only [n0 W, p1, true_and]
  have fin : ∀ (PL' : ML) (h1 : HP), PL'.length ≤ 19 → fxPa h h1 → (∀ (k : Nat) p, PL'[k]? = some p → KPd (k : Int) p.1 p.2 h1) → h1 138 67 = (PL'.length : Int) → PL' ++ [(t, o)] = pshL PL (t, o) → f_N_copies [(2, 138), (0, (PL'.length : Int)), (0, 0)] n hr h1 (fun r1 n1 hr1 h2 => ai_ok n1 138 12 ∧ ai_ok n1 138 12 ∧ ai_q 0 n Q (9, 0) n1 hr1 (ai_up h2 138 67 (w32 (h2 138 67 + 1)))) := by
    intro PL' h1 l f k c e
    have M1 : NM 24 t o h1 := NM_fr M (EX_fn f.1 (by decide) (by decide)) (EX_fn f.1 (by decide) (by decide))
    refine sp_N_copies0 W (by omega) M1 fun h2 e2 e3 e4 => ⟨n0 W, n0 W, q_at rfl ?_⟩
    have c2 : h2 138 67 = (PL'.length : Int) := by rw [e2 138 67 (by decide) (by decide)]; exact c
    rw [c2, w32_id (by omega) (by omega)]
    refine hQ _ ⟨EX_upp (EX_tr f.1 (EX_le e2 (by decide) (by decide))) (by decide), fun j hj => ?_⟩ ⟨?_, ?_, fun k' p hp => ?_⟩
    · rw [up_oth (by omega), e3 j (by omega), f.2 j hj]
    · rw [up_same, ← e, List.length_append]; rfl
    · rw [← e, List.length_append]; show PL'.length + 1 ≤ 20; omega
    · rw [← e] at hp
      refine KPd_fr (h := h2) ?_ (by funext j; rw [up_oth (by omega)])
      rcases Nat.lt_or_ge k' PL'.length with g | g
      · rw [List.getElem?_append_left g] at hp
        exact KPd_ot (k k' p hp) e3 (by omega)
      · rw [List.getElem?_append_right g] at hp
        have j0 : k' - PL'.length = 0 := by have := (List.getElem?_eq_some_iff.mp hp).1; simp at this; omega
        rw [j0] at hp
        cases hp
        rw [show k' = PL'.length by omega]
        exact e4
  refine ⟨fun z => ?_, fun z => ?_⟩
  · refine fin PL h (by omega) ⟨EX_rf, fun _ _ => rfl⟩ p3 p1 ?_
    unfold pshL; rw [if_neg (by omega)]
  · have main := lupN (N := 912) (P := fun k => ∀ h1, EX [180] [] h h1 → (∀ j : Int, 0 ≤ j → j < (k : Int) → h1 180 j = h 180 (48 + j)) → (∀ j : Int, (k : Int) ≤ j → h1 180 j = h 180 j) → p_N_remembers_11 (n + 0) (ai_q 0 n Q) 138 (k : Int) n hr h1) ?_ ?_
    · exact main h EX_rf (fun j j1 j2 => by omega) fun _ _ => rfl
    · intro h1 e1 e2 e3
      refine b_N_remembers_11 ⟨fun _ => ?_, fun y => by omega⟩
      have c1 : h1 138 67 = 20 := by rw [e1 138 67 (by decide) (by decide), p1]; exact z
      simp (disch := omega) only [n0 W, c1, up_same, w32_id, true_and]
      have l1 : (PL.drop 1).length = 19 := by rw [List.length_drop]; omega
      have := fin (PL.drop 1) (ai_up h1 138 67 19) (by omega) ⟨EX_upp (EX_le e1 (by decide) (by decide)) (by decide), fun j hj => by rw [up_oth (by omega)]; exact e3 j (by omega)⟩ ?_ (by rw [up_same, l1]; rfl) (by unfold pshL; rw [if_pos (by omega)])
      · rw [l1] at this; exact this
      · intro k p hp
        rw [List.getElem?_drop] at hp
        have kl := (List.getElem?_eq_some_iff.mp hp).1
        have K := p3 (1 + k) p hp
        intro a a1 a2
        have Ka := K a a1 a2
        rw [up_oth (by omega), up_oth (by omega), e2 _ (by omega) (by omega), e2 _ (by omega) (by omega)]
        rw [show 48 + (48 * (k : Int) + a) = 48 * ((1 + k : Nat) : Int) + a by omega, show 48 + (48 * (k : Int) + 24 + a) = 48 * ((1 + k : Nat) : Int) + 24 + a by omega]
        exact Ka
    · intro k hk ih h1 e1 e2 e3
      refine b_N_remembers_11 ⟨fun y => by omega, fun _ => ?_⟩
      simp (disch := omega) only [n0 W, nr_66 W, w32_id, true_and]
      repeat (refine ⟨by omega, ?_⟩)
      refine ih _ (EX_upc e1 (by decide)) (fun j j1 j2 => ?_) fun j j1 => ?_
      · by_cases y : j = (k : Int)
        · subst y; rw [up_same]; exact e3 _ (by omega)
        · rw [up_oth (by omega)]; exact e2 j j1 (by omega)
      · rw [up_oth (by omega)]; exact e3 j (by omega)
/-- the built machine is changed, and what is kept -/
def fxTw (h h1 : HP) : Prop := EX [147, 148, 180] [(138, 0), (138, 43), (138, 44), (138, 45), (138, 46), (138, 67)] h h1 ∧ (∀ a : Int, (a < 24 ∨ 48 ≤ a) → h1 147 a = h 147 a ∧ h1 148 a = h 148 a) ∧ ∀ j : Int, 960 ≤ j → h1 180 j = h 180 j
theorem fxTw_tr {h1 h2 : HP} (a : fxTw h h1) (b : fxTw h1 h2) : fxTw h h2 := ⟨EX_tr a.1 b.1, fun x hx => ⟨(b.2.1 x hx).1.trans (a.2.1 x hx).1, (b.2.1 x hx).2.trans (a.2.1 x hx).2⟩, fun j hj => (b.2.2 j hj).trans (a.2.2 j hj)⟩
theorem fxTw_P {h1 : HP} (f : fxPa h h1) : fxTw h h1 := ⟨EX_le f.1 (by decide) (by decide), fun a _ => by rw [EX_fn f.1 (c := 147) (by decide) (by decide), EX_fn f.1 (c := 148) (by decide) (by decide)]; exact ⟨rfl, rfl⟩, f.2⟩
theorem fxTw_1 {v : Int} : fxTw h (ai_up h 138 0 v) := ⟨EX_upp EX_rf (by decide), fun a _ => ⟨up_oth (by omega), up_oth (by omega)⟩, fun j _ => up_oth (by omega)⟩
theorem fxTw_L {h1 : HP} (f : fxL 24 h h1) : fxTw h h1 := ⟨EX_le f.1 (by decide) (by decide), f.2, fun j _ => by rw [EX_fn f.1 (c := 180) (by decide) (by decide)]⟩
theorem fxTw_u {x i v : Int} (hx : x = 147 ∨ x = 148) (hi : 24 ≤ i ∧ i < 48) : fxTw h (ai_up h x i v) := ⟨EX_upc EX_rf (by rcases hx with z | z <;> subst z <;> decide), fun a ha => ⟨up_oth (by omega), up_oth (by omega)⟩, fun j _ => up_oth (by omega)⟩
theorem NB_T {e : Nat} {h1 : HP} (f : fxTw h h1) (B : NB S I t o e h) : NB S I t o e h1 := by
  have g : ∀ c : Int, c ≠ 147 → c ≠ 148 → c ≠ 180 → c ≠ 138 → h1 c = h c := fun c x y u z => EX_fn f.1 (by simp [x, y, u]) (by simp [z])
  obtain ⟨b1, b2, b3, b4, b5, b6⟩ := B
  refine ⟨⟨?_, ?_, fun a a1 a2 => ?_, fun a a1 a2 => ?_⟩, ?_, ?_, ?_, ?_, ?_⟩
  · rw [g 140 (by decide) (by decide) (by decide) (by decide)]; exact b1.1
  · rw [g 140 (by decide) (by decide) (by decide) (by decide)]; exact b1.2.1
  · rw [(f.2.1 a (by omega)).1]; exact b1.2.2.1 a a1 a2
  · rw [(f.2.1 a (by omega)).2]; exact b1.2.2.2 a a1 a2
  · unfold NP; rw [g 149 (by decide) (by decide) (by decide) (by decide), g 153 (by decide) (by decide) (by decide) (by decide), g 154 (by decide) (by decide) (by decide) (by decide), f.1 138 23 (by decide) (by decide), f.1 138 29 (by decide) (by decide)]; exact b2
  · unfold NSg; rw [g 155 (by decide) (by decide) (by decide) (by decide), f.1 138 31 (by decide) (by decide)]; exact b3
  · exact NWy_fr b4 (g 156 (by decide) (by decide) (by decide) (by decide)) (g 157 (by decide) (by decide) (by decide) (by decide)) (g 158 (by decide) (by decide) (by decide) (by decide))
  · unfold NSu RW; rw [g 161 (by decide) (by decide) (by decide) (by decide), g 162 (by decide) (by decide) (by decide) (by decide)]; exact b5
  · unfold NEx; rw [g 140 (by decide) (by decide) (by decide) (by decide)]; exact b6
theorem NPs_T {PL : ML} {h1 : HP} (H : NPs PL h) {cs : List Int} {ps : List (Int × Int)} (e : EX cs ps h h1) (a : (138 : Int) ∉ cs ∧ (180 : Int) ∉ cs ∧ (180 : Int) ∉ ps.map Prod.fst ∧ ((138 : Int), (67 : Int)) ∉ ps) : NPs PL h1 := NPs_fr H (e 138 67 a.1 a.2.2.2) (EX_fn e a.2.1 a.2.2.1)
theorem NM_up {c v w : Int} (M : NM 24 t o h) (hc : 0 ≤ c ∧ c < 24) : NM 24 (up1 t c v) (up1 o c w) (ai_up (ai_up h 147 (24 + c) v) 148 (24 + c) w) := by
  refine ⟨fun a a1 a2 => ?_, fun a a1 a2 => ?_⟩
  · dsimp only
    unfold up1
    by_cases z : a = c
    · subst z; rw [up_oth (by omega), up_same, if_pos rfl]
    · rw [up_oth (by omega), up_oth (by omega), if_neg z]; exact M.1 a a1 a2
  · dsimp only
    unfold up1
    by_cases z : a = c
    · subst z; rw [up_same, if_pos rfl]
    · rw [up_oth (by omega), up_oth (by omega), if_neg z]; exact M.2 a a1 a2
theorem sp_N_twist {p i v w : Int} {PL : ML} (W : NW n hr) (hI : I ≤ 3) (hN : N ≤ 8) (eI : h 140 1 = (I : Int)) (eN : h 140 0 + h 140 2 = (N : Int)) (M : NM 24 t o h) (P : NPs PL h) (h0 : ¬ ((0 ≤ p ∧ p < (N : Int) ∧ 0 ≤ i ∧ i < (I : Int)) ∧ (0 ≤ v ∧ v < (N : Int)) ∧ 0 ≤ w ∧ w ≤ 9) → Q (0, 0) n hr (ai_up h 138 0 0)) (h1 : ((0 ≤ p ∧ p < (N : Int) ∧ 0 ≤ i ∧ i < (I : Int)) ∧ (0 ≤ v ∧ v < (N : Int)) ∧ 0 ≤ w ∧ w ≤ 9) → ∀ h1, fxTw h h1 → NM 24 (up1 t (3 * p + i) v) (up1 o (3 * p + i) w) h1 → NPs (pshL PL (t, o)) h1 → Q (0, 1) n hr h1) : f_N_twist [(2, 138), (0, p), (0, i), (0, v), (0, w)] n hr h Q := by
  apply e_N_twist
  simp only [n0 W, true_and, true_or, or_true]
  have eI1 : (ai_up h 138 0 0) 140 1 = (I : Int) := by rw [up_oth (by omega)]; exact eI
  have eN1 : w32 ((ai_up h 138 0 0) 140 0 + (ai_up h 138 0 0) 140 2) = (N : Int) := by rw [up_oth (by omega), up_oth (by omega), eN, w32_id (by omega) (by omega)]
  refine sp_N_isPlace W (fun z => ⟨fun q => absurd q (by decide), fun _ => ?_⟩) (fun z => ⟨fun _ => (by first | exact q_at rfl (h0 (by rw [eN1] at z; omega)) | exact (h0 (by rw [eN1] at z; omega))), fun q => absurd rfl q⟩)
  rw [eN1] at z
  refine ⟨n0 W, sp_N_isInput W (fun z2 => ⟨fun q => absurd q (by decide), fun _ => ?_⟩) (fun z2 => ⟨fun _ => (by first | exact q_at rfl (h0 (by rw [eI1] at z2; omega)) | exact (h0 (by rw [eI1] at z2; omega))), fun q => absurd rfl q⟩)⟩
  rw [eI1] at z2
  refine ⟨n0 W, sp_N_isPlace W (fun z3 => ⟨fun q => absurd q (by decide), fun _ => ?_⟩) (fun z3 => ⟨fun _ => (by first | exact q_at rfl (h0 (by rw [eN1] at z3; omega)) | exact (h0 (by rw [eN1] at z3; omega))), fun q => absurd rfl q⟩)⟩
  rw [eN1] at z3
  refine ⟨fun z4 => (by first | exact q_at rfl (h0 (by omega)) | exact (h0 (by omega))), fun z4 => ⟨fun z5 => ⟨n0 W, ?_⟩, fun z5 => (by first | exact q_at rfl (h0 (by omega)) | exact (h0 (by omega)))⟩⟩
  refine sp_N_remembers W (NM_fr M (by funext j; rw [up_oth (by omega)]) (by funext j; rw [up_oth (by omega)])) (NPs_T P EX_1 (by decide)) fun h2 f2 p2 => ?_
  have M2 : NM 24 t o h2 := NM_fr M (by funext j; rw [EX_fn f2.1 (c := 147) (by decide) (by decide), up_oth (by omega)]) (by funext j; rw [EX_fn f2.1 (c := 148) (by decide) (by decide), up_oth (by omega)])
  simp (disch := omega) only [n0 W, nr_20 W, nr_21 W, w32_id, true_and]
  rw [show 24 + 3 * p + i = 24 + (3 * p + i) by omega]
  repeat (refine ⟨by omega, ?_⟩)
  exact (by first | exact q_at rfl (h1 ⟨⟨by omega, by omega, by omega, by omega⟩, z3, by omega, by omega⟩ _ (fxTw_tr (fxTw_tr fxTw_1 (fxTw_P f2)) (fxTw_tr (fxTw_u (Or.inl rfl) (by omega)) (fxTw_u (Or.inr rfl) (by omega)))) (NM_up M2 (by omega)) (NPs_T p2 (EX_upc (EX_upc EX_rf (cs := [147, 148]) (by decide)) (by decide)) (ps := []) (by decide))) | exact (h1 ⟨⟨by omega, by omega, by omega, by omega⟩, z3, by omega, by omega⟩ _ (fxTw_tr (fxTw_tr fxTw_1 (fxTw_P f2)) (fxTw_tr (fxTw_u (Or.inl rfl) (by omega)) (fxTw_u (Or.inr rfl) (by omega)))) (NM_up M2 (by omega)) (NPs_T p2 (EX_upc (EX_upc EX_rf (cs := [147, 148]) (by decide)) (by decide)) (ps := []) (by decide))))
theorem sp_N_mend {p i : Int} {PL : ML} (W : NW n hr) (hI : I ≤ 3) (hN : N ≤ 8) (X : NX S I t' o' h) (eN : h 140 0 + h 140 2 = (N : Int)) (M : NM 24 t o h) (P : NPs PL h) (h0 : ¬ (0 ≤ p ∧ p < (N : Int) ∧ 0 ≤ i ∧ i < (I : Int)) → Q (0, 0) n hr (ai_up h 138 0 0)) (h1 : (0 ≤ p ∧ p < (N : Int) ∧ 0 ≤ i ∧ i < (I : Int)) → ∀ h1, fxTw h h1 → NM 24 (up1 t (3 * p + i) (t' (3 * p + i))) (up1 o (3 * p + i) (o' (3 * p + i))) h1 → NPs (pshL PL (t, o)) h1 → Q (0, 1) n hr h1) : f_N_mend [(2, 138), (0, p), (0, i)] n hr h Q := by
  apply e_N_mend
  simp only [n0 W, true_and, true_or, or_true]
  have eI1 : (ai_up h 138 0 0) 140 1 = (I : Int) := by rw [up_oth (by omega)]; exact X.2.1
  have eN1 : w32 ((ai_up h 138 0 0) 140 0 + (ai_up h 138 0 0) 140 2) = (N : Int) := by rw [up_oth (by omega), up_oth (by omega), eN, w32_id (by omega) (by omega)]
  refine sp_N_isPlace W (fun z => ⟨fun q => absurd q (by decide), fun _ => ?_⟩) (fun z => ⟨fun _ => (by first | exact q_at rfl (h0 (by rw [eN1] at z; omega)) | exact (h0 (by rw [eN1] at z; omega))), fun q => absurd rfl q⟩)
  rw [eN1] at z
  refine ⟨n0 W, sp_N_isInput W (fun z2 => ⟨fun _ => ?_, fun q => absurd q (by decide)⟩) (fun z2 => ⟨fun q => absurd rfl q, fun _ => (by first | exact q_at rfl (h0 (by rw [eI1] at z2; omega)) | exact (h0 (by rw [eI1] at z2; omega)))⟩)⟩
  rw [eI1] at z2
  refine ⟨n0 W, ?_⟩
  refine sp_N_remembers W (NM_fr M (by funext j; rw [up_oth (by omega)]) (by funext j; rw [up_oth (by omega)])) (NPs_T P EX_1 (by decide)) fun h2 f2 p2 => ?_
  have q7 : h2 147 = h 147 := by rw [EX_fn f2.1 (c := 147) (by decide) (by decide)]; funext j; rw [up_oth (by omega)]
  have q8 : h2 148 = h 148 := by rw [EX_fn f2.1 (c := 148) (by decide) (by decide)]; funext j; rw [up_oth (by omega)]
  have M2 : NM 24 t o h2 := NM_fr M q7 q8
  have g1 := X.2.2.1 (3 * p + i) (by omega) (by omega)
  have g2 := X.2.2.2 (3 * p + i) (by omega) (by omega)
  rw [← q7] at g1
  rw [← q8] at g2
  simp (disch := omega) only [n0 W, nr_20 W, nr_21 W, Int.zero_add, w32_id, up_oth, g1, g2, true_and]
  repeat (refine ⟨by omega, ?_⟩)
  exact (by first | exact q_at rfl (h1 ⟨by omega, by omega, by omega, by omega⟩ _ (fxTw_tr (fxTw_tr fxTw_1 (fxTw_P f2)) (fxTw_tr (fxTw_u (Or.inl rfl) (by omega)) (fxTw_u (Or.inr rfl) (by omega)))) (NM_up M2 (by omega)) (NPs_T p2 (EX_upc (EX_upc EX_rf (cs := [147, 148]) (by decide)) (by decide)) (ps := []) (by decide))) | exact (h1 ⟨by omega, by omega, by omega, by omega⟩ _ (fxTw_tr (fxTw_tr fxTw_1 (fxTw_P f2)) (fxTw_tr (fxTw_u (Or.inl rfl) (by omega)) (fxTw_u (Or.inr rfl) (by omega)))) (NM_up M2 (by omega)) (NPs_T p2 (EX_upc (EX_upc EX_rf (cs := [147, 148]) (by decide)) (by decide)) (ps := []) (by decide))))
theorem sp_N_mutate {k : Int} {PL : ML} {e : Nat} (W : NW n hr) (T : TV S I t' o') (B : NB S I t' o' e h) (M : NM 24 t o h) (P : NPs PL h) (h0 : ¬ (0 ≤ k ∧ k < (UN S I t' o' : Int)) → Q (0, 0) n hr (ai_up h 138 0 0)) (h1 : (0 ≤ k ∧ k < (UN S I t' o' : Int)) → ∀ h1, fxTw h h1 → NM 24 (tMu S I t' o' k.toNat) (oMu S I t' o' k.toNat) h1 → NPs (pshL PL (t, o)) h1 → Q (0, 1) n hr h1) : f_N_mutate [(2, 138), (0, k)] n hr h Q := by
  have B1 : NB S I t' o' e (ai_up h 138 0 0) := NB_1 B
  apply e_N_mutate
  simp only [n0 W, true_and, true_or, or_true]
  refine sp_N_isMutant W T B1.1 B1.2.1 (fun z => ⟨fun _ => ?_, fun q => absurd q (by decide)⟩) (fun z => ⟨fun q => absurd rfl q, fun _ => (by first | exact q_at rfl (h0 z) | exact (h0 z))⟩)
  obtain ⟨j, rfl⟩ := Int.eq_ofNat_of_zero_le z.1
  refine ⟨n0 W, ?_⟩
  refine sp_N_remembers W (NM_fr M (by funext j; rw [up_oth (by omega)]) (by funext j; rw [up_oth (by omega)])) (NPs_T P EX_1 (by decide)) fun h2 f2 p2 => ⟨n0 W, ?_⟩
  have B2 := NB_T (fxTw_P f2) B1
  refine sp_N_laysMutant W T B2.1 B2.2.1 (by omega) (by omega) fun h3 f3 m3 => ?_
  have H := h1 z h3 (fxTw_tr (fxTw_tr fxTw_1 (fxTw_P f2)) (fxTw_L f3))
  rw [Int.toNat_natCast] at H
  exact (by first | exact q_at rfl (H m3 (NPs_T p2 f3.1 (by decide))) | exact (H m3 (NPs_T p2 f3.1 (by decide))))
theorem sp_N_undo {PL : ML} (W : NW n hr) (P : NPs PL h) (h0 : PL = [] → Q (0, -1) n hr (ai_up h 138 0 0)) (h1 : ∀ (L : ML) (m : (Int → Int) × (Int → Int)), PL = L ++ [m] → ∀ h1, fxTw h h1 → NM 24 m.1 m.2 h1 → NPs L h1 → Q (0, (L.length : Int)) n hr h1) : f_N_undo [(2, 138)] n hr h Q := by
  obtain ⟨p1, p2, p3⟩ := P
  apply e_N_undo
  simp (disch := omega) only [n0 W, up_oth, up_same, p1, true_and]
  refine ⟨fun z => ?_, fun z => (by first | exact q_at rfl (h0 (List.length_eq_zero_iff.mp (by omega))) | exact (h0 (List.length_eq_zero_iff.mp (by omega))))⟩
  obtain ⟨L, m, rfl⟩ : ∃ (L : ML) (m : _), PL = L ++ [m] := ⟨PL.dropLast, PL.getLast (fun q => z (by rw [q]; rfl)), (List.dropLast_concat_getLast _).symm⟩
  have ll : (L ++ [m]).length = L.length + 1 := by rw [List.length_append]; rfl
  rw [ll] at p2 ⊢
  rw [w32_id (by omega) (by omega), show ((L.length + 1 : Nat) : Int) - 1 = (L.length : Int) by omega]
  have e1 : EX [] [(138, 0), (138, 67)] h (ai_up (ai_up h 138 0 0) 138 67 (L.length : Int)) := EX_upp (EX_upp EX_rf (by decide)) (by decide)
  have K : ∀ (k : Nat) p, (L ++ [m])[k]? = some p → KPd (k : Int) p.1 p.2 (ai_up (ai_up h 138 0 0) 138 67 (L.length : Int)) := fun k p hp => KPd_fr (p3 k p hp) (EX_fn e1 (by decide) (by decide))
  have f1 : fxTw h (ai_up (ai_up h 138 0 0) 138 67 (L.length : Int)) := ⟨EX_le e1 (by decide) (by decide), fun a _ => by rw [EX_fn e1 (c := 147) (by decide) (by decide), EX_fn e1 (c := 148) (by decide) (by decide)]; exact ⟨rfl, rfl⟩, fun j _ => by rw [EX_fn e1 (c := 180) (by decide) (by decide)]⟩
  refine sp_N_copies1 W (by omega) (K L.length m (by rw [List.getElem?_append_right (Nat.le_refl _), Nat.sub_self]; rfl)) fun h2 e2 e3 e4 => ?_
  have c2 : h2 138 67 = (L.length : Int) := by rw [e2 138 67 (by decide) (by decide), up_same]
  have f2 : fxTw (ai_up (ai_up h 138 0 0) 138 67 (L.length : Int)) h2 := ⟨EX_le e2 (by decide) (by decide), e3, fun j _ => by rw [EX_fn e2 (c := 180) (by decide) (by decide)]⟩
  have H := h1 L m rfl h2 (fxTw_tr f1 f2) e4 ⟨c2, by omega, fun k p hp => KPd_fr (K k p (by rw [List.getElem?_append_left (List.getElem?_eq_some_iff.mp hp).1]; exact hp)) (EX_fn e2 (by decide) (by decide))⟩
  simp only [n0 W, c2, true_and]
  exact (by first | exact q_at rfl (H) | exact (H))
theorem sp_N_twisted (W : NW n hr) (hS : S ≤ 6) (hI : I ≤ 3) (hN : N ≤ 8) (X : NX S I t o h) (eN : h 140 0 + h 140 2 = (N : Int)) (M : NM 24 t' o' h) (hQ : Q (0, (dfP I t o t' o' N : Int)) n hr h) : f_N_twisted [(2, 138)] n hr h Q := by
  have eN1 : w32 (h 140 0 + h 140 2) = (N : Int) := by rw [eN, w32_id (by omega) (by omega)]
  apply e_N_twisted
  have main := lupN (N := N) (P := fun p => p_N_twisted_4 (n + 0) (ai_q 0 n Q) 138 (dfP I t o t' o' p : Int) (p : Int) n hr h) ?_ ?_
  · exact main
  · refine b_N_twisted_4 ⟨n0 W, sp_N_places W ?_⟩
    dsimp only
    rw [eN1]
    exact ⟨fun _ => q_at rfl hQ, fun z => by omega⟩
  · intro p hp ih
    have bP := dfP_le hI (t := t) (o := o) (t' := t') (o' := o') p
    refine b_N_twisted_4 ⟨n0 W, sp_N_places W ?_⟩
    dsimp only
    rw [eN1]
    refine ⟨fun z => by omega, fun _ => ?_⟩
    have inner := lupN (N := I) (P := fun i => p_N_twisted_14 (n + 0) (ai_q 0 n Q) 138 ((dfP I t o t' o' p + dfA t o t' o' p i : Nat) : Int) (p : Int) (i : Int) n hr h) ?_ ?_
    · exact inner
    · refine b_N_twisted_14 ⟨n0 W, sp_N_inputs W ?_⟩
      dsimp only
      rw [X.2.1]
      refine ⟨fun _ => ?_, fun z => by omega⟩
      rw [w32_id (by omega) (by omega)]
      exact ih
    · intro i hi ih2
      have bA := dfA_le (t := t) (o := o) (t' := t') (o' := o') (p := p) i
      have g1 := M.1 (3 * (p : Int) + (i : Int)) (by omega) (by omega)
      have g2 := M.2 (3 * (p : Int) + (i : Int)) (by omega) (by omega)
      dsimp only at g1 g2
      have g3 := X.2.2.1 (3 * (p : Int) + (i : Int)) (by omega) (by omega)
      have g4 := X.2.2.2 (3 * (p : Int) + (i : Int)) (by omega) (by omega)
      have dS : dfA t o t' o' p (i + 1) = dfA t o t' o' p i + if t' (3 * (p : Int) + (i : Int)) ≠ t (3 * (p : Int) + (i : Int)) ∨ o' (3 * (p : Int) + (i : Int)) ≠ o (3 * (p : Int) + (i : Int)) then 1 else 0 := rfl
      rw [dS] at ih2
      refine b_N_twisted_14 ⟨n0 W, sp_N_inputs W ?_⟩
      dsimp only
      rw [X.2.1]
      refine ⟨fun z => by omega, fun _ => ?_⟩
      simp (disch := omega) only [n0 W, nr_20 W, nr_21 W, Int.zero_add, w32_id, g1, g2, g3, g4, true_and]
      repeat (refine ⟨by omega, ?_⟩)
      refine ⟨fun z => ?_, fun z => ?_⟩
      · rw [if_pos (Or.inl z)] at ih2
        exact ih2
      · repeat (refine ⟨by omega, ?_⟩)
        refine ⟨fun z2 => ?_, fun z2 => ?_⟩
        · rw [if_neg (fun q => q.elim (fun y => y z) (fun y => y z2))] at ih2
          rw [Int.add_zero]
          exact ih2
        · rw [if_pos (Or.inr z2)] at ih2
          exact ih2
theorem lb_n {x : Nat} (hx : x < 256) (i : Nat) : lb (x : Int) i = x.testBit i := by
  have e : Int64.ofInt (x : Int) = Int64.ofNat x := Int64.ofInt_eq_ofNat
  unfold lb
  rw [e]
  show (BitVec.ofNat 64 x).getLsbD i = _
  rw [BitVec.getLsbD_ofNat]
  by_cases z : i < 64
  · simp [z]
  · have : x.testBit i = false := tb_lt (k := 8) hx (by omega)
    simp [z, this]
theorem popc_64 {x : Nat} (hx : x < 256) : cntB (fun i => lb (x : Int) i) 64 = popc x := by
  rw [popc_cnt (n := 8) hx (by decide)]
  have e : cntB (fun i => lb (x : Int) i) (8 + 56) = cntB (fun i => lb (x : Int) i) 8 + cntB (fun i => lb (x : Int) (8 + i)) 56 := cntB_add _ 8 56
  rw [show (64 : Nat) = 8 + 56 from rfl, e, cntB_z (P := fun i => lb (x : Int) (8 + i)) fun i => by rw [lb_n hx]; exact tb_lt (k := 8) hx (by omega)]
  exact cntB_ext fun s _ => lb_n hx s
theorem sp_N_builtReached (W : NW n hr) (hS : S ≤ 6) (hI : I ≤ 3) (hN : N ≤ 8) (hc : clo N t') (X : NX S I t o h) (eN : h 140 0 + h 140 2 = (N : Int)) (eS : S = 0 → N = 0) (eS2 : S ≤ N) (M : NM 24 t' o' h) (hQ : Q (0, (popc (RCH N I t') : Int)) n hr h) : f_N_builtReached [(2, 138)] n hr h Q := by
  have eN1 : w32 (h 140 0 + h 140 2) = (N : Int) := by rw [eN, w32_id (by omega) (by omega)]
  apply e_N_builtReached
  have main := lupN (N := 8) (P := fun k => p_N_builtReached_15 (n + 0) (ai_q 0 n Q) 138 (rvR N I t' (rv0 N) k : Int) (k : Int) n hr h) ?_ ?_
  · refine ⟨n0 W, sp_N_states W ?_⟩
    dsimp only
    rw [X.1]
    have e0 : rvR N I t' (rv0 N) 0 = rv0 N := rfl
    rw [e0] at main
    refine ⟨fun z => ?_, fun z => ?_⟩
    · rw [show rv0 N = 0 from if_neg (by omega)] at main; exact main
    · rw [show rv0 N = 1 from if_pos (by omega)] at main; exact main
  · refine b_N_builtReached_15 ⟨fun _ => ?_, fun z => by omega⟩
    rw [RCH_8 hN hI hc]
    have b := RCH_lt hN hI hc
    refine sp_N_bits (by omega) ?_
    rw [popc_64 b]
    exact q_at rfl hQ
  · intro k hk ih
    refine b_N_builtReached_15 ⟨fun z => by omega, fun _ => ?_⟩
    have mid := lupN (N := N) (P := fun p => p_N_builtReached_23 (n + 0) (ai_q 0 n Q) 138 (rvP I t' (rvR N I t' (rv0 N) k) p : Int) (k : Int) (p : Int) n hr h) ?_ ?_
    · exact mid
    · refine b_N_builtReached_23 ⟨n0 W, sp_N_places W ?_⟩
      dsimp only
      rw [eN1, w32_id (by omega) (by omega)]
      exact ⟨fun _ => ih, fun z => by omega⟩
    · intro p hp ih2
      refine b_N_builtReached_23 ⟨n0 W, sp_N_places W ?_⟩
      dsimp only
      rw [eN1]
      refine ⟨fun z => by omega, fun _ => ?_⟩
      have inner := lupN (N := I) (P := fun i => p_N_builtReached_34 (n + 0) (ai_q 0 n Q) 138 (rvA t' p (rvP I t' (rvR N I t' (rv0 N) k) p) i : Int) (k : Int) (p : Int) (i : Int) n hr h) ?_ ?_
      · exact inner
      · refine b_N_builtReached_34 ⟨n0 W, sp_N_inputs W ?_⟩
        dsimp only
        rw [X.2.1, w32_id (by omega) (by omega)]
        exact ⟨fun _ => ih2, fun z => by omega⟩
      · intro i hi ih3
        have b := rvA_256 hN hI hc k hp (show i ≤ I by omega)
        have cc := hc (p : Int) i (by omega) (by omega) (by omega)
        have g1 := M.1 (3 * (p : Int) + (i : Int)) (by omega) (by omega)
        dsimp only at g1
        have eS : rvA t' p (rvP I t' (rvR N I t' (rv0 N) k) p) (i + 1) = if (rvA t' p (rvP I t' (rvR N I t' (rv0 N) k) p) i).testBit p = true then rvA t' p (rvP I t' (rvR N I t' (rv0 N) k) p) i ||| 2 ^ (t' (3 * (p : Int) + (i : Int))).toNat else rvA t' p (rvP I t' (rvR N I t' (rv0 N) k) p) i := rfl
        generalize rvA t' p (rvP I t' (rvR N I t' (rv0 N) k) p) i = y at *
        rw [eS] at ih3
        obtain ⟨v, hv⟩ := Int.eq_ofNat_of_zero_le cc.1
        rw [hv] at g1 ih3 cc
        rw [Int.toNat_natCast] at ih3
        refine b_N_builtReached_34 ⟨n0 W, sp_N_inputs W ?_⟩
        dsimp only
        rw [X.2.1]
        rw [show 24 + (3 * (p : Int) + (i : Int)) = 24 + 3 * (p : Int) + (i : Int) by omega] at g1
        simp (disch := omega) only [n0 W, nr_20 W, w32_id, g1, bit_n, or_bit, true_and]
        refine ⟨fun z => by omega, fun _ => ⟨fun z => ?_, fun z => ?_⟩⟩
        · have nb : ¬ y.testBit p = true := fun q => z (if_pos q)
          rw [if_neg nb] at ih3
          exact ih3
        · have nb : y.testBit p = true := Classical.byContradiction fun q => by rw [if_neg q] at z; omega
          rw [if_pos nb] at ih3
          repeat (refine ⟨by omega, ?_⟩)
          exact ih3
end
