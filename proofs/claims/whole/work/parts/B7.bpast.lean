-- deps: 18 19 20 21 22 23 24 25 26 27 28 29 30 31 32 33 34 35 36 37 38 39 40 41 42 43 44 45 46 47 48 49 50 51 52 53 54 55 56 57 58 59 60 61 62 63 64 65 66 67 68 69 70 71 72 73 74 75 76 77 78 79 80 81 82 83 84 85 86 87 88 89 90 91 92 93 94 95 96 97 98 99 9A 9B 9C 9D 9E 9F 9G 9H 9I 9J 9K 9L 9M 9N 9O 9P 9Q 9R 9S 9T 9U 9V 9W 9X 9Y 9Z A0 A1 A2 A3 A4 A5 A6 A7 B0 B1 B2 B3 B4 B6
/-! the class's own methods: twists by hand, undone, the image -/
/-- another machine is built; what can be undone -/
def zsM (z : ST) (t o : Int → Int) (U : ML) : ST := (zT z, zL z, zF z, zP z, zS z, t, o, zG z, U, zI z, zit z, zio z, ziG z)
/-- an image is kept -/
def zsK (z : ST) : ST := (zT z, zL z, zF z, zP z, zS z, zt z, zo z, zG z, zU z, 1, zt z, zo z, zG z)
/-- back to the image -/
def zsB (z : ST) : ST := (zT z, zL z, zF z, zP z, zS z, zit z, zio z, ziG z, [], zI z, zit z, zio z, ziG z)
theorem bOK_up {s : DS} {t o : Int → Int} {p i v w : Int} (b : bOK s t o) (hN : (dN s).length ≤ 8) (hp : 0 ≤ p ∧ p < ((dN s).length : Int)) (hi : 0 ≤ i ∧ i < 3) (hv : 0 ≤ v ∧ v < ((dN s).length : Int)) (hw : 0 ≤ w ∧ w ≤ 9) : bOK s (up1 t (3 * p + i) v) (up1 o (3 * p + i) w) := by
  refine ⟨fun a a1 a2 => ?_, fun q j q1 q2 j3 => ?_⟩
  · have := b.1 a a1 a2
    unfold up1
    split
    · omega
    · exact this
  · have := b.2 q j q1 q2 j3
    unfold up1
    split
    · omega
    · exact this
theorem pshL_ok {s : DS} {U : ML} {t o : Int → Int} (h : U.length ≤ 20 ∧ ∀ m ∈ U, bOK s m.1 m.2) (b : bOK s t o) : (pshL U (t, o)).length ≤ 20 ∧ ∀ m ∈ pshL U (t, o), bOK s m.1 m.2 := by
  refine ⟨?_, fun m hm => ?_⟩
  · rw [pshL_len h.1]; split <;> omega
  · unfold pshL at hm
    rcases List.mem_append.mp hm with y | y
    · split at y
      · exact h.2 m (List.mem_of_mem_drop y)
      · exact h.2 m y
    · rw [List.mem_singleton.mp y]; exact b
section
variable {Q : RP} {n : Nat} {hr h : HP} {z : ST} {d : Int} {k : Nat}
theorem zOK_M {t o : Int → Int} {U : ML} (O : zOK z) (b : bOK (zS z) t o) (u : U.length ≤ 20 ∧ ∀ m ∈ U, bOK (zS z) m.1 m.2) : zOK (zsM z t o U) := ⟨O.1, O.2.1, b, O.2.2.2.1, u, O.2.2.2.2.2⟩
theorem zOK_K (O : zOK z) : zOK (zsK z) := ⟨O.1, O.2.1, O.2.2.1, O.2.2.2.1, O.2.2.2.2.1, Or.inr ⟨rfl, O.2.2.1, O.2.2.2.1⟩⟩
theorem zOK_B (O : zOK z) (i : zI z = 1) : zOK (zsB z) := by
  rcases O.2.2.2.2.2 with y | y
  · omega
  · exact ⟨O.1, O.2.1, y.2.1, y.2.2, ⟨Nat.zero_le _, fun m hm => by cases hm⟩, Or.inr y⟩
theorem CAL_M2 {t o : Int → Int} {U : ML} {h1 : HP} (hd : d = 3 ∨ d = 8) (C : CAL z d k h) (e : EX [17, 18, 133] [(0, 13), (0, 14)] h h1) (r : TRm 16 t o h1) (u : C9 U h1) : (∀ c : Int, 138 ≤ c → h1 c = h c) ∧ CAL (zsM z t o U) d k h1 := by
  obtain ⟨a1, a2, a3, a4, a5, a6, a7, a8, a9, a10⟩ := C
  refine ⟨(fun c p => EX_fn (e) (by simp <;> omega) (by simp <;> omega)), C1_fr hd a1 (fun c p q => EX_fn (e) (by simp <;> omega) (by simp <;> omega)), ⟨?_, ?_, ?_, r⟩, C3_fr a3 (fun c p q => EX_fn (e) (by simp <;> omega) (by simp <;> omega)), C4_fr a4 (EX_fn (e) (by decide) (by decide)) (EX_fn (e) (by decide) (by decide)) (EX_fn (e) (by decide) (by decide)) (EX_fn (e) (by decide) (by decide)) (EX_fn (e) (by decide) (by decide)) (EX_fn (e) (by decide) (by decide)), C5_fr a5 ((e) _ _ (by decide) (by decide)) (fun c p q => EX_fn (e) (by simp <;> omega) (by simp <;> omega)), C6_fr a6 (fun c p q => EX_fn (e) (by simp <;> omega) (by simp <;> omega)), C7_fr a7 (fun c p q => EX_fn (e) (by simp <;> omega) (by simp <;> omega)), C8_fr a8 (EX_fn (e) (by decide) (by decide)) (EX_fn (e) (by decide) (by decide)) (EX_fn (e) (by decide) (by decide)), u, C10_fr a10 ((e) _ _ (by decide) (by decide)) (fun c p q => EX_fn (e) (by simp <;> omega) (by simp <;> omega))⟩
  · unfold CX; rw [EX_fn e (c := 13) (by decide) (by decide), EX_fn e (c := 14) (by decide) (by decide), EX_fn e (c := 15) (by decide) (by decide)]; exact a2.1
  · rw [EX_fn e (c := 16) (by decide) (by decide)]; exact a2.2.1
  · rw [EX_fn e (c := 16) (by decide) (by decide)]; exact a2.2.2.1
theorem sp_B_pastSlot {f c : Int} {R : RP} (V : CW n hr) (e13 : h 0 13 = f) (e14 : h 0 14 = c) (hf : 0 ≤ f ∧ f < 20) (hc : 0 ≤ c ∧ c ≤ 20) (hQ : R (0, 24 * ((f + c) % 20)) n hr h) : f_B_pastSlot [(2, 0)] n hr h R := by
  apply e_B_pastSlot
  rw [e13, e14, w32_id (x := f + c) (by omega) (by omega), rem_i (by omega) (by omega) (by omega) (by omega), w32_id (by omega) (by omega), Int.mul_comm]
  exact ⟨ok_0 V.1, ok_0 V.1, by decide, (by first | exact q_at rfl (hQ) | exact (hQ))⟩
theorem sp_B_remember {R : RP} {t o : Int → Int} {U : ML} (V : CW n hr) (hm : mok t o) (r : TRm 16 t o h) (u : C9 U h) (hU : U.length ≤ 20) (hQ : ∀ h1, EX [133] [(0, 13), (0, 14)] h h1 → C9 (pshL U (t, o)) h1 → R (9, 0) n hr h1) : f_B_remember [(2, 0)] n hr h R := by
  obtain ⟨u1, u2, u3⟩ := u
  have fin : ∀ (U' : ML) (h2 : HP) (f : Int), U'.length ≤ 19 → EX [] [(0, 13), (0, 14)] h h2 → (0 ≤ f ∧ f < 20) → h2 0 13 = f → h2 0 14 = (U'.length : Int) → (∀ (j : Nat) p, U'[j]? = some p → PKd 133 (24 * ((f + (j : Int)) % 20)) p.1 p.2 h2) → U' ++ [(t, o)] = pshL U (t, o) → f_M_pack [(2, 16), (2, 133), (0, 24 * ((f + (U'.length : Int)) % 20))] n hr h2 (fun r4 n4 hr4 h4 => ai_ok n4 0 11 ∧ ai_ok n4 0 11 ∧ ai_q 0 n R (9, 0) n4 hr4 (ai_up h4 0 14 (w32 (h4 0 14 + 1)))) := by
    intro U' h2 f l e hf e13 e14 kk eU
    have sl : 0 ≤ (f + (U'.length : Int)) % 20 ∧ (f + (U'.length : Int)) % 20 < 20 := by omega
    refine sp_M_pack (mr_16 V) (ok_133 V.1) (by decide) (by rw [l_133]; omega) (by rw [l_133]; decide) hm (TRm_fr r (EX_fn e (by decide) (by decide)) (EX_fn e (by decide) (by decide))) fun h3 e3 o3 p3 => ⟨ok_0 V.1, ok_0 V.1, q_at rfl ?_⟩
    rw [e3 0 14 (by decide) (by decide), e14, w32_id (by omega) (by omega)]
    refine hQ _ (EX_upp (EX_tr (EX_le e (by decide) (by decide)) (EX_le e3 (by decide) (by decide))) (by decide)) ⟨?_, ?_, fun j p hj => ?_⟩
    · rw [up_oth (by omega), e3 0 13 (by decide) (by decide), e13]; exact hf
    · rw [up_same, ← eU, List.length_append]; rfl
    · rw [up_oth (by omega), e3 0 13 (by decide) (by decide), e13]
      refine PKd_fr (h := h3) ?_ (by funext j; rw [up_oth (by omega)])
      rw [← eU] at hj
      rcases Nat.lt_or_ge j U'.length with g | g
      · rw [List.getElem?_append_left g] at hj
        exact PKd_ot (kk j p hj) o3 (by omega)
      · rw [List.getElem?_append_right g] at hj
        have j0 : j - U'.length = 0 := by have := (List.getElem?_eq_some_iff.mp hj).1; simp at this; omega
        rw [j0] at hj
        cases hj
        rw [show j = U'.length by omega]
        exact p3
  apply e_B_remember
  simp only [ok_0 V.1, u2, true_and]
  refine ⟨fun q => ?_, fun q => ?_⟩
  · simp only [cr_0_2 V, cr_0_9 V, ok_16 V.1, true_and]
    refine sp_B_pastSlot V rfl u2 u1 (by omega) ?_
    have := fin U h (h 0 13) (by omega) EX_rf u1 rfl u2 u3 (by unfold pshL; rw [if_neg (by omega)])
    exact ⟨ok_16 V.1, this⟩
  · have er : i_rem (w32 (h 0 13 + 1)) 20 = (h 0 13 + 1) % 20 := by rw [w32_id (by omega) (by omega), rem_i (by omega) (by omega) (by omega) (by omega)]
    simp (disch := omega) only [cr_0_2 V, cr_0_9 V, ok_16 V.1, er, up_oth, u2, true_and]
    have e1 : w32 ((U.length : Int) - 1) = 19 := by rw [w32_id (by omega) (by omega)]; omega
    rw [e1]
    refine ⟨by decide, sp_B_pastSlot V (f := (h 0 13 + 1) % 20) (c := 19) (by rw [up_oth (by omega), up_same]) up_same (by omega) (by omega) ?_⟩
    have l1 : (U.drop 1).length = 19 := by rw [List.length_drop]; omega
    have e : EX [] [(0, 13), (0, 14)] h (ai_up (ai_up h 0 13 ((h 0 13 + 1) % 20)) 0 14 19) := EX_upp (EX_upp EX_rf (by decide)) (by decide)
    have := fin (U.drop 1) _ ((h 0 13 + 1) % 20) (by omega) e (by omega) (by rw [up_oth (by omega), up_same]) (by rw [up_same, l1]; rfl) (fun j p hj => ?_) (by unfold pshL; rw [if_pos (by omega)])
    · rw [l1] at this; exact ⟨ok_16 V.1, this⟩
    · rw [List.getElem?_drop] at hj
      have K := u3 (1 + j) p hj
      have e2 : ((h 0 13 + 1) % 20 + (j : Int)) % 20 = (h 0 13 + ((1 + j : Nat) : Int)) % 20 := by omega
      rw [e2]
      exact PKd_fr K (EX_fn e (by decide) (by decide))
theorem sp_B_twist {p i v w : Int} (V : CW n hr) (hd : d = 3 ∨ d = 8) (O : zOK z) (C : CAL z d k h) (h0 : ¬ ((0 ≤ p ∧ p < ((dN (zS z)).length : Int) ∧ 0 ≤ i ∧ i < (((dJ (zS z)).length) : Int)) ∧ (0 ≤ v ∧ v < ((dN (zS z)).length : Int)) ∧ 0 ≤ w ∧ w ≤ 9) → Q (0, 0) n hr h) (h1 : ((0 ≤ p ∧ p < ((dN (zS z)).length : Int) ∧ 0 ≤ i ∧ i < (((dJ (zS z)).length) : Int)) ∧ (0 ≤ v ∧ v < ((dN (zS z)).length : Int)) ∧ 0 ≤ w ∧ w ≤ 9) → ∀ h1, (∀ c : Int, 138 ≤ c → h1 c = h c) → CAL (zsM z (up1 (zt z) (3 * p + i) v) (up1 (zo z) (3 * p + i) w) (pshL (zU z) (zt z, zo z))) d k h1 → Q (0, 1) n hr h1) : f_B_twist [(2, 0), (0, p), (0, i), (0, v), (0, w)] n hr h Q := by
  obtain ⟨⟨o1, o2, o3, o4, o5⟩, -⟩ := O.2.1
  have c2 := C.2.1
  apply e_B_twist
  simp only [ok_0 V.1, cr_0_2 V, ok_16 V.1, true_and, true_or, or_true]
  refine sp_M_has (mr_16 V) ?_
  rw [c2.2.1, c2.2.2.1]
  by_cases y : 0 ≤ p ∧ p < ((dN (zS z)).length : Int) ∧ 0 ≤ i ∧ i < (((dJ (zS z)).length) : Int)
  · rw [if_pos y]
    refine ⟨fun q => absurd q (by decide), fun _ => ⟨fun q => (by first | exact q_at rfl (h0 (by omega)) | exact (h0 (by omega))), fun q => ?_⟩⟩
    simp only [ok_0 V.1, cr_0_2 V, ok_16 V.1, c2.2.1, true_and, true_or, or_true]
    refine ⟨fun q2 => (by first | exact q_at rfl (h0 (by omega)) | exact (h0 (by omega))), fun q2 => ⟨fun q3 => (by first | exact q_at rfl (h0 (by omega)) | exact (h0 (by omega))), fun q3 => ⟨fun q4 => ?_, fun q4 => (by first | exact q_at rfl (h0 (by omega)) | exact (h0 (by omega)))⟩⟩⟩
    refine sp_B_remember V O.2.2.1.1 c2.2.2.2 C.2.2.2.2.2.2.2.2.1 O.2.2.2.2.1.1 fun h2 e2 u2 => ⟨ok_0 V.1, ?_⟩
    rw [(cr_0_2 V).1]
    refine ⟨ok_16 V.1, sp_M_set (mr_16 V) (by omega) (by omega) ?_⟩
    have r2 : TRm 16 (zt z) (zo z) h2 := TRm_fr c2.2.2.2 (EX_fn e2 (by decide) (by decide)) (EX_fn e2 (by decide) (by decide))
    have B := CAL_M2 (h1 := ai_up (ai_up h2 (16 + 1) (3 * p + i) v) (16 + 2) (3 * p + i) w) (t := up1 (zt z) (3 * p + i) v) (o := up1 (zo z) (3 * p + i) w) (U := pshL (zU z) (zt z, zo z)) hd C (EX_upc (EX_upc (EX_le e2 (by decide) (by decide)) (by decide)) (by decide)) ⟨?_, ?_⟩ (C9_fr u2 (by rw [up_oth (by omega), up_oth (by omega)]) (by rw [up_oth (by omega), up_oth (by omega)]) (by funext j; rw [up_oth (by omega), up_oth (by omega)]))
    · exact (by first | exact q_at rfl (h1 ⟨y, ⟨q, q2⟩, q3, q4⟩ _ B.1 B.2) | exact (h1 ⟨y, ⟨q, q2⟩, q3, q4⟩ _ B.1 B.2))
    · have := r24_up (c := 3 * p + i) (v := v) r2.1
      exact fun a a1 a2 => by rw [up_oth (by omega)]; exact this a a1 a2
    · exact r24_up (h := ai_up h2 (16 + 1) (3 * p + i) v) fun a a1 a2 => by rw [up_oth (by omega)]; exact r2.2 a a1 a2
  · rw [if_neg y]
    exact ⟨fun _ => (by first | exact q_at rfl (h0 (fun r => y r.1)) | exact (h0 (fun r => y r.1))), fun q => absurd rfl q⟩
theorem sp_B_mend {p i : Int} (V : CW n hr) (hd : d = 3 ∨ d = 8) (O : zOK z) (C : CAL z d k h) (h0 : ¬ (0 ≤ p ∧ p < ((dN (zS z)).length : Int) ∧ 0 ≤ i ∧ i < (((dJ (zS z)).length) : Int)) → Q (0, 0) n hr h) (h1 : (0 ≤ p ∧ p < ((dN (zS z)).length : Int) ∧ 0 ≤ i ∧ i < (((dJ (zS z)).length) : Int)) → ∀ h1, (∀ c : Int, 138 ≤ c → h1 c = h c) → CAL (zsM z (up1 (zt z) (3 * p + i) (tM (zS z) (3 * p + i))) (up1 (zo z) (3 * p + i) (oM (zS z) (3 * p + i))) (pshL (zU z) (zt z, zo z))) d k h1 → Q (0, 1) n hr h1) : f_B_mend [(2, 0), (0, p), (0, i)] n hr h Q := by
  obtain ⟨⟨o1, o2, o3, o4, o5⟩, -⟩ := O.2.1
  have c2 := C.2.1
  apply e_B_mend
  simp only [ok_0 V.1, cr_0_2 V, ok_16 V.1, true_and, true_or, or_true]
  refine sp_M_has (mr_16 V) ?_
  rw [c2.2.1, c2.2.2.1]
  by_cases y : 0 ≤ p ∧ p < ((dN (zS z)).length : Int) ∧ 0 ≤ i ∧ i < (((dJ (zS z)).length) : Int)
  · rw [if_pos y]
    refine ⟨fun _ => ⟨ok_0 V.1, ?_⟩, fun q => absurd q (by decide)⟩
    refine sp_B_remember V O.2.2.1.1 c2.2.2.2 C.2.2.2.2.2.2.2.2.1 O.2.2.2.2.1.1 fun h2 e2 u2 => ?_
    have x14 : h2 (13 + 1) (3 * p + i) = tM (zS z) (3 * p + i) := by rw [EX_fn e2 (c := 13 + 1) (by decide) (by decide)]; exact c2.1.2.2.1 _ (by omega) (by omega)
    have x15 : h2 (13 + 2) (3 * p + i) = oM (zS z) (3 * p + i) := by rw [EX_fn e2 (c := 13 + 2) (by decide) (by decide)]; exact c2.1.2.2.2 _ (by omega) (by omega)
    simp only [ok_0 V.1, cr_0_1 V, cr_0_2 V, ok_13 V.1, true_and]
    refine sp_M_part (mr_13 V) (by omega) (by omega) ?_
    rw [if_pos rfl, x14]
    simp only [ok_0 V.1, cr_0_1 V, cr_0_2 V, ok_13 V.1, true_and]
    refine sp_M_part (mr_13 V) (by omega) (by omega) ?_
    rw [if_neg (by decide), x15]
    refine ⟨ok_16 V.1, sp_M_set (mr_16 V) (by omega) (by omega) ?_⟩
    have r2 : TRm 16 (zt z) (zo z) h2 := TRm_fr c2.2.2.2 (EX_fn e2 (by decide) (by decide)) (EX_fn e2 (by decide) (by decide))
    have B := CAL_M2 (h1 := ai_up (ai_up h2 (16 + 1) (3 * p + i) (tM (zS z) (3 * p + i))) (16 + 2) (3 * p + i) (oM (zS z) (3 * p + i))) (t := up1 (zt z) (3 * p + i) (tM (zS z) (3 * p + i))) (o := up1 (zo z) (3 * p + i) (oM (zS z) (3 * p + i))) (U := pshL (zU z) (zt z, zo z)) hd C (EX_upc (EX_upc (EX_le e2 (by decide) (by decide)) (by decide)) (by decide)) ⟨?_, ?_⟩ (C9_fr u2 (by rw [up_oth (by omega), up_oth (by omega)]) (by rw [up_oth (by omega), up_oth (by omega)]) (by funext j; rw [up_oth (by omega), up_oth (by omega)]))
    · exact (by first | exact q_at rfl (h1 y _ B.1 B.2) | exact (h1 y _ B.1 B.2))
    · have := r24_up (c := 3 * p + i) (v := tM (zS z) (3 * p + i)) r2.1
      exact fun a a1 a2 => by rw [up_oth (by omega)]; exact this a a1 a2
    · exact r24_up (h := ai_up h2 (16 + 1) (3 * p + i) (tM (zS z) (3 * p + i))) fun a a1 a2 => by rw [up_oth (by omega)]; exact r2.2 a a1 a2
  · rw [if_neg y]
    exact ⟨fun q => absurd rfl q, fun _ => (by first | exact q_at rfl (h0 y) | exact (h0 y))⟩
theorem sp_B_mutate {x : Int} (V : CW n hr) (hd : d = 3 ∨ d = 8) (O : zOK z) (C : CAL z d k h) (h0 : ¬ (0 ≤ x ∧ x < (UN (dM (zS z)) ((dJ (zS z)).length) (tM (zS z)) (oM (zS z)) : Int)) → Q (0, 0) n hr h) (h1 : (0 ≤ x ∧ x < (UN (dM (zS z)) ((dJ (zS z)).length) (tM (zS z)) (oM (zS z)) : Int)) → ∀ h1, (∀ c : Int, 138 ≤ c → h1 c = h c) → CAL (zsM z (tMu (dM (zS z)) ((dJ (zS z)).length) (tM (zS z)) (oM (zS z)) x.toNat) (oMu (dM (zS z)) ((dJ (zS z)).length) (tM (zS z)) (oM (zS z)) x.toNat) (pshL (zU z) (zt z, zo z))) d k h1 → Q (0, 1) n hr h1) : f_B_mutate [(2, 0), (0, x)] n hr h Q := by
  have TT := TV_s O.2.1
  have c2 := C.2.1
  have L := C.2.2.2.2.2.1.1
  apply e_B_mutate
  simp only [ok_0 V.1, cr_0_6 V, ok_102 V.1, true_and, true_or, or_true]
  refine sp_U_has V L (fun q => ⟨fun _ => ?_, fun r => absurd r (by decide)⟩) fun q => ⟨fun r => absurd rfl r, fun _ => (by first | exact q_at rfl (h0 q) | exact (h0 q))⟩
  obtain ⟨j, rfl⟩ := Int.eq_ofNat_of_zero_le q.1
  have H := h1 q
  rw [Int.toNat_natCast] at H
  refine ⟨ok_0 V.1, sp_B_remember V O.2.2.1.1 c2.2.2.2 C.2.2.2.2.2.2.2.2.1 O.2.2.2.2.1.1 fun h2 e2 u2 => ?_⟩
  simp only [ok_0 V.1, cr_0_2 V, cr_0_1 V, ok_16 V.1, true_and]
  refine sp_M_copyA (mr_16 V) (mr_13 V) (by omega) (t := (tM (zS z))) (o := (oM (zS z))) ⟨fun a a1 a2 => ?_, fun a a1 a2 => ?_⟩ fun h3 e3 r3 => ?_
  · rw [EX_fn e2 (c := 13 + 1) (by decide) (by decide)]; exact c2.1.2.2.1 a a1 a2
  · rw [EX_fn e2 (c := 13 + 2) (by decide) (by decide)]; exact c2.1.2.2.2 a a1 a2
  simp only [ok_0 V.1, cr_0_2 V, cr_0_6 V, ok_102 V.1, true_and]
  have E3 : EX [17, 18, 133] [(0, 13), (0, 14)] h h3 := EX_tr (EX_le e2 (by decide) (by decide)) (EX_le e3 (by decide) (by decide))
  refine sp_U_dress V TT (mr_16 V) (by omega) ⟨?_, ?_⟩ (by omega) r3 fun h4 e4 r4 => ?_
  · rw [EX_fn E3 (c := 102) (by decide) (by decide)]; exact L.1
  · rw [EX_fn E3 (c := 109) (by decide) (by decide)]; exact L.2
  have E4 : EX [17, 18, 133] [(0, 13), (0, 14)] h h4 := EX_tr E3 (EX_le e4 (by decide) (by decide))
  have B := CAL_M2 (U := pshL (zU z) (zt z, zo z)) hd C E4 r4 (C9_fr u2 (by rw [e4 0 13 (by decide) (by decide), e3 0 13 (by decide) (by decide)]) (by rw [e4 0 14 (by decide) (by decide), e3 0 14 (by decide) (by decide)]) (by rw [EX_fn e4 (c := 133) (by decide) (by decide), EX_fn e3 (c := 133) (by decide) (by decide)]))
  exact (by first | exact q_at rfl (H h4 B.1 B.2) | exact (H h4 B.1 B.2))
theorem sp_B_undo (V : CW n hr) (hd : d = 3 ∨ d = 8) (O : zOK z) (C : CAL z d k h) (h0 : zU z = [] → Q (0, -1) n hr h) (h1 : ∀ (L : ML) (m : (Int → Int) × (Int → Int)), zU z = L ++ [m] → ∀ h1, (∀ c : Int, 138 ≤ c → h1 c = h c) → CAL (zsM z m.1 m.2 L) d k h1 → Q (0, (L.length : Int)) n hr h1) : f_B_undo [(2, 0)] n hr h Q := by
  obtain ⟨u1, u2, u3⟩ := C.2.2.2.2.2.2.2.2.1
  have ul := O.2.2.2.2.1
  apply e_B_undo
  simp only [ok_0 V.1, u2, true_and]
  refine ⟨fun q => ?_, fun q => (by first | exact q_at rfl (h0 (List.length_eq_zero_iff.mp (by omega))) | exact (h0 (List.length_eq_zero_iff.mp (by omega))))⟩
  obtain ⟨L, m, eU⟩ : ∃ (L : ML) (m : _), zU z = L ++ [m] := ⟨(zU z).dropLast, (zU z).getLast (fun y => q (by rw [y]; rfl)), (List.dropLast_concat_getLast _).symm⟩
  have H := h1 L m eU
  rw [eU] at ul u2 u3 ⊢
  have ll : (L ++ [m]).length = L.length + 1 := by rw [List.length_append]; rfl
  rw [ll] at ul ⊢
  rw [w32_id (by omega) (by omega), show ((L.length + 1 : Nat) : Int) - 1 = (L.length : Int) by omega]
  have e : EX [] [(0, 13), (0, 14)] h (ai_up h 0 14 (L.length : Int)) := EX_upp EX_rf (by decide)
  simp only [cr_0_2 V, cr_0_9 V, ok_16 V.1, true_and]
  refine sp_B_pastSlot V (up_oth (by omega)) up_same u1 (by omega) ?_
  have bm := ul.2 m (List.mem_append_right _ (List.mem_singleton.mpr rfl))
  refine ⟨ok_16 V.1, sp_M_unpack (t := m.1) (o := m.2) (mr_16 V) (ok_133 V.1) (by decide) (by rw [l_133]; omega) (by rw [l_133]; decide) bm.1 (PKd_fr (u3 L.length m (by rw [List.getElem?_append_right (Nat.le_refl _), Nat.sub_self]; rfl)) (EX_fn e (by decide) (by decide))) fun h3 e3 r3 => ?_⟩
  have c14 : h3 0 14 = (L.length : Int) := by rw [e3 0 14 (by decide) (by decide), up_same]
  have c13 : h3 0 13 = h 0 13 := by rw [e3 0 13 (by decide) (by decide), up_oth (by omega)]
  have E : EX [17, 18, 133] [(0, 13), (0, 14)] h h3 := EX_tr (EX_le e (by decide) (by decide)) (EX_le e3 (by decide) (by decide))
  have B := CAL_M2 (U := L) hd C E r3 ⟨by rw [c13]; exact u1, c14, fun j p hj => ?_⟩
  · rw [c14]
    exact ⟨ok_0 V.1, (by first | exact q_at rfl (H h3 B.1 B.2) | exact (H h3 B.1 B.2))⟩
  · rw [c13]
    exact PKd_fr (u3 j p (by rw [List.getElem?_append_left (List.getElem?_eq_some_iff.mp hj).1]; exact hj)) (by rw [EX_fn e3 (c := 133) (by decide) (by decide), EX_fn e (c := 133) (by decide) (by decide)])
theorem sp_B_keep (V : CW n hr) (hd : d = 3 ∨ d = 8) (O : zOK z) (C : CAL z d k h) (hQ : ∀ h1, (∀ c : Int, 138 ≤ c → h1 c = h c) → CAL (zsK z) d k h1 → Q (0, ((zG z).length : Int)) n hr h1) : f_B_keep [(2, 0)] n hr h Q := by
  obtain ⟨a1, a2, a3, a4, a5, a6, a7, a8, a9, a10⟩ := C
  apply e_B_keep
  simp only [ok_0 V.1, cr_0_2 V, cr_0_10 V, ok_16 V.1, true_and]
  refine sp_M_pack (mr_16 V) (ok_134 V.1) (by decide) (by rw [l_134]; decide) (by rw [l_134]; decide) O.2.2.1.1 a2.2.2.2 fun h2 e2 o2 p2 => ?_
  simp only [ok_0 V.1, cr_0_11 V, cr_0_7 V, ok_135 V.1, true_and]
  refine sp_L_copy (x := 135) (y := 118) V (Or.inr ⟨rfl, rfl⟩) (C7_fr a7 (fun c p q => EX_fn (e2) (by simp <;> omega) (by simp <;> omega))) O.2.2.2.1.1 fun h3 e3 g3 => ?_
  have e : EX [134, 136, 137] [(0, 15), (135, 2)] h (ai_up h3 0 15 1) := EX_upp (EX_tr (EX_le e2 (by decide) (by decide)) (EX_le e3 (by decide) (by decide))) (by decide)
  have l2 : (ai_up h3 0 15 1) 118 2 = ((zG z).length : Int) := by rw [e 118 2 (by decide) (by decide)]; exact a7.1
  simp only [ok_0 V.1, cr_0_7 V, ok_118 V.1, l2, true_and, true_or, or_true]
  refine q_at rfl (hQ _ (fun c p => EX_fn (e) (by simp <;> omega) (by simp <;> omega)) ⟨C1_fr hd a1 (fun c p q => EX_fn (e) (by simp <;> omega) (by simp <;> omega)), C2_fr a2 (fun c p q => EX_fn (e) (by simp <;> omega) (by simp <;> omega)), C3_fr a3 (fun c p q => EX_fn (e) (by simp <;> omega) (by simp <;> omega)), C4_fr a4 (EX_fn (e) (by decide) (by decide)) (EX_fn (e) (by decide) (by decide)) (EX_fn (e) (by decide) (by decide)) (EX_fn (e) (by decide) (by decide)) (EX_fn (e) (by decide) (by decide)) (EX_fn (e) (by decide) (by decide)), C5_fr a5 ((e) _ _ (by decide) (by decide)) (fun c p q => EX_fn (e) (by simp <;> omega) (by simp <;> omega)), C6_fr a6 (fun c p q => EX_fn (e) (by simp <;> omega) (by simp <;> omega)), C7_fr a7 (fun c p q => EX_fn (e) (by simp <;> omega) (by simp <;> omega)), C8_fr a8 (EX_fn (e) (by decide) (by decide)) (EX_fn (e) (by decide) (by decide)) (EX_fn (e) (by decide) (by decide)), C9_fr a9 ((e) _ _ (by decide) (by decide)) ((e) _ _ (by decide) (by decide)) (EX_fn (e) (by decide) (by decide)), ⟨up_same, fun _ => ⟨PKd_fr p2 ?_, ?_⟩⟩⟩)
  · funext j; rw [up_oth (by omega), EX_fn e3 (c := 134) (by decide) (by decide)]
  · refine ⟨by rw [up_oth (by omega)]; exact g3.1, fun j w a hj => ?_⟩
    rw [up_oth (by omega), up_oth (by omega)]; exact g3.2 j w a hj
theorem sp_B_back (V : CW n hr) (hd : d = 3 ∨ d = 8) (O : zOK z) (C : CAL z d k h) (h0 : zI z = 0 → Q (0, -1) n hr h) (h1 : zI z = 1 → ∀ h1, (∀ c : Int, 138 ≤ c → h1 c = h c) → CAL (zsB z) d k h1 → Q (0, ((ziG z).length : Int)) n hr h1) : f_B_back [(2, 0)] n hr h Q := by
  obtain ⟨a1, a2, a3, a4, a5, a6, a7, a8, a9, a10⟩ := C
  apply e_B_back
  simp only [ok_0 V.1, a10.1, true_and]
  refine ⟨fun q => ?_, fun q => (by first | exact q_at rfl (h0 (by omega)) | exact (h0 (by omega)))⟩
  rcases O.2.2.2.2.2 with y | ⟨y, ib, ig⟩
  · omega
  have H := h1 y
  obtain ⟨pk, lg⟩ := a10.2 y
  simp only [cr_0_2 V, cr_0_10 V, ok_16 V.1, true_and]
  refine sp_M_unpack (mr_16 V) (ok_134 V.1) (by decide) (by rw [l_134]; decide) (by rw [l_134]; decide) ib.1 pk fun h2 e2 r2 => ?_
  simp only [ok_0 V.1, cr_0_11 V, cr_0_7 V, ok_118 V.1, true_and]
  refine sp_L_copy (x := 118) (y := 135) V (Or.inl ⟨rfl, rfl⟩) ⟨?_, ?_⟩ ig.1 fun h3 e3 g3 => ?_
  · rw [EX_fn e2 (c := 135) (by decide) (by decide)]; exact lg.1
  · rw [EX_fn e2 (c := 135 + 1) (by decide) (by decide), EX_fn e2 (c := 135 + 2) (by decide) (by decide)]; exact lg.2
  simp only [ok_0 V.1, cr_0_8 V, ok_121 V.1, true_and]
  refine sp_X_renew V ?_
  have e : EX [17, 18, 119, 120] [(118, 2), (121, 16), (121, 17), (0, 14)] h (ai_up (ai_up (ai_up h3 121 16 0) 121 17 0) 0 14 0) := EX_upp (EX_upp (EX_upp (EX_tr (EX_le e2 (by decide) (by decide)) (EX_le e3 (by decide) (by decide))) (by decide)) (by decide)) (by decide)
  have l2 : (ai_up (ai_up (ai_up h3 121 16 0) 121 17 0) 0 14 0) 118 2 = ((ziG z).length : Int) := by rw [up_oth (by omega), up_oth (by omega), up_oth (by omega)]; exact g3.1
  simp only [ok_0 V.1, cr_0_7 V, ok_118 V.1, l2, true_and]
  refine q_at rfl (H _ (fun c p => EX_fn (e) (by simp <;> omega) (by simp <;> omega)) ⟨C1_fr hd a1 (fun c p q => EX_fn (e) (by simp <;> omega) (by simp <;> omega)), ⟨?_, ?_, ?_, ?_, ?_⟩, C3_fr a3 (fun c p q => EX_fn (e) (by simp <;> omega) (by simp <;> omega)), C4_fr a4 (EX_fn (e) (by decide) (by decide)) (EX_fn (e) (by decide) (by decide)) (EX_fn (e) (by decide) (by decide)) (EX_fn (e) (by decide) (by decide)) (EX_fn (e) (by decide) (by decide)) (EX_fn (e) (by decide) (by decide)), C5_fr a5 ((e) _ _ (by decide) (by decide)) (fun c p q => EX_fn (e) (by simp <;> omega) (by simp <;> omega)), C6_fr a6 (fun c p q => EX_fn (e) (by simp <;> omega) (by simp <;> omega)), ?_, C8_new a8 (by rw [up_oth (by omega), up_oth (by omega), up_same]) (by rw [up_oth (by omega), up_same]) ((e) _ _ (by decide) (by decide)) (EX_fn (e) (by decide) (by decide)), ⟨?_, up_same, fun j p hj => (by cases hj)⟩, C10_fr a10 ((e) _ _ (by decide) (by decide)) (fun c p q => EX_fn (e) (by simp <;> omega) (by simp <;> omega))⟩)
  · unfold CX; rw [EX_fn e (c := 13) (by decide) (by decide), EX_fn e (c := 14) (by decide) (by decide), EX_fn e (c := 15) (by decide) (by decide)]; exact a2.1
  · rw [EX_fn e (c := 16) (by decide) (by decide)]; exact a2.2.1
  · rw [EX_fn e (c := 16) (by decide) (by decide)]; exact a2.2.2.1
  · exact r24_f2 r2.1 (by funext j; rw [up_oth (by omega), up_oth (by omega), up_oth (by omega), EX_fn e3 (c := 16 + 1) (by decide) (by decide)])
  · exact r24_f2 r2.2 (by funext j; rw [up_oth (by omega), up_oth (by omega), up_oth (by omega), EX_fn e3 (c := 16 + 2) (by decide) (by decide)])
  · refine ⟨by rw [up_oth (by omega), up_oth (by omega), up_oth (by omega)]; exact g3.1, fun j w a hj => ?_⟩
    simp (disch := omega) only [up_oth]; exact g3.2 j w a hj
  · rw [e 0 13 (by decide) (by decide)]; exact a9.1
end
