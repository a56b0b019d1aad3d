-- deps: 18 19 20 21 23 24 25 26 27 28 29 22 30 31 32 33 34 35 38 39 40 41 42 43 44 45 46 47 48 49 50 62 63 64 67 68 69 70 71 72 73 74 75
/-! the class: any suite -/
/-- a list of inputs as a word -/
def wrd (L : List Nat) : Nat := L.foldl (fun a d => 4 * a + d + 1) 0
theorem wrd_s (L : List Nat) (d : Nat) : wrd (L ++ [d]) = 4 * wrd L + d + 1 := by unfold wrd; rw [List.foldl_append]; rfl
theorem wrd_tk {L : List Nat} {k d : Nat} (h : L[k]? = some d) : wrd (L.take (k + 1)) = 4 * wrd (L.take k) + d + 1 := by
  rw [List.take_add_one, h, ← wrd_s]; rfl
/-- its beginnings -/
def pfx (L : List Nat) : List Nat := (List.range (L.length + 1)).map fun k => wrd (L.take k)
theorem pfx_len (L : List Nat) : (pfx L).length = L.length + 1 := by simp [pfx]
theorem pfx_at {L : List Nat} {k v : Nat} : (pfx L)[k]? = some v ↔ k ≤ L.length ∧ v = wrd (L.take k) := by
  unfold pfx
  rw [List.getElem?_map]
  by_cases z : k < L.length + 1
  · rw [List.getElem?_range z]
    exact ⟨fun q => ⟨by omega, by cases q; rfl⟩, fun q => by rw [q.2]; rfl⟩
  · rw [List.getElem?_eq_none (by rw [List.length_range]; omega)]
    exact ⟨fun q => (by cases q), fun q => by omega⟩
theorem wrd_ok {I : Nat} (hI : I ≤ 3) {L : List Nat} (hL : ∀ y ∈ L, y < I) : ∀ k, k ≤ L.length → wok I (wrd (L.take k)) ∧ wlen (wrd (L.take k)) = k
  | 0, _ => by rw [List.take_zero]; exact ⟨wok_0 I, wlen_0⟩
  | k + 1, h => by
    have ih := wrd_ok hI hL k (by omega)
    have hd := List.getElem?_eq_getElem (l := L) (i := k) (by omega)
    have hm := hL L[k] (List.getElem_mem _)
    rw [wrd_tk hd, wlen_c _ (by omega)]
    exact ⟨(wok_cc (by omega)).mpr ⟨hm, ih.1⟩, by omega⟩
theorem stp_w {t : Int → Int} {L : List Nat} (hL : ∀ y ∈ L, y < 3) : ∀ k, k ≤ L.length → stp t L k = dS t 0 (wrd (L.take k))
  | 0, _ => by rw [List.take_zero]; exact (dS_0 t 0).symm
  | k + 1, h => by
    have ih := stp_w (t := t) hL k (by omega)
    have hd := List.getElem?_eq_getElem (l := L) (i := k) (by omega)
    have hm := hL L[k] (List.getElem_mem _)
    rw [stp_g hd, wrd_tk hd, dS_c _ _ _ hm, ih]
section
variable {Q : RP} {n : Nat} {hr h : HP} {S I : Nat} {t o : Int → Int}
theorem CH_TXo {x : Int} {L : List Nat} (hL : ∀ y ∈ L, y < 3) (H : CH t o h x L) : TXo t o h x (pfx L) := by
  refine ⟨by rw [pfx_len]; exact H.1, fun k v k0 hk => ?_⟩
  obtain ⟨a1, a2⟩ := pfx_at.mp hk
  obtain ⟨m, rfl⟩ : ∃ m, k = m + 1 := ⟨k - 1, by omega⟩
  have hd := List.getElem?_eq_getElem (l := L) (i := m) (by omega)
  have hm := hL L[m] (List.getElem_mem _)
  obtain ⟨c1, c2, c3⟩ := H.2 m L[m] hd
  refine ⟨m, wrd (L.take m), L[m], by omega, pfx_at.mpr ⟨by omega, rfl⟩, hm, by rw [a2, wrd_tk hd], c1, c2, ?_⟩
  rw [c3, stp_w hL m (by omega)]
def tw (wh : Nat) : Int := 88 + 7 * (wh : Int)
def TWn (S I : Nat) (t o : Int → Int) (h : HP) (wh : Nat) : Prop := h (tw wh) 9 = 1 ∧ ((S = 0 ∧ h (tw wh) 7 = 0 ∧ h (tw wh) 8 = 0) ∨ (0 < S ∧ TXo t o h (tw wh) (pfx (TOUR S I t o wh)) ∧ TXl h (tw wh) (pfx (TOUR S I t o wh)) [wrd (TOUR S I t o wh)]))
def TWy (S I : Nat) (t o : Int → Int) (h : HP) (wh : Nat) : Prop := (h (tw wh) 9 = 0 ∧ h (tw wh) 7 = 0 ∧ h (tw wh) 8 = 0) ∨ TWn S I t o h wh
theorem CHF_TW {wh : Nat} (hS : S ≤ 6) (hS0 : 0 < S) (hI : I ≤ 3) (hc : clo S t) (H : CHF S I t o wh h (tw wh)) : TXo t o h (tw wh) (pfx (TOUR S I t o wh)) ∧ TXl h (tw wh) (pfx (TOUR S I t o wh)) [wrd (TOUR S I t o wh)] := by
  obtain ⟨h1, h2, h3, h4, h5⟩ := H
  have ok := (itW_ok (o := o) hS hS0 hI hc wh 18).2.2.2
  have l3 : ∀ y ∈ TOUR S I t o wh, y < 3 := fun y hy => by have := ok y hy; omega
  refine ⟨CH_TXo l3 h1, h2, fun j w hj => ?_⟩
  have j0 : j = 0 := by have := (List.getElem?_eq_some_iff.mp hj).1; simp at this; omega
  subst j0
  cases hj
  refine ⟨(TOUR S I t o wh).length, h3, pfx_at.mpr ⟨Nat.le_refl _, by rw [List.take_length]⟩, ?_⟩
  have := (wrd_ok (I := 3) (by omega) l3 (TOUR S I t o wh).length (Nat.le_refl _)).2
  rw [List.take_length] at this
  rw [this]; exact h5
theorem sp_T_give_p {su e : Nat} (V : CW n hr) (T : TV S I t o) (X : CX S I t o h) (C : CTr S I t o h) (hsu : su < 2) (he : e < 3) (hx : h 35 11 = (e : Int)) (P : TSu S I t o h su e) (hQ : ∀ h1, fxP (tc su e) h h1 → TKn S I t o h1 su e → Q (2, tc su e) n hr h1) : f_T_give [(2, 35), (0, (su : Int))] n hr h Q := by
  apply e_T_give
  refine ⟨fun z => by omega, fun _ => ?_⟩
  simp only [ok_35 V.1, hx, true_and]
  exact sp_T_planned V T X C hsu he P fun h1 a b => (by first | exact q_at rfl (hQ h1 a b) | exact (hQ h1 a b))
theorem hr_36w (V : CW n hr) {wh : Nat} (hw : wh < 2) : hr 36 (6 + (wh : Int)) = tw wh ∧ ai_ok n (tw wh) 8 := by
  rcases (by omega : wh = 0 ∨ wh = 1) with rfl | rfl
  · exact ⟨(cr_36_6 V).1, ok_88 V.1⟩
  · exact ⟨(cr_36_7 V).1, ok_95 V.1⟩
def fxG (x : Int) (h h1 : HP) : Prop := EX [x + 1, x + 2, x + 3, x + 4, x + 5, x + 6, 43, 44, 28, 29, 30, 31] [(x, 7), (x, 8), (x, 9), (42, 4), (42, 5), (27, 10)] h h1
theorem sp_T_give_w {wh : Nat} (V : CW n hr) (T : TV S I t o) (X : CX S I t o h) (hre : h 19 8 = (RMk S I t : Int)) (hc0 : SC h) (hg : CSg S I t o h) (hw : wh < 2) (P : TWy S I t o h wh) (hQ : ∀ h1, fxG (tw wh) h h1 → SC h1 → CSg S I t o h1 → TWn S I t o h1 wh → Q (2, tw wh) n hr h1) : f_T_give [(2, 35), (0, ((wh + 2 : Nat) : Int))] n hr h Q := by
  have TT := T
  obtain ⟨hS, hI, hm, hc, hT⟩ := T
  have hx : tw wh = 88 ∨ tw wh = 95 := by unfold tw; omega
  have ei : 6 + ((wh + 2 : Nat) : Int) - 2 = 6 + (wh : Int) := by omega
  have hw36 := hr_36w V hw
  apply e_T_give
  refine ⟨fun _ => ?_, fun z => by omega⟩
  simp (disch := omega) only [ok_35 V.1, cr_35_3 V, cr_35_2 V, ok_42 V.1, w32_id, ei, hw36, true_and, or_true]
  repeat (refine ⟨by omega, ?_⟩)
  rcases P with ⟨P9, P7, P8⟩ | P
  · refine ⟨fun z => (z P9).elim, fun _ => ?_⟩
    have e1 : EX [] [(tw wh, 9)] h (ai_up h (tw wh) 9 1) := EX_upp EX_rf (by simp)
    have u : ∀ c : Int, c < 88 → (ai_up h (tw wh) 9 1) c = h c := fun c hc => by funext q; simp (disch := omega) only [up_oth]
    have X1 : CX S I t o (ai_up h (tw wh) 9 1) := by
      unfold CX; rw [u 13 (by omega), u 14 (by omega), u 15 (by omega)]; exact X
    have s1 : SC (ai_up h (tw wh) 9 1) := SC_fr hc0 (by rw [u 27 (by omega)]) (u 30 (by omega))
    have g1 : CSg S I t o (ai_up h (tw wh) 9 1) := fun s hs => by rw [u 31 (by omega)]; exact hg s hs
    have fill := sp_W_fill (Q := fun r n2 hr2 h2 => ai_q 0 n Q (2, tw wh) n2 hr2 h2) (x := tw wh) (wh := wh) V hx hw TT X1 (by rw [u 19 (by omega)]; exact hre) s1 g1 (by simp (disch := omega) only [up_oth]; exact P7) (by simp (disch := omega) only [up_oth]; exact P8) (fun z => ?_) (fun z h2 f2 s2 g2 c2 => ?_)
    · refine ⟨fun z => ?_, fun z => ?_⟩
      · have w0 : wh = 0 := by omega
        subst w0
        exact fill
      · have w1 : wh = 1 := by omega
        subst w1
        exact fill
    · refine q_at rfl (hQ _ (EX_le e1 (by simp) (by simp)) s1 g1 ⟨by rw [up_same], Or.inl ⟨z, ?_, ?_⟩⟩)
      · simp (disch := omega) only [up_oth]; exact P7
      · simp (disch := omega) only [up_oth]; exact P8
    · refine q_at rfl (hQ h2 (EX_tr (EX_le e1 (by simp) (by simp)) (EX_le f2 (by simp) (by simp))) s2 g2 ⟨?_, Or.inr ⟨z, CHF_TW hS z hI hc c2⟩⟩)
      rw [f2 _ 9 (by simp <;> omega) (by simp <;> omega), up_same]
  · refine ⟨fun _ => (by first | exact q_at rfl (hQ h EX_rf hc0 hg P) | exact (hQ h EX_rf hc0 hg P)), fun z => ?_⟩
    rw [P.1] at z; omega
end
