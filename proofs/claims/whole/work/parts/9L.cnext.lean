-- deps: 18 19 20 21 23 24 25 26 27 28 29 22 30 31 32 33 34 35 36 38 40 41 45 46 50 51 63 64 67 68 69 70 71 72 73 74 75 76 78 79 80 85 87 88 89 91 92 93 94 9C 9D 9E 9H 9J 9K
/-! the class: what to ask next -/
section
variable {Q : RP} {n : Nat} {hr h : HP} {S I : Nat} {t o t' o' : Int → Int} {C : List Nat} {LG : List (Nat × Int)}
/-- rows that are kept -/
def BGN (S I : Nat) (t o : Int → Int) (C : List Nat) (h : HP) : Prop := ROk S I t o C h 0 0 ∧ ∀ d : Nat, d < 16 → h 127 (d : Int) = -1 ∨ ∃ u : Nat, h 127 (d : Int) = (u : Int) ∧ ROk S I t o C h d u
theorem ROk_fr {h1 : HP} {d u : Nat} (hC : C.length ≤ 40) (R : ROk S I t o C h d u) (e : ∀ j : Int, 40 * (d : Int) ≤ j → j < 40 * (d : Int) + 40 → h1 128 j = h 128 j ∧ h1 129 j = h 129 j) : ROk S I t o C h1 d u := by
  refine ⟨fun s x hs => ?_, fun s s' x x' hs hs' => ?_⟩
  · have sl := (List.getElem?_eq_some_iff.mp hs).1
    have a := e (40 * (d : Int) + (s : Int)) (by omega) (by omega)
    rw [a.1, a.2]; exact R.1 s x hs
  · have sl := (List.getElem?_eq_some_iff.mp hs).1
    have sl' := (List.getElem?_eq_some_iff.mp hs').1
    rw [(e (40 * (d : Int) + (s : Int)) (by omega) (by omega)).2, (e (40 * (d : Int) + (s' : Int)) (by omega) (by omega)).2]
    exact R.2 s s' x x' hs hs'
theorem shr4 {w m : Nat} (hw : w < 1073741824) (hm : m ≤ 15) : i_shr (w : Int) ((2 * m : Nat) : Int) = ((w / 4 ^ m : Nat) : Int) := by
  rw [shr_n (by omega) (by omega), p24]
def fxGg (h h1 : HP) : Prop := EX [127, 128, 129, 130, 131, 132] [(121, 12)] h h1
theorem sp_X_greatestGroup {w : Nat} (V : CW n hr) (T : TV S I t o) (X : CX S I t o h) (hC : C.length ≤ 40) (hx : ∀ x ∈ C, x < UN S I t o ∨ x = 1000) (G : CO S I t o C h) (B : STB h) (hb : h 121 12 + 20 < 2147483000) (N : BGN S I t o C h) (hw : wok I w) (hl : wlen w ≤ 15) (hQ : ∀ h1, fxGg h h1 → STB h1 → h1 121 12 ≤ h 121 12 + 15 → BGN S I t o C h1 → Q (0, (xG S I t o C w : Int)) n hr h1) : f_X_greatestGroup [(2, 121), (0, (w : Int)), (0, (wlen w : Int))] n hr h Q := by
  have TT := T
  obtain ⟨hS, hI, hm, hc, hT⟩ := T
  have w30 : w < 1073741824 := by
    have := wl15 hl
    have e : (4 : Nat) ^ 15 = 1073741824 := by decide
    omega
  have w3 := wok_mono hI hw
  apply e_X_greatestGroup
  rw [show i_min (wlen w : Int) 15 = (wlen w : Int) by unfold i_min; split <;> omega]
  -- sizes
  have sizes : ∀ h1, fxGg h h1 → STB h1 → h1 121 12 ≤ h 121 12 + 15 → BGN S I t o C h1 → ROk S I t o C h1 (wlen w) w → p_X_greatestGroup_37 (n + 0) (ai_q 0 n Q) 121 (w : Int) (wlen w : Int) (wlen w : Int) n hr h1 := by
    intro h1 f1 s1 t1 n1 r1
    have c13 : h1 121 13 = (C.length : Int) := by rw [f1 121 13 (by decide) (by decide)]; exact G.1
    refine b_X_greatestGroup_37 ⟨fun _ => ?_, fun z => by omega⟩
    simp (disch := omega) only [ok_121 V.1, cr_121_11 V, true_and]
    refine sp_J_fill (ok_132 V.1) ?_
    generalize hh : ai_fl h1 132 _ (fun _ => 0) = h2
    have e2 : EX [132] [] h1 h2 := by
      intro c j hc hp
      simp only [List.mem_cons, List.not_mem_nil, or_false] at hc
      rw [← hh, fl_out hc]
    have z2 : ∀ j : Nat, j < 40 → h2 132 (j : Int) = 0 := fun j hj => by
      rw [← hh]; exact fl_in (k := 40) (by omega) (by omega)
    have k29 : h2 129 = h1 129 := EX_fn e2 (by decide) (by decide)
    have gv : xG S I t o C w = ggN (fun s => h1 129 (40 * (wlen w : Int) + (s : Int))) C.length := by
      unfold xG
      refine ggN_ext fun a b ha hb' => ?_
      have ea := List.getElem?_eq_getElem (l := C) (i := a) ha
      have eb := List.getElem?_eq_getElem (l := C) (i := b) hb'
      unfold xA
      rw [r1.2 a b _ _ ea eb, ea, eb]
      simp only [Option.getD_some]
    have loop := lupN (N := C.length) (P := fun s => ∀ h3, EX [132] [] h1 h3 → (∀ j : Nat, j < 40 → h3 132 (j : Int) = (cntP (fun b => (j : Int) = h1 129 (40 * (wlen w : Int) + (b : Int))) s : Int)) → p_X_greatestGroup_96 (n + 0) (ai_q 0 n Q) 121 (wlen w : Int) (ggN (fun s => h1 129 (40 * (wlen w : Int) + (s : Int))) s : Int) (s : Int) n hr h3) ?_ ?_
    · refine loop h2 e2 fun j hj => by rw [z2 j hj]; rfl
    · intro h3 e3 g3
      refine b_X_greatestGroup_96 ?_
      have c3 : h3 121 13 = (C.length : Int) := by rw [e3 121 13 (by decide) (by decide)]; exact c13
      simp only [ok_121 V.1, c3, true_and]
      refine ⟨fun _ => q_at rfl ?_, fun z => by omega⟩
      rw [← gv]
      refine hQ h3 (EX_tr f1 (EX_le e3 (by decide) (by decide))) ?_ (by rw [e3 121 12 (by decide) (by decide)]; exact t1) ?_
      · unfold STB; rw [e3 121 12 (by decide) (by decide), EX_fn e3 (c := 131) (by decide) (by decide)]; exact s1
      · unfold BGN ROk; rw [EX_fn e3 (c := 127) (by decide) (by decide), EX_fn e3 (c := 128) (by decide) (by decide), EX_fn e3 (c := 129) (by decide) (by decide)]; exact n1
    · intro s hs ih h3 e3 g3
      have c3 : h3 121 13 = (C.length : Int) := by rw [e3 121 13 (by decide) (by decide)]; exact c13
      have es := List.getElem?_eq_getElem (l := C) (i := s) hs
      have rs := (r1.1 s _ es).2
      have k3 : h3 129 = h1 129 := EX_fn e3 (by decide) (by decide)
      obtain ⟨g, hg⟩ := Int.eq_ofNat_of_zero_le rs.1
      have gs := g3 g (by omega)
      have cl := cntP_le (fun b => (g : Int) = h1 129 (40 * (wlen w : Int) + (b : Int))) s
      have el : (wlen w : Int) * 40 + (s : Int) = 40 * (wlen w : Int) + (s : Int) := by omega
      have new : cntP (fun b => h1 129 (40 * (wlen w : Int) + (s : Int)) = h1 129 (40 * (wlen w : Int) + (b : Int))) (s + 1) = cntP (fun b => (g : Int) = h1 129 (40 * (wlen w : Int) + (b : Int))) s + 1 := by
        rw [hg, cntP_y (P := fun b => (g : Int) = h1 129 (40 * (wlen w : Int) + (b : Int))) hg.symm]
      have mx : i_max (ggN (fun s => h1 129 (40 * (wlen w : Int) + (s : Int))) s : Int) ((cntP (fun b => (g : Int) = h1 129 (40 * (wlen w : Int) + (b : Int))) s : Int) + 1) = (ggN (fun s => h1 129 (40 * (wlen w : Int) + (s : Int))) (s + 1) : Int) := by
        rw [ggN_s, new]; unfold i_max; split <;> omega
      refine b_X_greatestGroup_96 ?_
      simp (disch := omega) only [ok_121 V.1, cr_121_8 V, cr_121_11 V, c3, k3, el, hg, gs, up_same, w32_id, mx, true_and]
      refine ⟨fun z => by omega, fun _ => ?_⟩
      repeat (refine ⟨by omega, ?_⟩)
      refine ih _ (EX_upc e3 (by decide)) fun j hj => ?_
      by_cases y : j = g
      · subst y; rw [up_same, cntP_y (P := fun b => (j : Int) = h1 129 (40 * (wlen w : Int) + (b : Int))) hg.symm]; omega
      · rw [up_oth (by omega), cntP_n (P := fun b => (j : Int) = h1 129 (40 * (wlen w : Int) + (b : Int))) (by rw [hg]; omega)]
        exact g3 j hj
  -- from a row that is there
  have rows : ∀ m d : Nat, m + d = wlen w → ∀ h1, fxGg h h1 → STB h1 → h1 121 12 ≤ h 121 12 + (d : Int) → BGN S I t o C h1 → ROk S I t o C h1 d (w / 4 ^ m) → p_X_greatestGroup_37 (n + 0) (ai_q 0 n Q) 121 (w : Int) (d : Int) (wlen w : Int) n hr h1 := by
    intro m
    induction m with
    | zero =>
      intro d hd h1 f1 s1 t1 n1 r1
      rw [Nat.zero_add] at hd
      subst hd
      rw [Nat.pow_zero, Nat.div_one] at r1
      exact sizes h1 f1 s1 (by omega) n1 r1
    | succ m ih =>
      intro d hd h1 f1 s1 t1 n1 r1
      have ne := div_ne (w := w) (k := m) (by omega)
      obtain ⟨v, i, i3, vk, ev, ed⟩ := w_cases (wok_divp m w3) ne
      rw [← div_s] at ed
      have ei : ((w / 4 ^ m % 4 : Nat) : Int) - 1 = (i : Int) := by rw [ev]; omega
      have X1 : CX S I t o h1 := CX_fr X f1 (by decide) (by decide)
      have G1 : CO S I t o C h1 := by
        unfold CO; rw [f1 121 13 (by decide) (by decide), EX_fn f1 (c := 126) (by decide) (by decide)]; exact G
      have em : w32 (w32 ((wlen w : Int) - (d : Int)) - 1) = (m : Int) := by
        rw [w32_id (x := (wlen w : Int) - (d : Int)) (by omega) (by omega), w32_id (by omega) (by omega)]; omega
      refine b_X_greatestGroup_37 ⟨fun z => by omega, fun _ => ?_⟩
      rw [em]
      refine sp_B_inputAt (wl15 hl) (by omega) ?_
      rw [ei]
      rw [← ed] at r1
      refine ⟨ok_121 V.1, ?_⟩
      refine sp_X_split V TT X1 hC hx G1 (by omega) i3 vk r1 s1 (by omega) fun h2 f2 o2 r2 t2 s2 => ?_
      have emm : w32 (2 * (m : Int)) = ((2 * m : Nat) : Int) := by rw [w32_id (by omega) (by omega)]; omega
      simp (disch := omega) only [ok_121 V.1, cr_121_6 V, w32_id, true_and]
      have esh := shr4 w30 (show m ≤ 15 by omega)
      rw [show ((2 * m : Nat) : Int) = 2 * (m : Int) by omega] at esh
      rw [esh]
      repeat (refine ⟨by omega, ?_⟩)
      rw [← ev] at r2
      generalize hh : ai_up h2 127 ((d : Int) + 1) ((w / 4 ^ m : Nat) : Int) = h3
      have e3 : EX [127] [] h2 h3 := by rw [← hh]; exact EX_upc EX_rf (by decide)
      have k8 : h3 128 = h2 128 := EX_fn e3 (by decide) (by decide)
      have k9 : h3 129 = h2 129 := EX_fn e3 (by decide) (by decide)
      have f3 : fxGg h h3 := EX_tr f1 (EX_tr (EX_le f2 (by decide) (by decide)) (EX_le e3 (by decide) (by decide)))
      have kp : ∀ d' u' : Nat, d' ≠ d + 1 → ROk S I t o C h1 d' u' → ROk S I t o C h3 d' u' := fun d' u' hne r => ROk_fr hC r fun j j0 j1 => by
        rw [k8, k9]; exact o2 j (by omega)
      have r3 : ROk S I t o C h3 (d + 1) (w / 4 ^ m) := ROk_fr hC r2 fun j _ _ => by rw [k8, k9]; exact ⟨rfl, rfl⟩
      have := ih (d + 1) (by omega) h3 f3 ?_ ?_ ⟨kp 0 0 (by omega) n1.1, fun d' hd' => ?_⟩ r3
      · exact this
      · unfold STB; rw [e3 121 12 (by decide) (by decide), EX_fn e3 (c := 131) (by decide) (by decide)]; exact s2
      · rw [e3 121 12 (by decide) (by decide), t2]; omega
      · by_cases y : d' = d + 1
        · subst y
          refine Or.inr ⟨w / 4 ^ m, ?_, r3⟩
          rw [← hh, show ((d + 1 : Nat) : Int) = (d : Int) + 1 by omega, up_same]
        · have k27 : h3 127 (d' : Int) = h1 127 (d' : Int) := by
            rw [← hh, up_oth (by omega), EX_fn f2 (c := 127) (by decide) (by decide)]
          rw [k27]
          rcases n1.2 d' hd' with q | ⟨u', q, r⟩
          · exact Or.inl q
          · exact Or.inr ⟨u', q, kp d' u' y r⟩
  -- where to begin
  have start : ∀ d m : Nat, m + d = wlen w → p_X_greatestGroup_10 (n + 0) (ai_q 0 n Q) 121 (w : Int) (d : Int) (wlen w : Int) n hr h := by
    intro d
    induction d with
    | zero =>
      intro m hmd
      refine b_X_greatestGroup_10 ⟨fun _ => ?_, fun z => by omega⟩
      refine rows m 0 hmd h EX_rf B (by omega) N ?_
      rw [show m = wlen w by omega, div_top]; exact N.1
    | succ d ih =>
      intro m hmd
      have em : w32 (2 * w32 ((wlen w : Int) - ((d + 1 : Nat) : Int))) = ((2 * m : Nat) : Int) := by
        rw [w32_id (x := (wlen w : Int) - ((d + 1 : Nat) : Int)) (by omega) (by omega), w32_id (by omega) (by omega)]; omega
      refine b_X_greatestGroup_10 ⟨fun z => by omega, fun _ => ?_⟩
      rw [em, shr4 w30 (show m ≤ 15 by omega)]
      simp (disch := omega) only [ok_121 V.1, cr_121_6 V, true_and]
      repeat (refine ⟨by omega, ?_⟩)
      refine ⟨fun q => ?_, fun q => ?_⟩
      · refine rows m (d + 1) hmd h EX_rf B (by omega) N ?_
        rcases N.2 (d + 1) (by omega) with g | ⟨u, g, r⟩
        · rw [g] at q; generalize w / 4 ^ m = z at q; omega
        · have : u = w / 4 ^ m := by rw [g] at q; exact Int.ofNat.inj q
          rw [← this]; exact r
      · rw [show ((d + 1 : Nat) : Int) + -1 = (d : Int) by omega, w32_id (by omega) (by omega)]
        exact ih (m + 1) (by omega)
  exact start (wlen w) 0 (Nat.zero_add _)
/-- those who are looked at -/
noncomputable def CRD (S I : Nat) (t o : Int → Int) (LG : List (Nat × Int)) : List Nat := (SUS S I t o LG).take 40
theorem CRD_b (hm : mok t o) (hS : S ≤ 6) (hI : I ≤ 3) : (CRD S I t o LG).length = min (SUS S I t o LG).length 40 ∧ ∀ x ∈ CRD S I t o LG, x < UN S I t o ∨ x = 1000 := by
  unfold CRD
  refine ⟨by rw [List.length_take]; omega, fun x hx => (SUS_b (LG := LG) hm hS hI).2 x (List.mem_of_mem_take hx)⟩
theorem CRD_at {s x : Nat} (hs : (CRD S I t o LG)[s]? = some x) : s < 40 ∧ (SUS S I t o LG)[s]? = some x := by
  unfold CRD at hs
  have sl := (List.getElem?_eq_some_iff.mp hs).1
  rw [List.length_take] at sl
  rw [List.getElem?_take_of_lt (by omega)] at hs
  exact ⟨by omega, hs⟩
theorem sp_X_gatherCrowd (V : CW n hr) (T : TV S I t o) (L : CMp S I t o h (UN S I t o)) (K : XKn S I t o LG h) (hQ : ∀ h1, EX [126, 127, 128, 129] [(121, 13)] h h1 → CO S I t o (CRD S I t o LG) h1 → BGN S I t o (CRD S I t o LG) h1 → Q (9, 0) n hr h1) : f_X_gatherCrowd [(2, 121)] n hr h Q := by
  obtain ⟨hS, hI, hm, hc, hT⟩ := T
  have ub := UN_b hm hS hI
  have sb := SUS_b (LG := LG) hm hS hI
  have cb := CRD_b (LG := LG) hm hS hI
  apply e_X_gatherCrowd
  rw [show i_min (h 121 14) 40 = ((CRD S I t o LG).length : Int) by rw [K.1, cb.1]; unfold i_min; split <;> omega]
  simp only [ok_121 V.1, cr_121_6 V, true_and]
  refine sp_J_fill (ok_127 V.1) ?_
  generalize hh : ai_fl (ai_up h 121 13 ((CRD S I t o LG).length : Int)) 127 _ (fun _ => -1) = h2
  have e2 : EX [127] [(121, 13)] h h2 := by
    intro c j hc hp
    simp only [List.mem_cons, List.not_mem_nil, or_false, Prod.mk.injEq] at hc hp
    rw [← hh, fl_out hc, up_oth (by omega)]
  have z2 : ∀ j : Nat, j < 16 → h2 127 (j : Int) = -1 := fun j hj => by
    rw [← hh]; exact fl_in (k := 16) (by omega) (by omega)
  have c2 : h2 121 13 = ((CRD S I t o LG).length : Int) := by rw [← hh, fl_out (by decide), up_same]
  have loop := lupN (N := (CRD S I t o LG).length) (P := fun s => ∀ h3, EX [126, 128, 129] [] h2 h3 → (∀ j x : Nat, j < s → (CRD S I t o LG)[j]? = some x → h3 126 (j : Int) = (if x = 1000 then 65280 else cMu S I t o x) ∧ h3 128 (j : Int) = 0 ∧ h3 129 (j : Int) = 0) → p_X_gatherCrowd_23 (n + 0) (ai_q 0 n Q) 121 (s : Int) n hr h3) ?_ ?_
  · exact loop h2 EX_rf fun j x hj => by omega
  · intro h3 e3 g3
    refine b_X_gatherCrowd_23 ?_
    have c3 : h3 121 13 = ((CRD S I t o LG).length : Int) := by rw [e3 121 13 (by decide) (by decide)]; exact c2
    simp only [ok_121 V.1, c3, true_and]
    refine ⟨fun _ => q_at rfl (hQ h3 (EX_tr (EX_le e2 (by decide) (by decide)) (EX_le e3 (by decide) (by decide))) ⟨c3, fun s x hs => (g3 s x (List.getElem?_eq_some_iff.mp hs).1 hs).1⟩ ⟨⟨fun s x hs => ?_, fun s s' x x' hs hs' => ?_⟩, fun d hd => Or.inl ?_⟩), fun z => by omega⟩
    · have := g3 s x (List.getElem?_eq_some_iff.mp hs).1 hs
      rw [show 40 * ((0 : Nat) : Int) + (s : Int) = (s : Int) by omega, this.2.1, this.2.2, dS_0]
      exact ⟨rfl, by decide, by decide⟩
    · have a := g3 s x (List.getElem?_eq_some_iff.mp hs).1 hs
      have b := g3 s' x' (List.getElem?_eq_some_iff.mp hs').1 hs'
      rw [show 40 * ((0 : Nat) : Int) + (s : Int) = (s : Int) by omega, show 40 * ((0 : Nat) : Int) + (s' : Int) = (s' : Int) by omega, a.2.2, b.2.2, aS_0, aS_0]
    · rw [EX_fn e3 (c := 127) (by decide) (by decide)]; exact z2 d hd
  · intro s hs ih h3 e3 g3
    have hv := List.getElem?_eq_getElem hs
    have xb := cb.2 _ (List.getElem_mem hs)
    generalize (CRD S I t o LG)[s] = x at hv xb
    have c3 : h3 121 13 = ((CRD S I t o LG).length : Int) := by rw [e3 121 13 (by decide) (by decide)]; exact c2
    have at3 := CRD_at hv
    have n3 : h3 125 (s : Int) = (x : Int) := by
      rw [EX_fn e3 (c := 125) (by decide) (by decide), EX_fn e2 (c := 125) (by decide) (by decide)]
      have := K.2 s x at3.2
      rw [Int.zero_add] at this
      exact this
    have on : ∀ v : Int, v = (if x = 1000 then 65280 else cMu S I t o x) → p_X_gatherCrowd_23 (n + 0) (ai_q 0 n Q) 121 ((s : Int) + 1) n hr (ai_up (ai_up (ai_up h3 126 (s : Int) v) 128 (s : Int) 0) 129 (s : Int) 0) := by
      intro v hv2
      refine ih _ (EX_upc (EX_upc (EX_upc e3 (by decide)) (by decide)) (by decide)) fun j y hj hy => ?_
      by_cases z : j = s
      · subst z
        rw [hv] at hy; cases hy
        refine ⟨?_, ?_, ?_⟩
        · simp (disch := omega) only [up_oth, up_same]; exact hv2
        · simp (disch := omega) only [up_oth, up_same]
        · simp (disch := omega) only [up_same]
      · have := g3 j y (by omega) hy
        refine ⟨?_, ?_, ?_⟩ <;> simp (disch := omega) only [up_oth]
        · exact this.1
        · exact this.2.1
        · exact this.2.2
    refine b_X_gatherCrowd_23 ?_
    simp (disch := omega) only [ok_121 V.1, cr_121_4 V, cr_121_5 V, cr_121_7 V, cr_121_8 V, cr_121_1 V, ok_102 V.1, c3, n3, w32_id, true_and]
    refine ⟨fun z => by omega, fun _ => ?_⟩
    repeat (refine ⟨by omega, ?_⟩)
    refine ⟨fun z => ?_, fun z => ?_⟩
    · have y : x ≠ 1000 := by omega
      repeat (refine ⟨by omega, ?_⟩)
      apply e_U_code
      have l9 : h3 109 (x : Int) = cMu S I t o x := by
        rw [EX_fn e3 (c := 109) (by decide) (by decide), EX_fn e2 (c := 109) (by decide) (by decide)]
        exact L.2 x (by omega)
      simp (disch := omega) only [ok_102 V.1, cr_102_5 V, l9, true_and]
      repeat (refine ⟨by omega, ?_⟩)
      simp (disch := omega) only [ok_121 V.1, cr_121_5 V, cr_121_7 V, cr_121_8 V, true_and]
      repeat (refine ⟨by omega, ?_⟩)
      exact on _ (by rw [if_neg y])
    · have y : x = 1000 := by omega
      repeat (refine ⟨by omega, ?_⟩)
      exact on _ (by rw [if_pos y])
/-- what the class looks for next -/
def fxNx (h h1 : HP) : Prop := EX [126, 127, 128, 129, 130, 131, 132] [(121, 12), (121, 13)] h h1
theorem sp_X_findNext {e : Nat} (V : CW n hr) (T : TV S I t o) (X : CX S I t o h) (L : CMp S I t o h (UN S I t o)) (K : XKn S I t o LG h) (h2 : 2 ≤ (SUS S I t o LG).length) (he : e < 3) (G : GTs S I t o e 1 h) (hlf : 0 < (SWl S I t o e 1).length) (B : STB h) (hb : h 121 12 + 20000 < 2147483000) (hQ : ∀ h1, fxNx h h1 → STB h1 → h1 121 12 ≤ h 121 12 + 13125 → Q (0, vNx S I t o (CRD S I t o LG) (SWl S I t o e 1)) n hr h1) : f_X_findNext [(2, 121), (2, gx e 1)] n hr h Q := by
  have TT := T
  obtain ⟨hS, hI, hm, hc, hT⟩ := T
  have cb := CRD_b (LG := LG) hm hS hI
  obtain ⟨nl, tl0, R, l1, l2⟩ := gx_row (o := o) V hS hI hm hc he (show 1 < 4 by omega)
  have lf9 := (SWl_ok (o := o) hS hI hm hc (su := 1) he).1
  have gb := gx_b he (show 1 < 4 by omega)
  obtain ⟨q0, q1, q2, q3, q4, q5, q6, q7, q8, q9⟩ := R
  apply e_X_findNext
  refine ⟨ok_121 V.1, ?_⟩
  refine sp_X_gatherCrowd V TT L K fun h3 e3 c3 n3 => ?_
  have ew : ∀ w ∈ SWl S I t o e 1, wok I w ∧ wlen w ≤ 13 := fun w hw => by
    unfold SWl at hw; rw [if_pos (by decide)] at hw; exact LFr_ok hS hI hm hc he hw
  have vn : vNx S I t o (CRD S I t o LG) (SWl S I t o e 1) = (((SWl S I t o e 1)[(nxI (fun k => xG S I t o (CRD S I t o LG) ((SWl S I t o e 1)[k]?.getD 0)) (SWl S I t o e 1).length).1.toNat]?.getD 0 : Nat) : Int) := rfl
  generalize hC : CRD S I t o LG = C at *
  generalize hlfv : SWl S I t o e 1 = lf at *
  have C2 : 2 ≤ C.length ∧ C.length ≤ 40 := by omega
  have gp : ∀ k : Nat, 1 ≤ xG S I t o C (lf[k]?.getD 0) ∧ xG S I t o C (lf[k]?.getD 0) ≤ 40 := fun k => by
    have a := ggN_pos (xA S I t o C (lf[k]?.getD 0)) (N := C.length) (by omega)
    have b := ggN_b (xA S I t o C (lf[k]?.getD 0)) C.length
    unfold xG; omega
  rw [vn] at hQ
  clear vn
  generalize hg : (fun k : Nat => xG S I t o C (lf[k]?.getD 0)) = g at *
  have gp' : ∀ k, 1 ≤ g k ∧ g k ≤ 40 := fun k => by rw [← hg]; exact gp k
  -- what stands where
  have fr : ∀ {h4 : HP}, EX [126, 127, 128, 129, 130, 131, 132] [(121, 12), (121, 13)] h h4 → CX S I t o h4 ∧ TXl h4 (gx e 1) (OSs S I t o e 1) lf ∧ TXw h4 (gx e 1) lf := fun e4 => by
    have kk : ∀ c : Int, 46 ≤ c → c ≤ 101 → _ := fun c c1 c2 => EX_sy e4 (c := c) (by simp; omega) (fun j => by simp; omega)
    have G4 := GT_fr he (show 1 < 4 by omega) G kk
    rw [← hlfv]
    exact ⟨CX_fr X e4 (by decide) (by decide), G4.2.1, G4.2.2 (by decide)⟩
  have found : ∀ k : Nat, nxI g k = (-1, 41) ∨ ∃ b : Nat, b < k ∧ nxI g k = ((b : Int), g b) := fun k => by
    rcases nxI_b (g := g) k with ⟨a, _⟩ | ⟨b, b1, b2, _⟩
    · exact Or.inl a
    · exact Or.inr ⟨b, b1, b2⟩
  -- the word found so far
  have done : ∀ (k : Nat) (v : Int) h4, k ≤ lf.length → nxI g lf.length = nxI g k → (nxI g k).1 ≠ -1 → v = ((lf[(nxI g k).1.toNat]?.getD 0 : Nat) : Int) → fxNx h h4 → STB h4 → h4 121 12 ≤ h 121 12 + 13125 → Q (0, v) n hr h4 := by
    intro k v h4 hk e1 e2 hv f4 s4 t4
    have := hQ h4 f4 s4 t4
    rw [e1, ← hv] at this
    exact this
  have loop := lupN (N := lf.length) (P := fun k => ∀ h4 v, fxNx h h4 → STB h4 → h4 121 12 ≤ h 121 12 + 15 * (k : Int) → CO S I t o C h4 → BGN S I t o C h4 → (k = 0 ∨ ((nxI g k).1 ≠ -1 ∧ v = ((lf[(nxI g k).1.toNat]?.getD 0 : Nat) : Int))) → p_X_findNext_13 (n + 0) (ai_q 0 n Q) 121 (gx e 1) v ((nxI g k).2 : Int) (k : Int) n hr h4) ?_ ?_
  · refine loop h3 (-2) (EX_le e3 (by decide) (by decide)) ?_ (by rw [e3 121 12 (by decide) (by decide)]; omega) c3 n3 (Or.inl rfl)
    unfold STB; rw [e3 121 12 (by decide) (by decide), EX_fn e3 (c := 131) (by decide) (by decide)]; exact B
  · intro h4 v f4 s4 t4 c4 n4 hv
    refine b_X_findNext_13 ?_
    simp only [q0, (fr f4).2.1.1, true_and]
    refine ⟨fun _ => q_at rfl ?_, fun z => by omega⟩
    rcases hv with z | ⟨z1, z2⟩
    · omega
    · exact done lf.length v h4 (Nat.le_refl _) rfl z1 z2 f4 s4 (by omega)
  · intro k hk ih h4 v f4 s4 t4 c4 n4 hv
    have hw := List.getElem?_eq_getElem hk
    generalize lf[k] = w at hw
    have okw := ew w (List.mem_of_getElem? hw)
    obtain ⟨nd, nd1, nd2, nd3⟩ := (fr f4).2.1.2 k w hw
    have tw := (fr f4).2.2 k w hw
    have gk : g k = xG S I t o C w := by rw [← hg]; show xG S I t o C (lf[k]?.getD 0) = _; rw [hw]; rfl
    have gpk := gp' k
    refine b_X_findNext_13 ?_
    simp (disch := omega) only [q0, q5, q6, (fr f4).2.1.1, tw, nd3, true_and]
    refine ⟨fun z => by omega, fun _ => ⟨fun z => ?_, fun z => ?_⟩⟩
    · refine q_at rfl ?_
      rcases hv with y | ⟨y1, y2⟩
      · subst y; exact absurd z (by show ¬ ((41 : Nat) : Int) ≤ 1; omega)
      · have st := nxI_stop (g := g) (k := k) (by omega) (fun j => (gp' j).1) (lf.length - k)
        rw [show k + (lf.length - k) = lf.length by omega] at st
        exact done k v h4 (by omega) st y1 y2 f4 s4 (by omega)
    · repeat (refine ⟨by omega, ?_⟩)
      refine ⟨ok_121 V.1, ?_⟩
      refine sp_X_greatestGroup V TT (fr f4).1 (by omega) (by rw [← hC]; exact (CRD_b (LG := LG) hm hS hI).2) c4 s4 (by omega) n4 okw.1 (by omega) fun h5 f5 s5 t5 n5 => ?_
      have f5' : fxNx h h5 := EX_tr f4 (EX_le f5 (by decide) (by decide))
      have c5 : CO S I t o C h5 := by
        unfold CO; rw [f5 121 13 (by decide) (by decide), EX_fn f5 (c := 126) (by decide) (by decide)]; exact c4
      have tw5 := (fr f5').2.2 k w hw
      dsimp only
      rw [← gk, w32_id (by omega) (by omega)]
      rw [nxI] at ih
      refine ⟨fun y => ?_, fun y => ?_⟩
      · rw [if_neg (by omega)] at ih
        refine ih h5 v f5' s5 (by omega) c5 n5 (Or.inr ?_)
        rcases hv with x | x
        · subst x; exact absurd y (by show ¬ (41 : Int) ≤ _; omega)
        · exact x
      · rw [if_pos (by omega)] at ih
        simp (disch := omega) only [q5, tw5, true_and]
        repeat (refine ⟨by omega, ?_⟩)
        refine ih h5 (w : Int) f5' s5 (by omega) c5 n5 (Or.inr ⟨by show (k : Int) ≠ -1; omega, ?_⟩)
        rw [Int.toNat_natCast, hw]; rfl
/-- known -/
def XNx (S I : Nat) (t o : Int → Int) (e : Nat) (LG : List (Nat × Int)) (h : HP) : Prop := h 121 17 = 0 ∨ (h 121 17 = 1 ∧ h 121 15 = vNx S I t o (CRD S I t o LG) (SWl S I t o e 1))
theorem sp_X_nextWord {e : Nat} (V : CW n hr) (T : TV S I t o) (X : CX S I t o h) (L : CMp S I t o h (UN S I t o)) (K : XKn S I t o LG h) (h2 : 2 ≤ (SUS S I t o LG).length) (he : e < 3) (G : GTs S I t o e 1 h) (hlf : 0 < (SWl S I t o e 1).length) (B : STB h) (hb : h 121 12 + 20000 < 2147483000) (N : XNx S I t o e LG h) (hQ : ∀ h1, EX [126, 127, 128, 129, 130, 131, 132] [(121, 12), (121, 13), (121, 15), (121, 17)] h h1 → STB h1 → h1 121 12 ≤ h 121 12 + 13125 → XNx S I t o e LG h1 → Q (0, vNx S I t o (CRD S I t o LG) (SWl S I t o e 1)) n hr h1) : f_X_nextWord [(2, 121), (2, gx e 1)] n hr h Q := by
  apply e_X_nextWord
  simp only [ok_121 V.1, true_and, true_or, or_true]
  refine ⟨fun z => ?_, fun z => ?_⟩
  · rcases N with q | q
    · exact absurd q z
    · rw [q.2]; exact (by first | exact q_at rfl (hQ h EX_rf B (by omega) (Or.inr q)) | exact (hQ h EX_rf B (by omega) (Or.inr q)))
  · have e1 : EX [] [(121, 17)] h (ai_up h 121 17 1) := EX_upp EX_rf (by decide)
    refine sp_X_findNext V T (CX_fr X e1 (by decide) (by decide)) (by unfold CMp; rw [e1 102 15 (by decide) (by decide), EX_fn e1 (c := 109) (by decide) (by decide)]; exact L) (by unfold XKn; rw [e1 121 14 (by decide) (by decide), EX_fn e1 (c := 125) (by decide) (by decide)]; exact K) h2 he (GT_fr he (by decide) G fun c c1 c2 => EX_sy e1 (c := c) (by simp) (fun j => by simp; omega)) hlf (by unfold STB; rw [e1 121 12 (by decide) (by decide), EX_fn e1 (c := 131) (by decide) (by decide)]; exact B) (by rw [e1 121 12 (by decide) (by decide)]; exact hb) fun h3 f3 s3 t3 => ?_
    simp only [ok_121 V.1, up_same, true_and]
    have H := hQ (ai_up h3 121 15 (vNx S I t o (CRD S I t o LG) (SWl S I t o e 1))) (EX_upp (EX_tr (EX_le e1 (by decide) (by decide)) (EX_le f3 (by decide) (by decide))) (by decide)) ?_ ?_ (Or.inr ⟨?_, ?_⟩)
    · exact (by first | exact q_at rfl (H) | exact (H))
    · unfold STB at s3 ⊢
      refine ⟨by simp (disch := omega) only [up_oth]; exact s3.1, fun k hk => ?_⟩
      simp (disch := omega) only [up_oth]; exact s3.2 k hk
    · simp (disch := omega) only [up_oth]
      rw [e1 121 12 (by decide) (by decide)] at t3; exact t3
    · simp (disch := omega) only [up_oth]
      rw [f3 121 17 (by decide) (by decide), up_same]
    · rw [up_same]
end
