-- deps: 18 19 20 21 23 24 25 26 27 28 29 22 30 31 32 33 34 35 36 37 38 39 40 41 42 43 44 45 46 47 48 49 50 62 63 64 65 66 67 68 69 70 71 72 73 74 75 76 77 78 80 81 82 83 84 85 86 87
/-! the reference: whether a test is passed -/
section
variable {Q : RP} {n : Nat} {hr h : HP} {S I : Nat} {t o t' o' : Int → Int}
/-- the machine that lies at b -/
def NM (b : Int) (t' o' : Int → Int) (h : HP) : Prop := r24 (fun a => h 147 (b + a)) t' ∧ r24 (fun a => h 148 (b + a)) o'
theorem NM_fr {b : Int} {h1 : HP} (H : NM b t' o' h) (a : h1 147 = h 147) (c : h1 148 = h 148) : NM b t' o' h1 := by
  unfold NM; rw [a, c]; exact H
/-- all that is laid of a text; e is how many more states are looked for -/
def NB (S I : Nat) (t o : Int → Int) (e : Nat) (h : HP) : Prop := NX S I t o h ∧ NP S I t o h ∧ NSg S I t o h ∧ NWy S I t o h ∧ NSu S I t o h ∧ NEx h e
def NBc : List Int := [140, 147, 148, 149, 153, 154, 155, 156, 157, 158, 161, 162]
theorem NB_fr {e : Nat} {h1 : HP} {cs : List Int} {ps : List (Int × Int)} (H : NB S I t o e h) (E : EX cs ps h h1) (a : (∀ c ∈ NBc, c ∉ cs ∧ c ∉ ps.map Prod.fst) ∧ (138 : Int) ∉ cs ∧ ((138 : Int), (23 : Int)) ∉ ps ∧ ((138 : Int), (29 : Int)) ∉ ps ∧ ((138 : Int), (31 : Int)) ∉ ps) : NB S I t o e h1 := by
  obtain ⟨a1, a2, a3, a4, a5⟩ := a
  have g : ∀ c ∈ NBc, h1 c = h c := fun c hc => EX_fn E (a1 c hc).1 (a1 c hc).2
  obtain ⟨b1, b2, b3, b4, b5, b6⟩ := H
  refine ⟨?_, ?_, ?_, ?_, ?_, ?_⟩
  · unfold NX; rw [g 140 (by decide), g 147 (by decide), g 148 (by decide)]; exact b1
  · unfold NP; rw [g 149 (by decide), g 153 (by decide), g 154 (by decide), E 138 23 a2 a3, E 138 29 a2 a4]; exact b2
  · unfold NSg; rw [g 155 (by decide), E 138 31 a2 a5]; exact b3
  · exact NWy_fr b4 (g 156 (by decide)) (g 157 (by decide)) (g 158 (by decide))
  · unfold NSu RW; rw [g 161 (by decide), g 162 (by decide)]; exact b5
  · unfold NEx; rw [g 140 (by decide)]; exact b6
theorem NB_s {e : Nat} {h1 : HP} (H : NB S I t o e h) (E : EX [161, 162, 163] [] h h1) (U : NSu S I t o h1) : NB S I t o e h1 := by
  have g : ∀ c : Int, c ≠ 161 → c ≠ 162 → c ≠ 163 → h1 c = h c := fun c x y z => EX_fn E (by simp [x, y, z]) (by simp)
  obtain ⟨b1, b2, b3, b4, b5, b6⟩ := H
  refine ⟨?_, ?_, ?_, ?_, U, ?_⟩
  · unfold NX; rw [g 140 (by decide) (by decide) (by decide), g 147 (by decide) (by decide) (by decide), g 148 (by decide) (by decide) (by decide)]; exact b1
  · unfold NP; rw [g 149 (by decide) (by decide) (by decide), g 153 (by decide) (by decide) (by decide), g 154 (by decide) (by decide) (by decide), g 138 (by decide) (by decide) (by decide)]; exact b2
  · unfold NSg; rw [g 155 (by decide) (by decide) (by decide), g 138 (by decide) (by decide) (by decide)]; exact b3
  · exact NWy_fr b4 (g 156 (by decide) (by decide) (by decide)) (g 157 (by decide) (by decide) (by decide)) (g 158 (by decide) (by decide) (by decide))
  · unfold NEx; rw [g 140 (by decide) (by decide) (by decide)]; exact b6
theorem NB_y {e : Nat} {h1 : HP} (H : NB S I t o e h) (E : fxY h h1) (G : NSg S I t o h1) (Y : NWy S I t o h1) : NB S I t o e h1 := by
  have g : ∀ c : Int, c ∉ [155, 156, 157, 158, 159, 160] → c ≠ 138 → h1 c = h c := fun c x y => EX_fn E x (by simp [y])
  obtain ⟨b1, b2, b3, b4, b5, b6⟩ := H
  refine ⟨?_, ?_, G, Y, ?_, ?_⟩
  · unfold NX; rw [g 140 (by decide) (by decide), g 147 (by decide) (by decide), g 148 (by decide) (by decide)]; exact b1
  · unfold NP; rw [g 149 (by decide) (by decide), g 153 (by decide) (by decide), g 154 (by decide) (by decide), E 138 23 (by decide) (by decide), E 138 29 (by decide) (by decide)]; exact b2
  · unfold NSu RW; rw [g 161 (by decide) (by decide), g 162 (by decide) (by decide)]; exact b5
  · unfold NEx; rw [g 140 (by decide) (by decide)]; exact b6
theorem NB_1 {e : Nat} {v : Int} (H : NB S I t o e h) : NB S I t o e (ai_up h 138 0 v) := NB_fr H EX_1 (by decide)
theorem aS_NM {b : Int} {h : HP} (M : NM b t' o' h) (hm' : mok t' o') {w : Nat} (hw : wok 3 w) : mok (fun a => h 147 (b + a)) (fun a => h 148 (b + a)) ∧ aS (fun a => h 147 (b + a)) (fun a => h 148 (b + a)) 0 w = aS t' o' 0 w := by
  have hm2 := mok_r24 hm' (r24_sy M.1) (r24_sy M.2)
  exact ⟨hm2, aS_r24 M.1 M.2 hm2 (by omega) w hw⟩
theorem NX_NM (X : NX S I t o h) : NM 0 t o h := ⟨r24_z X.2.2.1, r24_z X.2.2.2⟩
theorem sp_N_isPassed {b : Int} {w : Nat} (W : NW n hr) (X : NX S I t o h) (hm : mok t o) (hm' : mok t' o') (M : NM b t' o' h) (hb : 0 ≤ b ∧ b ≤ 72) (hw : wok 3 w) (hl : wlen w ≤ 15) (h1 : aS t o 0 w = aS t' o' 0 w → Q (0, 1) n hr h) (h0 : aS t o 0 w ≠ aS t' o' 0 w → Q (0, 0) n hr h) : f_N_isPassed [(2, 138), (0, b), (0, (w : Int))] n hr h Q := by
  have a := aS_NM M hm' hw
  have a0 := aS_NM (NX_NM X) hm hw
  apply e_N_isPassed
  refine ⟨n0 W, sp_N_answers (nrow_of W) hb a.1 (by omega) (wl15 hl) hw ⟨n0 W, sp_N_answers (nrow_of W) (by omega) a0.1 (by omega) (wl15 hl) hw ?_⟩⟩
  dsimp only
  rw [a.2, a0.2]
  refine ⟨fun z => ⟨Or.inl rfl, (by first | exact q_at rfl (h0 (fun q => z (lcmp0.mpr q.symm))) | exact (h0 (fun q => z (lcmp0.mpr q.symm))))⟩, fun z => ⟨Or.inr rfl, (by first | exact q_at rfl (h1 (lcmp0.mp z).symm) | exact (h1 (lcmp0.mp z).symm))⟩⟩
/-- a long word's beginnings -/
theorem wrd_div {L : List Nat} (hL : ∀ y ∈ L, y < 3) : ∀ k, k ≤ L.length → wrd L / 4 ^ k = wrd (L.take (L.length - k))
  | 0, _ => by simp
  | k + 1, h => by
    have ih := wrd_div hL k (by omega)
    have hd := List.getElem?_eq_getElem (l := L) (i := L.length - (k + 1)) (by omega)
    have hm := hL _ (List.getElem_mem (show L.length - (k + 1) < L.length by omega))
    rw [div_s, ih, show L.length - k = L.length - (k + 1) + 1 by omega, wrd_tk hd]
    omega
theorem RN_pos {w : Nat} (h : 0 ≤ RN t o t' o' w) : RN t o t' o' w = dS t' 0 w ∧ aS t o 0 w = aS t' o' 0 w := by
  unfold RN at h ⊢
  by_cases z : aS t o 0 w = aS t' o' 0 w
  · rw [if_pos z]; exact ⟨rfl, z⟩
  · rw [if_neg z] at h; omega
theorem up2 {h : HP} {x i v j w : Int} : EX [] [(x, i), (x, j)] h (ai_up (ai_up h x i v) x j w) := EX_upp (EX_upp EX_rf (by simp)) (by simp)
theorem sp_N_isWayPassed {b : Int} {wh e : Nat} (W : NW n hr) (T : TV S I t o) (B : NB S I t o e h) (hm' : mok t' o') (M : NM b t' o' h) (hb : 0 ≤ b ∧ b ≤ 72) (hwh : wh < 2) (Y : LWy S I t o h wh) (h1 : aS t o 0 (wrd (WY S I t o wh)) = aS t' o' 0 (wrd (WY S I t o wh)) → Q (0, 1) n hr h) (h0 : ∀ h1, EX [] [(138, 41), (138, 42)] h h1 → aS t o 0 (wrd (WY S I t o wh)) ≠ aS t' o' 0 (wrd (WY S I t o wh)) → h1 138 41 = WPl t o t' o' (wrd (WY S I t o wh)) → h1 138 42 = WOu t o t' o' (wrd (WY S I t o wh)) → Q (0, 0) n hr h1) : f_N_isWayPassed [(2, 138), (0, b), (0, (wh : Int))] n hr h Q := by
  obtain ⟨hS, hI, hm, hc, hT⟩ := T
  have X := B.1
  have wl := WY_len (o := o) hS hI hc wh
  obtain ⟨y1, y2⟩ := Y
  generalize WY S I t o wh = L at *
  have l3 : ∀ y ∈ L, y < 3 := fun y hy => by have := wl.2 y hy; omega
  have ok := wrd_ok (I := 3) (by omega) l3
  have wL : wok 3 (wrd L) ∧ wlen (wrd L) = L.length := by have := ok L.length (Nat.le_refl _); rw [List.take_length] at this; exact this
  apply e_N_isWayPassed
  have loop := lupN (N := L.length) (P := fun k => aS t o 0 (wrd (L.take k)) = aS t' o' 0 (wrd (L.take k)) → p_N_isWayPassed_8 (n + 0) (ai_q 0 n Q) 138 b (wh : Int) (dS t' 0 (wrd (L.take k))) (dS t 0 (wrd (L.take k))) (k : Int) n hr h) ?_ ?_
  · have := loop (by rw [List.take_zero]; show aS t o 0 0 = aS t' o' 0 0; rw [aS_0, aS_0])
    rw [List.take_zero, show wrd [] = 0 from rfl, dS_0, dS_0] at this
    exact this
  · intro ea
    rw [List.take_length] at ea
    refine b_N_isWayPassed_8 ?_
    simp (disch := omega) only [n0 W, nr_33 W, y1, true_and, true_or, or_true]
    repeat (refine ⟨by omega, ?_⟩)
    exact ⟨fun _ => (by first | exact q_at rfl (h1 ea) | exact (h1 ea)), fun z => by omega⟩
  · intro k hk ih ea
    have hd := List.getElem?_eq_getElem hk
    have i3 := l3 L[k] (List.getElem_mem _)
    generalize L[k] = i at hd i3
    have yk := y2 k i hd
    have okk := ok k (by omega)
    have dp := dS_in hm' (p := 0) (by omega) okk.1
    have dq := dS_in hm (p := 0) (by omega) okk.1
    have t1 := wrd_tk hd
    rw [t1] at ih
    rw [dS_c _ _ _ i3, dS_c _ _ _ i3] at ih
    have e := aS_eq_c hm hm' (p := 0) (q := 0) (by omega) (by omega) i3 okk.1
    generalize hv : wrd (L.take k) = v at *
    have ep : b + 3 * dS t' 0 v + (i : Int) = b + (3 * dS t' 0 v + (i : Int)) := by omega
    have eq : 0 + 3 * dS t 0 v + (i : Int) = 3 * dS t 0 v + (i : Int) := by omega
    have g1 : h 147 (b + (3 * dS t' 0 v + (i : Int))) = _ := M.1 (3 * dS t' 0 v + (i : Int)) (by omega) (by omega)
    have g2 : h 148 (b + (3 * dS t' 0 v + (i : Int))) = _ := M.2 (3 * dS t' 0 v + (i : Int)) (by omega) (by omega)
    have g3 := X.2.2.1 (3 * dS t 0 v + (i : Int)) (by omega) (by omega)
    have g4 := X.2.2.2 (3 * dS t 0 v + (i : Int)) (by omega) (by omega)
    refine b_N_isWayPassed_8 ?_
    simp (disch := omega) only [n0 W, nr_33 W, nr_32 W, nr_21 W, nr_20 W, y1, yk, w32_id, ep, eq, g1, g2, g3, g4, up_oth, true_and, true_or, or_true]
    repeat (refine ⟨by omega, ?_⟩)
    refine fun _ => ?_
    repeat (refine ⟨by omega, ?_⟩)
    refine ⟨fun z => ?_, fun z => ?_⟩
    · repeat (refine ⟨by omega, ?_⟩)
      exact ih (e.mpr ⟨ea, z.symm⟩)
    · repeat (refine ⟨by omega, ?_⟩)
      have rn : RN t o t' o' v = dS t' 0 v := by unfold RN; rw [if_pos ea]
      have rc := RN_c (t := t) (o := o) hm hm' i3 okk.1
      rw [if_neg (by omega), rn, if_neg z] at rc
      have d1 := wrd_div l3 (L.length - (k + 1)) (by omega)
      have d2 := wrd_div l3 (L.length - (k + 1) + 1) (by omega)
      rw [show L.length - (L.length - (k + 1)) = k + 1 by omega, t1] at d1
      rw [show L.length - (L.length - (k + 1) + 1) = k by omega, hv] at d2
      have wm := WM_of hm hm' wL.1 (m := L.length - (k + 1)) ⟨by omega, by rw [d1, rc]; decide, by rw [d2, rn]; omega⟩
      refine h0 _ up2 (fun q => ?_) ?_ ?_
      · have hf : RN t o t' o' (wrd L) < 0 := by
          have := RN_mm hm hm' wL.1 0 (L.length - (k + 1)) (by rw [Nat.zero_add, d1, rc]; decide)
          simpa using this
        exact (RN_neg hm' wL.1).mp hf q
      · simp (disch := omega) only [up_oth, up_same]
        unfold WPl; rw [wm, wL.2]; omega
      · simp (disch := omega) only [up_oth, up_same]
        unfold WOu; rw [wm, d1, d2, rn, show ((4 * v + i + 1) % 4 : Nat) = i + 1 by omega]
        rw [show 3 * dS t' 0 v + (((i + 1 : Nat) : Int) - 1) = 3 * dS t' 0 v + (i : Int) by omega]
theorem sp_N_laysWrong {w : Nat} (W : NW n hr) (X : NX S I t o h) (hm : mok t o) (hm' : mok t' o') (M : NM 24 t' o' h) (hw : wok 3 w) (hl : wlen w ≤ 15) (hf : aS t o 0 w ≠ aS t' o' 0 w) (hQ : ∀ h1, EX [] [(138, 41), (138, 42)] h h1 → h1 138 41 = WPl t o t' o' w → h1 138 42 = WOu t o t' o' w → Q (9, 0) n hr h1) : f_N_laysWrong [(2, 138), (0, (w : Int))] n hr h Q := by
  apply e_N_laysWrong
  have w31 : w < 2 ^ 31 := Nat.lt_trans (wl15 hl) (by decide)
  refine sp_N_long1 w31 ?_
  dsimp only
  have loop := lupN (N := wlen w) (P := fun k => ∀ h1, EX [] [(138, 41), (138, 42)] h h1 → aS t o 0 (w / 4 ^ (wlen w - k)) = aS t' o' 0 (w / 4 ^ (wlen w - k)) → p_N_laysWrong_13 (n + 0) (ai_q 0 n Q) 138 (w : Int) (wlen w : Int) (dS t' 0 (w / 4 ^ (wlen w - k))) (dS t 0 (w / 4 ^ (wlen w - k))) (k : Int) n hr h1) ?_ ?_
  · have := loop h EX_rf (by rw [Nat.sub_zero, div_top, aS_0, aS_0])
    rw [Nat.sub_zero, div_top, dS_0, dS_0] at this
    exact this
  · intro h1 e1 ea
    rw [Nat.sub_self, Nat.pow_zero, Nat.div_one] at ea
    exact (hf ea).elim
  · intro k hk ih h1 e1 ea
    have ne := div_ne (w := w) (k := wlen w - (k + 1)) (by omega)
    obtain ⟨v, i, i3, vk, ev, ed⟩ := w_cases (wok_divp (wlen w - (k + 1)) hw) ne
    rw [← div_s, show wlen w - (k + 1) + 1 = wlen w - k by omega] at ed
    rw [← ed] at ea ⊢
    have ei : ((w / 4 ^ (wlen w - 1 - k) % 4 : Nat) : Int) - 1 = (i : Int) := by
      rw [show wlen w - 1 - k = wlen w - (k + 1) by omega, ev]; omega
    have dp := dS_in hm' (p := 0) (by omega) vk
    have dq := dS_in hm (p := 0) (by omega) vk
    have e := aS_eq_c hm hm' (p := 0) (q := 0) (by omega) (by omega) i3 vk
    have k1 := EX_fn (c := 147) e1 (by decide) (by decide)
    have k2 := EX_fn (c := 148) e1 (by decide) (by decide)
    have ep : 24 + 3 * dS t' 0 v + (i : Int) = 24 + (3 * dS t' 0 v + (i : Int)) := by omega
    have eq : 0 + 3 * dS t 0 v + (i : Int) = 3 * dS t 0 v + (i : Int) := by omega
    have g1 : h 147 (24 + (3 * dS t' 0 v + (i : Int))) = _ := M.1 (3 * dS t' 0 v + (i : Int)) (by omega) (by omega)
    have g2 : h 148 (24 + (3 * dS t' 0 v + (i : Int))) = _ := M.2 (3 * dS t' 0 v + (i : Int)) (by omega) (by omega)
    have g3 := X.2.2.1 (3 * dS t 0 v + (i : Int)) (by omega) (by omega)
    have g4 := X.2.2.2 (3 * dS t 0 v + (i : Int)) (by omega) (by omega)
    rw [ev, dS_c _ _ _ i3, dS_c _ _ _ i3] at ih
    refine b_N_laysWrong_13 ⟨fun z => by omega, fun _ => sp_N_inputAt (wl15 hl) hl hk ?_⟩
    rw [ei]
    simp (disch := omega) only [n0 W, nr_21 W, nr_20 W, w32_id, ep, eq, k1, k2, g1, g2, g3, g4, up_oth, up_same, true_and]
    repeat (refine ⟨by omega, ?_⟩)
    have e2 : EX [] [(138, 41), (138, 42)] h (ai_up (ai_up h1 138 41 (k : Int)) 138 42 (o' (3 * dS t' 0 v + (i : Int)))) := EX_tr e1 up2
    refine ⟨fun z => ?_, fun z => ?_⟩
    · repeat (refine ⟨by omega, ?_⟩)
      exact ih _ e2 (e.mpr ⟨ea, z.symm⟩)
    · have rn : RN t o t' o' v = dS t' 0 v := by unfold RN; rw [if_pos ea]
      have rc := RN_c (t := t) (o := o) hm hm' i3 vk
      rw [if_neg (by omega), rn, if_neg z] at rc
      have ed2 : w / 4 ^ (wlen w - (k + 1) + 1) = v := by rw [show wlen w - (k + 1) + 1 = wlen w - k by omega]; exact ed.symm
      have wm := WM_of hm hm' hw (m := wlen w - (k + 1)) ⟨by omega, by rw [ev, rc]; decide, by rw [ed2, rn]; omega⟩
      refine q_at rfl (hQ _ e2 ?_ ?_)
      · simp (disch := omega) only [up_oth, up_same]
        unfold WPl; rw [wm]; omega
      · simp (disch := omega) only [up_oth, up_same]
        unfold WOu; rw [wm, ev, ed2, rn, show ((4 * v + i + 1) % 4 : Nat) = i + 1 by omega]
        rw [show 3 * dS t' 0 v + (((i + 1 : Nat) : Int) - 1) = 3 * dS t' 0 v + (i : Int) by omega]
end
