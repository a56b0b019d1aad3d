-- deps: 18 19 20 21 22 23 24 25 26 27 28 29 30 31 32 33 34 35 36 37 38 39 40 41 42 43 44 45 46 47 48 49 50 51 52 53 54 55 56 57 58 59 60 61 62 63 64 65 66 67 68 69 70 71 72 73 74 75 76 77 78 79 80 81 82 83 84 85 86 87 88 89 90 91 92 93 94 95 96 97 98 99 9A 9B 9C 9D 9E 9F 9G 9H 9I 9J 9K 9L 9M 9N 9O 9P 9Q 9R 9S 9T 9U 9V 9W 9X 9Y 9Z A0 A1 A2 A3 A4 A5 A6 A7 B0 B1 B2 B3 B4 B5 B6 B7
/-! the class's own methods: words by chance, counts -/
section
variable {Q : RP} {n : Nat} {hr h : HP} {z : ST} {d : Int} {k : Nat}
theorem chW {I w : Nat} {x : Int} (hw : w < 4 ^ 14) (d : lcd I x < 3) : i_or (i_shl (w : Int) 2) ((lcd I x : Int) + 1) = ((4 * w + lcd I x + 1 : Nat) : Int) := by
  have e : (4 : Nat) ^ 14 = 268435456 := by decide
  rw [shl_2 (by omega) (by omega)]
  have := or_add (a := w) (b := lcd I x + 1) (k := 2) (by omega) (by omega)
  rw [show ((w : Int) * 4) = ((w * 2 ^ 2 : Nat) : Int) by omega, show ((lcd I x : Int) + 1) = ((lcd I x + 1 : Nat) : Int) by omega, this]
  omega
/-- how many words by chance are answered otherwise -/
def vCh (z : ST) (x : Int) (m : Nat) : Int := ((chR ((dJ (zS z)).length) m (tM (zS z)) (oM (zS z)) (zt z) (zo z) (if x = -1 then sD (zS z) else x) 10).1 : Int)
theorem sp_B_chance {x m : Int} (V : CW n hr) (hd : d = 3 ∨ d = 8) (rt : hr 0 12 = d) (O : zOK z) (C : CAL z d k h) (h0 : ¬ (-1 ≤ x ∧ (1 ≤ m ∧ m ≤ 15) ∧ 0 < dM (zS z) ∧ 0 < (dJ (zS z)).length) → Q (0, -1) n hr h) (h1 : (-1 ≤ x ∧ (1 ≤ m ∧ m ≤ 15) ∧ 0 < dM (zS z) ∧ 0 < (dJ (zS z)).length) → Q (0, vCh z x m.toNat) n hr h) : f_B_chance [(2, 0), (0, x), (0, m)] n hr h Q := by
  obtain ⟨hS, hI, hm, hc, hT⟩ := TV_s O.2.1
  have c2 := C.2.1
  have X := c2.1
  apply e_B_chance
  simp only [ok_0 V.1, cr_0_1 V, ok_13 V.1, rt, (prow_of V hd).1, X.1, X.2.1, true_and]
  refine ⟨fun y => (by first | exact q_at rfl (h0 (by omega)) | exact (h0 (by omega))), fun y => ⟨fun y2 => (by first | exact q_at rfl (h0 (by omega)) | exact (h0 (by omega))), fun y2 => ⟨fun y3 => (by first | exact q_at rfl (h0 (by omega)) | exact (h0 (by omega))), fun y3 => ⟨fun y4 => (by first | exact q_at rfl (h0 (by omega)) | exact (h0 (by omega))), fun y4 => ⟨fun y5 => ?_, fun y5 => (by first | exact q_at rfl (h0 (by omega)) | exact (h0 (by omega)))⟩⟩⟩⟩⟩
  have I0 : 0 < (dJ (zS z)).length := by omega
  obtain ⟨m, rfl⟩ := Int.eq_ofNat_of_zero_le (show 0 ≤ m by omega)
  have H := h1 ⟨by omega, by omega, by omega, I0⟩
  rw [Int.toNat_natCast] at H
  unfold vCh at H
  have go : ∀ s : Int, s = (if x = -1 then sD (zS z) else x) → p_B_chance_61 (n + 0) (ai_q 0 n Q) 0 (m : Int) s 0 0 n hr h := by
    intro s es
    rw [← es] at H
    have main := lupN (N := 10) (P := fun w => p_B_chance_61 (n + 0) (ai_q 0 n Q) 0 (m : Int) (chR ((dJ (zS z)).length) m (tM (zS z)) (oM (zS z)) (zt z) (zo z) s w).2 ((chR ((dJ (zS z)).length) m (tM (zS z)) (oM (zS z)) (zt z) (zo z) s w).1 : Int) (w : Int) n hr h) ?_ ?_
    · exact main
    · exact b_B_chance_61 ⟨fun _ => (by first | exact q_at rfl (H) | exact (H)), fun q => by omega⟩
    · intro w hw ih
      have cl := chR_le (I := ((dJ (zS z)).length)) (m := m) (t := (tM (zS z))) (o := (oM (zS z))) (t' := zt z) (o' := zo z) (x := s) w
      generalize eg : (chR ((dJ (zS z)).length) m (tM (zS z)) (oM (zS z)) (zt z) (zo z) s w) = c at ih cl ⊢
      refine b_B_chance_61 ⟨fun q => by omega, fun _ => ?_⟩
      have inner := lupN (N := m) (P := fun i => p_B_chance_74 (n + 0) (ai_q 0 n Q) 0 (m : Int) (chS ((dJ (zS z)).length) c.2 i).2 (c.1 : Int) (w : Int) ((chS ((dJ (zS z)).length) c.2 i).1 : Int) (i : Int) n hr h) ?_ ?_
      · exact inner
      · have ok := chS_ok I0 hI c.2 m
        have l15 := wlen_le.mp (show wlen (chS ((dJ (zS z)).length) c.2 m).1 ≤ 15 by omega)
        have eS : chR ((dJ (zS z)).length) m (tM (zS z)) (oM (zS z)) (zt z) (zo z) s (w + 1) = (c.1 + if aS (tM (zS z)) (oM (zS z)) 0 (chS ((dJ (zS z)).length) c.2 m).1 = aS (zt z) (zo z) 0 (chS ((dJ (zS z)).length) c.2 m).1 then 0 else 1, (chS ((dJ (zS z)).length) c.2 m).2) := by rw [← eg]; rfl
        rw [eS] at ih
        refine b_B_chance_74 ⟨fun _ => ?_, fun q => by omega⟩
        simp only [ok_0 V.1, cr_0_1 V, cr_0_2 V, ok_13 V.1, ok_16 V.1, true_and]
        refine sp_M_tl (mr_13 V) hm X.2.2.1 X.2.2.2 (by omega) l15 (wok_mono hI ok.1) ?_
        simp only [ok_0 V.1, cr_0_1 V, cr_0_2 V, ok_13 V.1, ok_16 V.1, true_and]
        refine sp_M_tl (mr_16 V) O.2.2.1.1 c2.2.2.2.1 c2.2.2.2.2 (by omega) l15 (wok_mono hI ok.1) ?_
        rw [w32_id (by omega) (by omega)]
        refine ⟨fun q => ?_, fun q => ?_⟩
        · rw [if_pos (lcmp0.mp q)] at ih
          exact ih
        · rw [if_neg (fun q2 => q (lcmp0.mpr q2))] at ih
          rw [w32_id (by omega) (by omega)]
          exact ih
      · intro i hi ih2
        have ok := chS_ok I0 hI c.2 i
        have l := wlen_le.mp (Nat.le_of_eq ok.2)
        have l2 : (4 : Nat) ^ i ≤ 4 ^ 14 := Nat.pow_le_pow_right (by decide) (by omega)
        have b := lcg_b (chS ((dJ (zS z)).length) c.2 i).2
        have d := lcd_e I0 (chS ((dJ (zS z)).length) c.2 i).2
        have e : i_and (w32 (w32 ((chS ((dJ (zS z)).length) c.2 i).2 * 1103515245) + 12345)) 2147483647 = lcg (chS ((dJ (zS z)).length) c.2 i).2 := rfl
        refine b_B_chance_74 ⟨fun q => by omega, fun _ => ?_⟩
        simp only [ok_0 V.1, cr_0_1 V, ok_13 V.1, X.2.1, e, true_and]
        rw [shr_16 b.1 b.2, rem_i (by omega) (by omega) (by omega) (by omega), d.1, w32_id (x := (lcd ((dJ (zS z)).length) (chS ((dJ (zS z)).length) c.2 i).2 : Int) + 1) (by omega) (by omega), chW (by omega) (by omega), w32_id (by omega) (by omega)]
        exact ⟨by omega, ih2⟩
  refine ⟨fun y6 => go x (by rw [if_neg y6]), fun y6 => ?_⟩
  rw [C.1.2.2.2.2.2.1.2.1]
  exact go _ (by rw [if_pos y6]; rfl)
/-- counts -/
noncomputable def vCo (z : ST) (w : Int) : Int := if w = 0 then (dM (zS z) : Int) else if w = 1 then ((dJ (zS z)).length : Int) else if w = 2 then ((dN (zS z)).length : Int) else if w = 3 then (sE (zS z) : Int) else if w = 4 then (cA (AC ((dJ (zS z)).length) (tM (zS z)) 0) (dM (zS z)) : Int) else if w = 5 then (cntP (isNew ((dJ (zS z)).length) (tM (zS z)) (oM (zS z))) (dM (zS z)) : Int) else if w = 6 then tpR (oM (zS z)) 24 else if w = 7 then ((SPL ((dJ (zS z)).length) (dM (zS z)) (tM (zS z)) (oM (zS z))).length : Int) else if w = 8 then (UN (dM (zS z)) ((dJ (zS z)).length) (tM (zS z)) (oM (zS z)) : Int) else if w = 9 then ((zG z).length : Int) else if w = 10 then ((zU z).length : Int) else if w = 11 then (dfP ((dJ (zS z)).length) (tM (zS z)) (oM (zS z)) (zt z) (zo z) (dN (zS z)).length : Int) else if w = 12 then (popc (RCH (dN (zS z)).length ((dJ (zS z)).length) (zt z)) : Int) else -1
theorem RMk_popc {S I : Nat} {t : Int → Int} (hS : S ≤ 6) : popc (RMk S I t) = cA (AC I t 0) S := by
  have lt := RMk_lt (I := I) hS t
  have ltS : RMk S I t < 2 ^ S := orA_lt (k := S) fun s h1 _ => h1
  rw [popc_cnt ltS (by omega)]
  unfold cA
  refine cntB_ext fun x hx => ?_
  have := RMk_tb S I t x
  by_cases q : 0 ≤ AC I t 0 (x : Int)
  · rw [this.mpr ⟨hx, q⟩, decide_eq_true q]
  · rw [decide_eq_false q]
    exact Bool.eq_false_iff.mpr fun r => q (this.mp r).2
theorem sp_B_count {w : Int} (V : CW n hr) (hd : d = 3 ∨ d = 8) (rt : hr 0 12 = d) (O : zOK z) (C : CAL z d k h) (hQ : Q (0, vCo z w) n hr h) : f_B_count [(2, 0), (0, w)] n hr h Q := by
  obtain ⟨hS, hI, hm, hc, hT⟩ := TV_s O.2.1
  have o := O.2.1
  have c2 := C.2.1
  have X := c2.1
  have A := C.2.2.1
  have L := C.2.2.2.2.2.1.1
  have lt := RMk_lt (I := ((dJ (zS z)).length)) hS (tM (zS z))
  have e4 : h 19 8 = ((RMk (dM (zS z)) ((dJ (zS z)).length) (tM (zS z)) : Nat) : Int) := A.2.2.1
  have eX : h d 7 = (sE (zS z) : Int) := by rw [C.1.2.2.2.2.2.1.1]; exact (sE_3 o).2.symm
  unfold vCo at hQ
  apply e_B_count
  simp only [ok_0 V.1, cr_0_1 V, cr_0_2 V, cr_0_3 V, cr_0_6 V, cr_0_7 V, rt, (prow_of V hd).1, ok_13 V.1, ok_16 V.1, ok_19 V.1, ok_102 V.1, ok_118 V.1, X.1, X.2.1, c2.2.1, A.1, e4, A.2.2.2.2.2.1, A.2.2.2.2.2.2.1, eX, L.1, C.2.2.2.2.2.2.1.1, C.2.2.2.2.2.2.2.2.1.2.1, true_and]
  refine ⟨fun y => ?_, fun y => ?_⟩
  · rw [if_pos y] at hQ; exact (by first | exact q_at rfl (hQ) | exact (hQ))
  rw [if_neg y] at hQ
  refine ⟨fun y => ?_, fun y => ?_⟩
  · rw [if_pos y] at hQ; exact (by first | exact q_at rfl (hQ) | exact (hQ))
  rw [if_neg y] at hQ
  refine ⟨fun y => ?_, fun y => ?_⟩
  · rw [if_pos y] at hQ; exact (by first | exact q_at rfl (hQ) | exact (hQ))
  rw [if_neg y] at hQ
  refine ⟨fun y => ?_, fun y => ?_⟩
  · rw [if_pos y] at hQ; exact (by first | exact q_at rfl (hQ) | exact (hQ))
  rw [if_neg y] at hQ
  refine ⟨fun y => ?_, fun y => ?_⟩
  · rw [if_pos y] at hQ
    refine sp_J_bitCount (by omega) ?_
    rw [RMk_popc hS]
    exact (by first | exact q_at rfl (hQ) | exact (hQ))
  rw [if_neg y] at hQ
  refine ⟨fun y => ?_, fun y => ?_⟩
  · rw [if_pos y] at hQ; exact (by first | exact q_at rfl (hQ) | exact (hQ))
  rw [if_neg y] at hQ
  refine ⟨fun y => ?_, fun y => ?_⟩
  · rw [if_pos y] at hQ; exact (by first | exact q_at rfl (hQ) | exact (hQ))
  rw [if_neg y] at hQ
  refine ⟨fun y => ?_, fun y => ?_⟩
  · rw [if_pos y] at hQ; exact (by first | exact q_at rfl (hQ) | exact (hQ))
  rw [if_neg y] at hQ
  refine ⟨fun y => ?_, fun y => ?_⟩
  · rw [if_pos y] at hQ; exact (by first | exact q_at rfl (hQ) | exact (hQ))
  rw [if_neg y] at hQ
  refine ⟨fun y => ?_, fun y => ?_⟩
  · rw [if_pos y] at hQ; exact (by first | exact q_at rfl (hQ) | exact (hQ))
  rw [if_neg y] at hQ
  refine ⟨fun y => ?_, fun y => ?_⟩
  · rw [if_pos y] at hQ; exact (by first | exact q_at rfl (hQ) | exact (hQ))
  rw [if_neg y] at hQ
  refine ⟨fun y => ?_, fun y => ?_⟩
  · rw [if_pos y] at hQ
    have o1 := o.1
    refine sp_M_arcsUnlike (N := (dN (zS z)).length) (mr_16 V) (mr_13 V) hI (by omega) c2.2.1 c2.2.2.1 c2.2.2.2 X.2.2 ?_
    exact (by first | exact q_at rfl (hQ) | exact (hQ))
  rw [if_neg y] at hQ
  refine ⟨fun y => ?_, fun y => ?_⟩
  · rw [if_pos y] at hQ
    have o1 := o.1
    refine sp_M_placesReached (N := (dN (zS z)).length) (mr_16 V) hI (by omega) O.2.2.1.2 c2.2.1 c2.2.2.1 c2.2.2.2 ?_
    exact (by first | exact q_at rfl (hQ) | exact (hQ))
  rw [if_neg y] at hQ
  exact (by first | exact q_at rfl (hQ) | exact (hQ))
end
