-- deps: 18 19 20 21 23 24 25 26 27 28 29 22 30 31 32 33 34 35 36 37 38 39 40 41 42 43 44 45 46 47 48 49 50 62 63 64 67 68 69 70 71 72 73 74 75 80 81 82 83 84 85
/-! the reference: tests of a suite -/
section
variable {Q : RP} {n : Nat} {hr h : HP} {L : List Nat} {S I : Nat} {t o : Int → Int}
/-- how many more states are looked for -/
def NEx (h : HP) (e : Nat) : Prop := (if h 140 3 = 0 then 0 else w32 (h 140 3 - 1)) = (e : Int)
theorem sp_N_suiteOf {su e : Nat} (W : NW n hr) (T : TV S I t o) (X : NX S I t o h) (P : NP S I t o h) (U : NSu S I t o h) (E : NEx h e) (hsu : su < 2) (he : e < 3) (hQ : ∀ h1, EX [161, 162, 163] [] h h1 → NSu S I t o h1 → RW h1 (2 * e + su) (LFr S I t o su e) → Q (0, ((2 * e + su : Nat) : Int)) n hr h1) : f_N_suiteOf [(2, 138), (0, (su : Int))] n hr h Q := by
  apply e_N_suiteOf
  refine ⟨n0 W, sp_N_extra W ?_⟩
  have e' : (if h 140 3 = 0 then 0 else w32 (h 140 3 - 1)) = (e : Int) := E
  rw [e', w32_id (x := 2 * (e : Int)) (by omega) (by omega), w32_id (by omega) (by omega), show 2 * (e : Int) + (su : Int) = ((2 * e + su : Nat) : Int) by omega]
  exact ⟨n0 W, sp_N_laysSuite W T X P U hsu he fun h1 a b c => q_at rfl (hQ h1 a b c)⟩
theorem sp_N_testsOf {su e : Nat} (W : NW n hr) (T : TV S I t o) (X : NX S I t o h) (P : NP S I t o h) (U : NSu S I t o h) (E : NEx h e) (hsu : su < 2) (he : e < 3) (hQ : ∀ h1, EX [161, 162, 163] [] h h1 → NSu S I t o h1 → RW h1 (2 * e + su) (LFr S I t o su e) → Q (0, ((LFr S I t o su e).length : Int)) n hr h1) : f_N_testsOf [(2, 138), (0, (su : Int))] n hr h Q := by
  apply e_N_testsOf
  refine ⟨fun z => by omega, fun _ => ⟨n0 W, n0 W, sp_N_suiteOf W T X P U E hsu he fun h1 a b c => ?_⟩⟩
  simp (disch := omega) only [n0 W, nr_39 W, c.1, true_and]
  repeat (refine ⟨by omega, ?_⟩)
  exact (by first | exact q_at rfl (hQ h1 a b c) | exact (hQ h1 a b c))
theorem sp_N_test {su k : Int} {e : Nat} (W : NW n hr) (T : TV S I t o) (X : NX S I t o h) (P : NP S I t o h) (U : NSu S I t o h) (E : NEx h e) (he : e < 3) (hk : k ≤ 2147483647) (h0 : ¬ ((su = 0 ∨ su = 1) ∧ 0 ≤ k) → Q (0, -1) n hr (ai_up h 138 0 0)) (h1 : (su = 0 ∨ su = 1) → 0 ≤ k → ∀ h1, EX [161, 162, 163] [(138, 0)] h h1 → NSu S I t o h1 → Q (0, match (LFr S I t o su.toNat e)[k.toNat]? with | some v => (v : Int) | none => -2) n hr h1) : f_N_test [(2, 138), (0, su), (0, k)] n hr h Q := by
  have TT := T
  obtain ⟨hS, hI, hm, hc, hT⟩ := T
  have X1 := NX_1 (v := 0) X
  have P1 := NP_1 (v := 0) P
  have U1 : NSu S I t o (ai_up h 138 0 0) := by
    unfold NSu RW
    rw [EX_fn EX_1 (c := 161) (by decide) (by decide), EX_fn EX_1 (c := 162) (by decide) (by decide)]
    exact U
  have E1 : NEx (ai_up h 138 0 0) e := by
    unfold NEx
    rw [EX_fn EX_1 (c := 140) (by decide) (by decide)]
    exact E
  apply e_N_test
  refine ⟨n0 W, sp_N_isOne (fun z => ?_) (fun z => ⟨fun _ => (by first | exact q_at rfl (h0 (fun q => z q.1)) | exact (h0 (fun q => z q.1))), fun q => absurd rfl q⟩)⟩
  refine ⟨fun q => absurd q (by decide), fun _ => ⟨fun z2 => ?_, fun z2 => (by first | exact q_at rfl (h0 (by omega)) | exact (h0 (by omega)))⟩⟩
  obtain ⟨s, rfl⟩ : ∃ s : Nat, su = (s : Int) := ⟨su.toNat, by omega⟩
  obtain ⟨i, rfl⟩ := Int.eq_ofNat_of_zero_le z2
  refine ⟨n0 W, sp_N_suiteOf W TT X1 P1 U1 E1 (by omega) he fun h2 a b c => ?_⟩
  have H := h1 z z2 h2 (EX_tr (EX_le EX_1 (by decide) (by decide)) (EX_le a (by decide) (by decide))) b
  rw [Int.toNat_natCast, Int.toNat_natCast] at H
  have ll := LFr_len (o := o) hS hI hm hc (su := s) he
  simp (disch := omega) only [n0 W, nr_39 W, c.1, true_and]
  repeat (refine ⟨by omega, ?_⟩)
  refine ⟨fun z4 => ?_, fun z4 => ?_⟩
  · rw [List.getElem?_eq_none (by omega)] at H
    exact (by first | exact q_at rfl (H) | exact (H))
  · have hs := List.getElem?_eq_getElem (l := LFr S I t o s e) (i := i) (by omega)
    rw [hs] at H
    refine sp_N_tsAt W (by omega) (by omega) ?_
    rw [c.2 i _ hs]
    exact (by first | exact q_at rfl (H) | exact (H))
/-- inputs of a planned suite's test -/
theorem sp_N_longOf {su e k w : Nat} (W : NW n hr) (T : TV S I t o) (X : NX S I t o h) (P : NP S I t o h) (U : NSu S I t o h) (E : NEx h e) (hsu : su < 2) (he : e < 3) (hk : (LFr S I t o su e)[k]? = some w) (hw : w < 2 ^ 31) (hQ : ∀ h1, EX [161, 162, 163] [] h h1 → NSu S I t o h1 → Q (0, (wlen w : Int)) n hr h1) : f_N_longOf [(2, 138), (0, (su : Int)), (0, (k : Int))] n hr h Q := by
  have TT := T
  obtain ⟨hS, hI, hm, hc, hT⟩ := T
  have ll := LFr_len (o := o) hS hI hm hc (su := su) he
  have kl := (List.getElem?_eq_some_iff.mp hk).1
  apply e_N_longOf
  refine ⟨fun z => by omega, fun _ => ⟨n0 W, sp_N_suiteOf W TT X P U E hsu he fun h1 a b c => ?_⟩⟩
  refine ⟨n0 W, sp_N_tsAt (t := 2 * e + su) (k := k) W (by omega) (by omega) ?_⟩
  rw [c.2 k w hk]
  exact sp_N_long1 hw (q_at rfl (hQ h1 a b))
end
