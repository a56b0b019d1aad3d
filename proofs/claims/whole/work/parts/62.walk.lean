-- deps: 18 19 20 21 23 24 25 26 27 28 29 22 30 31 32 33 34 35 36 37 38 39 40 47 48 50 51
/-! tours: pure -/
section
variable {S I : Nat} {t o : Int → Int}
/-- the first word whose last arc isn't taken -/
noncomputable def WN (I : Nat) (t : Int → Int) (tk st : Nat) : Int := fw fun w => ∃ v j, w = 4 * v + j + 1 ∧ j < I ∧ wok I v ∧ ¬ tk.testBit (3 * dS t (st : Int) v + (j : Int)).toNat = true
theorem fw_sub {P R : Nat → Prop} (h1 : ∀ w, R w → P w) (h2 : ∀ w, P w → ∃ v, R v ∧ v ≤ w) : fw P = fw R := by
  rcases fw_cases R with ⟨k, a1, a2, a3⟩ | ⟨a1, a2⟩
  · rw [a1]
    refine fw_at (h1 k a2) fun j hj g => ?_
    obtain ⟨v, v1, v2⟩ := h2 j g
    exact a3 v (by omega) v1
  · rw [a1]
    refine fw_no fun w g => ?_
    obtain ⟨v, v1, _⟩ := h2 w g
    exact a2 v v1
theorem WN_at (hS : S ≤ 6) (hI : I ≤ 3) (hc : clo S t) {tk p : Nat} (hp : p < S) {sp pa : Nat → Nat} {tail k i : Nat} (h : AQ I S t p sp pa tail k i) (hk : k < tail) (hi : i < I) (hall : ∀ k' j, k' < tail → j < I → (k' < k ∨ (k' = k ∧ j < i)) → tk.testBit (3 * sp k' + j) = true) (hno : ¬ tk.testBit (3 * sp k + i) = true) : WN I t tk p = ((4 * pa k + i + 1 : Nat) : Int) := by
  obtain ⟨c1, c2, c3, c4, c5, c6, c7, c8, c9, c10, c11⟩ := h.1 0
  obtain ⟨a1, a2, a3⟩ := c5 k hk
  have e := sg_AST hI hS hc hp (pa k) a1
  refine fw_at ⟨pa k, i, rfl, hi, a1, ?_⟩ ?_
  · rw [← e.1, a2, show (3 * (sp k : Int) + (i : Int)).toNat = 3 * sp k + i by omega]; exact hno
  · rintro w hw ⟨v, j, rfl, hj, hv, hnt⟩
    obtain ⟨x, b1, b2, b3⟩ := AQ_rep hS hc hp h hv (fun z => by omega)
    have bef : x < k ∨ (x = k ∧ j < i) := by
      rcases Nat.lt_trichotomy x k with y | y | y
      · exact Or.inl y
      · subst y; exact Or.inr ⟨rfl, by omega⟩
      · have := c6 k x y b1; omega
    have := hall x j b1 hj bef
    rw [← b2, show (3 * (sp x : Int) + (j : Int)).toNat = 3 * sp x + j by omega] at hnt
    exact hnt this
theorem WN_no (hS : S ≤ 6) (hc : clo S t) {tk p : Nat} (hp : p < S) {sp pa : Nat → Nat} {tail k i : Nat} (h : AQ I S t p sp pa tail k i) (hk : tail ≤ k) (hall : ∀ k' j, k' < tail → j < I → (k' < k ∨ (k' = k ∧ j < i)) → tk.testBit (3 * sp k' + j) = true) : WN I t tk p = -2 := by
  refine fw_no ?_
  rintro w ⟨v, j, rfl, hj, hv, hnt⟩
  obtain ⟨x, b1, b2, b3⟩ := AQ_rep hS hc hp h hv (fun z => by omega)
  have := hall x j b1 hj (by omega)
  rw [← b2, show (3 * (sp x : Int) + (j : Int)).toNat = 3 * sp x + j by omega] at hnt
  exact hnt this
/-- out of first words -/
theorem WN_ac (hS : S ≤ 6) (hI : I ≤ 3) (hc : clo S t) {tk p : Nat} (hp : p < S) : WN I t tk p = fw fun w => ∃ s j : Nat, s < S ∧ j < I ∧ 0 ≤ AC I t (p : Int) (s : Int) ∧ ¬ tk.testBit (3 * s + j) = true ∧ (w : Int) = 4 * AC I t (p : Int) (s : Int) + (j : Int) + 1 := by
  refine fw_sub ?_ ?_
  · rintro w ⟨s, j, hs, hj, ha, ht, hw⟩
    rcases AC_b hI hS (p0 := (p : Int)) (by omega) hc (s : Int) with q | ⟨v, v1, v2, v3, v4⟩
    · omega
    · refine ⟨v, j, by omega, hj, v2, ?_⟩
      rw [v3, show (3 * (s : Int) + (j : Int)).toNat = 3 * s + j by omega]; exact ht
  · rintro w ⟨v, j, rfl, hj, hv, hnt⟩
    have d := dS_cl hI (clo_m hI hc) (p := (p : Int)) (by omega) v hv
    obtain ⟨s, hs⟩ := Int.eq_ofNat_of_zero_le d.1
    rcases fw_cases (fun w => wok I w ∧ dS t (p : Int) w = (s : Int)) with ⟨x, a1, a2, a3⟩ | ⟨a1, a2⟩
    · have xv : x ≤ v := Nat.le_of_not_lt fun q => a3 v q ⟨hv, hs⟩
      have e : AC I t (p : Int) (s : Int) = (x : Int) := a1
      refine ⟨4 * x + j + 1, ⟨s, j, by omega, hj, by omega, ?_, by omega⟩, by omega⟩
      rw [hs, show (3 * (s : Int) + (j : Int)).toNat = 3 * s + j by omega] at hnt
      exact hnt
    · exact (a2 v ⟨hv, hs⟩).elim
/-- it has six inputs at most -/
theorem WN_b (hS : S ≤ 6) (hI : I ≤ 3) (hc : clo S t) {tk p : Nat} (hp : p < S) : WN I t tk p = -2 ∨ ∃ v j : Nat, WN I t tk p = ((4 * v + j + 1 : Nat) : Int) ∧ j < I ∧ wok I v ∧ wlen v ≤ 5 ∧ ¬ tk.testBit (3 * dS t (p : Int) v + (j : Int)).toNat = true := by
  rw [WN_ac hS hI hc hp]
  rcases fw_cases (fun w => ∃ s j : Nat, s < S ∧ j < I ∧ 0 ≤ AC I t (p : Int) (s : Int) ∧ ¬ tk.testBit (3 * s + j) = true ∧ (w : Int) = 4 * AC I t (p : Int) (s : Int) + (j : Int) + 1) with ⟨x, a1, ⟨s, j, hs, hj, ha, ht, hw⟩, a3⟩ | ⟨a1, a2⟩
  · rw [a1]
    rcases AC_b hI hS (p0 := (p : Int)) (by omega) hc (s : Int) with q | ⟨v, v1, v2, v3, v4⟩
    · omega
    · refine Or.inr ⟨v, j, by omega, hj, v2, v4, ?_⟩
      rw [v3, show (3 * (s : Int) + (j : Int)).toNat = 3 * s + j by omega]; exact ht
  · exact Or.inl a1
/-- the arcs that are taken along a word; its inputs -/
def tkW (t : Int → Int) (st tk w : Nat) : Nat := if h : w = 0 then tk else tkW t st tk (w / 4) ||| 2 ^ (3 * dS t (st : Int) (w / 4) + ((w % 4 : Nat) : Int) - 1).toNat
termination_by w
decreasing_by omega
def dg (w : Nat) : List Nat := if h : w = 0 then [] else dg (w / 4) ++ [w % 4 - 1]
termination_by w
decreasing_by omega
theorem tkW_0 (st tk : Nat) : tkW t st tk 0 = tk := by unfold tkW; simp
theorem tkW_c (st tk v : Nat) {j : Nat} (hj : j < 3) : tkW t st tk (4 * v + j + 1) = tkW t st tk v ||| 2 ^ (3 * dS t (st : Int) v + (j : Int)).toNat := by
  rw [tkW, dif_neg (by omega), show (4 * v + j + 1) / 4 = v by omega, show (4 * v + j + 1) % 4 = j + 1 by omega]
  congr 3; omega
theorem dg_0 : dg 0 = [] := by unfold dg; simp
theorem dg_c (v : Nat) {j : Nat} (hj : j < 3) : dg (4 * v + j + 1) = dg v ++ [j] := by
  rw [dg, dif_neg (by omega), show (4 * v + j + 1) / 4 = v by omega, show (4 * v + j + 1) % 4 = j + 1 by omega]
  rfl
theorem dg_len : ∀ w, wok 3 w → (dg w).length = wlen w ∧ ∀ x ∈ dg w, x < 3 := by
  refine w_ind (by omega) ?_ ?_
  · rw [dg_0, wlen_0]; exact ⟨rfl, fun x hx => by cases hx⟩
  · intro v j h1 h2 h3 ih
    rw [dg_c _ h2, wlen_c _ h2, List.length_append, ih.1]
    refine ⟨rfl, fun x hx => ?_⟩
    rcases List.mem_append.mp hx with q | q
    · exact ih.2 x q
    · rw [List.mem_singleton.mp q]; exact h2
theorem dg_m {m : Nat} (hm : m ≤ 3) : ∀ w, wok m w → ∀ x ∈ dg w, x < m := by
  refine w_ind hm ?_ ?_
  · rw [dg_0]; exact fun x hx => by cases hx
  · intro v j h1 h2 h3 ih
    rw [dg_c _ h2]
    intro x hx
    rcases List.mem_append.mp hx with q | q
    · exact ih x q
    · rw [List.mem_singleton.mp q]; exact h1
/-- the walk: taken, stand, inputs -/
abbrev WS := Nat × Nat × List Nat
def goW (t : Int → Int) (x : WS) (w : Nat) : WS := (tkW t x.2.1 x.1 w, (dS t (x.2.1 : Int) w).toNat, x.2.2 ++ dg w)
noncomputable def stepW (S I : Nat) (t o : Int → Int) (wh : Nat) (x : WS) : WS := if WN I t x.1 x.2.1 = -2 then x else if wh = 1 ∧ 0 < SGN S I t o (goW t x (WN I t x.1 x.2.1).toNat).2.1 then goW t (goW t x (WN I t x.1 x.2.1).toNat) (SGN S I t o (goW t x (WN I t x.1 x.2.1).toNat).2.1).toNat else goW t x (WN I t x.1 x.2.1).toNat
noncomputable def itW (S I : Nat) (t o : Int → Int) (wh : Nat) : Nat → WS
  | 0 => (0, 0, [])
  | n + 1 => stepW S I t o wh (itW S I t o wh n)
/-- the inputs of the tour, of the check -/
noncomputable def TOUR (S I : Nat) (t o : Int → Int) (wh : Nat) : List Nat := (itW S I t o wh 18).2.2
theorem tkW_lt (hS : S ≤ 6) (hI : I ≤ 3) (hc : clo S t) {st tk : Nat} (hst : st < S) (htk : tk < 2 ^ (3 * S)) : ∀ w, wok I w → tkW t st tk w < 2 ^ (3 * S) ∧ ∀ b, tk.testBit b = true → (tkW t st tk w).testBit b = true := by
  refine w_ind hI ?_ ?_
  · rw [tkW_0]; exact ⟨htk, fun b h => h⟩
  · intro v j h1 h2 h3 ih
    have d := dS_cl hI (clo_m hI hc) (p := (st : Int)) (by omega) v h3
    rw [tkW_c _ _ _ h2]
    refine ⟨lt_of_tb fun i hi => ?_, fun b h => ?_⟩
    · rw [tb_or, tb_lt ih.1 hi]
      simp
      omega
    · rw [tb_or, ih.2 b h]; rfl
/-- so far -/
def okW (S I : Nat) (k : Nat) (x : WS) : Prop := x.1 < 2 ^ (3 * S) ∧ x.2.1 < S ∧ x.2.2.length ≤ k ∧ ∀ y ∈ x.2.2, y < I
theorem goW_ok (hS : S ≤ 6) (hI : I ≤ 3) (hc : clo S t) {x : WS} {k w l : Nat} (hx : okW S I k x) (hw : wok I w) (hl : wlen w ≤ l) : okW S I (k + l) (goW t x w) := by
  obtain ⟨h1, h2, h3, h4⟩ := hx
  have d := dS_cl hI (clo_m hI hc) (p := (x.2.1 : Int)) (by omega) w hw
  have g := dg_len w (wok3 hI hw)
  refine ⟨(tkW_lt hS hI hc h2 h1 w hw).1, by show (dS t (x.2.1 : Int) w).toNat < S; omega, ?_, fun y hy => ?_⟩
  · show (x.2.2 ++ dg w).length ≤ k + l
    rw [List.length_append, g.1]; omega
  · rcases List.mem_append.mp hy with q | q
    · exact h4 y q
    · exact dg_m hI w hw y q
/-- a step takes an arc more -/
theorem stepW_ok (hS : S ≤ 6) (hI : I ≤ 3) (hc : clo S t) {wh k : Nat} {x : WS} (hx : okW S I k x) (hn : WN I t x.1 x.2.1 ≠ -2) : okW S I (k + 14) (stepW S I t o wh x) ∧ (∀ b, x.1.testBit b = true → (stepW S I t o wh x).1.testBit b = true) ∧ ∃ b, b < 3 * S ∧ ¬ x.1.testBit b = true ∧ (stepW S I t o wh x).1.testBit b = true := by
  rcases WN_b hS hI hc (tk := x.1) hx.2.1 with q | ⟨v, j, e, hj, hv, hl, hb⟩
  · exact (hn q).elim
  · have hw : wok I (4 * v + j + 1) := (wok_cc (by omega)).mpr ⟨hj, hv⟩
    have hwl : wlen (4 * v + j + 1) ≤ 6 := by rw [wlen_c _ (by omega)]; omega
    have g := goW_ok hS hI hc hx hw hwl
    have d := dS_cl hI (clo_m hI hc) (p := (x.2.1 : Int)) (by have := hx.2.1; omega) v hv
    have en : (WN I t x.1 x.2.1).toNat = 4 * v + j + 1 := by omega
    have k1 := (tkW_lt hS hI hc hx.2.1 hx.1 _ hw).2
    have nb : (goW t x (4 * v + j + 1)).1.testBit (3 * dS t (x.2.1 : Int) v + (j : Int)).toNat = true := by
      show (tkW t x.2.1 x.1 (4 * v + j + 1)).testBit _ = true
      rw [tkW_c _ _ _ (by omega), tb_or]; simp
    unfold stepW
    rw [if_neg hn, en]
    by_cases z : wh = 1 ∧ 0 < SGN S I t o (goW t x (4 * v + j + 1)).2.1
    · rw [if_pos z]
      rcases fw_cases (fun w => wok I w ∧ wlen w ≤ 8 ∧ isSg S I t o (goW t x (4 * v + j + 1)).2.1 w) with ⟨u, a1, a2, a3⟩ | ⟨a1, _⟩
      · have eu : SGN S I t o (goW t x (4 * v + j + 1)).2.1 = (u : Int) := a1
        rw [eu]
        have g2 := goW_ok hS hI hc g a2.1 a2.2.1
        have k2 := (tkW_lt hS hI hc g.2.1 g.1 _ a2.1).2
        refine ⟨by rw [show k + 14 = k + 6 + 8 by omega]; exact g2, fun b hb2 => k2 b (k1 b hb2), _, by omega, hb, k2 _ nb⟩
      · have eu : SGN S I t o (goW t x (4 * v + j + 1)).2.1 = -2 := a1
        omega
    · rw [if_neg z]
      exact ⟨⟨g.1, g.2.1, by have := g.2.2.1; omega, g.2.2.2⟩, fun b hb2 => k1 b hb2, _, by omega, hb, nb⟩
theorem itW_ok (hS : S ≤ 6) (hS0 : 0 < S) (hI : I ≤ 3) (hc : clo S t) (wh : Nat) : ∀ n, okW S I (14 * n) (itW S I t o wh n)
  | 0 => ⟨Nat.pow_pos (by decide), hS0, Nat.le_refl 0, fun y hy => by cases hy⟩
  | n + 1 => by
    have ih : okW S I (14 * n) (itW S I t o wh n) := itW_ok hS hS0 hI hc wh n
    show okW S I (14 * (n + 1)) (stepW S I t o wh (itW S I t o wh n))
    by_cases z : WN I t (itW S I t o wh n).1 (itW S I t o wh n).2.1 = -2
    · unfold stepW; rw [if_pos z]
      exact ⟨ih.1, ih.2.1, by have := ih.2.2.1; omega, ih.2.2.2⟩
    · have := (stepW_ok (o := o) (wh := wh) hS hI hc ih z).1
      rw [show 14 * (n + 1) = 14 * n + 14 by omega]; exact this
theorem cntB_lt {P R : Nat → Bool} {b : Nat} (h : ∀ i, P i = true → R i = true) (hb : ¬ P b = true) (hb2 : R b = true) : ∀ n, cntB P n ≤ cntB R n ∧ (b < n → cntB P n < cntB R n)
  | 0 => ⟨Nat.le_refl 0, fun h => by omega⟩
  | n + 1 => by
    obtain ⟨i1, i2⟩ := cntB_lt h hb hb2 n
    rw [cntB_s, cntB_s]
    by_cases z : P n = true
    · rw [if_pos z, if_pos (h n z)]
      refine ⟨by omega, fun hn => ?_⟩
      by_cases e : b = n
      · subst e; exact (hb z).elim
      · have := i2 (by omega); omega
    · rw [if_neg z]
      by_cases e : b = n
      · subst e; rw [if_pos hb2]; exact ⟨by omega, fun _ => by omega⟩
      · refine ⟨by split <;> omega, fun hn => ?_⟩
        have := i2 (by omega)
        split <;> omega
/-- eighteen steps are enough -/
theorem itW_cnt (hS : S ≤ 6) (hS0 : 0 < S) (hI : I ≤ 3) (hc : clo S t) (wh : Nat) : ∀ n, WN I t (itW S I t o wh n).1 (itW S I t o wh n).2.1 = -2 ∨ n ≤ cntB (fun i => (itW S I t o wh n).1.testBit i) (3 * S)
  | 0 => Or.inr (Nat.zero_le _)
  | n + 1 => by
    have ih : WN I t (itW S I t o wh n).1 (itW S I t o wh n).2.1 = -2 ∨ n ≤ cntB (fun i => (itW S I t o wh n).1.testBit i) (3 * S) := itW_cnt hS hS0 hI hc wh n
    by_cases z : WN I t (itW S I t o wh n).1 (itW S I t o wh n).2.1 = -2
    · have e : itW S I t o wh (n + 1) = itW S I t o wh n := by
        show stepW S I t o wh (itW S I t o wh n) = _
        unfold stepW; rw [if_pos z]
      rw [e]; exact Or.inl z
    · obtain ⟨_, s2, b, s3, s4, s5⟩ := stepW_ok (o := o) (wh := wh) hS hI hc (itW_ok hS hS0 hI hc wh n) z
      have l := (cntB_lt (P := fun i => (itW S I t o wh n).1.testBit i) (R := fun i => (stepW S I t o wh (itW S I t o wh n)).1.testBit i) s2 s4 s5 (3 * S)).2 s3
      have i2 := ih.resolve_left z
      right
      show n + 1 ≤ cntB (fun i => (stepW S I t o wh (itW S I t o wh n)).1.testBit i) (3 * S)
      omega
theorem cntB_all {P : Nat → Bool} : ∀ n, cntB P n = n → ∀ i, i < n → P i = true
  | 0, _, i, h => by omega
  | n + 1, e, i, h => by
    rw [cntB_s] at e
    have := cntB_le P n
    by_cases z : P n = true
    · rw [if_pos z] at e
      by_cases y : i = n
      · subst y; exact z
      · exact cntB_all n (by omega) i (by omega)
    · rw [if_neg z] at e; omega
theorem itW_18 (hS : S ≤ 6) (hS0 : 0 < S) (hI : I ≤ 3) (hc : clo S t) (wh : Nat) : WN I t (itW S I t o wh 18).1 (itW S I t o wh 18).2.1 = -2 := by
  have ok := itW_ok (o := o) hS hS0 hI hc wh 18
  rcases itW_cnt (o := o) hS hS0 hI hc wh 18 with q | q
  · exact q
  · have l := cntB_le (fun i => (itW S I t o wh 18).1.testBit i) (3 * S)
    have all := cntB_all (3 * S) (show cntB (fun i => (itW S I t o wh 18).1.testBit i) (3 * S) = 3 * S by omega)
    rcases WN_b hS hI hc (tk := (itW S I t o wh 18).1) ok.2.1 with q | ⟨v, j, e, hj, hv, hl, hb⟩
    · exact q
    · have d := dS_cl hI (clo_m hI hc) (p := ((itW S I t o wh 18).2.1 : Int)) (by have := ok.2.1; omega) v hv
      exact (hb (all _ (by omega))).elim
theorem itW_stop {wh n : Nat} (h : WN I t (itW S I t o wh n).1 (itW S I t o wh n).2.1 = -2) : ∀ d, itW S I t o wh (n + d) = itW S I t o wh n
  | 0 => rfl
  | d + 1 => by
    show stepW S I t o wh (itW S I t o wh (n + d)) = _
    rw [itW_stop h d]
    unfold stepW; rw [if_pos h]
end
