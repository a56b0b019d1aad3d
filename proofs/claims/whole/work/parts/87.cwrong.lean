-- deps: 18 19 20 21 23 24 25 26 27 28 29 22 30 31 32 33 34 35 38 39 40 41 42 43 44 45 46 47 48 49 50 62 63 64 67 68 69 70 71 72 73 74 75 76 77 78 79
/-! where a test's outputs differ first; the class -/
section
variable {Q : RP} {n : Nat} {hr h : HP} {S I : Nat} {t o t' o' : Int → Int}
/-- without its last m inputs a word still fails, without one more it doesn't -/
def WMs (t o t' o' : Int → Int) (w m : Nat) : Prop := m < wlen w ∧ RN t o t' o' (w / 4 ^ m) < 0 ∧ 0 ≤ RN t o t' o' (w / 4 ^ (m + 1))
noncomputable def WM (t o t' o' : Int → Int) (w : Nat) : Nat := by
  classical exact if e : ∃ m, WMs t o t' o' w m then e.choose else 0
theorem w_cases {w : Nat} (hw : wok 3 w) (h0 : w ≠ 0) : ∃ v i, i < 3 ∧ wok 3 v ∧ w = 4 * v + i + 1 ∧ v = w / 4 := by
  have := (wok_s h0).mp hw
  exact ⟨w / 4, w % 4 - 1, by omega, this.2, by omega, rfl⟩
theorem RN_m (hm : mok t o) (hm' : mok t' o') {w : Nat} (hw : wok 3 w) (hf : RN t o t' o' (w / 4) < 0) : RN t o t' o' w < 0 := by
  by_cases z : w = 0
  · subst z; exact hf
  · obtain ⟨v, i, a1, a2, a3, a4⟩ := w_cases hw z
    rw [← a4] at hf
    rw [a3, RN_c hm hm' a1 a2, if_pos hf]; decide
theorem RN_mm (hm : mok t o) (hm' : mok t' o') {w : Nat} (hw : wok 3 w) (m d : Nat) (hf : RN t o t' o' (w / 4 ^ (m + d)) < 0) : RN t o t' o' (w / 4 ^ m) < 0 := by
  induction d with
  | zero => exact hf
  | succ d ih =>
    refine ih (RN_m hm hm' (wok_divp _ hw) ?_)
    rw [← div_s]; exact hf
theorem WM_of (hm : mok t o) (hm' : mok t' o') {w m : Nat} (hw : wok 3 w) (h : WMs t o t' o' w m) : WM t o t' o' w = m := by
  have ex : ∃ m, WMs t o t' o' w m := ⟨m, h⟩
  have c := ex.choose_spec
  have e : WM t o t' o' w = ex.choose := by unfold WM; rw [dif_pos ex]
  rw [e]
  generalize ex.choose = k at c
  rcases Nat.lt_trichotomy k m with q | q | q
  · have := RN_mm hm hm' hw (k + 1) (m - (k + 1)) (by rw [show k + 1 + (m - (k + 1)) = m by omega]; exact h.2.1)
    have := c.2.2; omega
  · exact q
  · have := RN_mm hm hm' hw (m + 1) (k - (m + 1)) (by rw [show m + 1 + (k - (m + 1)) = k by omega]; exact c.2.1)
    have := h.2.2; omega
/-- a word that fails has such a place -/
theorem WMs_ex (hm : mok t o) (hm' : mok t' o') {w : Nat} (hw : wok 3 w) : ∀ d m, wlen w - m = d → RN t o t' o' (w / 4 ^ m) < 0 → ∃ m, WMs t o t' o' w m
  | 0, m, hd, hf => by
    have : w / 4 ^ m = 0 := d4.mpr (wlen_le.mp (by omega))
    rw [this, RN_0] at hf; omega
  | d + 1, m, hd, hf => by
    by_cases z : RN t o t' o' (w / 4 ^ (m + 1)) < 0
    · exact WMs_ex hm hm' hw d (m + 1) (by omega) z
    · exact ⟨m, by omega, hf, by omega⟩
theorem WM_sp (hm : mok t o) (hm' : mok t' o') {w : Nat} (hw : wok 3 w) (hf : RN t o t' o' w < 0) : WMs t o t' o' w (WM t o t' o' w) := by
  obtain ⟨m, h⟩ := WMs_ex hm hm' hw (wlen w) 0 (by omega) (by simpa using hf)
  rw [WM_of hm hm' hw h]; exact h
/-- the place, the output -/
noncomputable def WPl (t o t' o' : Int → Int) (w : Nat) : Int := (wlen w : Int) - 1 - (WM t o t' o' w : Int)
noncomputable def WOu (t o t' o' : Int → Int) (w : Nat) : Int := o' (3 * RN t o t' o' (w / 4 ^ (WM t o t' o' w + 1)) + (((w / 4 ^ WM t o t' o' w % 4 : Nat) : Int) - 1))
theorem RN_neg (hm' : mok t' o') {w : Nat} (hw : wok 3 w) : RN t o t' o' w < 0 ↔ aS t o 0 w ≠ aS t' o' 0 w := by
  have d := dS_in hm' (p := 0) (by omega) hw
  unfold RN; split
  · exact ⟨fun q => by omega, fun q => by contradiction⟩
  · exact ⟨fun _ => by assumption, fun _ => by omega⟩
/-- up from a node -/
theorem TXo_up {x : Int} {os : List Nat} (O : TXo t o h x os) (h0 : os[0]? = some 0) (hok : ∀ w ∈ os, wok 3 w) {k w : Nat} (hk : os[k]? = some w) (hw : w ≠ 0) : ∃ p i : Nat, 0 < k ∧ p < k ∧ os[p]? = some (w / 4) ∧ i < 3 ∧ i + 1 = w % 4 ∧ h (x + 1) (k : Int) = (p : Int) ∧ h (x + 2) (k : Int) = (i : Int) := by
  have k0 : 0 < k := by
    rcases Nat.eq_zero_or_pos k with z | z
    · subst z; rw [h0] at hk; cases hk; exact absurd rfl hw
    · exact z
  obtain ⟨p, u, i, b1, b2, b3, b4, b5, b6, b7⟩ := O.2 k w k0 hk
  exact ⟨p, i, k0, b1, by rw [show w / 4 = u by omega]; exact b2, b3, by omega, b5, b6⟩
theorem sp_E_stepsBehindWrong {x nl tl : Int} {os lf : List Nat} {k w : Nat} (R : trow hr x n nl tl) (hm : mok t o) (hm' : mok t' o') (O : TXo t o h x os) (L : TXl h x os lf) (h0 : os[0]? = some 0) (hok : ∀ w ∈ os, wok 3 w) (hl : (lf.length : Int) ≤ tl) (hl2 : (os.length : Int) ≤ nl) (A : ATS t o t' o' h os os.length) (hk : lf[k]? = some w) (hf : RN t o t' o' w < 0) (hlen : wlen w ≤ 252) (hQ : Q (0, (WM t o t' o' w : Int)) n hr h) : f_E_stepsBehindWrong [(2, x), (0, (k : Int))] n hr h Q := by
  obtain ⟨q0, q1, q2, q3, q4, q5, q6, q7, q8, q9⟩ := R
  have kl := (List.getElem?_eq_some_iff.mp hk).1
  obtain ⟨e, e1, e2, e3⟩ := L.2 k w hk
  have wk := hok w (List.mem_of_getElem? e2)
  have key : ∀ d m j : Nat, wlen w - m = d → os[j]? = some (w / 4 ^ m) → RN t o t' o' (w / 4 ^ m) < 0 → p_E_stepsBehindWrong_9 (n + 0) (ai_q 0 n Q) x (k : Int) (j : Int) (m : Int) n hr h := by
    intro d
    induction d with
    | zero =>
      intro m j hd hj hf
      have : w / 4 ^ m = 0 := d4.mpr (wlen_le.mp (by omega))
      rw [this, RN_0] at hf; omega
    | succ d ih =>
      intro m j hd hj hf
      have ne : w / 4 ^ m ≠ 0 := div_ne (by omega)
      obtain ⟨p, i, c1, c2, c3, c4, c5, c6, c7⟩ := TXo_up O h0 hok hj ne
      rw [← div_s] at c3
      have jl := (List.getElem?_eq_some_iff.mp hj).1
      have ap := A p _ (by omega) c3
      refine b_E_stepsBehindWrong_9 ?_
      simp (disch := omega) only [q0, q1, q6, q7, e3, c6, ap, true_and]
      repeat (refine ⟨by omega, ?_⟩)
      refine fun _ => ?_
      repeat (refine ⟨by omega, ?_⟩)
      refine ⟨fun z => ?_, fun z => ?_⟩
      · have := WM_of hm hm' wk (m := m) ⟨by omega, hf, z⟩
        rw [this] at hQ
        exact (by first | exact q_at rfl (hQ) | exact (hQ))
      · rw [w32_id (by omega) (by omega)]
        repeat (refine ⟨by omega, ?_⟩)
        exact ih (m + 1) p (by omega) c3 z
  apply e_E_stepsBehindWrong
  simp (disch := omega) only [q0, q4, e1, true_and]
  repeat (refine ⟨by omega, ?_⟩)
  exact key _ 0 e rfl (by simpa using e2) (by simpa using hf)
theorem sp_E_wrongPlace {x nl tl : Int} {os lf : List Nat} {k w : Nat} (R : trow hr x n nl tl) (hm : mok t o) (hm' : mok t' o') (O : TXo t o h x os) (L : TXl h x os lf) (h0 : os[0]? = some 0) (hok : ∀ w ∈ os, wok 3 w) (hl : (lf.length : Int) ≤ tl) (hl2 : (os.length : Int) ≤ nl) (A : ATS t o t' o' h os os.length) (hk : lf[k]? = some w) (hf : RN t o t' o' w < 0) (hlen : wlen w ≤ 252) (hQ : Q (0, WPl t o t' o' w) n hr h) : f_E_wrongPlace [(2, x), (0, (k : Int))] n hr h Q := by
  have R0 := R
  obtain ⟨q0, q1, q2, q3, q4, q5, q6, q7, q8, q9⟩ := R
  have kl := (List.getElem?_eq_some_iff.mp hk).1
  obtain ⟨e, e1, e2, e3⟩ := L.2 k w hk
  have wk := hok w (List.mem_of_getElem? e2)
  have sp := (WM_sp hm hm' wk hf).1
  apply e_E_wrongPlace
  simp (disch := omega) only [q0, q6, e3, w32_id, true_and]
  repeat (refine ⟨by omega, ?_⟩)
  refine sp_E_stepsBehindWrong R0 hm hm' O L h0 hok hl hl2 A hk hf hlen ?_
  simp (disch := omega) only [q0, q6, e3, w32_id, true_and]
  exact (by first | exact q_at rfl (hQ) | exact (hQ))
theorem sp_E_wrongOutput {x m nl tl : Int} {os lf : List Nat} {k w : Nat} (R : trow hr x n nl tl) (M : mrow hr m n) (hm : mok t o) (hm' : mok t' o') (r2 : r24 (h (m + 2)) o') (O : TXo t o h x os) (L : TXl h x os lf) (h0 : os[0]? = some 0) (hok : ∀ w ∈ os, wok 3 w) (hl : (lf.length : Int) ≤ tl) (hl2 : (os.length : Int) ≤ nl) (A : ATS t o t' o' h os os.length) (hk : lf[k]? = some w) (hf : RN t o t' o' w < 0) (hlen : wlen w ≤ 252) (hQ : Q (0, WOu t o t' o' w) n hr h) : f_E_wrongOutput [(2, x), (0, (k : Int)), (2, m)] n hr h Q := by
  have R0 := R
  obtain ⟨q0, q1, q2, q3, q4, q5, q6, q7, q8, q9⟩ := R
  obtain ⟨m0, m1, m2, m3, m4, m5, m6⟩ := M
  have kl := (List.getElem?_eq_some_iff.mp hk).1
  obtain ⟨e, e1, e2, e3⟩ := L.2 k w hk
  have wk := hok w (List.mem_of_getElem? e2)
  have sp := WM_sp hm hm' wk hf
  apply e_E_wrongOutput
  simp (disch := omega) only [q0, q4, e1, true_and]
  repeat (refine ⟨by omega, ?_⟩)
  refine sp_E_stepsBehindWrong R0 hm hm' O L h0 hok hl hl2 A hk hf hlen ?_
  unfold WOu at hQ
  generalize WM t o t' o' w = B at hQ sp
  have loop := lupN (N := B) (P := fun c => ∀ j : Nat, os[j]? = some (w / 4 ^ c) → p_E_wrongOutput_17 (n + 0) (ai_q 0 n Q) x m (j : Int) (B : Int) (c : Int) n hr h) ?_ ?_
  · exact loop e (by simpa using e2)
  · intro j hj
    have ne : w / 4 ^ B ≠ 0 := div_ne sp.1
    obtain ⟨p, i, c1, c2, c3, c4, c5, c6, c7⟩ := TXo_up O h0 hok hj ne
    rw [← div_s] at c3
    have jl := (List.getElem?_eq_some_iff.mp hj).1
    have ap := A p _ (by omega) c3
    have rb := RN_b (t := t) (o := o) hm' (wok_divp (B + 1) wk)
    refine b_E_wrongOutput_17 ?_
    simp (disch := omega) only [q0, q1, q2, q7, c6, c7, ap, true_and]
    refine ⟨fun _ => ?_, fun z => by omega⟩
    repeat (refine ⟨by omega, ?_⟩)
    refine ⟨fun _ => ?_, fun z => by have := sp.2.2; omega⟩
    have g2 := r2 (3 * RN t o t' o' (w / 4 ^ (B + 1)) + (i : Int)) (by omega) (by omega)
    have ea : RN t o t' o' (w / 4 ^ (B + 1)) * 3 + (i : Int) = 3 * RN t o t' o' (w / 4 ^ (B + 1)) + (i : Int) := by omega
    have ei : ((w / 4 ^ B % 4 : Nat) : Int) - 1 = (i : Int) := by omega
    rw [ei] at hQ
    simp (disch := omega) only [m0, m1, m2, m3, m4, m5, m6, w32_id, ea, g2, true_and]
    repeat (refine ⟨by omega, ?_⟩)
    exact (by first | exact q_at rfl (hQ) | exact (hQ))
  · intro c hc ih j hj
    have ne : w / 4 ^ c ≠ 0 := div_ne (by have := sp.1; omega)
    obtain ⟨p, i, c1, c2, c3, c4, c5, c6, c7⟩ := TXo_up O h0 hok hj ne
    rw [← div_s] at c3
    have jl := (List.getElem?_eq_some_iff.mp hj).1
    have sl := sp.1
    refine b_E_wrongOutput_17 ?_
    simp (disch := omega) only [q0, q1, c6, w32_id, true_and]
    refine ⟨fun z => by omega, fun _ => ?_⟩
    repeat (refine ⟨by omega, ?_⟩)
    exact ih p c3
end
