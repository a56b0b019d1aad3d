-- deps: 18 19 20 21 23 24 25 26 27 28 29 22 30 31 32 33 34 35 38 39 40 41 42 43 44 45 46 47 48 49 50 62 63 64 67 68 69 70 71 72 73 74 75 76 77 78
/-! the class: what failed, and where -/
/-- inputs of the first k tests, the most of one -/
def smK (lf : List Nat) : Nat → Nat
  | 0 => 0
  | k + 1 => smK lf k + wlen (lf[k]?.getD 0)
def mxK (lf : List Nat) : Nat → Nat
  | 0 => 0
  | k + 1 => max (mxK lf k) (wlen (lf[k]?.getD 0))
theorem smK_b {lf : List Nat} {c : Nat} (h : ∀ w ∈ lf, wlen w ≤ c) : ∀ k, k ≤ lf.length → smK lf k ≤ c * k ∧ mxK lf k ≤ c
  | 0, _ => ⟨Nat.le_refl _, Nat.zero_le _⟩
  | k + 1, hk => by
    obtain ⟨i1, i2⟩ := smK_b h k (by omega)
    have e : lf[k]? = some lf[k] := List.getElem?_eq_getElem (by omega)
    have := h _ (List.getElem_mem (show k < lf.length by omega))
    rw [smK, mxK, e, Nat.mul_succ]
    simp only [Option.getD_some]
    exact ⟨by omega, by omega⟩
/-- the k-th test fails -/
def fl (t o t' o' : Int → Int) (lf : List Nat) (k : Nat) : Prop := ∃ w, lf[k]? = some w ∧ aS t o 0 w ≠ aS t' o' 0 w
section
variable {Q : RP} {n : Nat} {hr h : HP} {S I : Nat} {t o t' o' : Int → Int}
theorem sp_E_inputsInSum {x nl tl : Int} {os lf : List Nat} (R : trow hr x n nl tl) (L : TXl h x os lf) (hl : (lf.length : Int) ≤ tl) (h9 : lf.length ≤ 2000) (hw : ∀ w ∈ lf, wlen w ≤ 252) (hQ : Q (0, (smK lf lf.length : Int)) n hr h) : f_E_inputsInSum [(2, x)] n hr h Q := by
  obtain ⟨q0, q1, q2, q3, q4, q5, q6, q7, q8, q9⟩ := R
  apply e_E_inputsInSum
  have := lupN (N := lf.length) (P := fun k => p_E_inputsInSum_4 (n + 0) (ai_q 0 n Q) x (smK lf k : Int) (k : Int) n hr h) ?_ ?_
  · exact this
  · refine b_E_inputsInSum_4 ?_
    simp only [q0, L.1, true_and]
    exact ⟨fun _ => q_at rfl hQ, fun z => by omega⟩
  · intro k hk ih
    have hv := List.getElem?_eq_getElem hk
    generalize lf[k] = w at hv
    obtain ⟨e, e1, e2, e3⟩ := L.2 k w hv
    have b := smK_b hw k (by omega)
    have b2 := hw w (List.mem_of_getElem? hv)
    rw [smK, hv] at ih
    simp only [Option.getD_some] at ih
    refine b_E_inputsInSum_4 ?_
    simp only [q0, L.1, true_and]
    refine ⟨fun z => by omega, fun _ => ?_⟩
    simp (disch := omega) only [q6, e3, w32_id, true_and]
    repeat (refine ⟨by omega, ?_⟩)
    exact ih
theorem sp_E_mostInputs {x nl tl : Int} {os lf : List Nat} (R : trow hr x n nl tl) (L : TXl h x os lf) (hl : (lf.length : Int) ≤ tl) (h9 : lf.length ≤ 2000) (hQ : Q (0, (mxK lf lf.length : Int)) n hr h) : f_E_mostInputs [(2, x)] n hr h Q := by
  obtain ⟨q0, q1, q2, q3, q4, q5, q6, q7, q8, q9⟩ := R
  apply e_E_mostInputs
  have := lupN (N := lf.length) (P := fun k => p_E_mostInputs_4 (n + 0) (ai_q 0 n Q) x (mxK lf k : Int) (k : Int) n hr h) ?_ ?_
  · exact this
  · refine b_E_mostInputs_4 ?_
    simp only [q0, L.1, true_and]
    exact ⟨fun _ => q_at rfl hQ, fun z => by omega⟩
  · intro k hk ih
    have hv := List.getElem?_eq_getElem hk
    generalize lf[k] = w at hv
    obtain ⟨e, e1, e2, e3⟩ := L.2 k w hv
    rw [mxK, hv] at ih
    simp only [Option.getD_some] at ih
    refine b_E_mostInputs_4 ?_
    simp only [q0, L.1, true_and]
    refine ⟨fun z => by omega, fun _ => ?_⟩
    simp (disch := omega) only [q6, e3, w32_id, true_and]
    repeat (refine ⟨by omega, ?_⟩)
    have em : i_max (mxK lf k : Int) (wlen w : Int) = ((max (mxK lf k) (wlen w) : Nat) : Int) := by unfold i_max; (try split) <;> omega
    rw [em]
    exact ih
theorem sp_E_isFailed {x nl tl : Int} {os lf : List Nat} {k : Nat} (R : trow hr x n nl tl) (hm' : mok t' o') (L : TXl h x os lf) (hl : (lf.length : Int) ≤ tl) (hl2 : os.length ≤ 4550) (hok : ∀ w ∈ os, wok 3 w) (A : ATS t o t' o' h os os.length) (hk : k < lf.length) (h1 : fl t o t' o' lf k → Q (0, 1) n hr h) (h0 : ¬ fl t o t' o' lf k → Q (0, 0) n hr h) : f_E_isFailed [(2, x), (0, (k : Int))] n hr h Q := by
  obtain ⟨q0, q1, q2, q3, q4, q5, q6, q7, q8, q9⟩ := R
  have hv := List.getElem?_eq_getElem hk
  generalize lf[k] = w at hv
  obtain ⟨e, e1, e2, e3⟩ := L.2 k w hv
  have el := (List.getElem?_eq_some_iff.mp e2).1
  have ae := A e w el e2
  have d := dS_in hm' (p := 0) (by omega) (hok w (List.mem_of_getElem? e2))
  apply e_E_isFailed
  simp (disch := omega) only [q0, q4, q7, e1, ae, true_and, true_or, or_true]
  repeat (refine ⟨by omega, ?_⟩)
  by_cases z : aS t o 0 w = aS t' o' 0 w
  · have er : RN t o t' o' w = dS t' 0 w := by unfold RN; rw [if_pos z]
    rw [er]
    have H := h0 (fun ⟨v, v1, v2⟩ => by rw [hv] at v1; cases v1; exact v2 z)
    exact ⟨fun _ => (by first | exact q_at rfl (H) | exact (H)), fun y => by omega⟩
  · have er : RN t o t' o' w = -1 := by unfold RN; rw [if_neg z]
    rw [er]
    exact ⟨fun y => by omega, fun _ => (by first | exact q_at rfl (h1 ⟨w, hv, z⟩) | exact (h1 ⟨w, hv, z⟩))⟩
theorem sp_E_failures {x nl tl : Int} {os lf : List Nat} (R : trow hr x n nl tl) (hm' : mok t' o') (L : TXl h x os lf) (hl : (lf.length : Int) ≤ tl) (h9 : lf.length ≤ 2000) (hl2 : os.length ≤ 4550) (hok : ∀ w ∈ os, wok 3 w) (A : ATS t o t' o' h os os.length) (hQ : Q (0, (cntP (fl t o t' o' lf) lf.length : Int)) n hr h) : f_E_failures [(2, x)] n hr h Q := by
  have R0 := R
  obtain ⟨q0, q1, q2, q3, q4, q5, q6, q7, q8, q9⟩ := R
  apply e_E_failures
  have := lupN (N := lf.length) (P := fun k => p_E_failures_4 (n + 0) (ai_q 0 n Q) x (cntP (fl t o t' o' lf) k : Int) (k : Int) n hr h) ?_ ?_
  · exact this
  · refine b_E_failures_4 ?_
    simp only [q0, L.1, true_and]
    exact ⟨fun _ => q_at rfl hQ, fun z => by omega⟩
  · intro k hk ih
    have cl := cntP_le (fl t o t' o' lf) k
    refine b_E_failures_4 ?_
    simp only [q0, L.1, true_and]
    refine ⟨fun z => by omega, fun _ => ?_⟩
    refine sp_E_isFailed R0 hm' L hl hl2 hok A hk (fun z => ?_) (fun z => ?_)
    · rw [cntP_y z] at ih
      refine ⟨fun y => absurd y (by decide), fun _ => ?_⟩
      simp (disch := omega) only [w32_id]
      exact ih
    · rw [cntP_n z] at ih
      refine ⟨fun _ => ?_, fun y => absurd rfl y⟩
      simp (disch := omega) only [w32_id]
      exact ih
theorem sp_E_firstFailure {x nl tl : Int} {os lf : List Nat} (R : trow hr x n nl tl) (hm' : mok t' o') (L : TXl h x os lf) (hl : (lf.length : Int) ≤ tl) (h9 : lf.length ≤ 2000) (hl2 : os.length ≤ 4550) (hok : ∀ w ∈ os, wok 3 w) (A : ATS t o t' o' h os os.length) (hQ1 : ∀ k, k < lf.length → fl t o t' o' lf k → (∀ j, j < k → ¬ fl t o t' o' lf j) → Q (0, (k : Int)) n hr h) (hQ0 : (∀ j, j < lf.length → ¬ fl t o t' o' lf j) → Q (0, -1) n hr h) : f_E_firstFailure [(2, x)] n hr h Q := by
  have R0 := R
  obtain ⟨q0, q1, q2, q3, q4, q5, q6, q7, q8, q9⟩ := R
  apply e_E_firstFailure
  have := lupN (N := lf.length) (P := fun k => (∀ j, j < k → ¬ fl t o t' o' lf j) → p_E_firstFailure_2 (n + 0) (ai_q 0 n Q) x (k : Int) n hr h) ?_ ?_
  · exact this fun j hj => by omega
  · intro g
    refine b_E_firstFailure_2 ?_
    simp only [q0, L.1, true_and]
    exact ⟨fun _ => q_at rfl (hQ0 g), fun z => by omega⟩
  · intro k hk ih g
    refine b_E_firstFailure_2 ?_
    simp only [q0, L.1, true_and]
    refine ⟨fun z => by omega, fun _ => ?_⟩
    refine sp_E_isFailed R0 hm' L hl hl2 hok A hk (fun z => ?_) (fun z => ?_)
    · exact ⟨fun y => absurd y (by decide), fun _ => q_at rfl (hQ1 k hk z g)⟩
    · refine ⟨fun _ => ?_, fun y => absurd rfl y⟩
      rw [w32_id (by omega) (by omega)]
      refine ih fun j hj => ?_
      by_cases y : j = k
      · subst y; exact z
      · exact g j (by omega)
end
