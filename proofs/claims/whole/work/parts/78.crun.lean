-- deps: 18 19 20 21 23 24 25 26 27 28 29 22 30 31 32 33 34 35 38 39 40 41 42 43 44 45 46 47 48 49 50 62 63 64 67 68 69 70 71 72 73 74 75 76 77
/-! the class: a suite's tests are run -/
section
variable {Q : RP} {n : Nat} {hr h : HP} {S I : Nat} {t o t' o' : Int → Int}
/-- where the machine t', o' is behind a word, -1 where an output on the way isn't that of t, o -/
noncomputable def RN (t o t' o' : Int → Int) (w : Nat) : Int := if aS t o 0 w = aS t' o' 0 w then dS t' 0 w else -1
theorem RN_0 : RN t o t' o' 0 = 0 := by unfold RN; rw [aS_0, aS_0, if_pos rfl, dS_0]
theorem RN_c (hm : mok t o) (hm' : mok t' o') {v j : Nat} (hj : j < 3) (hv : wok 3 v) : RN t o t' o' (4 * v + j + 1) = if RN t o t' o' v < 0 then -1 else if o' (3 * RN t o t' o' v + (j : Int)) = o (3 * dS t 0 v + (j : Int)) then t' (3 * RN t o t' o' v + (j : Int)) else -1 := by
  have e := aS_eq_c hm hm' (p := 0) (q := 0) (by omega) (by omega) hj hv
  have d := dS_in hm' (p := 0) (by omega) hv
  unfold RN
  by_cases z : aS t o 0 v = aS t' o' 0 v
  · rw [if_pos z, if_neg (show ¬ dS t' 0 v < 0 by omega)]
    by_cases y : o (3 * dS t 0 v + (j : Int)) = o' (3 * dS t' 0 v + (j : Int))
    · rw [if_pos (e.mpr ⟨z, y⟩), if_pos y.symm, dS_c _ _ _ hj]
    · rw [if_neg (fun q => y (e.mp q).2), if_neg (fun q => y q.symm)]
  · rw [if_neg z, if_neg (fun q => z (e.mp q).1), if_pos (by omega)]
theorem RN_b (hm' : mok t' o') {w : Nat} (hw : wok 3 w) : RN t o t' o' w = -1 ∨ (0 ≤ RN t o t' o' w ∧ RN t o t' o' w < 8) := by
  have d := dS_in hm' (p := 0) (by omega) hw
  unfold RN; split
  · exact Or.inr d
  · exact Or.inl rfl
/-- what stands in `at` -/
def ATS (t o t' o' : Int → Int) (h : HP) (os : List Nat) (k : Nat) : Prop := ∀ j w : Nat, j < k → os[j]? = some w → h 45 (j : Int) = RN t o t' o' w
theorem sp_E_step {x m nl tl : Int} {os : List Nat} {k w : Nat} (R : trow hr x n nl tl) (M : mrow hr m n) (hm : mok t o) (hm' : mok t' o') (r1 : r24 (h (m + 1)) t') (r2 : r24 (h (m + 2)) o') (O : TXo t o h x os) (hok : ∀ w ∈ os, wok 3 w) (hl : (os.length : Int) ≤ nl) (A : ATS t o t' o' h os k) (hk0 : 0 < k) (hk : os[k]? = some w) (hQ : Q (0, RN t o t' o' w) n hr h) : f_E_step [(2, x), (2, m), (0, (k : Int))] n hr h Q := by
  obtain ⟨q0, q1, q2, q3, q4, q5, q6, q7, q8, q9⟩ := R
  obtain ⟨m0, m1, m2, m3, m4, m5, m6⟩ := M
  obtain ⟨p, u, i, b1, b2, b3, b4, b5, b6, b7⟩ := O.2 k w hk0 hk
  have kl := (List.getElem?_eq_some_iff.mp hk).1
  have ap := A p u b1 b2
  have uo := hok u (List.mem_of_getElem? b2)
  have rc := RN_c (t := t) (o := o) hm hm' b3 uo
  rw [← b4] at rc
  apply e_E_step
  simp (disch := omega) only [q0, q1, q2, q3, q7, m0, m1, m2, m3, m4, m5, m6, b5, b6, b7, ap, true_and]
  repeat (refine ⟨by omega, ?_⟩)
  refine ⟨fun z => ?_, fun z => ?_⟩
  · rcases RN_b (t := t) (o := o) hm' uo with y | y
    · omega
    · rw [if_neg (by omega)] at rc
      have ea : RN t o t' o' u * 3 + (i : Int) = 3 * RN t o t' o' u + (i : Int) := by omega
      have g1 := r1 (3 * RN t o t' o' u + (i : Int)) (by omega) (by omega)
      have g2 := r2 (3 * RN t o t' o' u + (i : Int)) (by omega) (by omega)
      simp (disch := omega) only [w32_id, ea, g1, g2]
      repeat (refine ⟨by omega, ?_⟩)
      refine ⟨fun y2 => ?_, fun y2 => ?_⟩
      · rw [if_neg y2] at rc; rw [rc] at hQ; exact (by first | exact q_at rfl (hQ) | exact (hQ))
      · rw [if_pos y2] at rc; rw [rc] at hQ
        repeat (refine ⟨by omega, ?_⟩)
        exact (by first | exact q_at rfl (hQ) | exact (hQ))
  · rw [if_pos z] at rc; rw [rc] at hQ; exact (by first | exact q_at rfl (hQ) | exact (hQ))
theorem TXo_fr {x : Int} {os : List Nat} {h1 : HP} (hx : 46 ≤ x ∧ x ≤ 95) (H : TXo t o h x os) (e : EX [45] [] h h1) : TXo t o h1 x os := by
  have k : ∀ c : Int, c ≠ 45 → h1 c = h c := fun c hc => EX_sy e (by simp; omega) (fun j => by simp)
  unfold TXo
  rw [k x (by omega), k (x + 1) (by omega), k (x + 2) (by omega), k (x + 3) (by omega)]
  exact H
theorem ATS_s {os : List Nat} {h1 : HP} {k w : Nat} (A : ATS t o t' o' h1 os k) (hk : os[k]? = some w) : ATS t o t' o' (ai_up h1 45 (k : Int) (RN t o t' o' w)) os (k + 1) := by
  intro j v hj hv
  by_cases z : j = k
  · subst z
    rw [hk] at hv; cases hv
    rw [up_same]
  · rw [up_oth (by omega)]
    exact A j v (by omega) hv
theorem sp_E_run {x m nl tl : Int} {os : List Nat} (R : trow hr x n nl tl) (hx : 46 ≤ x ∧ x ≤ 95) (M : mrow hr m n) (hmx : m + 2 < 45 ∨ 45 < m) (hm : mok t o) (hm' : mok t' o') (r1 : r24 (h (m + 1)) t') (r2 : r24 (h (m + 2)) o') (O : TXo t o h x os) (h0 : os[0]? = some 0) (hok : ∀ w ∈ os, wok 3 w) (hl : (os.length : Int) ≤ nl) (hQ : ∀ h1, EX [45] [] h h1 → ATS t o t' o' h1 os os.length → Q (9, 0) n hr h1) : f_E_run [(2, x), (2, m)] n hr h Q := by
  have R0 := R
  obtain ⟨q0, q1, q2, q3, q4, q5, q6, q7, q8, q9⟩ := R
  have l0 := (List.getElem?_eq_some_iff.mp h0).1
  apply e_E_run
  simp (disch := omega) only [q0, q7, true_and]
  repeat (refine ⟨by omega, ?_⟩)
  obtain ⟨N, hN⟩ : ∃ N, os.length = N + 1 := ⟨os.length - 1, by omega⟩
  have loop := lupN (N := N) (P := fun k => ∀ h1, EX [45] [] h h1 → ATS t o t' o' h1 os (k + 1) → p_E_run_9 (n + 0) (ai_q 0 n Q) x m ((k + 1 : Nat) : Int) n hr h1) ?_ ?_
  · refine loop (ai_up h 45 0 0) (EX_upc EX_rf (by decide)) fun j w hj hw => ?_
    have j0 : j = 0 := by omega
    subst j0
    rw [h0] at hw; cases hw
    rw [RN_0]; exact up_same
  · intro h1 e1 a1
    refine b_E_run_9 ?_
    simp only [q0, (TXo_fr hx O e1).1, true_and]
    exact ⟨fun _ => q_at rfl (hQ h1 e1 (by rw [hN]; exact a1)), fun z => by omega⟩
  · intro k hk ih h1 e1 a1
    have O1 := TXo_fr hx O e1
    have kk : ∀ c : Int, c ≠ 45 → h1 c = h c := fun c hc => EX_sy e1 (by simp; omega) (fun j => by simp)
    have hw := List.getElem?_eq_getElem (l := os) (i := k + 1) (by omega)
    generalize os[k + 1] = w at hw
    refine b_E_run_9 ?_
    simp only [q0, O1.1, true_and]
    refine ⟨fun z => by omega, fun _ => ?_⟩
    refine sp_E_step R0 M hm hm' (by rw [kk _ (by omega)]; exact r1) (by rw [kk _ (by omega)]; exact r2) O1 hok hl a1 (by omega) hw ?_
    simp (disch := omega) only [q0, q7, w32_id, true_and]
    repeat (refine ⟨by omega, ?_⟩)
    exact ih _ (EX_upc e1 (by decide)) (ATS_s a1 hw)
theorem sp_E_isFailedBy {x m nl tl : Int} {os : List Nat} (R : trow hr x n nl tl) (hx : 46 ≤ x ∧ x ≤ 95) (M : mrow hr m n) (hmx : m + 2 < 45 ∨ 45 < m) (hm : mok t o) (hm' : mok t' o') (r1 : r24 (h (m + 1)) t') (r2 : r24 (h (m + 2)) o') (O : TXo t o h x os) (h0 : os[0]? = some 0) (hok : ∀ w ∈ os, wok 3 w) (hl : (os.length : Int) ≤ nl) (hQ1 : ∀ h1, EX [45] [] h h1 → (∃ w ∈ os, aS t o 0 w ≠ aS t' o' 0 w) → Q (0, 1) n hr h1) (hQ0 : ∀ h1, EX [45] [] h h1 → (∀ w ∈ os, aS t o 0 w = aS t' o' 0 w) → Q (0, 0) n hr h1) : f_E_isFailedBy [(2, x), (2, m)] n hr h Q := by
  have R0 := R
  obtain ⟨q0, q1, q2, q3, q4, q5, q6, q7, q8, q9⟩ := R
  have l0 := (List.getElem?_eq_some_iff.mp h0).1
  have neg : ∀ w, wok 3 w → (RN t o t' o' w < 0 ↔ aS t o 0 w ≠ aS t' o' 0 w) := fun w hw => by
    have d := dS_in hm' (p := 0) (by omega) hw
    unfold RN; split
    · exact ⟨fun q => by omega, fun q => by contradiction⟩
    · exact ⟨fun _ => by assumption, fun _ => by omega⟩
  apply e_E_isFailedBy
  simp (disch := omega) only [q0, q7, true_and]
  repeat (refine ⟨by omega, ?_⟩)
  obtain ⟨N, hN⟩ : ∃ N, os.length = N + 1 := ⟨os.length - 1, by omega⟩
  have loop := lupN (N := N) (P := fun k => ∀ h1, EX [45] [] h h1 → ATS t o t' o' h1 os (k + 1) → (∀ j w : Nat, j < k + 1 → os[j]? = some w → aS t o 0 w = aS t' o' 0 w) → p_E_isFailedBy_9 (n + 0) (ai_q 0 n Q) x m ((k + 1 : Nat) : Int) n hr h1) ?_ ?_
  · refine loop (ai_up h 45 0 0) (EX_upc EX_rf (by decide)) (fun j w hj hw => ?_) fun j w hj hw => ?_
    · have j0 : j = 0 := by omega
      subst j0
      rw [h0] at hw; cases hw
      rw [RN_0]; exact up_same
    · have j0 : j = 0 := by omega
      subst j0
      rw [h0] at hw; cases hw
      rw [aS_0, aS_0]
  · intro h1 e1 a1 g1
    refine b_E_isFailedBy_9 ?_
    simp only [q0, (TXo_fr hx O e1).1, true_and, true_or, or_true]
    refine ⟨fun _ => q_at rfl (hQ0 h1 e1 fun w hw => ?_), fun z => by omega⟩
    obtain ⟨j, hj⟩ := mem_at.mp hw
    exact g1 j w (by have := (List.getElem?_eq_some_iff.mp hj).1; omega) hj
  · intro k hk ih h1 e1 a1 g1
    have O1 := TXo_fr hx O e1
    have kk : ∀ c : Int, c ≠ 45 → h1 c = h c := fun c hc => EX_sy e1 (by simp; omega) (fun j => by simp)
    have hw := List.getElem?_eq_getElem (l := os) (i := k + 1) (by omega)
    generalize os[k + 1] = w at hw
    have wm := List.mem_of_getElem? hw
    refine b_E_isFailedBy_9 ?_
    simp only [q0, O1.1, true_and, true_or, or_true]
    refine ⟨fun z => by omega, fun _ => ?_⟩
    refine sp_E_step R0 M hm hm' (by rw [kk _ (by omega)]; exact r1) (by rw [kk _ (by omega)]; exact r2) O1 hok hl a1 (by omega) hw ?_
    simp (disch := omega) only [q0, q7, up_same, w32_id, true_and, true_or, or_true]
    repeat (refine ⟨by omega, ?_⟩)
    refine ⟨fun z => ?_, fun z => q_at rfl (hQ1 _ (EX_upc e1 (by decide)) ⟨w, wm, (neg w (hok w wm)).mp z⟩)⟩
    refine ih _ (EX_upc e1 (by decide)) (ATS_s a1 hw) fun j v hj hv => ?_
    by_cases y : j = k + 1
    · subst y
      rw [hw] at hv; cases hv
      exact Classical.byContradiction fun q => by have := (neg w (hok w wm)).mpr q; omega
    · exact g1 j v (by omega) hv
end
