-- deps: 18 19 20 21 23 24 25 26 27 28 29 22 30 31 32 33 34 35 38 39 40 41 42 43 44 45 46 47 48 49 50 62 63 64 67 68 69 70 71 72 73 74 75 76 77
/-! the class: a suite's tests are run -/
section
variable {Q : RP} {n : Nat} {hr h : HP} {S I : Nat} {t o t' o' : Int → Int}
/-- where the machine t', o' is behind a word, -1 where an output on the way isn't that of t, o -/
noncomputable def RN (t o t' o' : Int → Int) (w : Nat) : Int := if aS t o 0 w = aS t' o' 0 w then dS t' 0 w else -1
theorem RN_0 : RN t o t' o' 0 = 0 := by unfold RN; rw [aS_0, aS_0, if_pos rfl, dS_0]
theorem RN_c (hm : mok t o) (hm' : mok t' o') {v j : Nat} (hj : j < 3) (hv : wok 3 v) : RN t o t' o' (4 * v + j + 1) = if RN t o t' o' v < 0 then -1 else if o' (3 * RN t o t' o' v + (j : Int)) = o (3 * dS t 0 v + (j : Int)) then t' (3 * RN t o t' o' v + (j : Int)) else -1 := by
  have e := aS_eq_c hm hm' (p := 0) (q := 0) (by omega) (by omega) hj hv
  have d := dS_in hm' (p := 0) (by omega) hv
  unfold RN
  by_cases z : aS t o 0 v = aS t' o' 0 v
  · rw [if_pos z, if_neg (show ¬ dS t' 0 v < 0 by omega)]
    by_cases y : o (3 * dS t 0 v + (j : Int)) = o' (3 * dS t' 0 v + (j : Int))
    · rw [if_pos (e.mpr ⟨z, y⟩), if_pos y.symm, dS_c _ _ _ hj]
    · rw [if_neg (fun q => y (e.mp q).2), if_neg (fun q => y q.symm)]
  · rw [if_neg z, if_neg (fun q => z (e.mp q).1), if_pos (by omega)]
theorem RN_b (hm' : mok t' o') {w : Nat} (hw : wok 3 w) : RN t o t' o' w = -1 ∨ (0 ≤ RN t o t' o' w ∧ RN t o t' o' w < 8) := by
  have d := dS_in hm' (p := 0) (by omega) hw
  unfold RN; split
  · exact Or.inr d
  · exact Or.inl rfl
/-- what stands in `at` -/
def ATS (t o t' o' : Int → Int) (h : HP) (os : List Nat) (k : Nat) : Prop := ∀ j w : Nat, j < k → os[j]? = some w → h 45 (j : Int) = RN t o t' o' w
theorem sp_E_step {x m nl tl : Int} {os : List Nat} {k w : Nat} (R : trow hr x n nl tl) (M : mrow hr m n) (hm : mok t o) (hm' : mok t' o') (r1 : r24 (h (m + 1)) t') (r2 : r24 (h (m + 2)) o') (O : TXo t o h x os) (hok : ∀ w ∈ os, wok 3 w) (hl : (os.length : Int) ≤ nl) (A : ATS t o t' o' h os k) (hk0 : 0 < k) (hk : os[k]? = some w) (hQ : Q (0, RN t o t' o' w) n hr h) : f_E_step [(2, x), (2, m), (0, (k : Int))] n hr h Q := by
  obtain ⟨q0, q1, q2, q3, q4, q5, q6, q7, q8, q9⟩ := R
  obtain ⟨m0, m1, m2, m3, m4, m5, m6⟩ := M
  obtain ⟨p, u, i, b1, b2, b3, b4, b5, b6, b7⟩ := O.2 k w hk0 hk
  have kl := (List.getElem?_eq_some_iff.mp hk).1
  have ap := A p u b1 b2
  have uo := hok u (List.mem_of_getElem? b2)
  have rc := RN_c (t := t) (o := o) hm hm' b3 uo
  rw [← b4] at rc
  apply e_E_step
  simp (disch := omega) only [q0, q1, q2, q3, q7, m0, m1, m2, m3, m4, m5, m6, b5, b6, b7, ap, true_and]
  repeat (refine ⟨by omega, ?_⟩)
  refine ⟨fun z => ?_, fun z => ?_⟩
  · rcases RN_b (t := t) (o := o) hm' uo with y | y
    · omega
    · rw [if_neg (by omega)] at rc
      have ea : RN t o t' o' u * 3 + (i : Int) = 3 * RN t o t' o' u + (i : Int) := by omega
      have g1 := r1 (3 * RN t o t' o' u + (i : Int)) (by omega) (by omega)
      have g2 := r2 (3 * RN t o t' o' u + (i : Int)) (by omega) (by omega)
      simp (disch := omega) only [w32_id, ea, g1, g2]
      repeat (refine ⟨by omega, ?_⟩)
      refine ⟨fun y2 => ?_, fun y2 => ?_⟩
      · rw [if_neg y2] at rc; rw [rc] at hQ; exact (by first | exact q_at rfl (hQ) | exact (hQ))
      · rw [if_pos y2] at rc; rw [rc] at hQ
        repeat (refine ⟨by omega, ?_⟩)
        exact (by first | exact q_at rfl (hQ) | exact (hQ))
  · rw [if_pos z] at rc; rw [rc] at hQ; exact (by first | exact q_at rfl (hQ) | exact (hQ))
end
