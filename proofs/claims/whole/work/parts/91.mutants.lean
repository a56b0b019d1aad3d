-- deps: 18 19 20 21 23 24 25 26 27 28 29 22 30 31 32 33 34 35 38 40 51
/-! small faults: pure -/
section
variable {S I : Nat} {t o : Int → Int}
def UE (S : Nat) (o : Int → Int) : Nat := S - 1 + (tpR o 24).toNat
noncomputable def UN (S I : Nat) (t o : Int → Int) : Nat := cA (AC I t 0) S * I * UE S o
/-- the k-th one says of state s and input i: to x, output y -/
noncomputable def isMu (S I : Nat) (t o : Int → Int) (k s i : Nat) (x y : Int) : Prop := s < S ∧ i < I ∧ 0 ≤ AC I t 0 (s : Int) ∧ cA (AC I t 0) s = k / UE S o / I ∧ i = k / UE S o % I ∧ (k % UE S o < S - 1 → x = (if ((k % UE S o : Nat) : Int) < t (3 * (s : Int) + (i : Int)) then ((k % UE S o : Nat) : Int) else ((k % UE S o : Nat) : Int) + 1) ∧ y = o (3 * (s : Int) + (i : Int))) ∧ (S - 1 ≤ k % UE S o → x = t (3 * (s : Int) + (i : Int)) ∧ y = (if ((k % UE S o - (S - 1) : Nat) : Int) < o (3 * (s : Int) + (i : Int)) then ((k % UE S o - (S - 1) : Nat) : Int) else ((k % UE S o - (S - 1) : Nat) : Int) + 1))
theorem cA_s (A : Int → Int) (s : Nat) : cA A (s + 1) = cA A s + if 0 ≤ A (s : Int) then 1 else 0 := by
  unfold cA; rw [cntB_s]
  by_cases z : 0 ≤ A (s : Int)
  · simp [z]
  · simp [z]
theorem cA_mono (A : Int → Int) {s s' : Nat} (h : s ≤ s') : cA A s ≤ cA A s' := by
  induction h with
  | refl => exact Nat.le_refl _
  | step _ ih => rw [cA_s]; split <;> omega
theorem cA_lt (A : Int → Int) {s s' : Nat} (h : s < s') (h0 : 0 ≤ A (s : Int)) : cA A s < cA A s' := by
  have := cA_mono A (show s + 1 ≤ s' from h)
  rw [cA_s, if_pos h0] at this; omega
theorem cA_le (A : Int → Int) (s : Nat) : cA A s ≤ s := cntB_le _ _
theorem cA_at (A : Int → Int) {q : Nat} : ∀ S, q < cA A S → ∃ s, s < S ∧ 0 ≤ A (s : Int) ∧ cA A s = q
  | 0, h => by have := cA_le A 0; omega
  | S + 1, h => by
    rw [cA_s] at h
    by_cases z : q < cA A S
    · obtain ⟨s, h1, h2, h3⟩ := cA_at A S z
      exact ⟨s, by omega, h2, h3⟩
    · split at h
      · rename_i y; exact ⟨S, by omega, y, by omega⟩
      · omega
theorem isMu_un {k s i s' i' : Nat} {x y x' y' : Int} (h : isMu S I t o k s i x y) (g : isMu S I t o k s' i' x' y') : s = s' ∧ i = i' ∧ x = x' ∧ y = y' := by
  obtain ⟨h1, h2, h3, h4, h5, h6, h7⟩ := h
  obtain ⟨g1, g2, g3, g4, g5, g6, g7⟩ := g
  have es : s = s' := by
    rcases Nat.lt_trichotomy s s' with q | q | q
    · have := cA_lt (AC I t 0) q h3; omega
    · exact q
    · have := cA_lt (AC I t 0) q g3; omega
  have ei : i = i' := by omega
  subst es; subst ei
  refine ⟨rfl, rfl, ?_⟩
  by_cases z : k % UE S o < S - 1
  · rw [(h6 z).1, (h6 z).2, (g6 z).1, (g6 z).2]; exact ⟨rfl, rfl⟩
  · rw [(h7 (by omega)).1, (h7 (by omega)).2, (g7 (by omega)).1, (g7 (by omega)).2]; exact ⟨rfl, rfl⟩
theorem UE_b (hm : mok t o) (hS : S ≤ 6) : 1 ≤ UE S o ∧ UE S o ≤ 14 ∧ ((UE S o : Nat) : Int) = ((S - 1 : Nat) : Int) + tpR o 24 := by
  have := tpR_1 o 24
  have := tpR_9 hm 24 (Nat.le_refl _)
  unfold UE; omega
theorem UN_b (hm : mok t o) (hS : S ≤ 6) (hI : I ≤ 3) : UN S I t o ≤ 252 ∧ cA (AC I t 0) S * I ≤ 18 := by
  have e := UE_b (t := t) (S := S) hm hS
  have c := cA_le (AC I t 0) S
  have a : cA (AC I t 0) S * I ≤ 6 * 3 := Nat.mul_le_mul (by omega) hI
  have b : cA (AC I t 0) S * I * UE S o ≤ 18 * 14 := Nat.mul_le_mul a e.2.1
  unfold UN; omega
theorem UN_div (hm : mok t o) (hS : S ≤ 6) {k : Nat} (hk : k < UN S I t o) : 0 < I ∧ k / UE S o / I < cA (AC I t 0) S ∧ k % UE S o < UE S o := by
  have e := UE_b (t := t) (S := S) hm hS
  unfold UN at hk
  have hI : 0 < I := by
    rcases Nat.eq_zero_or_pos I with z | z
    · rw [z, Nat.mul_zero, Nat.zero_mul] at hk; omega
    · exact z
  refine ⟨hI, ?_, Nat.mod_lt _ (by omega)⟩
  rw [Nat.div_lt_iff_lt_mul hI, Nat.div_lt_iff_lt_mul (by omega)]
  exact hk
theorem isMu_ex (hm : mok t o) (hS : S ≤ 6) {k : Nat} (hk : k < UN S I t o) : ∃ q : Nat × Nat × Int × Int, isMu S I t o k q.1 q.2.1 q.2.2.1 q.2.2.2 := by
  obtain ⟨hI, h1, h2⟩ := UN_div hm hS hk
  obtain ⟨s, s1, s2, s3⟩ := cA_at (AC I t 0) S h1
  have im := Nat.mod_lt (k / UE S o) hI
  by_cases z : k % UE S o < S - 1
  · exact ⟨⟨s, k / UE S o % I, (if ((k % UE S o : Nat) : Int) < t (3 * (s : Int) + ((k / UE S o % I : Nat) : Int)) then ((k % UE S o : Nat) : Int) else ((k % UE S o : Nat) : Int) + 1), o (3 * (s : Int) + ((k / UE S o % I : Nat) : Int))⟩, s1, im, s2, s3, rfl, fun _ => ⟨rfl, rfl⟩, fun q => by omega⟩
  · exact ⟨⟨s, k / UE S o % I, t (3 * (s : Int) + ((k / UE S o % I : Nat) : Int)), (if ((k % UE S o - (S - 1) : Nat) : Int) < o (3 * (s : Int) + ((k / UE S o % I : Nat) : Int)) then ((k % UE S o - (S - 1) : Nat) : Int) else ((k % UE S o - (S - 1) : Nat) : Int) + 1)⟩, s1, im, s2, s3, rfl, fun q => by omega, fun _ => ⟨rfl, rfl⟩⟩
noncomputable def muP (S I : Nat) (t o : Int → Int) (k : Nat) : Nat × Nat × Int × Int := @dite _ (∃ q : Nat × Nat × Int × Int, isMu S I t o k q.1 q.2.1 q.2.2.1 q.2.2.2) (Classical.propDecidable _) (fun h => h.choose) fun _ => (0, 0, 0, 0)
theorem mu_of {k s i : Nat} {x y : Int} (h : isMu S I t o k s i x y) : muP S I t o k = (s, i, x, y) := by
  have ex : ∃ q : Nat × Nat × Int × Int, isMu S I t o k q.1 q.2.1 q.2.2.1 q.2.2.2 := ⟨(s, i, x, y), h⟩
  have e : muP S I t o k = ex.choose := dif_pos ex
  have c := ex.choose_spec
  rw [e]
  generalize ex.choose = q at c
  obtain ⟨a, b, c1, d⟩ := q
  obtain ⟨r1, r2, r3, r4⟩ := isMu_un h c
  subst r1; subst r2; subst r3; subst r4; rfl
noncomputable def muS (S I : Nat) (t o : Int → Int) (k : Nat) : Nat := (muP S I t o k).1
noncomputable def muI (S I : Nat) (t o : Int → Int) (k : Nat) : Nat := (muP S I t o k).2.1
noncomputable def muX (S I : Nat) (t o : Int → Int) (k : Nat) : Int := (muP S I t o k).2.2.1
noncomputable def muY (S I : Nat) (t o : Int → Int) (k : Nat) : Int := (muP S I t o k).2.2.2
noncomputable def muC (S I : Nat) (t o : Int → Int) (k : Nat) : Int := 3 * (muS S I t o k : Int) + (muI S I t o k : Int)
theorem mu_sp (hm : mok t o) (hS : S ≤ 6) {k : Nat} (hk : k < UN S I t o) : isMu S I t o k (muS S I t o k) (muI S I t o k) (muX S I t o k) (muY S I t o k) := by
  obtain ⟨⟨s, i, x, y⟩, h⟩ := isMu_ex hm hS hk
  have e := mu_of h
  unfold muS muI muX muY
  rw [e]; exact h
theorem mu_e {k s i : Nat} {x y : Int} (h : isMu S I t o k s i x y) : muS S I t o k = s ∧ muI S I t o k = i ∧ muX S I t o k = x ∧ muY S I t o k = y := by
  have e := mu_of h
  unfold muS muI muX muY
  rw [e]; exact ⟨rfl, rfl, rfl, rfl⟩
theorem tpR_ge {o : Int → Int} {c : Nat} : ∀ k, c < k → o (c : Int) ≤ tpR o k
  | 0, h => by omega
  | k + 1, h => by
    show o (c : Int) ≤ if tpR o k < o (k : Int) then o (k : Int) else tpR o k
    by_cases z : c = k
    · subst z; split <;> omega
    · have := tpR_ge (o := o) (c := c) k (by omega)
      split <;> omega
theorem mu_b (hm : mok t o) (hS : S ≤ 6) (hI : I ≤ 3) (hc : clo S t) {k : Nat} (hk : k < UN S I t o) : muS S I t o k < S ∧ muI S I t o k < I ∧ 0 ≤ muC S I t o k ∧ muC S I t o k < 24 ∧ 0 ≤ muX S I t o k ∧ muX S I t o k < (S : Int) ∧ 0 ≤ muY S I t o k ∧ muY S I t o k ≤ 9 := by
  have h := mu_sp hm hS hk
  unfold muC
  generalize muS S I t o k = s at *
  generalize muI S I t o k = i at *
  generalize muX S I t o k = x at *
  generalize muY S I t o k = y at *
  obtain ⟨h1, h2, h3, h4, h5, h6, h7⟩ := h
  have e := UE_b (t := t) (S := S) hm hS
  have d := UN_div hm hS hk
  have c := hc (s : Int) i (by omega) (by omega) (by omega)
  have m := hm (3 * (s : Int) + (i : Int)) (by omega) (by omega)
  have tp := tpR_9 hm 24 (Nat.le_refl _)
  refine ⟨h1, h2, by omega, by omega, ?_⟩
  generalize hr : k % UE S o = r at *
  by_cases z : r < S - 1
  · rw [(h6 z).1, (h6 z).2]
    split <;> omega
  · rw [(h7 (by omega)).1, (h7 (by omega)).2]
    split <;> omega
/-- a function changed at a place -/
def up1 (f : Int → Int) (a v : Int) : Int → Int := fun b => if b = a then v else f b
noncomputable def tMu (S I : Nat) (t o : Int → Int) (k : Nat) : Int → Int := up1 t (muC S I t o k) (muX S I t o k)
noncomputable def oMu (S I : Nat) (t o : Int → Int) (k : Nat) : Int → Int := up1 o (muC S I t o k) (muY S I t o k)
theorem mok_up1 {c x y : Int} (hm : mok t o) (hx : 0 ≤ x ∧ x < 8) (hy : 0 ≤ y ∧ y ≤ 9) : mok (up1 t c x) (up1 o c y) := fun a h1 h2 => by
  have := hm a h1 h2
  unfold up1
  split
  · exact ⟨hx, hy⟩
  · exact this
theorem mok_Mu (hm : mok t o) (hS : S ≤ 6) (hI : I ≤ 3) (hc : clo S t) {k : Nat} (hk : k < UN S I t o) : mok (tMu S I t o k) (oMu S I t o k) := by
  obtain ⟨_, _, _, _, a, b, c, d⟩ := mu_b hm hS hI hc hk
  exact mok_up1 hm ⟨a, by omega⟩ ⟨c, d⟩
/-- the class's number of it -/
noncomputable def cMu (S I : Nat) (t o : Int → Int) (k : Nat) : Int := 256 * muC S I t o k + 16 * muX S I t o k + muY S I t o k
end
