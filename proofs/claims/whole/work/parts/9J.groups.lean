-- deps: 18 19 20 26 29 34 38 48 51 91 9H
/-! what to ask next: pure -/
def mxN (g : Nat → Nat) : Nat → Nat
  | 0 => 0
  | k + 1 => max (mxN g k) (g k)
theorem mxN_le {g : Nat → Nat} {v : Nat} : ∀ k, mxN g k ≤ v ↔ ∀ a, a < k → g a ≤ v
  | 0 => ⟨fun _ a h => by omega, fun _ => Nat.zero_le _⟩
  | k + 1 => by
    rw [mxN, Nat.max_le, mxN_le k]
    constructor
    · rintro ⟨h1, h2⟩ a ha
      by_cases z : a = k
      · subst z; exact h2
      · exact h1 a (by omega)
    · intro h; exact ⟨fun a ha => h a (by omega), h k (by omega)⟩
theorem mxN_ge {g : Nat → Nat} {k a : Nat} (h : a < k) : g a ≤ mxN g k := (mxN_le k).mp (Nat.le_refl _) a h
theorem mxN_ext {g f : Nat → Nat} : ∀ k, (∀ a, a < k → g a = f a) → mxN g k = mxN f k
  | 0, _ => rfl
  | k + 1, h => by rw [mxN, mxN, mxN_ext k fun a ha => h a (by omega), h k (by omega)]
/-- the greatest group of N that have these values -/
noncomputable def ggN (f : Nat → Int) (N : Nat) : Nat := mxN (fun a => cntP (fun b => f a = f b) N) N
theorem ggN_ext {f g : Nat → Int} {N : Nat} (h : ∀ a b, a < N → b < N → (f a = f b ↔ g a = g b)) : ggN f N = ggN g N := mxN_ext N fun a ha => cntP_ext fun b hb => h a b ha hb
theorem cntP_mono {P : Nat → Prop} {n : Nat} : cntP P n ≤ cntP P (n + 1) := by
  by_cases z : P n
  · rw [cntP_y z]; omega
  · rw [cntP_n z]; exact Nat.le_refl _
theorem ggN_s (f : Nat → Int) (s : Nat) : ggN f (s + 1) = max (ggN f s) (cntP (fun b => f s = f b) (s + 1)) := by
  refine Nat.le_antisymm ?_ ?_
  · unfold ggN
    rw [mxN_le]
    intro a ha
    by_cases z : f a = f s
    · have : cntP (fun b => f a = f b) (s + 1) = cntP (fun b => f s = f b) (s + 1) := cntP_ext fun b _ => by rw [z]
      rw [this]; exact Nat.le_max_right _ _
    · rw [cntP_n (P := fun b => f a = f b) z]
      have as : a < s := by
        rcases Nat.lt_or_ge a s with q | q
        · exact q
        · have : a = s := by omega
          subst this; exact (z rfl).elim
      exact Nat.le_trans (mxN_ge (g := fun a => cntP (fun b => f a = f b) s) as) (Nat.le_max_left _ _)
  · refine Nat.max_le.mpr ⟨?_, mxN_ge (g := fun a => cntP (fun b => f a = f b) (s + 1)) (by omega)⟩
    unfold ggN
    rw [mxN_le]
    intro a ha
    exact Nat.le_trans cntP_mono (mxN_ge (g := fun a => cntP (fun b => f a = f b) (s + 1)) (by omega))
theorem ggN_b (f : Nat → Int) : ∀ N, ggN f N ≤ N
  | 0 => Nat.le_refl 0
  | N + 1 => by
    rw [ggN_s]
    have := ggN_b f N
    have := cntP_le (fun b => f N = f b) (N + 1)
    omega
theorem ggN_pos (f : Nat → Int) {N : Nat} (h : 0 < N) : 0 < ggN f N := by
  obtain ⟨k, rfl⟩ : ∃ k, N = k + 1 := ⟨N - 1, by omega⟩
  rw [ggN_s, cntP_y (P := fun b => f k = f b) rfl]
  omega
section
variable {S I : Nat} {t o : Int → Int}
/-- who is suspected as x -/
noncomputable def xT (S I : Nat) (t o : Int → Int) (x : Nat) : Int → Int := if x = 1000 then t else tMu S I t o x
noncomputable def xO (S I : Nat) (t o : Int → Int) (x : Nat) : Int → Int := if x = 1000 then o else oMu S I t o x
/-- what the k-th one answers -/
noncomputable def xA (S I : Nat) (t o : Int → Int) (C : List Nat) (w k : Nat) : Int := aS (xT S I t o (C[k]?.getD 0)) (xO S I t o (C[k]?.getD 0)) 0 w
noncomputable def xG (S I : Nat) (t o : Int → Int) (C : List Nat) (w : Nat) : Nat := ggN (xA S I t o C w) C.length
/-- the first test whose greatest group is least, so far -/
def nxI (g : Nat → Nat) : Nat → Int × Nat
  | 0 => (-1, 41)
  | k + 1 => if g k < (nxI g k).2 then ((k : Int), g k) else nxI g k
theorem nxI_b {g : Nat → Nat} : ∀ k, (nxI g k = (-1, 41) ∧ ∀ j, j < k → 41 ≤ g j) ∨ ∃ b : Nat, b < k ∧ nxI g k = ((b : Int), g b) ∧ g b < 41
  | 0 => Or.inl ⟨rfl, fun j hj => by omega⟩
  | k + 1 => by
    rw [nxI]
    rcases nxI_b k with ⟨q, q2⟩ | ⟨b, b1, b2, b3⟩
    · rw [q]
      by_cases z : g k < 41
      · rw [if_pos z]; exact Or.inr ⟨k, by omega, rfl, z⟩
      · rw [if_neg z]
        refine Or.inl ⟨rfl, fun j hj => ?_⟩
        by_cases y : j = k
        · subst y; omega
        · exact q2 j (by omega)
    · rw [b2]
      by_cases z : g k < g b
      · rw [if_pos z]; exact Or.inr ⟨k, by omega, rfl, by omega⟩
      · rw [if_neg z]; exact Or.inr ⟨b, by omega, rfl, b3⟩
theorem nxI_stop {g : Nat → Nat} {k : Nat} (h1 : (nxI g k).2 ≤ 1) (hg : ∀ j, 1 ≤ g j) : ∀ d, nxI g (k + d) = nxI g k
  | 0 => rfl
  | d + 1 => by
    rw [show k + (d + 1) = (k + d) + 1 by omega, nxI, nxI_stop h1 hg d, if_neg]
    have := hg (k + d); omega
/-- the word to ask next -/
noncomputable def vNx (S I : Nat) (t o : Int → Int) (C lf : List Nat) : Int := ((lf[(nxI (fun k => xG S I t o C (lf[k]?.getD 0)) lf.length).1.toNat]?.getD 0 : Nat) : Int)
theorem mok_x (hm : mok t o) (hS : S ≤ 6) (hI : I ≤ 3) (hc : clo S t) {x : Nat} (hx : x < UN S I t o ∨ x = 1000) : mok (xT S I t o x) (xO S I t o x) := by
  unfold xT xO
  by_cases z : x = 1000
  · rw [if_pos z, if_pos z]; exact hm
  · rw [if_neg z, if_neg z]; exact mok_Mu hm hS hI hc (by omega)
end
