-- deps: 18 19 20 26 29 36 38 48 51 9C 9D
/-! tests that notice most that is left: pure -/
/-- F k m: test k notices m; R m: m is left -/
noncomputable def nbG (F : Nat → Nat → Prop) (R : Nat → Prop) (k : Nat) : Nat := cntP (fun m => F k m ∧ R m) 256
/-- the first one that notices most, and how many -/
noncomputable def bsG (F : Nat → Nat → Prop) (R : Nat → Prop) : Nat → Int × Nat
  | 0 => (-1, 0)
  | k + 1 => if (bsG F R k).2 < nbG F R k then ((k : Int), nbG F R k) else bsG F R k
def tkG (F : Nat → Nat → Prop) (R : Nat → Prop) (b : Nat) : Nat → Prop := fun m => R m ∧ ¬ F b m
/-- how many are taken; f at most -/
noncomputable def cvG (F : Nat → Nat → Prop) (N : Nat) : Nat → (Nat → Prop) → Nat
  | 0, _ => 0
  | f + 1, R => if (bsG F R N).1 < 0 then 0 else 1 + cvG F N f (tkG F R (bsG F R N).1.toNat)
section
variable {F : Nat → Nat → Prop} {R R' : Nat → Prop} {N : Nat}
theorem nbG_le (k : Nat) : nbG F R k ≤ 256 := cntP_le _ _
theorem nbG_ext {k : Nat} (h : ∀ m, F k m → (R m ↔ R' m)) : nbG F R k = nbG F R' k := cntP_ext fun m _ => ⟨fun q => ⟨q.1, (h m q.1).mp q.2⟩, fun q => ⟨q.1, (h m q.1).mpr q.2⟩⟩
theorem bsG_ext : ∀ k, (∀ j, j < k → ∀ m, F j m → (R m ↔ R' m)) → bsG F R k = bsG F R' k
  | 0, _ => rfl
  | k + 1, h => by
    rw [bsG, bsG, bsG_ext k fun j hj => h j (by omega), nbG_ext (h k (by omega))]
/-- a best one is there, notices some, as many as it says -/
theorem bsG_b : ∀ k, ((bsG F R k).1 = -1 ∧ (bsG F R k).2 = 0 ∧ ∀ j, j < k → nbG F R j = 0) ∨ ∃ b : Nat, (bsG F R k).1 = (b : Int) ∧ b < k ∧ (bsG F R k).2 = nbG F R b ∧ 0 < nbG F R b
  | 0 => Or.inl ⟨rfl, rfl, fun j hj => by omega⟩
  | k + 1 => by
    rw [bsG]
    by_cases z : (bsG F R k).2 < nbG F R k
    · rw [if_pos z]; exact Or.inr ⟨k, rfl, by omega, rfl, by show 0 < nbG F R k; omega⟩
    · rw [if_neg z]
      rcases bsG_b k with ⟨a, b, c⟩ | ⟨b, b1, b2, b3, b4⟩
      · refine Or.inl ⟨a, b, fun j hj => ?_⟩
        by_cases y : j = k
        · subst y; omega
        · exact c j (by omega)
      · exact Or.inr ⟨b, b1, by omega, b3, b4⟩
theorem cvG_ext : ∀ f (R R' : Nat → Prop), (∀ j, j < N → ∀ m, F j m → (R m ↔ R' m)) → cvG F N f R = cvG F N f R'
  | 0, _, _, _ => rfl
  | f + 1, R, R', h => by
    rw [cvG, cvG, bsG_ext N h]
    split
    · rfl
    · rw [cvG_ext f (tkG F R (bsG F R' N).1.toNat) (tkG F R' (bsG F R' N).1.toNat) fun j hj m hm => ⟨fun q => ⟨(h j hj m hm).mp q.1, q.2⟩, fun q => ⟨(h j hj m hm).mpr q.1, q.2⟩⟩]
/-- how many that are noticed are left -/
noncomputable def rmG (F : Nat → Nat → Prop) (N : Nat) (R : Nat → Prop) : Nat := cntP (fun m => (∃ k, k < N ∧ F k m) ∧ R m) 256
theorem cntP_lt {P P' : Nat → Prop} {n k : Nat} (h : ∀ m, P m → P' m) (hk : k < n) (h1 : ¬ P k) (h2 : P' k) : cntP P n < cntP P' n := by
  have : ∀ n, cntP P n ≤ cntP P' n ∧ (k < n → cntP P n < cntP P' n) := by
    intro n
    induction n with
    | zero => exact ⟨Nat.le_refl _, fun q => by omega⟩
    | succ n ih =>
      by_cases a : P n
      · rw [cntP_y a, cntP_y (h n a)]
        refine ⟨by omega, fun q => ?_⟩
        have : k ≠ n := fun y => h1 (y ▸ a)
        have := ih.2 (by omega)
        omega
      · rw [cntP_n a]
        by_cases b : P' n
        · rw [cntP_y b]; exact ⟨by omega, fun _ => by omega⟩
        · rw [cntP_n b]
          refine ⟨ih.1, fun q => ih.2 ?_⟩
          have : k ≠ n := fun y => b (y ▸ h2)
          omega
  exact (this n).2 hk
theorem cntP_pos {P : Nat → Prop} {n : Nat} (h : 0 < cntP P n) : ∃ m, m < n ∧ P m := by
  refine Classical.byContradiction fun q => ?_
  have : cntP P n = cntP (fun _ => False) n := cntP_ext fun m hm => ⟨fun y => q ⟨m, hm, y⟩, fun y => y.elim⟩
  have z : ∀ n, cntP (fun _ => False) n = 0 := fun n => by
    induction n with
    | zero => rfl
    | succ n ih => rw [cntP_n (P := fun _ => False) id]; exact ih
  rw [this, z] at h
  omega
theorem rmG_tk {b : Nat} (hb : b < N) (h : 0 < nbG F R b) : rmG F N (tkG F R b) < rmG F N R := by
  obtain ⟨m, m1, m2, m3⟩ := cntP_pos h
  exact cntP_lt (fun x q => ⟨q.1, q.2.1⟩) m1 (fun q => q.2.2 m2) ⟨⟨b, hb, m2⟩, m3⟩
theorem cntP_p {P : Nat → Prop} {n m : Nat} (hm : m < n) (h : P m) : 0 < cntP P n := Nat.lt_of_le_of_lt (Nat.zero_le _) (cntP_lt (P := fun _ => False) (fun _ q => q.elim) hm id h)
theorem nbG_0 (h : rmG F N R = 0) : ∀ k, k < N → nbG F R k = 0 := fun k hk => by
  refine Classical.byContradiction fun q => ?_
  obtain ⟨m, m1, m2, m3⟩ := cntP_pos (Nat.pos_of_ne_zero q)
  have := cntP_p (P := fun m => (∃ k, k < N ∧ F k m) ∧ R m) m1 ⟨⟨k, hk, m2⟩, m3⟩
  unfold rmG at h; omega
theorem rmG_le (hF : ∀ k m, F k m → m < 252) : rmG F N R ≤ 252 := by
  have e : rmG F N R = cntP (fun m => (∃ k, k < N ∧ F k m) ∧ R m) 252 := by
    unfold rmG
    have n : ∀ j, 252 ≤ j → ¬ ((∃ k, k < N ∧ F k j) ∧ R j) := fun j hj ⟨⟨k, _, q⟩, _⟩ => by have := hF k j q; omega
    rw [show (256 : Nat) = 252 + 1 + 1 + 1 + 1 from rfl, cntP_n (n 255 (by decide)), cntP_n (n 254 (by decide)), cntP_n (n 253 (by decide)), cntP_n (n 252 (by decide))]
  rw [e]; exact cntP_le _ _
theorem nbG_252 (hF : ∀ k m, F k m → m < 252) {k : Nat} : nbG F R k ≤ 252 := by
  have e : nbG F R k = cntP (fun m => F k m ∧ R m) 252 := by
    unfold nbG
    have n : ∀ j, 252 ≤ j → ¬ (F k j ∧ R j) := fun j hj ⟨q, _⟩ => by have := hF k j q; omega
    rw [show (256 : Nat) = 252 + 1 + 1 + 1 + 1 from rfl, cntP_n (n 255 (by decide)), cntP_n (n 254 (by decide)), cntP_n (n 253 (by decide)), cntP_n (n 252 (by decide))]
  rw [e]; exact cntP_le _ _
theorem cntP_blk {P : Nat → Prop} {a b : Nat} {f : Nat → Bool} (h : ∀ i, i < b → (f i = true ↔ P (a + i))) : cntP P (a + b) = cntP P a + cntB f b := by
  unfold cntP
  rw [cntB_add]
  congr 1
  refine cntB_ext fun i hi => ?_
  have := h i hi
  by_cases z : P (a + i)
  · simp only [z, decide_true]; exact (this.mpr z).symm
  · simp only [z, decide_false]
    cases y : f i
    · rfl
    · exact (z (this.mp y)).elim
end
