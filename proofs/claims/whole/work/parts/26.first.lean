-- deps: 19.num
/-! the first number with a property; words put one behind another; what is the same for so many inputs -/
noncomputable def fw (P : Nat → Prop) : Int := @dite Int (∃ k, P k) (Classical.propDecidable _) (fun h => ((Classical.choose (pk_least P h) : Nat) : Int)) (fun _ => -2)
theorem fw_at {P : Nat → Prop} {k : Nat} (h : P k) (hl : ∀ j, j < k → ¬ P j) : fw P = (k : Int) := by
  unfold fw
  rw [dif_pos ⟨k, h⟩]
  have hs := Classical.choose_spec (pk_least P ⟨k, h⟩)
  generalize Classical.choose (pk_least P ⟨k, h⟩) = c at hs
  have : c = k := by
    rcases Nat.lt_trichotomy c k with q | q | q
    · exact (hl c q hs.1).elim
    · exact q
    · exact (hs.2 k q h).elim
  rw [this]
theorem fw_no {P : Nat → Prop} (h : ∀ k, ¬ P k) : fw P = -2 := by
  unfold fw
  rw [dif_neg (fun ⟨k, q⟩ => h k q)]
theorem fw_cases (P : Nat → Prop) : (∃ k : Nat, fw P = (k : Int) ∧ P k ∧ ∀ j, j < k → ¬ P j) ∨ (fw P = -2 ∧ ∀ k, ¬ P k) := by
  by_cases h : ∃ k, P k
  · obtain ⟨k, h1, h2⟩ := pk_least P h
    exact Or.inl ⟨k, fw_at h1 h2, h1, h2⟩
  · exact Or.inr ⟨fw_no (fun k q => h ⟨k, q⟩), fun k q => h ⟨k, q⟩⟩
theorem fw_ext {P R : Nat → Prop} (h : ∀ k, P k ↔ R k) : fw P = fw R := by
  have : P = R := funext fun k => propext (h k)
  rw [this]
theorem fw_ge (P : Nat → Prop) : fw P = -2 ∨ 0 ≤ fw P := by
  rcases fw_cases P with ⟨k, h, _⟩ | ⟨h, _⟩
  · right; omega
  · exact Or.inl h
theorem fw_pos {P : Nat → Prop} {k : Nat} (h : fw P = (k : Int)) : P k ∧ ∀ j, j < k → ¬ P j := by
  rcases fw_cases P with ⟨k', h1, h2⟩ | ⟨h1, _⟩
  · have : k' = k := by omega
    subst this; exact h2
  · omega
theorem fw_neg {P : Nat → Prop} (h : fw P < 0) : fw P = -2 ∧ ∀ k, ¬ P k := by
  rcases fw_cases P with ⟨k', h1, h2⟩ | h1
  · omega
  · exact h1
/-! a word one longer; where it leads, what it answers -/
theorem dS_c (t : Int → Int) (p : Int) (v : Nat) {j : Nat} (hj : j < 3) : dS t p (4 * v + j + 1) = t (3 * dS t p v + (j : Int)) := by
  rw [dS_s _ _ (by omega), show (4 * v + j + 1) / 4 = v by omega, show (4 * v + j + 1) % 4 = j + 1 by omega]
  congr 1; omega
theorem aS_c (t o : Int → Int) (p : Int) (v : Nat) {j : Nat} (hj : j < 3) : aS t o p (4 * v + j + 1) = 10 * aS t o p v + o (3 * dS t p v + (j : Int)) := by
  rw [aS_s _ _ _ (by omega), show (4 * v + j + 1) / 4 = v by omega, show (4 * v + j + 1) % 4 = j + 1 by omega]
  congr 2; omega
theorem wlen_c (v : Nat) {j : Nat} (hj : j < 3) : wlen (4 * v + j + 1) = wlen v + 1 := by
  rw [wlen_s (by omega), show (4 * v + j + 1) / 4 = v by omega]
theorem wok_cc {m v j : Nat} (hj : j < 3) : wok m (4 * v + j + 1) ↔ (j < m ∧ wok m v) := by
  rw [wok_s (by omega), show (4 * v + j + 1) / 4 = v by omega, show (4 * v + j + 1) % 4 = j + 1 by omega]
  exact ⟨fun h => ⟨by omega, h.2⟩, fun h => ⟨⟨by omega, by omega⟩, h.2⟩⟩
/-- a word is none, or a word and an input -/
theorem wok_ne {m w : Nat} (hm : m ≤ 3) (h : wok m w) (h0 : w ≠ 0) : ∃ v j, j < m ∧ j < 3 ∧ wok m v ∧ w = 4 * v + j + 1 := by
  have q := (wok_s h0).mp h
  exact ⟨w / 4, w % 4 - 1, by omega, by omega, q.2, by omega⟩
theorem w_ind {m : Nat} (hm : m ≤ 3) {P : Nat → Prop} (h0 : P 0) (hs : ∀ v j, j < m → j < 3 → wok m v → P v → P (4 * v + j + 1)) : ∀ w, wok m w → P w := by
  intro w
  induction w using Nat.strongRecOn with
  | ind w ih =>
    intro h
    by_cases hw : w = 0
    · subst hw; exact h0
    · obtain ⟨v, j, h1, h2, h3, rfl⟩ := wok_ne hm h hw
      exact hs v j h1 h2 h3 (ih v (by omega) h3)
/-- rows that are the same at the 24 places -/
def r24 (f g : Int → Int) : Prop := ∀ a : Int, 0 ≤ a → a < 24 → f a = g a
theorem dS_r24 {t t' : Int → Int} (h : r24 t t') (hm : ∀ a : Int, 0 ≤ a → a < 24 → 0 ≤ t a ∧ t a < 8) {p : Int} (hp : 0 ≤ p ∧ p < 8) : ∀ w, wok 3 w → dS t p w = dS t' p w ∧ 0 ≤ dS t p w ∧ dS t p w < 8 := by
  refine w_ind (by omega) ?_ ?_
  · rw [dS_0, dS_0]; exact ⟨rfl, hp⟩
  · intro v j h1 h2 h3 ih
    rw [dS_c _ _ _ h2, dS_c _ _ _ h2, ← ih.1]
    exact ⟨h _ (by omega) (by omega), hm _ (by omega) (by omega)⟩
theorem mok_t {t o : Int → Int} (hm : mok t o) : ∀ a : Int, 0 ≤ a → a < 24 → 0 ≤ t a ∧ t a < 8 := fun a h1 h2 => (hm a h1 h2).1
theorem mok_o {t o : Int → Int} (hm : mok t o) : ∀ a : Int, 0 ≤ a → a < 24 → 0 ≤ o a ∧ o a ≤ 9 := fun a h1 h2 => (hm a h1 h2).2
theorem mok_r24 {t t' o o' : Int → Int} (hm : mok t o) (h : r24 t t') (h' : r24 o o') : mok t' o' := fun a h1 h2 => by
  rw [← h a h1 h2, ← h' a h1 h2]; exact hm a h1 h2
theorem r24_sy {f g : Int → Int} (h : r24 f g) : r24 g f := fun a h1 h2 => (h a h1 h2).symm
theorem r24_rf {f : Int → Int} : r24 f f := fun _ _ _ => rfl
theorem r24_tr {f g k : Int → Int} (a : r24 f g) (b : r24 g k) : r24 f k := fun x h1 h2 => (a x h1 h2).trans (b x h1 h2)
theorem aS_r24 {t t' o o' : Int → Int} (h : r24 t t') (h' : r24 o o') (hm : mok t o) {p : Int} (hp : 0 ≤ p ∧ p < 8) : ∀ w, wok 3 w → aS t o p w = aS t' o' p w := by
  refine w_ind (by omega) ?_ ?_
  · rw [aS_0, aS_0]
  · intro v j h1 h2 h3 ih
    have hd := dS_r24 h (mok_t hm) hp v h3
    rw [aS_c _ _ _ _ h2, aS_c _ _ _ _ h2, ← hd.1, ih, h' _ (by omega) (by omega)]
/-- one word behind another -/
def cat (u v : Nat) : Nat := u * 4 ^ wlen v + v
theorem cat_0 (u : Nat) : cat u 0 = u := by simp [cat, wlen_0]
theorem cat_z (v : Nat) : cat 0 v = v := by simp [cat]
theorem cat_c (u v : Nat) {j : Nat} (hj : j < 3) : cat u (4 * v + j + 1) = 4 * cat u v + j + 1 := by
  unfold cat
  rw [wlen_c _ hj, Nat.pow_succ, show u * (4 ^ wlen v * 4) = 4 * (u * 4 ^ wlen v) by rw [← Nat.mul_assoc, Nat.mul_comm]]
  omega
theorem wok3 {m w : Nat} (hm : m ≤ 3) (h : wok m w) : wok 3 w := wok_mono hm h
theorem cat_ok {m u : Nat} (hm : m ≤ 3) (hu : wok m u) : ∀ v, wok m v → wok m (cat u v) ∧ wlen (cat u v) = wlen u + wlen v := by
  refine w_ind hm ?_ ?_
  · rw [cat_0, wlen_0]; exact ⟨hu, rfl⟩
  · intro v j h1 h2 h3 ih
    rw [cat_c _ _ h2, wlen_c _ h2, wlen_c _ h2]
    exact ⟨(wok_cc h2).mpr ⟨h1, ih.1⟩, by omega⟩
theorem dS_cat (t : Int → Int) (p : Int) (u : Nat) : ∀ v, wok 3 v → dS t p (cat u v) = dS t (dS t p u) v := by
  refine w_ind (by omega) ?_ ?_
  · rw [cat_0, dS_0]
  · intro v j h1 h2 h3 ih
    rw [cat_c _ _ h2, dS_c _ _ _ h2, dS_c _ _ _ h2, ih]
theorem aS_cat (t o : Int → Int) (p : Int) (u : Nat) : ∀ v, wok 3 v → aS t o p (cat u v) = aS t o p u * 10 ^ wlen v + aS t o (dS t p u) v := by
  refine w_ind (by omega) ?_ ?_
  · rw [cat_0, aS_0, wlen_0]; omega
  · intro v j h1 h2 h3 ih
    rw [cat_c _ _ h2, aS_c _ _ _ _ h2, aS_c _ _ _ _ h2, ih, dS_cat _ _ _ v h3, wlen_c _ h2, Int.pow_succ]
    generalize (10 : Int) ^ wlen v = T
    rw [Int.mul_add, ← Int.mul_assoc, ← Int.mul_assoc, Int.mul_comm 10, Int.mul_assoc, Int.mul_assoc, Int.mul_comm 10 T]
    omega
/-- its first input -/
theorem w_fst {m : Nat} (hm : m ≤ 3) : ∀ w, wok m w → w ≠ 0 → ∃ j v, j < m ∧ j < 3 ∧ wok m v ∧ w = cat (j + 1) v ∧ wlen w = wlen v + 1 := by
  refine w_ind hm (fun h => (h rfl).elim) ?_
  intro v j h1 h2 h3 ih _
  by_cases hv : v = 0
  · subst hv
    exact ⟨j, 0, h1, h2, wok_0 m, by rw [cat_0]; omega, by rw [wlen_c _ h2]⟩
  · obtain ⟨i, u, a1, a2, a3, a4, a5⟩ := ih hv
    exact ⟨i, 4 * u + j + 1, a1, a2, (wok_cc h2).mpr ⟨h1, a3⟩, by rw [cat_c _ _ h2, ← a4], by rw [wlen_c _ h2, wlen_c _ h2, a5]⟩
theorem dS_1 (t : Int → Int) (p : Int) {j : Nat} (hj : j < 3) : dS t p (j + 1) = t (3 * p + (j : Int)) := by
  have := dS_c t p 0 hj
  rwa [dS_0, show 4 * 0 + j + 1 = j + 1 by omega] at this
theorem aS_1 (t o : Int → Int) (p : Int) {j : Nat} (hj : j < 3) : aS t o p (j + 1) = o (3 * p + (j : Int)) := by
  have := aS_c t o p 0 hj
  rw [dS_0, aS_0, show 4 * 0 + j + 1 = j + 1 by omega] at this
  omega
/-- equal answers: equal outputs -/
theorem mix {a b x y T : Int} (hx : 0 ≤ x ∧ x < T) (hy : 0 ≤ y ∧ y < T) (h : a * T + x = b * T + y) : a = b ∧ x = y := by
  have hT : 0 < T := by omega
  have e1 : (a * T + x) / T = a := by
    rw [Int.add_comm, Int.add_mul_ediv_right _ _ (by omega), Int.ediv_eq_zero_of_lt hx.1 hx.2]; omega
  have e2 : (b * T + y) / T = b := by
    rw [Int.add_comm, Int.add_mul_ediv_right _ _ (by omega), Int.ediv_eq_zero_of_lt hy.1 hy.2]; omega
  have e3 : a = b := by rw [← e1, ← e2, h]
  subst e3
  exact ⟨rfl, by omega⟩
theorem aS_eq_c {t o t' o' : Int → Int} (hm : mok t o) (hm' : mok t' o') {p q : Int} (hp : 0 ≤ p ∧ p < 8) (hq : 0 ≤ q ∧ q < 8) {v j : Nat} (hj : j < 3) (hv : wok 3 v) : aS t o p (4 * v + j + 1) = aS t' o' q (4 * v + j + 1) ↔ (aS t o p v = aS t' o' q v ∧ o (3 * dS t p v + (j : Int)) = o' (3 * dS t' q v + (j : Int))) := by
  rw [aS_c _ _ _ _ hj, aS_c _ _ _ _ hj]
  have h1 := dS_in hm hp hv
  have h2 := dS_in hm' hq hv
  have h3 := (hm (3 * dS t p v + (j : Int)) (by omega) (by omega)).2
  have h4 := (hm' (3 * dS t' q v + (j : Int)) (by omega) (by omega)).2
  omega
theorem aS_eq_f {t o t' o' : Int → Int} (hm : mok t o) (hm' : mok t' o') {p q : Int} (hp : 0 ≤ p ∧ p < 8) (hq : 0 ≤ q ∧ q < 8) {v j : Nat} (hj : j < 3) (hv : wok 3 v) : aS t o p (cat (j + 1) v) = aS t' o' q (cat (j + 1) v) ↔ (o (3 * p + (j : Int)) = o' (3 * q + (j : Int)) ∧ aS t o (t (3 * p + (j : Int))) v = aS t' o' (t' (3 * q + (j : Int))) v) := by
  rw [aS_cat _ _ _ _ v hv, aS_cat _ _ _ _ v hv, dS_1 _ _ hj, dS_1 _ _ hj, aS_1 _ _ _ hj, aS_1 _ _ _ hj]
  have h3 := hm (3 * p + (j : Int)) (by omega) (by omega)
  have h4 := hm' (3 * q + (j : Int)) (by omega) (by omega)
  have h5 := aS_in hm h3.1 hv
  have h6 := aS_in hm' h4.1 hv
  constructor
  · exact fun h => mix h5 h6 h
  · rintro ⟨a, b⟩
    rw [a, b]
/-- the same for so many inputs -/
def EQ (m : Nat) (t o t' o' : Int → Int) : Nat → Int → Int → Prop
  | 0, _, _ => True
  | k + 1, p, q => ∀ i : Nat, i < m → o (3 * p + (i : Int)) = o' (3 * q + (i : Int)) ∧ EQ m t o t' o' k (t (3 * p + (i : Int))) (t' (3 * q + (i : Int)))
theorem EQ_w {m : Nat} (hm3 : m ≤ 3) {t o t' o' : Int → Int} (hm : mok t o) (hm' : mok t' o') : ∀ (k : Nat) {p q : Int}, 0 ≤ p ∧ p < 8 → 0 ≤ q ∧ q < 8 → (EQ m t o t' o' k p q ↔ ∀ w, wok m w → wlen w ≤ k → aS t o p w = aS t' o' q w) := by
  intro k
  induction k with
  | zero =>
    intro p q hp hq
    refine ⟨fun _ w hw hl => ?_, fun _ => trivial⟩
    have : w < 4 ^ 0 := wlen_le.mp hl
    have : w = 0 := by simpa using this
    subst this
    rw [aS_0, aS_0]
  | succ k ih =>
    intro p q hp hq
    constructor
    · intro h w hw hl
      by_cases h0 : w = 0
      · subst h0; rw [aS_0, aS_0]
      · obtain ⟨j, v, a1, a2, a3, rfl, a5⟩ := w_fst hm3 w hw h0
        obtain ⟨b1, b2⟩ := h j a1
        have h3 := hm (3 * p + (j : Int)) (by omega) (by omega)
        have h4 := hm' (3 * q + (j : Int)) (by omega) (by omega)
        exact (aS_eq_f hm hm' hp hq a2 (wok3 hm3 a3)).mpr ⟨b1, (ih h3.1 h4.1).mp b2 v a3 (by omega)⟩
    · intro h i hi
      have h3 := hm (3 * p + (i : Int)) (by omega) (by omega)
      have h4 := hm' (3 * q + (i : Int)) (by omega) (by omega)
      have key : ∀ v, wok m v → wlen v ≤ k → o (3 * p + (i : Int)) = o' (3 * q + (i : Int)) ∧ aS t o (t (3 * p + (i : Int))) v = aS t' o' (t' (3 * q + (i : Int))) v := by
        intro v hv hl
        have hi1 : wok m (i + 1) := by
          have := (wok_cc (m := m) (v := 0) (j := i) (by omega)).mpr ⟨hi, wok_0 m⟩
          simpa using this
        have hc := cat_ok hm3 hi1 v hv
        have h1 : wlen (i + 1) = 1 := by
          have := wlen_c 0 (j := i) (by omega)
          rw [wlen_0] at this
          simpa using this
        exact (aS_eq_f hm hm' hp hq (by omega) (wok3 hm3 hv)).mp (h _ hc.1 (by omega))
      exact ⟨(key 0 (wok_0 m) (by rw [wlen_0]; omega)).1, (ih h3.1 h4.1).mpr (fun v hv hl => (key v hv hl).2)⟩
