-- deps: 19.num 22.bfs 26.first
/-! what isn't told apart by words of a few inputs isn't told apart at all -/
section REFINE
variable {N : Nat} {R : Nat → Int → Int → Prop}
/-- so many of N, no two alike at a level -/
def apart (N : Nat) (R : Nat → Int → Int → Prop) (k c : Nat) : Prop := ∃ f : Nat → Int, (∀ j, j < c → 0 ≤ f j ∧ f j < (N : Int)) ∧ ∀ i j, i < j → j < c → ¬ R k (f i) (f j)
theorem apart_le (hrf : ∀ k p, R k p p) {k c : Nat} (h : apart N R k c) : c ≤ N := by
  obtain ⟨f, h1, h2⟩ := h
  refine few (N := N) c (fun j => (f j).toNat) (fun j hj => by have := h1 j hj; omega) (fun i j hij hj e => ?_)
  have a := h1 i (by omega)
  have b := h1 j hj
  have : f i = f j := by omega
  exact h2 i j hij hj (by rw [this]; exact hrf k _)
theorem apart_s (hsy : ∀ k p q, R k p q → R k q p) (htr : ∀ k p q r, R k p q → R k q r → R k p r) (hle : ∀ k p q, R (k + 1) p q → R k p q) {k c : Nat} (h : apart N R k c) {p q : Int} (hp : 0 ≤ p ∧ p < (N : Int)) (hq : 0 ≤ q ∧ q < (N : Int)) (h1 : R k p q) (h2 : ¬ R (k + 1) p q) : apart N R (k + 1) (c + 1) := by
  obtain ⟨f, f1, f2⟩ := h
  have add : ∀ x : Int, 0 ≤ x ∧ x < (N : Int) → (∀ i, i < c → ¬ R (k + 1) (f i) x) → apart N R (k + 1) (c + 1) := by
    intro x hx hno
    refine ⟨fun j => if j < c then f j else x, fun j hj => ?_, fun i j hij hj => ?_⟩
    · by_cases z : j < c
      · simp only [if_pos z]; exact f1 j z
      · simp only [if_neg z]; exact hx
    · by_cases z : j < c
      · simp only [if_pos z, if_pos (show i < c by omega)]
        exact fun g => f2 i j hij z (hle _ _ _ g)
      · simp only [if_neg z, if_pos (show i < c by omega)]
        exact hno i (by omega)
  by_cases z : ∃ i, i < c ∧ R (k + 1) (f i) p
  · obtain ⟨i, hi, gi⟩ := z
    refine add q hq (fun j hj gj => ?_)
    have e : R k (f i) (f j) := htr _ _ _ _ (hle _ _ _ gi) (htr _ _ _ _ h1 (hsy _ _ _ (hle _ _ _ gj)))
    rcases Nat.lt_trichotomy i j with w | w | w
    · exact f2 i j w hj e
    · subst w
      exact h2 (htr _ _ _ _ (hsy _ _ _ gi) gj)
    · exact f2 j i w hi (hsy _ _ _ e)
  · exact add p hp (fun i hi g => z ⟨i, hi, g⟩)
theorem stable (hN : 0 < N) (hrf : ∀ k p, R k p p) (hsy : ∀ k p q, R k p q → R k q p) (htr : ∀ k p q r, R k p q → R k q r → R k p r) (hle : ∀ k p q, R (k + 1) p q → R k p q)
    (hst : ∀ k, (∀ p q : Int, 0 ≤ p ∧ p < (N : Int) → 0 ≤ q ∧ q < (N : Int) → R k p q → R (k + 1) p q) → ∀ p q : Int, 0 ≤ p ∧ p < (N : Int) → 0 ≤ q ∧ q < (N : Int) → R (k + 1) p q → R (k + 2) p q)
    (p q : Int) (hp : 0 ≤ p ∧ p < (N : Int)) (hq : 0 ≤ q ∧ q < (N : Int)) (h : R (N - 1) p q) (k : Nat) : R k p q := by
  have down : ∀ d a p q, R (a + d) p q → R a p q := by
    intro d
    induction d with
    | zero => intro a p q g; exact g
    | succ d ih => intro a p q g; exact ih a p q (hle _ _ _ g)
  have dn : ∀ a b p q, a ≤ b → R b p q → R a p q := fun a b p q hab g => down (b - a) a p q (by rw [show a + (b - a) = b by omega]; exact g)
  have step : ∀ c : Nat, c ≤ N → (∃ j, j < c ∧ ∀ p q : Int, 0 ≤ p ∧ p < (N : Int) → 0 ≤ q ∧ q < (N : Int) → R j p q → R (j + 1) p q) ∨ apart N R c (c + 1) := by
    intro c
    induction c with
    | zero => intro _; exact Or.inr ⟨fun _ => 0, fun _ _ => ⟨Int.le_refl 0, by show (0 : Int) < N; omega⟩, fun i j h1 h2 => by omega⟩
    | succ c ih =>
      intro hc
      rcases ih (by omega) with ⟨j, h1, h2⟩ | g
      · exact Or.inl ⟨j, by omega, h2⟩
      · by_cases z : ∀ p q : Int, 0 ≤ p ∧ p < (N : Int) → 0 ≤ q ∧ q < (N : Int) → R c p q → R (c + 1) p q
        · exact Or.inl ⟨c, by omega, z⟩
        · have : ∃ p q : Int, (0 ≤ p ∧ p < (N : Int)) ∧ (0 ≤ q ∧ q < (N : Int)) ∧ R c p q ∧ ¬ R (c + 1) p q :=
            Classical.byContradiction fun w => z fun p q hp hq g => Classical.byContradiction fun w2 => w ⟨p, q, hp, hq, g, w2⟩
          obtain ⟨p, q, hp, hq, g1, g2⟩ := this
          exact Or.inr (apart_s hsy htr hle g hp hq g1 g2)
  rcases step N (Nat.le_refl N) with ⟨j, h1, h2⟩ | g
  · have up : ∀ d, ∀ p q : Int, 0 ≤ p ∧ p < (N : Int) → 0 ≤ q ∧ q < (N : Int) → R (j + d) p q → R (j + d + 1) p q := by
      intro d
      induction d with
      | zero => exact h2
      | succ d ih => exact hst (j + d) ih
    have all : ∀ d, R j p q → R (j + d) p q := by
      intro d
      induction d with
      | zero => exact fun g => g
      | succ d ih => exact fun g => up d p q hp hq (ih g)
    have hj : R j p q := dn j (N - 1) p q (by omega) h
    by_cases z : k ≤ j
    · exact dn k j p q z hj
    · have := all (k - j) hj
      rwa [show j + (k - j) = k by omega] at this
  · have := apart_le hrf g
    omega
end REFINE
theorem EQ_rf {m : Nat} {t o : Int → Int} : ∀ (k : Nat) (p : Int), EQ m t o t o k p p
  | 0, _ => trivial
  | k + 1, p => fun i _ => ⟨rfl, EQ_rf k _⟩
theorem EQ_sy {m : Nat} {t o t' o' : Int → Int} : ∀ (k : Nat) (p q : Int), EQ m t o t' o' k p q → EQ m t' o' t o k q p
  | 0, _, _, _ => trivial
  | k + 1, p, q, h => fun i hi => ⟨(h i hi).1.symm, EQ_sy k _ _ (h i hi).2⟩
theorem EQ_tr {m : Nat} {t o t' o' s u : Int → Int} : ∀ (k : Nat) (p q r : Int), EQ m t o t' o' k p q → EQ m t' o' s u k q r → EQ m t o s u k p r
  | 0, _, _, _, _, _ => trivial
  | k + 1, p, q, r, h, g => fun i hi => ⟨(h i hi).1.trans (g i hi).1, EQ_tr k _ _ _ (h i hi).2 (g i hi).2⟩
theorem EQ_le {m : Nat} {t o t' o' : Int → Int} : ∀ (k : Nat) (p q : Int), EQ m t o t' o' (k + 1) p q → EQ m t o t' o' k p q
  | 0, _, _, _ => trivial
  | k + 1, p, q, h => fun i hi => ⟨(h i hi).1, EQ_le k _ _ (h i hi).2⟩
/-- of N places that lead to one another: N less 1 inputs do -/
theorem EQ_all {m N : Nat} (hN : 0 < N) {t o : Int → Int} (hc : ∀ (p : Int) (i : Nat), 0 ≤ p → p < (N : Int) → i < m → 0 ≤ t (3 * p + (i : Int)) ∧ t (3 * p + (i : Int)) < (N : Int)) {p q : Int} (hp : 0 ≤ p ∧ p < (N : Int)) (hq : 0 ≤ q ∧ q < (N : Int)) (h : EQ m t o t o (N - 1) p q) (k : Nat) : EQ m t o t o k p q := by
  refine stable (R := EQ m t o t o) hN EQ_rf EQ_sy EQ_tr EQ_le ?_ p q hp hq h k
  intro k hk p q hp hq g i hi
  exact ⟨(g i hi).1, hk _ _ (hc p i hp.1 hp.2 hi) (hc q i hq.1 hq.2 hi) (g i hi).2⟩
/-- two machines side by side -/
def uT (t t' : Int → Int) (a : Int) : Int := if a < 24 then t a else 8 + t' (a - 24)
def uO (o o' : Int → Int) (a : Int) : Int := if a < 24 then o a else o' (a - 24)
theorem EQ_u {m : Nat} (hm3 : m ≤ 3) {t o t' o' : Int → Int} (hm : mok t o) (hm' : mok t' o') : ∀ (k : Nat) (p q : Int), 0 ≤ p ∧ p < 8 → 0 ≤ q ∧ q < 8 → (EQ m (uT t t') (uO o o') (uT t t') (uO o o') k p (8 + q) ↔ EQ m t o t' o' k p q)
  | 0, _, _, _, _ => Iff.rfl
  | k + 1, p, q, hp, hq => by
    have key : ∀ i : Nat, i < m → (uT t t' (3 * p + (i : Int)) = t (3 * p + (i : Int)) ∧ uO o o' (3 * p + (i : Int)) = o (3 * p + (i : Int)) ∧ uT t t' (3 * (8 + q) + (i : Int)) = 8 + t' (3 * q + (i : Int)) ∧ uO o o' (3 * (8 + q) + (i : Int)) = o' (3 * q + (i : Int))) := by
      intro i hi
      unfold uT uO
      rw [if_pos (by omega), if_pos (by omega), if_neg (by omega), if_neg (by omega), show 3 * (8 + q) + (i : Int) - 24 = 3 * q + (i : Int) by omega]
      exact ⟨rfl, rfl, rfl, rfl⟩
    constructor
    · intro h i hi
      obtain ⟨e1, e2, e3, e4⟩ := key i hi
      obtain ⟨h1, h2⟩ := h i hi
      rw [e1, e3] at h2
      rw [e2, e4] at h1
      have a := hm (3 * p + (i : Int)) (by omega) (by omega)
      have b := hm' (3 * q + (i : Int)) (by omega) (by omega)
      exact ⟨h1, (EQ_u hm3 hm hm' k _ _ a.1 b.1).mp h2⟩
    · intro h i hi
      obtain ⟨e1, e2, e3, e4⟩ := key i hi
      obtain ⟨h1, h2⟩ := h i hi
      have a := hm (3 * p + (i : Int)) (by omega) (by omega)
      have b := hm' (3 * q + (i : Int)) (by omega) (by omega)
      rw [e1, e2, e3, e4]
      exact ⟨h1, (EQ_u hm3 hm hm' k _ _ a.1 b.1).mpr h2⟩
theorem EQ_15 {m : Nat} (hm3 : m ≤ 3) {t o t' o' : Int → Int} (hm : mok t o) (hm' : mok t' o') {p q : Int} (hp : 0 ≤ p ∧ p < 8) (hq : 0 ≤ q ∧ q < 8) (h : EQ m t o t' o' 15 p q) (k : Nat) : EQ m t o t' o' k p q := by
  refine (EQ_u hm3 hm hm' k p q hp hq).mp (EQ_all (N := 16) (by decide) ?_ (by omega) (by omega) ((EQ_u hm3 hm hm' 15 p q hp hq).mpr h) k)
  intro r i h1 h2 hi
  unfold uT
  by_cases z : 3 * r + (i : Int) < 24
  · rw [if_pos z]
    have := hm (3 * r + (i : Int)) (by omega) z
    omega
  · rw [if_neg z]
    have := hm' (3 * r + (i : Int) - 24) (by omega) (by omega)
    omega
/-- the first word that tells two places of two machines apart -/
noncomputable def UL (m : Nat) (t o t' o' : Int → Int) (p q : Int) : Int := fw fun w => wok m w ∧ aS t o p w ≠ aS t' o' q w
theorem UL_le {m : Nat} (hm3 : m ≤ 3) {t o t' o' : Int → Int} (hm : mok t o) (hm' : mok t' o') {p q : Int} (hp : 0 ≤ p ∧ p < 8) (hq : 0 ≤ q ∧ q < 8) {w : Nat} (h : wok m w ∧ aS t o p w ≠ aS t' o' q w) : ∃ v, v < 4 ^ 15 ∧ wok m v ∧ aS t o p v ≠ aS t' o' q v := by
  refine Classical.byContradiction fun z => h.2 ?_
  have e : EQ m t o t' o' 15 p q := (EQ_w hm3 hm hm' 15 hp hq).mpr fun v hv hl => Classical.byContradiction fun g => z ⟨v, wlen_le.mp hl, hv, g⟩
  exact (EQ_w hm3 hm hm' (wlen w) hp hq).mp (EQ_15 hm3 hm hm' hp hq e _) w h.1 (Nat.le_refl _)
theorem UL_15 {m : Nat} (hm3 : m ≤ 3) {t o t' o' : Int → Int} (hm : mok t o) (hm' : mok t' o') {p q : Int} (hp : 0 ≤ p ∧ p < 8) (hq : 0 ≤ q ∧ q < 8) : UL m t o t' o' p q = -2 ∨ (0 < UL m t o t' o' p q ∧ UL m t o t' o' p q < 1073741824) := by
  rcases fw_cases (fun w => wok m w ∧ aS t o p w ≠ aS t' o' q w) with ⟨w, h1, h2, h3⟩ | ⟨h1, _⟩
  · refine Or.inr ?_
    show 0 < fw _ ∧ fw _ < 1073741824
    rw [h1]
    obtain ⟨v, a1, a2⟩ := UL_le hm3 hm hm' hp hq h2
    have h4 : w ≤ v := by
      refine Nat.le_of_not_lt fun z => h3 v z a2
    have h5 : w ≠ 0 := by
      intro z; subst z
      exact h2.2 (by rw [aS_0, aS_0])
    have h6 : (4 : Nat) ^ 15 = 1073741824 := by decide
    omega
  · exact Or.inl h1
/-- of N places five inputs, or N less 1, tell apart what can be told apart -/
theorem UL_N {m N : Nat} (hm3 : m ≤ 3) (hN : 0 < N) (hN8 : N ≤ 8) {t o : Int → Int} (hm : mok t o) (hc : ∀ (p : Int) (i : Nat), 0 ≤ p → p < (N : Int) → i < m → 0 ≤ t (3 * p + (i : Int)) ∧ t (3 * p + (i : Int)) < (N : Int)) {p q : Int} (hp : 0 ≤ p ∧ p < (N : Int)) (hq : 0 ≤ q ∧ q < (N : Int)) {w : Nat} (h : wok m w ∧ aS t o p w ≠ aS t o q w) : ∃ v, wlen v ≤ N - 1 ∧ wok m v ∧ aS t o p v ≠ aS t o q v := by
  refine Classical.byContradiction fun z => h.2 ?_
  have e : EQ m t o t o (N - 1) p q := (EQ_w hm3 hm hm (N - 1) (by omega) (by omega)).mpr fun v hv hl => Classical.byContradiction fun g => z ⟨v, hl, hv, g⟩
  exact (EQ_w hm3 hm hm (wlen w) (by omega) (by omega)).mp (EQ_all hN hc hp hq e _) w h.1 (Nat.le_refl _)
