-- deps: 19.num 22.bfs 26.first
/-! short words; the word behind a word -/
theorem swap {m : Nat} (hm : m ≤ 3) {t : Int → Int} {p : Int} {u : Nat} (hu : wok m u) : ∀ (i w : Nat), wok m w → i ≤ wlen w → dS t p u = dS t p (w / 4 ^ i) → u < w / 4 ^ i → ∃ v, wok m v ∧ dS t p v = dS t p w ∧ v < w
  | 0, w, hw, _, h1, h2 => ⟨u, hu, by simpa using h1, by simpa using h2⟩
  | i + 1, w, hw, hl, h1, h2 => by
    by_cases h0 : w = 0
    · subst h0; rw [wlen_0] at hl; omega
    · obtain ⟨w', j, a1, a2, a3, rfl⟩ := wok_ne hm hw h0
      rw [wlen_c _ a2] at hl
      have e : (4 * w' + j + 1) / 4 ^ (i + 1) = w' / 4 ^ i := by
        rw [Nat.pow_succ, Nat.mul_comm (4 ^ i) 4, ← Nat.div_div_eq_div_mul, show (4 * w' + j + 1) / 4 = w' by omega]
      rw [e] at h1 h2
      obtain ⟨v, b1, b2, b3⟩ := swap hm hu i w' a3 (by omega) h1 h2
      exact ⟨4 * v + j + 1, (wok_cc a2).mpr ⟨a1, b1⟩, by rw [dS_c _ _ _ a2, dS_c _ _ _ a2, b2], by omega⟩
theorem div_nz {w k : Nat} (hk : k < wlen w) : w / 4 ^ k ≠ 0 := by
  intro q
  have := (@wlen_le k w).mpr ((Nat.div_eq_zero_iff_lt (Nat.pow_pos (by decide))).mp q)
  omega
theorem div_lt_div {w i j : Nat} (hij : i < j) (h : w / 4 ^ i ≠ 0) : w / 4 ^ j < w / 4 ^ i := by
  have e : w / 4 ^ j = w / 4 ^ i / 4 ^ (j - i) := by rw [Nat.div_div_eq_div_mul, ← Nat.pow_add, show i + (j - i) = j by omega]
  rw [e]
  refine Nat.div_lt_self (Nat.pos_of_ne_zero h) ?_
  have : 4 ^ 1 ≤ 4 ^ (j - i) := Nat.pow_le_pow_right (by decide) (by omega)
  omega
theorem dS_cl {m N : Nat} (hm : m ≤ 3) {t : Int → Int} (hc : ∀ (p : Int) (i : Nat), 0 ≤ p → p < (N : Int) → i < m → 0 ≤ t (3 * p + (i : Int)) ∧ t (3 * p + (i : Int)) < (N : Int)) {p : Int} (hp : 0 ≤ p ∧ p < (N : Int)) : ∀ w, wok m w → 0 ≤ dS t p w ∧ dS t p w < (N : Int) := by
  refine w_ind hm ?_ ?_
  · rw [dS_0]; exact hp
  · intro v j h1 h2 h3 ih
    rw [dS_c _ _ _ h2]
    exact hc _ _ ih.1 ih.2 h1
/-- a place to which a word leads is one to which one of less than N inputs leads -/
theorem short {m N : Nat} (hm : m ≤ 3) {t : Int → Int} (hc : ∀ (p : Int) (i : Nat), 0 ≤ p → p < (N : Int) → i < m → 0 ≤ t (3 * p + (i : Int)) ∧ t (3 * p + (i : Int)) < (N : Int)) {p : Int} (hp : 0 ≤ p ∧ p < (N : Int)) : ∀ w, wok m w → ∃ v, wok m v ∧ dS t p v = dS t p w ∧ v ≤ w ∧ wlen v < N := by
  intro w
  induction w using Nat.strongRecOn with
  | ind w ih =>
    intro hw
    by_cases hl : wlen w < N
    · exact ⟨w, hw, rfl, Nat.le_refl _, hl⟩
    · have : ∃ i j, i < j ∧ j < wlen w + 1 ∧ (dS t p (w / 4 ^ i)).toNat = (dS t p (w / 4 ^ j)).toNat := by
        refine Classical.byContradiction fun z => ?_
        have := few (N := N) (wlen w + 1) (fun k => (dS t p (w / 4 ^ k)).toNat) (fun k hk => by have := dS_cl hm hc hp _ (wok_divp k hw); omega) (fun i j h1 h2 h3 => z ⟨i, j, h1, h2, h3⟩)
        omega
      obtain ⟨i, j, h1, h2, h3⟩ := this
      have a := dS_cl hm hc hp _ (wok_divp i hw)
      have b := dS_cl hm hc hp _ (wok_divp j hw)
      obtain ⟨v, c1, c2, c3⟩ := swap hm (wok_divp j hw) i w hw (by omega) (show dS t p (w / 4 ^ j) = dS t p (w / 4 ^ i) by omega) (div_lt_div h1 (div_nz (by omega)))
      obtain ⟨x, d1, d2, d3, d4⟩ := ih v c3 c1
      exact ⟨x, d1, d2.trans c2, by omega, d4⟩
/-- the word behind a word -/
def aft (m w : Nat) : Nat := if h : w = 0 then 1 else if w % 4 = m then 4 * aft m (w / 4) + 1 else w + 1
termination_by w
decreasing_by omega
theorem aft_0 (m : Nat) : aft m 0 = 1 := by unfold aft; simp
theorem aft_t {m w : Nat} (h : w ≠ 0) (h2 : w % 4 = m) : aft m w = 4 * aft m (w / 4) + 1 := by rw [aft, dif_neg h, if_pos h2]
theorem aft_f {m w : Nat} (h2 : w = 0 ∨ w % 4 ≠ m) : aft m w = w + 1 := by
  rw [aft]
  split
  · omega
  · rw [if_neg (by omega)]
theorem aft_ok {m : Nat} (h1 : 1 ≤ m) (hm : m ≤ 3) : ∀ w, wok m w → wok m (aft m w) ∧ w < aft m w ∧ ∀ x, w < x → x < aft m w → ¬ wok m x := by
  intro w
  induction w using Nat.strongRecOn with
  | ind w ih =>
    intro hw
    by_cases h0 : w = 0
    · subst h0
      rw [aft_0]
      refine ⟨?_, by omega, fun x _ _ => by omega⟩
      have := (wok_cc (m := m) (v := 0) (j := 0) (by omega)).mpr ⟨by omega, wok_0 m⟩
      simpa using this
    · obtain ⟨v, j, a1, a2, a3, rfl⟩ := wok_ne hm hw h0
      obtain ⟨b1, b2, b3⟩ := ih v (by omega) a3
      by_cases h2 : (4 * v + j + 1) % 4 = m
      · rw [aft_t h0 h2, show (4 * v + j + 1) / 4 = v by omega]
        refine ⟨?_, by omega, fun x x1 x2 hx => ?_⟩
        · have := (wok_cc (m := m) (v := aft m v) (j := 0) (by omega)).mpr ⟨by omega, b1⟩
          simpa using this
        · obtain ⟨y, e, c1, c2, c3, rfl⟩ := wok_ne hm hx (by omega)
          exact b3 y (by omega) (by omega) c3
      · rw [aft_f (Or.inr h2)]
        refine ⟨?_, by omega, fun x x1 x2 => by omega⟩
        have := (wok_cc (m := m) (v := v) (j := j + 1) (by omega)).mpr ⟨by omega, a3⟩
        exact this
theorem wlen_mono {a b : Nat} (h : a ≤ b) : wlen a ≤ wlen b := wlen_le.mpr (Nat.lt_of_le_of_lt h (wlen_le.mp (Nat.le_refl _)))
theorem wlen_lt {a b : Nat} (h : wlen a < wlen b) : a < b := by
  refine Nat.lt_of_not_le fun z => ?_
  have := wlen_mono z
  omega
/-- going on by words: all ahead of a word -/
theorem aft_all {m w : Nat} (h1 : 1 ≤ m) (hm : m ≤ 3) (hw : wok m w) {P : Nat → Prop} (h : ∀ x, x < w → wok m x → P x) (hP : P w) : ∀ x, x < aft m w → wok m x → P x := by
  intro x hx hok
  rcases Nat.lt_trichotomy x w with z | z | z
  · exact h x z hok
  · subst z; exact hP
  · exact ((aft_ok h1 hm w hw).2.2 x z hx hok).elim
theorem wok_m0 {w : Nat} (h : wok 0 w) : w = 0 := by
  refine Classical.byContradiction fun z => ?_
  have := (wok_s z).mp h
  omega
