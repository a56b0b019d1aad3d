-- deps: 19.num 22.bfs 26.first 27.refine 29.bits 30.order 31.pair 34.traits
/-! going through places in the order of words: pure; separators of a length -/
def AST (t : Int → Int) (s j : Nat) : Nat := if 8 ≤ s then 8 else (t (3 * (s : Int) + (j : Int))).toNat
theorem AST_d (t : Int → Int) (j : Nat) : AST t 8 j = 8 := if_pos (Nat.le_refl _)
theorem AST_at {S : Nat} (hS : S ≤ 6) {t : Int → Int} (hc : clo S t) {s j : Nat} (hs : s < S) (hj : j < 3) : ((AST t s j : Nat) : Int) = t (3 * (s : Int) + (j : Int)) ∧ AST t s j < S := by
  have := hc (s : Int) j (by omega) (by omega) hj
  unfold AST
  rw [if_neg (by omega)]
  omega
theorem sg_AST {m S : Nat} (hm : m ≤ 3) (hS : S ≤ 6) {t : Int → Int} (hc : clo S t) {p : Nat} (hp : p < S) : ∀ w, wok m w → ((sg (AST t) p w : Nat) : Int) = dS t (p : Int) w ∧ sg (AST t) p w < S := by
  refine w_ind hm ?_ ?_
  · rw [sg_0, dS_0]; exact ⟨rfl, hp⟩
  · intro v j h1 h2 h3 ih
    rw [sg_c _ _ h2, dS_c _ _ _ h2, ← ih.1]
    exact AST_at hS hc ih.2 h2
def AQ (m S : Nat) (t : Int → Int) (p : Nat) (sp pa : Nat → Nat) (tail k i : Nat) : Prop := (∀ L, BI m L 8 (AST t) p sp pa tail k i) ∧ ∀ j, j < tail → sp j < S ∧ pa j < 4 ^ j
theorem AQ_0 {m S : Nat} (hm : m ≤ 3) (hS : S ≤ 6) {t : Int → Int} {p : Nat} (hp : p < S) : AQ m S t p (fun _ => p) (fun _ => 0) 1 0 0 := ⟨fun L => BI_0 hm (by omega) rfl rfl, fun j _ => ⟨hp, Nat.pow_pos (by decide)⟩⟩
theorem AQ_tail {m S : Nat} {t : Int → Int} {p : Nat} {sp pa : Nat → Nat} {tail k i : Nat} (h : AQ m S t p sp pa tail k i) : tail ≤ S ∧ k ≤ tail ∧ i ≤ m ∧ 1 ≤ tail ∧ m ≤ 3 := by
  obtain ⟨h1, h2⟩ := h
  obtain ⟨c1, c2, c3, c4, c5, c6, c7, c8, c9, c10, c11⟩ := h1 0
  exact ⟨few tail sp (fun j hj => (h2 j hj).1) c7, c8, c9, c2, c1⟩
theorem AQ_n {m S : Nat} {t : Int → Int} {p : Nat} {sp pa : Nat → Nat} {tail k : Nat} (h : AQ m S t p sp pa tail k m) (hk : k < tail) : AQ m S t p sp pa tail (k + 1) 0 := ⟨fun L => BI_n (h.1 L) hk, h.2⟩
theorem AQ_o {m S : Nat} {t : Int → Int} {p : Nat} {sp pa : Nat → Nat} {tail k i : Nat} (h : AQ m S t p sp pa tail k i) (hk : k < tail) (hi : i < m) (ho : ∃ j, j < tail ∧ sp j = AST t (sp k) i) : AQ m S t p sp pa tail k (i + 1) := ⟨fun L => BI_o (h.1 L) hk hi (fun _ _ => ho), h.2⟩
theorem AQ_p {m S : Nat} (hS : S ≤ 6) {t : Int → Int} (hc : clo S t) {p : Nat} {sp pa : Nat → Nat} {tail k i : Nat} (h : AQ m S t p sp pa tail k i) (hk : k < tail) (hi : i < m) (ho : ∀ j, j < tail → sp j ≠ AST t (sp k) i) : AQ m S t p (fun j => if j = tail then AST t (sp k) i else sp j) (fun j => if j = tail then 4 * pa k + i + 1 else pa j) (tail + 1) k (i + 1) := by
  have hm3 : m ≤ 3 := (h.1 0).1
  have c := AST_at hS hc (h.2 k hk).1 (show i < 3 by omega)
  refine ⟨fun L => BI_p (h.1 L) hk hi (by omega) ho (fun _ => rfl) (fun _ => rfl), fun j hj => ?_⟩
  by_cases z : j = tail
  · simp only [if_pos z]
    refine ⟨c.2, ?_⟩
    have a := (h.2 k hk).2
    have b : 4 ^ (k + 1) ≤ 4 ^ tail := Nat.pow_le_pow_right (by decide) (by omega)
    rw [Nat.pow_succ] at b
    subst z
    omega
  · simp only [if_neg z]; exact h.2 j (by omega)
theorem AQ_rep {m S : Nat} (hS : S ≤ 6) {t : Int → Int} (hc : clo S t) {p : Nat} (hp : p < S) {sp pa : Nat → Nat} {tail k i : Nat} (h : AQ m S t p sp pa tail k i) {w : Nat} (hw : wok m w) (hl : k < tail → w < 4 * pa k + i + 1) : ∃ j, j < tail ∧ (sp j : Int) = dS t (p : Int) w ∧ pa j ≤ w := by
  have hm3 : m ≤ 3 := (h.1 0).1
  have e := sg_AST hm3 hS hc hp w hw
  obtain ⟨j, b1, b2, b3⟩ := BI_r (h.1 (w + 1)) (AST_d t) w hw (by omega) (by omega) hl
  exact ⟨j, b1, by rw [b2]; exact e.1, b3⟩
/-- what is in the queue has its first word -/
theorem AQ_ac {m S : Nat} (hS : S ≤ 6) {t : Int → Int} (hc : clo S t) {p : Nat} (hp : p < S) {sp pa : Nat → Nat} {tail k i : Nat} (h : AQ m S t p sp pa tail k i) {j : Nat} (hj : j < tail) : AC m t (p : Int) (sp j : Int) = (pa j : Int) := by
  have hm3 : m ≤ 3 := (h.1 0).1
  obtain ⟨c1, c2, c3, c4, c5, c6, c7, c8, c9, c10, c11⟩ := h.1 0
  obtain ⟨a1, a2, a3⟩ := c5 j hj
  have e := sg_AST hm3 hS hc hp (pa j) a1
  refine fw_at ⟨a1, by rw [← e.1, a2]⟩ fun w hw g => ?_
  obtain ⟨x, b1, b2, b3⟩ := AQ_rep hS hc hp h g.1 (fun z => by have := c11 z j hj; omega)
  have : sp x = sp j := by rw [g.2] at b2; omega
  rcases Nat.lt_trichotomy x j with y | y | y
  · exact c7 x j y hj this
  · subst y; omega
  · exact c7 j x y b1 this.symm
theorem AQ_no {m S : Nat} (hS : S ≤ 6) {t : Int → Int} (hc : clo S t) {p : Nat} (hp : p < S) {sp pa : Nat → Nat} {tail k i : Nat} (h : AQ m S t p sp pa tail k i) (hk : tail ≤ k) {x : Nat} (hx : ∀ j, j < tail → sp j ≠ x) : AC m t (p : Int) (x : Int) = -2 := by
  refine fw_no fun w g => ?_
  obtain ⟨j, b1, b2, b3⟩ := AQ_rep hS hc hp h g.1 (fun z => by omega)
  rw [g.2] at b2
  exact hx j b1 (by omega)
/-- the reached states, by bits -/
noncomputable def RMk (S I : Nat) (t : Int → Int) : Nat := orA (fun x => decide (0 ≤ AC I t 0 (x : Int))) (fun x => x) S
theorem RMk_tb (S I : Nat) (t : Int → Int) (x : Nat) : (RMk S I t).testBit x = true ↔ x < S ∧ 0 ≤ AC I t 0 (x : Int) := by
  unfold RMk
  rw [tb_orA]
  constructor
  · rintro ⟨s, h1, h2, h3⟩
    have h3' : s = x := h3
    subst h3'
    exact ⟨h1, by simpa using h2⟩
  · rintro ⟨h1, h2⟩
    exact ⟨x, h1, by simpa using h2, rfl⟩
theorem RMk_lt {S I : Nat} (hS : S ≤ 6) (t : Int → Int) : RMk S I t < 64 := orA_lt (k := 6) fun s h1 _ => by show s < 6; omega
theorem RMk_eq {S I : Nat} {t : Int → Int} {M : Nat} (h : ∀ x, M.testBit x = true ↔ x < S ∧ 0 ≤ AC I t 0 (x : Int)) : M = RMk S I t := tb_ext fun i => by
  have h1 := h i
  have h2 := RMk_tb S I t i
  cases e1 : M.testBit i <;> cases e2 : (RMk S I t).testBit i
  · rfl
  · exact absurd (h1.mpr (h2.mp e2)) (by rw [e1]; decide)
  · exact absurd (h2.mpr (h1.mp e1)) (by rw [e2]; decide)
  · rfl
/-! separators, length by length -/
/-- no word of so many inputs tells them apart -/
def noS (m : Nat) (t o : Int → Int) (a b : Int) (l : Nat) : Prop := ∀ w, wok m w → wlen w ≤ l → aS t o a w = aS t o b w
theorem noS_le {m : Nat} {t o : Int → Int} {a b : Int} {l l' : Nat} (h : noS m t o a b l) (hl : l' ≤ l) : noS m t o a b l' := fun w h1 h2 => h w h1 (by omega)
theorem wok_1 {m i : Nat} (hm : m ≤ 3) (hi : i < m) : wok m (i + 1) ∧ wlen (i + 1) = 1 := by
  have a := (wok_cc (m := m) (v := 0) (j := i) (by omega)).mpr ⟨hi, wok_0 m⟩
  have b := wlen_c 0 (j := i) (by omega)
  rw [wlen_0] at b
  rw [show 4 * 0 + i + 1 = i + 1 by omega] at a b
  exact ⟨a, b⟩
theorem cat_lt {m u v i j : Nat} (hv : wlen u = wlen v) (hij : i < j) : cat (i + 1) u < cat (j + 1) v := by
  unfold cat
  rw [hv]
  have h1 : u < 4 ^ wlen v := by rw [← hv]; exact wlen_le.mp (Nat.le_refl _)
  have h2 : (i + 1) * 4 ^ wlen v + 4 ^ wlen v ≤ (j + 1) * 4 ^ wlen v := by
    rw [← Nat.succ_mul]
    exact Nat.mul_le_mul_right _ (by omega)
  omega
/-- the input i isn't the first of a separator of l + 1 inputs -/
def sepN (m : Nat) (t o : Int → Int) (a b : Int) (l i : Nat) : Prop := o (3 * a + (i : Int)) = o (3 * b + (i : Int)) ∧ ∀ u, wok m u → wlen u = l → aS t o (t (3 * a + (i : Int))) u = aS t o (t (3 * b + (i : Int))) u
theorem sep_end {m S : Nat} (hm3 : m ≤ 3) (hS : S ≤ 6) {t o : Int → Int} (hm : mok t o) {a b : Int} (ha : 0 ≤ a ∧ a < (S : Int)) (hb : 0 ≤ b ∧ b < (S : Int)) {l : Nat} (h0 : noS m t o a b l) (h : ∀ i, i < m → sepN m t o a b l i) : noS m t o a b (l + 1) := by
  intro w hw hl
  by_cases z : wlen w ≤ l
  · exact h0 w hw z
  · by_cases hw0 : w = 0
    · subst hw0; rw [wlen_0] at z; omega
    · obtain ⟨j, v, a1, a2, a3, rfl, a5⟩ := w_fst hm3 w hw hw0
      have := h j a1
      exact (aS_eq_f hm hm (by omega) (by omega) a2 (wok3 hm3 a3)).mpr ⟨this.1, this.2 v a3 (by omega)⟩
theorem sep_out {m S : Nat} (hm3 : m ≤ 3) (hS : S ≤ 6) {t o : Int → Int} (hm : mok t o) {a b : Int} (ha : 0 ≤ a ∧ a < (S : Int)) (hb : 0 ≤ b ∧ b < (S : Int)) {l i : Nat} (hi : i < m) (h0 : noS m t o a b l) (h : ∀ j, j < i → sepN m t o a b l j) (ho : o (3 * a + (i : Int)) ≠ o (3 * b + (i : Int))) : l = 0 ∧ SPr m t o a b = ((i + 1 : Nat) : Int) := by
  obtain ⟨w1, w2⟩ := wok_1 hm3 hi
  have d : aS t o a (i + 1) ≠ aS t o b (i + 1) := by
    rw [aS_1 _ _ _ (by omega), aS_1 _ _ _ (by omega)]; exact ho
  have l0 : l = 0 := by
    refine Classical.byContradiction fun z => d (h0 _ w1 (by omega))
  subst l0
  refine ⟨rfl, fw_at ⟨w1, d⟩ fun x hx g => ?_⟩
  have hl : wlen x ≤ 1 := by rw [← w2]; exact wlen_mono (by omega)
  by_cases hx0 : x = 0
  · subst hx0; exact g.2 (by rw [aS_0, aS_0])
  · obtain ⟨j, v, a1, a2, a3, a4, a5⟩ := w_fst hm3 x g.1 hx0
    have v0 : v = 0 := by
      have : v < 4 ^ 0 := wlen_le.mp (by omega)
      simpa using this
    subst v0
    rw [cat_0] at a4
    subst a4
    have := (h j (by omega)).1
    exact g.2 (by rw [aS_1 _ _ _ a2, aS_1 _ _ _ a2]; exact this)
theorem sep_in {m S : Nat} (hm3 : m ≤ 3) (hS : S ≤ 6) {t o : Int → Int} (hm : mok t o) (hc : clo S t) {a b : Int} (ha : 0 ≤ a ∧ a < (S : Int)) (hb : 0 ≤ b ∧ b < (S : Int)) {l i u : Nat} (hi : i < m) (h0 : noS m t o a b l) (h : ∀ j, j < i → sepN m t o a b l j) (ho : o (3 * a + (i : Int)) = o (3 * b + (i : Int))) (hu : SPr m t o (t (3 * a + (i : Int))) (t (3 * b + (i : Int))) = (u : Int)) (hul : wlen u = l) : SPr m t o a b = ((cat (i + 1) u : Nat) : Int) := by
  obtain ⟨w1, w2⟩ := wok_1 hm3 hi
  obtain ⟨⟨u1, u2⟩, u3⟩ := fw_pos (P := fun w => wok m w ∧ aS t o (t (3 * a + (i : Int))) w ≠ aS t o (t (3 * b + (i : Int))) w) hu
  have cu := cat_ok hm3 w1 u u1
  have d : aS t o a (cat (i + 1) u) ≠ aS t o b (cat (i + 1) u) := fun q => u2 ((aS_eq_f hm hm (by omega) (by omega) (by omega) (wok3 hm3 u1)).mp q).2
  refine fw_at ⟨cu.1, d⟩ fun x hx g => ?_
  have hxl : l < wlen x := Nat.lt_of_not_le fun z => g.2 (h0 x g.1 z)
  have hxl2 : wlen x ≤ l + 1 := by have := wlen_mono (Nat.le_of_lt hx); omega
  obtain ⟨j, v, a1, a2, a3, rfl, a5⟩ := w_fst hm3 x g.1 (fun z => by subst z; rw [wlen_0] at hxl; omega)
  rcases Nat.lt_trichotomy j i with y | y | y
  · have := h j y
    exact g.2 ((aS_eq_f hm hm (by omega) (by omega) a2 (wok3 hm3 a3)).mpr ⟨this.1, this.2 v a3 (by omega)⟩)
  · subst y
    have : v < u := by
      unfold cat at hx
      rw [show wlen v = wlen u by omega] at hx
      omega
    exact g.2 ((aS_eq_f hm hm (by omega) (by omega) a2 (wok3 hm3 a3)).mpr ⟨ho, Classical.byContradiction fun z => u3 v this ⟨a3, z⟩⟩)
  · have := cat_lt (m := m) (u := u) (v := v) (by omega) y
    omega
/-- what stands in the table of separators of up to l inputs -/
def sepT (m : Nat) (t o : Int → Int) (a b : Int) (l : Nat) (x : Int) : Prop := (x = SPr m t o a b ∧ ∃ w : Nat, x = (w : Int) ∧ 0 < w ∧ wlen w ≤ l ∧ wok m w) ∨ (x = -2 ∧ noS m t o a b l)
theorem sepT_5 {m S : Nat} (hm3 : m ≤ 3) (hS : S ≤ 6) {t o : Int → Int} (hm : mok t o) (hc : clo S t) {a b x : Int} (ha : 0 ≤ a ∧ a < (S : Int)) (hb : 0 ≤ b ∧ b < (S : Int)) (h : sepT m t o a b 5 x) : x = SPr m t o a b := by
  rcases h with h | ⟨h1, h2⟩
  · exact h.1
  · rcases SPr_c hm3 hS hm hc ha hb with ⟨q, _⟩ | ⟨w, q1, q2, q3, q4, q5, _⟩
    · rw [h1, q]
    · exact (q3 (h2 w q2 q5)).elim
theorem sepT_sy {m : Nat} {t o : Int → Int} {a b x : Int} {l : Nat} (h : sepT m t o a b l x) : sepT m t o b a l x := by
  rcases h with ⟨h1, h2⟩ | ⟨h1, h2⟩
  · exact Or.inl ⟨by rw [SPr_sy]; exact h1, h2⟩
  · exact Or.inr ⟨h1, fun w a b => (h2 w a b).symm⟩
