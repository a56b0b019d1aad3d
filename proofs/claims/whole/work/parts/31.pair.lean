-- deps: 19.num 22.bfs 26.first 27.refine 29.bits
/-! going through pairs of places: pure -/
theorem w32_b (x : Int) : w32 x = (x + 2147483648) % 4294967296 - 2147483648 := by
  unfold w32
  rw [Int32.toInt_ofInt]
  simp only [Int.bmod, show Int32.size = 4294967296 from rfl]
  omega
def PST (t t' : Int → Int) (s i : Nat) : Nat := if 64 ≤ s then 64 else (8 * t (3 * ((s / 8 : Nat) : Int) + (i : Int)) + t' (3 * ((s % 8 : Nat) : Int) + (i : Int))).toNat
theorem PST_d (t t' : Int → Int) (j : Nat) : PST t t' 64 j = 64 := if_pos (Nat.le_refl _)
theorem PST_at {t t' : Int → Int} (hm : ∀ a : Int, 0 ≤ a → a < 24 → 0 ≤ t a ∧ t a < 8) (hm' : ∀ a : Int, 0 ≤ a → a < 24 → 0 ≤ t' a ∧ t' a < 8) {s i : Nat} (hs : s < 64) (hi : i < 3) : ((PST t t' s i : Nat) : Int) = 8 * t (3 * ((s / 8 : Nat) : Int) + (i : Int)) + t' (3 * ((s % 8 : Nat) : Int) + (i : Int)) ∧ PST t t' s i < 64 := by
  have a := hm (3 * ((s / 8 : Nat) : Int) + (i : Int)) (by omega) (by omega)
  have b := hm' (3 * ((s % 8 : Nat) : Int) + (i : Int)) (by omega) (by omega)
  unfold PST
  rw [if_neg (by omega)]
  omega
theorem sg_PST {t t' : Int → Int} (hm : ∀ a : Int, 0 ≤ a → a < 24 → 0 ≤ t a ∧ t a < 8) (hm' : ∀ a : Int, 0 ≤ a → a < 24 → 0 ≤ t' a ∧ t' a < 8) {p q : Nat} (hp : p < 8) (hq : q < 8) : ∀ w, wok 3 w → ((sg (PST t t') (8 * p + q) w : Nat) : Int) = 8 * dS t p w + dS t' q w ∧ sg (PST t t') (8 * p + q) w < 64 := by
  refine w_ind (by omega) ?_ ?_
  · rw [sg_0, dS_0, dS_0]; omega
  · intro v j h1 h2 h3 ih
    have a := dS_r24 (r24_rf (f := t)) hm (p := (p : Int)) (by omega) v h3
    have b := dS_r24 (r24_rf (f := t')) hm' (p := (q : Int)) (by omega) v h3
    rw [sg_c _ _ h2, dS_c _ _ _ h2, dS_c _ _ _ h2]
    have c := PST_at hm hm' ih.2 h2
    have e1 : ((sg (PST t t') (8 * p + q) v / 8 : Nat) : Int) = dS t p v := by omega
    have e2 : ((sg (PST t t') (8 * p + q) v % 8 : Nat) : Int) = dS t' q v := by omega
    rw [e1, e2] at c
    exact c
def OE (o o' : Int → Int) (s j : Nat) : Prop := o (3 * ((s / 8 : Nat) : Int) + (j : Int)) = o' (3 * ((s % 8 : Nat) : Int) + (j : Int))
/-- the queue of pairs, and no outputs unlike so far -/
def UV (m : Nat) (t o t' o' : Int → Int) (p q : Nat) (sp pa : Nat → Nat) (tail k i : Nat) : Prop :=
  (∀ L, BI m L 64 (PST t t') (8 * p + q) sp pa tail k i) ∧ (∀ j, j < tail → sp j < 64) ∧ ∀ k' j, k' < tail → j < m → (k' < k ∨ (k' = k ∧ j < i)) → OE o o' (sp k') j
theorem UV_ul {m : Nat} {t o t' o' : Int → Int} (hm : mok t o) (hm' : mok t' o') {p q : Nat} (hp : p < 8) (hq : q < 8) {sp pa : Nat → Nat} {tail k i : Nat} (h : UV m t o t' o' p q sp pa tail k i) : ∀ w, wok m w → (k < tail → w < 4 * pa k + i + 1) → aS t o p w = aS t' o' q w := by
  obtain ⟨h1, h2, h3⟩ := h
  have hm3 : m ≤ 3 := (h1 0).1
  intro w
  induction w using Nat.strongRecOn with
  | ind w ih =>
    intro hw hl
    by_cases h0 : w = 0
    · subst h0; rw [aS_0, aS_0]
    · obtain ⟨v, j, a1, a2, a3, rfl⟩ := wok_ne hm3 hw h0
      refine (aS_eq_c hm hm' (by omega) (by omega) a2 (wok3 hm3 a3)).mpr ⟨ih v (by omega) a3 (fun z => by have := hl z; omega), ?_⟩
      have e := sg_PST (mok_t hm) (mok_t hm') hp hq v (wok3 hm3 a3)
      obtain ⟨k2, b1, b2, b3⟩ := BI_r (h1 (v + 1)) (PST_d t t') v a3 (by omega) (by omega) (fun z => by have := hl z; omega)
      have d1 := dS_r24 (r24_rf (f := t)) (mok_t hm) (p := (p : Int)) (by omega) v (wok3 hm3 a3)
      have d2 := dS_r24 (r24_rf (f := t')) (mok_t hm') (p := (q : Int)) (by omega) v (wok3 hm3 a3)
      have hbef : k2 < k ∨ (k2 = k ∧ j < i) := by
        obtain ⟨c1, c2, c3, c4, c5, c6, c7, c8, c9, c10, c11⟩ := h1 0
        by_cases z : k < tail
        · have l := hl z
          rcases Nat.lt_trichotomy k2 k with y | y | y
          · exact Or.inl y
          · subst y; exact Or.inr ⟨rfl, by omega⟩
          · have := c6 k k2 y b1; omega
        · exact Or.inl (by omega)
      have := h3 k2 j b1 a1 hbef
      unfold OE at this
      rw [b2, show ((sg (PST t t') (8 * p + q) v / 8 : Nat) : Int) = dS t p v by omega, show ((sg (PST t t') (8 * p + q) v % 8 : Nat) : Int) = dS t' q v by omega] at this
      exact this
theorem UV_no {m : Nat} {t o t' o' : Int → Int} (hm : mok t o) (hm' : mok t' o') {p q : Nat} (hp : p < 8) (hq : q < 8) {sp pa : Nat → Nat} {tail k i : Nat} (h : UV m t o t' o' p q sp pa tail k i) (hk : tail ≤ k) : UL m t o t' o' p q = -2 :=
  fw_no fun w g => g.2 (UV_ul hm hm' hp hq h w g.1 (fun z => by omega))
theorem UV_at {m : Nat} {t o t' o' : Int → Int} (hm : mok t o) (hm' : mok t' o') {p q : Nat} (hp : p < 8) (hq : q < 8) {sp pa : Nat → Nat} {tail k i : Nat} (h : UV m t o t' o' p q sp pa tail k i) (hk : k < tail) (hi : i < m) (hn : ¬ OE o o' (sp k) i) : UL m t o t' o' p q = ((4 * pa k + i + 1 : Nat) : Int) := by
  have hm3 : m ≤ 3 := (h.1 0).1
  have b := (h.1 0).2.2.2.2.1 k hk
  have e := sg_PST (mok_t hm) (mok_t hm') hp hq _ (wok3 hm3 b.1)
  have d1 := dS_r24 (r24_rf (f := t)) (mok_t hm) (p := (p : Int)) (by omega) _ (wok3 hm3 b.1)
  have d2 := dS_r24 (r24_rf (f := t')) (mok_t hm') (p := (q : Int)) (by omega) _ (wok3 hm3 b.1)
  refine fw_at ⟨(wok_cc (by omega)).mpr ⟨hi, b.1⟩, fun g => hn ?_⟩ fun w hw g => g.2 (UV_ul hm hm' hp hq h w g.1 (fun _ => hw))
  have := ((aS_eq_c hm hm' (by omega) (by omega) (by omega) (wok3 hm3 b.1)).mp g).2
  unfold OE
  rw [← b.2.1, show ((sg (PST t t') (8 * p + q) (pa k) / 8 : Nat) : Int) = dS t p (pa k) by omega, show ((sg (PST t t') (8 * p + q) (pa k) % 8 : Nat) : Int) = dS t' q (pa k) by omega]
  exact this
theorem UV_0 {m : Nat} (hm3 : m ≤ 3) {t o t' o' : Int → Int} {p q : Nat} (hp : p < 8) (hq : q < 8) : UV m t o t' o' p q (fun _ => 8 * p + q) (fun _ => 0) 1 0 0 :=
  ⟨fun L => BI_0 hm3 (by omega) rfl rfl, fun j _ => by show 8 * p + q < 64; omega, fun k' j h1 h2 h3 => by omega⟩
theorem UV_tail {m : Nat} {t o t' o' : Int → Int} {p q : Nat} {sp pa : Nat → Nat} {tail k i : Nat} (h : UV m t o t' o' p q sp pa tail k i) : tail ≤ 64 ∧ k ≤ tail ∧ i ≤ m ∧ m ≤ 3 := by
  obtain ⟨h1, h2, h3⟩ := h
  obtain ⟨c1, c2, c3, c4, c5, c6, c7, c8, c9, c10, c11⟩ := h1 0
  exact ⟨few tail sp h2 c7, c8, c9, c1⟩
theorem UV_n {m : Nat} {t o t' o' : Int → Int} {p q : Nat} {sp pa : Nat → Nat} {tail k : Nat} (h : UV m t o t' o' p q sp pa tail k m) (hk : k < tail) : UV m t o t' o' p q sp pa tail (k + 1) 0 :=
  ⟨fun L => BI_n (h.1 L) hk, h.2.1, fun k' j h1 h2 h3 => h.2.2 k' j h1 h2 (by omega)⟩
theorem UV_oe {m : Nat} {t o t' o' : Int → Int} {p q : Nat} {sp pa : Nat → Nat} {tail k i : Nat} (h : UV m t o t' o' p q sp pa tail k i) (hoe : OE o o' (sp k) i) : ∀ k' j, k' < tail → j < m → (k' < k ∨ (k' = k ∧ j < i + 1)) → OE o o' (sp k') j := by
  intro k' j h1 h2 h3
  by_cases z : k' = k ∧ j = i
  · rw [z.1, z.2]; exact hoe
  · exact h.2.2 k' j h1 h2 (by omega)
theorem UV_o {m : Nat} {t o t' o' : Int → Int} {p q : Nat} {sp pa : Nat → Nat} {tail k i : Nat} (h : UV m t o t' o' p q sp pa tail k i) (hk : k < tail) (hi : i < m) (hoe : OE o o' (sp k) i) (ho : ∃ j, j < tail ∧ sp j = PST t t' (sp k) i) : UV m t o t' o' p q sp pa tail k (i + 1) :=
  ⟨fun L => BI_o (h.1 L) hk hi (fun _ _ => ho), h.2.1, UV_oe h hoe⟩
theorem UV_p {m : Nat} {t o t' o' : Int → Int} (hm : mok t o) (hm' : mok t' o') {p q : Nat} {sp pa : Nat → Nat} {tail k i : Nat} (h : UV m t o t' o' p q sp pa tail k i) (hk : k < tail) (hi : i < m) (hoe : OE o o' (sp k) i) (ho : ∀ j, j < tail → sp j ≠ PST t t' (sp k) i) : UV m t o t' o' p q (fun j => if j = tail then PST t t' (sp k) i else sp j) (fun j => if j = tail then 4 * pa k + i + 1 else pa j) (tail + 1) k (i + 1) := by
  have hm3 : m ≤ 3 := (h.1 0).1
  have c := PST_at (mok_t hm) (mok_t hm') (h.2.1 k hk) (show i < 3 by omega)
  refine ⟨fun L => BI_p (h.1 L) hk hi (by omega) ho (fun _ => rfl) (fun _ => rfl), fun j hj => ?_, fun k' j h1 h2 h3 => ?_⟩
  · by_cases z : j = tail
    · simp only [if_pos z]; exact c.2
    · simp only [if_neg z]; exact h.2.1 j (by omega)
  · have z : ¬ k' = tail := by omega
    simp only [if_neg z]
    exact UV_oe h hoe k' j (by omega) h2 h3
