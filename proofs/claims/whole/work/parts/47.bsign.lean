-- deps: 19.num 22.bfs 26.first 27.refine 29.bits 30.order 31.pair 34.traits 40
/-! going through spots up to a goal; signs: pure -/
def rk (w : Nat) : Nat := if h : w = 0 then 0 else 3 * rk (w / 4) + w % 4
termination_by w
decreasing_by omega
theorem rk_0 : rk 0 = 0 := by unfold rk; simp
theorem rk_c (v : Nat) {j : Nat} (hj : j < 3) : rk (4 * v + j + 1) = 3 * rk v + (j + 1) := by
  rw [rk, dif_neg (by omega), show (4 * v + j + 1) / 4 = v by omega, show (4 * v + j + 1) % 4 = j + 1 by omega]
theorem rk_lt : ∀ w, wok 3 w → 2 * rk w + 3 ≤ 3 ^ (wlen w + 1) := by
  refine w_ind (by omega) ?_ ?_
  · rw [rk_0, wlen_0]; decide
  · intro v j h1 h2 h3 ih
    rw [rk_c _ h2, wlen_c _ h2, Nat.pow_succ]
    omega
theorem rk_inj : ∀ w, wok 3 w → ∀ w', wok 3 w' → rk w = rk w' → w = w' := by
  refine w_ind (by omega) ?_ ?_
  · intro w' hw' e
    by_cases z : w' = 0
    · exact z.symm
    · obtain ⟨v, j, a1, a2, a3, rfl⟩ := wok_ne (by omega) hw' z
      rw [rk_0, rk_c _ a2] at e; omega
  · intro v j h1 h2 h3 ih w' hw' e
    by_cases z : w' = 0
    · subst z; rw [rk_0, rk_c _ h2] at e; omega
    · obtain ⟨v', j', a1, a2, a3, rfl⟩ := wok_ne (by omega) hw' z
      rw [rk_c _ h2, rk_c _ a2] at e
      have : v = v' := ih v' a3 (by omega)
      subst this
      omega
theorem few_w {m t : Nat} (hm : m ≤ 3) {pa : Nat → Nat} (h1 : ∀ k, k < t → wok m (pa k) ∧ pa k < 16384) (h2 : ∀ j k, j < k → k < t → pa j < pa k) : t ≤ 3280 := by
  refine few (N := 3280) t (fun k => rk (pa k)) (fun k hk => ?_) (fun j k hj hk e => ?_)
  · have a := rk_lt _ (wok3 hm (h1 k hk).1)
    have b : wlen (pa k) ≤ 7 := wlen_le.mpr (by have := (h1 k hk).2; have : (4 : Nat) ^ 7 = 16384 := by decide
                                                omega)
    have c : (3 : Nat) ^ (wlen (pa k) + 1) ≤ 3 ^ 8 := Nat.pow_le_pow_right (by decide) (by omega)
    have d : (3 : Nat) ^ 8 = 6561 := by decide
    omega
  · have := rk_inj _ (wok3 hm (h1 j (by omega)).1) _ (wok3 hm (h1 k hk).1) e
    have := h2 j k hj hk
    omega
/-- the queue, and no goal so far -/
def BS (m dead : Nat) (st : Nat → Nat → Nat) (s0 : Nat) (G : Nat → Prop) (sp pa : Nat → Nat) (tail k i : Nat) : Prop := BI m 16384 dead st s0 sp pa tail k i ∧ (∀ j, j < tail → pa j < 16384) ∧ ∀ k' j, k' < tail → j < m → (k' < k ∨ (k' = k ∧ j < i)) → ¬ G (st (sp k') j)
section
variable {m dead : Nat} {st : Nat → Nat → Nat} {s0 : Nat} {G : Nat → Prop} {sp pa : Nat → Nat} {tail k i : Nat}
theorem BS_0 (hm : m ≤ 3) (h0 : s0 ≠ dead) : BS m dead st s0 G (fun _ => s0) (fun _ => 0) 1 0 0 := ⟨BI_0 hm h0 rfl rfl, fun j _ => by show 0 < 16384; omega, fun k' j h1 h2 h3 => by omega⟩
theorem BS_tail (h : BS m dead st s0 G sp pa tail k i) : tail ≤ 3280 ∧ k ≤ tail ∧ i ≤ m ∧ m ≤ 3 ∧ 1 ≤ tail := by
  obtain ⟨⟨c1, c2, c3, c4, c5, c6, c7, c8, c9, c10, c11⟩, h2, h3⟩ := h
  exact ⟨few_w c1 (fun k hk => ⟨(c5 k hk).1, h2 k hk⟩) c6, c8, c9, c1, c2⟩
theorem BS_n (h : BS m dead st s0 G sp pa tail k m) (hk : k < tail) : BS m dead st s0 G sp pa tail (k + 1) 0 := ⟨BI_n h.1 hk, h.2.1, fun k' j h1 h2 h3 => h.2.2 k' j h1 h2 (by omega)⟩
theorem BS_g (h : BS m dead st s0 G sp pa tail k i) (hg : ¬ G (st (sp k) i)) : ∀ k' j, k' < tail → j < m → (k' < k ∨ (k' = k ∧ j < i + 1)) → ¬ G (st (sp k') j) := by
  intro k' j h1 h2 h3
  by_cases z : k' = k ∧ j = i
  · rw [z.1, z.2]; exact hg
  · exact h.2.2 k' j h1 h2 (by omega)
theorem BS_o (h : BS m dead st s0 G sp pa tail k i) (hk : k < tail) (hi : i < m) (hg : ¬ G (st (sp k) i)) (ho : 4 * pa k + i + 1 < 16384 → st (sp k) i ≠ dead → ∃ j, j < tail ∧ sp j = st (sp k) i) : BS m dead st s0 G sp pa tail k (i + 1) := ⟨BI_o h.1 hk hi ho, h.2.1, BS_g h hg⟩
theorem BS_p (h : BS m dead st s0 G sp pa tail k i) (hk : k < tail) (hi : i < m) (hg : ¬ G (st (sp k) i)) (hl : 4 * pa k + i + 1 < 16384) (hd : st (sp k) i ≠ dead) (ho : ∀ j, j < tail → sp j ≠ st (sp k) i) : BS m dead st s0 G (fun j => if j = tail then st (sp k) i else sp j) (fun j => if j = tail then 4 * pa k + i + 1 else pa j) (tail + 1) k (i + 1) := by
  refine ⟨BI_p h.1 hk hi hd ho (fun _ => rfl) (fun _ => rfl), fun j hj => ?_, fun k' j h1 h2 h3 => ?_⟩
  · by_cases z : j = tail
    · simp only [if_pos z]; exact hl
    · simp only [if_neg z]; exact h.2.1 j (by omega)
  · have z : ¬ k' = tail := by omega
    simp only [if_neg z]
    exact BS_g h hg k' j (by omega) h2 h3
theorem BS_all (h : BS m dead st s0 G sp pa tail k i) (hdd : ∀ j, st dead j = dead) (hGd : ¬ G dead) (hG0 : ¬ G s0) {w : Nat} (hw : wok m w) (hl : wlen w ≤ 8) (hb : k < tail → w < 4 * pa k + i + 1) : ¬ G (sg st s0 w) := by
  have hm3 : m ≤ 3 := h.1.1
  by_cases h0 : w = 0
  · subst h0; rw [sg_0]; exact hG0
  · obtain ⟨v, j, a1, a2, a3, rfl⟩ := wok_ne hm3 hw h0
    rw [wlen_c _ a2] at hl
    rw [sg_c _ _ a2]
    intro g
    have hv : sg st s0 v ≠ dead := fun q => hGd (by rw [q, hdd] at g; exact g)
    have hv7 : v < 16384 := by
      have : v < 4 ^ 7 := wlen_le.mp (by omega)
      have : (4 : Nat) ^ 7 = 16384 := by decide
      omega
    obtain ⟨k2, b1, b2, b3⟩ := BI_r h.1 hdd v a3 hv7 hv (fun z => by have := hb z; omega)
    rw [← b2] at g
    refine h.2.2 k2 j b1 a1 ?_ g
    obtain ⟨c1, c2, c3, c4, c5, c6, c7, c8, c9, c10, c11⟩ := h.1
    by_cases z : k < tail
    · have l := hb z
      rcases Nat.lt_trichotomy k2 k with y | y | y
      · exact Or.inl y
      · subst y; exact Or.inr ⟨rfl, by omega⟩
      · have := c6 k k2 y b1; omega
    · exact Or.inl (by omega)
theorem BS_no (h : BS m dead st s0 G sp pa tail k i) (hdd : ∀ j, st dead j = dead) (hGd : ¬ G dead) (hG0 : ¬ G s0) (hk : tail ≤ k) : fw (fun w => wok m w ∧ wlen w ≤ 8 ∧ G (sg st s0 w)) = -2 :=
  fw_no fun w g => BS_all h hdd hGd hG0 g.1 g.2.1 (fun z => by omega) g.2.2
theorem BS_at (h : BS m dead st s0 G sp pa tail k i) (hdd : ∀ j, st dead j = dead) (hGd : ¬ G dead) (hG0 : ¬ G s0) (hk : k < tail) (hi : i < m) (hg : G (st (sp k) i)) : fw (fun w => wok m w ∧ wlen w ≤ 8 ∧ G (sg st s0 w)) = ((4 * pa k + i + 1 : Nat) : Int) ∧ 4 * pa k + i + 1 < 65536 := by
  have hm3 : m ≤ 3 := h.1.1
  have b := h.1.2.2.2.2.1 k hk
  have p := h.2.1 k hk
  refine ⟨fw_at ⟨(wok_cc (by omega)).mpr ⟨hi, b.1⟩, ?_, ?_⟩ fun w hw g => BS_all h hdd hGd hG0 g.1 g.2.1 (fun _ => hw) g.2.2, by omega⟩
  · rw [wlen_c _ (by omega)]
    have : wlen (pa k) ≤ 7 := wlen_le.mpr (by have : (4 : Nat) ^ 7 = 16384 := by decide
                                              omega)
    omega
  · rw [sg_c _ _ (by omega), b.2.1]; exact hg
end
/-! signs -/
def SGo (S : Nat) (t o : Int → Int) (s j : Nat) : Nat := orA (fun x => (s / 8).testBit x && decide (o (3 * (x : Int) + (j : Int)) = o (3 * ((s % 8 : Nat) : Int) + (j : Int)))) (fun x => (t (3 * (x : Int) + (j : Int))).toNat) S
def SGT (S : Nat) (t o : Int → Int) (s j : Nat) : Nat := if 512 ≤ s then 512 else if (SGo S t o s j).testBit (t (3 * ((s % 8 : Nat) : Int) + (j : Int))).toNat = true then 512 else 8 * SGo S t o s j + (t (3 * ((s % 8 : Nat) : Int) + (j : Int))).toNat
theorem SGT_d (S : Nat) (t o : Int → Int) (j : Nat) : SGT S t o 512 j = 512 := if_pos (Nat.le_refl _)
/-- a word that tells a state from the reached ones -/
def isSg (S I : Nat) (t o : Int → Int) (s w : Nat) : Prop := ∀ x, x < S → x ≠ s → 0 ≤ AC I t 0 (x : Int) → aS t o (x : Int) w ≠ aS t o (s : Int) w
theorem SGo_lt {S : Nat} (hS : S ≤ 6) {t o : Int → Int} (hc : clo S t) {s j : Nat} (hj : j < 3) : SGo S t o s j < 64 := orA_lt (k := 6) fun x h1 _ => by
  have := hc (x : Int) j (by omega) (by omega) hj
  show (t (3 * (x : Int) + (j : Int))).toNat < 6
  omega
theorem SGT_sem {S I : Nat} (hS : S ≤ 6) (hI : I ≤ 3) {t o : Int → Int} (hm : mok t o) (hc : clo S t) {s R : Nat} (hs : s < S) (hR : R < 64) (hRS : ∀ x, R.testBit x = true → x < S) : ∀ w, wok I w → (sg (SGT S t o) (8 * R + s) w = 512 ∧ ∃ x, R.testBit x = true ∧ dS t (x : Int) w = dS t (s : Int) w ∧ aS t o (x : Int) w = aS t o (s : Int) w) ∨ ∃ M, sg (SGT S t o) (8 * R + s) w = 8 * M + (dS t (s : Int) w).toNat ∧ M < 64 ∧ ∀ y : Nat, M.testBit y = true ↔ ∃ x, R.testBit x = true ∧ dS t (x : Int) w = (y : Int) ∧ aS t o (x : Int) w = aS t o (s : Int) w := by
  refine w_ind hI ?_ ?_
  · refine Or.inr ⟨R, by rw [sg_0, dS_0]; omega, hR, fun y => ?_⟩
    constructor
    · intro h; exact ⟨y, h, dS_0 _ _, by rw [aS_0, aS_0]⟩
    · rintro ⟨x, h1, h2, h3⟩
      rw [dS_0] at h2
      have : x = y := by omega
      subst this; exact h1
  · intro v j h1 h2 h3 ih
    have ds : ∀ x : Nat, x < S → 0 ≤ dS t (x : Int) v ∧ dS t (x : Int) v < (S : Int) := fun x hx => dS_cl hI (clo_m hI hc) (by omega) v h3
    have eqc : ∀ x : Nat, x < S → (aS t o (x : Int) (4 * v + j + 1) = aS t o (s : Int) (4 * v + j + 1) ↔ (aS t o (x : Int) v = aS t o (s : Int) v ∧ o (3 * dS t (x : Int) v + (j : Int)) = o (3 * dS t (s : Int) v + (j : Int)))) := fun x hx => aS_eq_c hm hm (by omega) (by omega) h2 (wok3 hI h3)
    rw [sg_c _ _ h2]
    rcases ih with ⟨a1, x, a2, a3, a4⟩ | ⟨M, a1, a2, a3⟩
    · refine Or.inl ⟨by rw [a1]; exact SGT_d _ _ _ _, x, a2, ?_, ?_⟩
      · rw [dS_c _ _ _ h2, dS_c _ _ _ h2, a3]
      · rw [aS_c _ _ _ _ h2, aS_c _ _ _ _ h2, a3, a4]
    · have dss := ds s hs
      obtain ⟨p, hp⟩ := Int.eq_ofNat_of_zero_le dss.1
      have e8 : (8 * M + (dS t (s : Int) v).toNat) / 8 = M := by omega
      have m8 : (8 * M + (dS t (s : Int) v).toNat) % 8 = p := by omega
      have ct := hc (p : Int) j (by omega) (by omega) h2
      rw [a1]
      have key : ∀ y : Nat, (SGo S t o (8 * M + (dS t (s : Int) v).toNat) j).testBit y = true ↔ ∃ x, R.testBit x = true ∧ dS t (x : Int) (4 * v + j + 1) = (y : Int) ∧ aS t o (x : Int) (4 * v + j + 1) = aS t o (s : Int) (4 * v + j + 1) := by
        intro y
        unfold SGo
        rw [tb_orA, e8, m8]
        constructor
        · rintro ⟨z, z1, z2, z3⟩
          simp only [Bool.and_eq_true, decide_eq_true_eq] at z2
          obtain ⟨x, x1, x2, x3⟩ := (a3 z).mp z2.1
          have cz := hc (z : Int) j (by omega) (by omega) h2
          refine ⟨x, x1, ?_, (eqc x (hRS x x1)).mpr ⟨x3, ?_⟩⟩
          · rw [dS_c _ _ _ h2, x2]
            have z3' : (t (3 * (z : Int) + (j : Int))).toNat = y := z3
            omega
          · rw [x2, hp]; exact z2.2
        · rintro ⟨x, x1, x2, x3⟩
          have hx := hRS x x1
          obtain ⟨x4, x5⟩ := (eqc x hx).mp x3
          have dx := ds x hx
          obtain ⟨z, hz⟩ := Int.eq_ofNat_of_zero_le dx.1
          refine ⟨z, by omega, ?_, ?_⟩
          · simp only [Bool.and_eq_true, decide_eq_true_eq]
            refine ⟨(a3 z).mpr ⟨x, x1, hz, x4⟩, ?_⟩
            rw [← hz, ← hp]; exact x5
          · show (t (3 * (z : Int) + (j : Int))).toNat = y
            rw [dS_c _ _ _ h2, hz] at x2
            omega
      unfold SGT
      rw [if_neg (by omega), m8]
      have et : dS t (s : Int) (4 * v + j + 1) = t (3 * (p : Int) + (j : Int)) := by rw [dS_c _ _ _ h2, hp]
      split
      · rename_i hb
        obtain ⟨x, x1, x2, x3⟩ := (key _).mp hb
        exact Or.inl ⟨rfl, x, x1, by rw [x2, et]; omega, x3⟩
      · refine Or.inr ⟨_, by rw [et], SGo_lt hS hc h2, key⟩
theorem SGT_goal {S I : Nat} (hS : S ≤ 6) (hI : I ≤ 3) {t o : Int → Int} (hm : mok t o) (hc : clo S t) {s R : Nat} (hs : s < S) (hR : R < 64) (hRe : ∀ x, R.testBit x = true ↔ x < S ∧ x ≠ s ∧ 0 ≤ AC I t 0 (x : Int)) {w : Nat} (hw : wok I w) : isSg S I t o s w ↔ sg (SGT S t o) (8 * R + s) w < 8 := by
  have d := dS_cl hI (clo_m hI hc) (p := (s : Int)) (by omega) w hw
  rcases SGT_sem hS hI hm hc hs hR (fun x h => ((hRe x).mp h).1) w hw with ⟨a1, x, a2, a3, a4⟩ | ⟨M, a1, a2, a3⟩
  · rw [a1]
    refine ⟨fun h => ?_, fun h => by omega⟩
    obtain ⟨b1, b2, b3⟩ := (hRe x).mp a2
    exact (h x b1 b2 b3 a4).elim
  · rw [a1]
    constructor
    · intro h
      have : M = 0 := tb_ext fun i => by
        rw [tb_0]
        cases hb : M.testBit i
        · rfl
        · obtain ⟨x, x1, x2, x3⟩ := (a3 i).mp hb
          obtain ⟨b1, b2, b3⟩ := (hRe x).mp x1
          exact (h x b1 b2 b3 x3).elim
      omega
    · intro h x x1 x2 x3 x4
      have m0 : M = 0 := by omega
      have dx := dS_cl hI (clo_m hI hc) (p := (x : Int)) (by omega) w hw
      have := (a3 (dS t (x : Int) w).toNat).mpr ⟨x, (hRe x).mpr ⟨x1, x2, x3⟩, by omega, x4⟩
      rw [m0, tb_0] at this
      cases this
/-- the sign -/
noncomputable def SGN (S I : Nat) (t o : Int → Int) (s : Nat) : Int := fw fun w => wok I w ∧ wlen w ≤ 8 ∧ isSg S I t o s w
