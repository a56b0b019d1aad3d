-- deps: 18 19 20 21 22 23 24 25 26 27 28 29 30 31 32 33 34 35 9S
/-! the reference reads a text's pieces -/
/-- the tape -/
def TPn (T : Int → Int) (h : HP) : Prop := ∀ j : Int, 0 ≤ j → j < 700 → (0 ≤ T j ∧ T j < 256) ∧ h 139 j = T j
theorem TPn_fr {T : Int → Int} {h h1 : HP} (H : TPn T h) (e : h1 139 = h 139) : TPn T h1 := by unfold TPn; rw [e]; exact H
/-- the piece is the word of the language that begins at k -/
def MW (T : Int → Int) (p e k L : Nat) : Prop := e = p + L ∧ ∀ i : Nat, i < L → T ((p : Int) + (i : Int)) = ai_txt.getD (k + i) 0
theorem nv_d {T : Int → Int} {p e : Nat} (h : ∀ i, p ≤ i → i < e → isL (T (i : Int)) = true) (i : Nat) (j : Int) (hj : j = (i : Int)) : ∃ d : Nat, d ≤ 26 ∧ (p + i < e → 1 ≤ d ∧ T ((p : Int) + j) = (d : Int) + 96) ∧ (¬ p + i < e → d = 0) ∧ nv T p e (i + 1) = 32 * nv T p e i + d := by
  subst hj
  by_cases q : p + i < e
  · have := isL_i.mp (h (p + i) (by omega) q)
    rw [show ((p + i : Nat) : Int) = (p : Int) + (i : Int) by omega] at this
    obtain ⟨c, hc⟩ := Int.eq_ofNat_of_zero_le (show 0 ≤ T ((p : Int) + (i : Int)) - 96 by omega)
    refine ⟨c, by omega, fun _ => ⟨by omega, by omega⟩, fun r => absurd q r, ?_⟩
    rw [nv_y q, hc, Int.toNat_natCast]
  · exact ⟨0, by omega, fun r => absurd r q, fun _ => rfl, by rw [nv_n q]; rfl⟩
theorem nv_6 {T : Int → Int} {p e : Nat} (h : ∀ i, p ≤ i → i < e → isL (T (i : Int)) = true) : ∃ a b c d f g : Nat, nv T p e 6 = 33554432 * a + 1048576 * b + 32768 * c + 1024 * d + 32 * f + g ∧ (a ≤ 26 ∧ (p + 0 < e → 1 ≤ a ∧ T ((p : Int) + 0) = (a : Int) + 96) ∧ (¬ p + 0 < e → a = 0)) ∧ (b ≤ 26 ∧ (p + 1 < e → 1 ≤ b ∧ T ((p : Int) + 1) = (b : Int) + 96) ∧ (¬ p + 1 < e → b = 0)) ∧ (c ≤ 26 ∧ (p + 2 < e → 1 ≤ c ∧ T ((p : Int) + 2) = (c : Int) + 96) ∧ (¬ p + 2 < e → c = 0)) ∧ (d ≤ 26 ∧ (p + 3 < e → 1 ≤ d ∧ T ((p : Int) + 3) = (d : Int) + 96) ∧ (¬ p + 3 < e → d = 0)) ∧ (f ≤ 26 ∧ (p + 4 < e → 1 ≤ f ∧ T ((p : Int) + 4) = (f : Int) + 96) ∧ (¬ p + 4 < e → f = 0)) ∧ (g ≤ 26 ∧ (p + 5 < e → 1 ≤ g ∧ T ((p : Int) + 5) = (g : Int) + 96) ∧ (¬ p + 5 < e → g = 0)) := by
  obtain ⟨a, a1, a2, a3, a4⟩ := nv_d h 0 0 rfl
  obtain ⟨b, b1, b2, b3, b4⟩ := nv_d h 1 1 rfl
  obtain ⟨c, c1, c2, c3, c4⟩ := nv_d h 2 2 rfl
  obtain ⟨d, d1, d2, d3, d4⟩ := nv_d h 3 3 rfl
  obtain ⟨f, f1, f2, f3, f4⟩ := nv_d h 4 4 rfl
  obtain ⟨g, g1, g2, g3, g4⟩ := nv_d h 5 5 rfl
  have z : nv T p e 0 = 0 := rfl
  have a5 : nv T p e 1 = 32 * nv T p e 0 + a := a4
  have b5 : nv T p e 2 = 32 * nv T p e 1 + b := b4
  have c5 : nv T p e 3 = 32 * nv T p e 2 + c := c4
  have d5 : nv T p e 4 = 32 * nv T p e 3 + d := d4
  have f5 : nv T p e 5 = 32 * nv T p e 4 + f := f4
  have g5 : nv T p e 6 = 32 * nv T p e 5 + g := g4
  clear a4 b4 c4 d4 f4 g4
  exact ⟨a, b, c, d, f, g, by omega, ⟨a1, a2, a3⟩, ⟨b1, b2, b3⟩, ⟨c1, c2, c3⟩, ⟨d1, d2, d3⟩, ⟨f1, f2, f3⟩, ⟨g1, g2, g3⟩⟩
section
variable {T : Int → Int} {p e : Nat}
theorem MW_3 {k : Nat} (x0 x1 x2 : Nat) (t0 : ai_txt.getD k 0 = (x0 : Int) + 96) (t1 : ai_txt.getD (k + 1) 0 = (x1 : Int) + 96) (t2 : ai_txt.getD (k + 2) 0 = (x2 : Int) + 96) (hx : (1 ≤ x0 ∧ x0 ≤ 26) ∧ (1 ≤ x1 ∧ x1 ≤ 26) ∧ (1 ≤ x2 ∧ x2 ≤ 26)) (hp : p < e) (h : ∀ i, p ≤ i → i < e → isL (T (i : Int)) = true) : MW T p e k 3 ↔ e ≤ p + 6 ∧ nv T p e 6 = 33554432 * x0 + 1048576 * x1 + 32768 * x2 := by
  obtain ⟨a, b, c, d, f, g, v, ha, hb, hc, hd, hf, hg⟩ := nv_6 h
  constructor
  · rintro ⟨m1, m2⟩
    have m20 : T ((p : Int) + 0) = ai_txt.getD (k + 0) 0 := m2 0 (by decide)
    have m21 : T ((p : Int) + 1) = ai_txt.getD (k + 1) 0 := m2 1 (by decide)
    have m22 : T ((p : Int) + 2) = ai_txt.getD (k + 2) 0 := m2 2 (by decide)
    rw [Nat.add_zero] at m20
    omega
  · rintro ⟨m1, m2⟩
    have y : e = p + 3 := by omega
    refine ⟨y, fun i hi => ?_⟩
    have hh : i = 0 ∨ i = 1 ∨ i = 2 := by omega
    rcases hh with rfl | rfl | rfl
    · show T ((p : Int) + 0) = ai_txt.getD (k + 0) 0
      rw [Nat.add_zero]; omega
    · show T ((p : Int) + 1) = _
      omega
    · show T ((p : Int) + 2) = _
      omega
theorem MW_4 {k : Nat} (x0 x1 x2 x3 : Nat) (t0 : ai_txt.getD k 0 = (x0 : Int) + 96) (t1 : ai_txt.getD (k + 1) 0 = (x1 : Int) + 96) (t2 : ai_txt.getD (k + 2) 0 = (x2 : Int) + 96) (t3 : ai_txt.getD (k + 3) 0 = (x3 : Int) + 96) (hx : (1 ≤ x0 ∧ x0 ≤ 26) ∧ (1 ≤ x1 ∧ x1 ≤ 26) ∧ (1 ≤ x2 ∧ x2 ≤ 26) ∧ (1 ≤ x3 ∧ x3 ≤ 26)) (hp : p < e) (h : ∀ i, p ≤ i → i < e → isL (T (i : Int)) = true) : MW T p e k 4 ↔ e ≤ p + 6 ∧ nv T p e 6 = 33554432 * x0 + 1048576 * x1 + 32768 * x2 + 1024 * x3 := by
  obtain ⟨a, b, c, d, f, g, v, ha, hb, hc, hd, hf, hg⟩ := nv_6 h
  constructor
  · rintro ⟨m1, m2⟩
    have m20 : T ((p : Int) + 0) = ai_txt.getD (k + 0) 0 := m2 0 (by decide)
    have m21 : T ((p : Int) + 1) = ai_txt.getD (k + 1) 0 := m2 1 (by decide)
    have m22 : T ((p : Int) + 2) = ai_txt.getD (k + 2) 0 := m2 2 (by decide)
    have m23 : T ((p : Int) + 3) = ai_txt.getD (k + 3) 0 := m2 3 (by decide)
    rw [Nat.add_zero] at m20
    omega
  · rintro ⟨m1, m2⟩
    have y : e = p + 4 := by omega
    refine ⟨y, fun i hi => ?_⟩
    have hh : i = 0 ∨ i = 1 ∨ i = 2 ∨ i = 3 := by omega
    rcases hh with rfl | rfl | rfl | rfl
    · show T ((p : Int) + 0) = ai_txt.getD (k + 0) 0
      rw [Nat.add_zero]; omega
    · show T ((p : Int) + 1) = _
      omega
    · show T ((p : Int) + 2) = _
      omega
    · show T ((p : Int) + 3) = _
      omega
theorem MW_5 {k : Nat} (x0 x1 x2 x3 x4 : Nat) (t0 : ai_txt.getD k 0 = (x0 : Int) + 96) (t1 : ai_txt.getD (k + 1) 0 = (x1 : Int) + 96) (t2 : ai_txt.getD (k + 2) 0 = (x2 : Int) + 96) (t3 : ai_txt.getD (k + 3) 0 = (x3 : Int) + 96) (t4 : ai_txt.getD (k + 4) 0 = (x4 : Int) + 96) (hx : (1 ≤ x0 ∧ x0 ≤ 26) ∧ (1 ≤ x1 ∧ x1 ≤ 26) ∧ (1 ≤ x2 ∧ x2 ≤ 26) ∧ (1 ≤ x3 ∧ x3 ≤ 26) ∧ (1 ≤ x4 ∧ x4 ≤ 26)) (hp : p < e) (h : ∀ i, p ≤ i → i < e → isL (T (i : Int)) = true) : MW T p e k 5 ↔ e ≤ p + 6 ∧ nv T p e 6 = 33554432 * x0 + 1048576 * x1 + 32768 * x2 + 1024 * x3 + 32 * x4 := by
  obtain ⟨a, b, c, d, f, g, v, ha, hb, hc, hd, hf, hg⟩ := nv_6 h
  constructor
  · rintro ⟨m1, m2⟩
    have m20 : T ((p : Int) + 0) = ai_txt.getD (k + 0) 0 := m2 0 (by decide)
    have m21 : T ((p : Int) + 1) = ai_txt.getD (k + 1) 0 := m2 1 (by decide)
    have m22 : T ((p : Int) + 2) = ai_txt.getD (k + 2) 0 := m2 2 (by decide)
    have m23 : T ((p : Int) + 3) = ai_txt.getD (k + 3) 0 := m2 3 (by decide)
    have m24 : T ((p : Int) + 4) = ai_txt.getD (k + 4) 0 := m2 4 (by decide)
    rw [Nat.add_zero] at m20
    omega
  · rintro ⟨m1, m2⟩
    have y : e = p + 5 := by omega
    refine ⟨y, fun i hi => ?_⟩
    have hh : i = 0 ∨ i = 1 ∨ i = 2 ∨ i = 3 ∨ i = 4 := by omega
    rcases hh with rfl | rfl | rfl | rfl | rfl
    · show T ((p : Int) + 0) = ai_txt.getD (k + 0) 0
      rw [Nat.add_zero]; omega
    · show T ((p : Int) + 1) = _
      omega
    · show T ((p : Int) + 2) = _
      omega
    · show T ((p : Int) + 3) = _
      omega
    · show T ((p : Int) + 4) = _
      omega
end
section
variable {Q : RP} {n : Nat} {hr h : HP} {T : Int → Int} {N : Nat}
theorem N_wH97 {w k L : Nat} {Q' : RP} (h32 : ai_txt.getD (k + L) 0 = 32) (hl : ∀ i : Nat, i < L → ai_txt.getD (k + i) 0 ≠ 32) (hk : k + L < 38) (hw : w < 38) (hQ : p_N_wordHere_4 n Q' 138 ((w + 1 : Nat) : Int) ((k + L + 1 : Nat) : Int) n hr h) : p_N_wordHere_97 n Q' 138 (w : Int) (k : Int) n hr h := by
  have main := lupN (N := L) (P := fun i => p_N_wordHere_97 n Q' 138 (w : Int) ((k + i : Nat) : Int) n hr h) ?_ ?_
  · exact main
  · refine b_N_wordHere_97 ⟨rfl, ⟨k + L, rfl, hk, ?_⟩⟩
    dsimp only
    refine ⟨fun _ => ?_, fun q => absurd h32 q⟩
    rw [w32_id (by omega) (by omega), w32_id (by omega) (by omega)]
    exact hQ
  · intro i hi ih
    refine b_N_wordHere_97 ⟨rfl, ⟨k + i, rfl, by omega, ?_⟩⟩
    dsimp only
    refine ⟨fun q => absurd q (hl i hi), fun _ => ?_⟩
    rw [w32_id (by omega) (by omega)]
    exact ih
theorem N_wH15 {w k L p e : Nat} (W : NW n hr) (P : TPn T h) (hp : p < e) (he : e ≤ 700) (c12 : h 138 12 = (e : Int)) (c13 : h 138 13 = (p : Int)) (hle : ∀ i, p ≤ i → i < e → isL (T (i : Int)) = true) (h32 : ai_txt.getD (k + L) 0 = 32) (hl : ∀ i : Nat, i < L → ai_txt.getD (k + i) 0 ≠ 32) (hk : k + L < 38) (hw : w < 38) (hQ1 : MW T p e k L → Q (0, (w : Int)) n hr h) (hQ0 : ¬ MW T p e k L → p_N_wordHere_4 (n + 0) (ai_q 0 n Q) 138 ((w + 1 : Nat) : Int) ((k + L + 1 : Nat) : Int) n hr h) : p_N_wordHere_4 (n + 0) (ai_q 0 n Q) 138 (w : Int) (k : Int) n hr h := by
  refine b_N_wordHere_4 ⟨rfl, ⟨rfl, ?_⟩⟩
  dsimp only
  refine ⟨fun q => by omega, fun _ => ?_⟩
  have out : ¬ MW T p e k L → p_N_wordHere_97 (n + 0) (ai_q 0 n Q) 138 (w : Int) (k : Int) n hr h := fun q => N_wH97 h32 hl hk hw (hQ0 q)
  have main := lupN (N := L) (P := fun i => (∀ j : Nat, j < i → p + j < e ∧ T ((p : Int) + (j : Int)) = ai_txt.getD (k + j) 0) → p_N_wordHere_15 (n + 0) (ai_q 0 n Q) 138 (w : Int) (k : Int) (i : Int) n hr h) ?_ ?_
  · exact main fun j hj => by omega
  · intro g
    refine b_N_wordHere_15 ⟨rfl, ⟨k + L, by rw [w32_id (by omega) (by omega)]; rfl, hk, ?_⟩⟩
    dsimp only
    refine ⟨fun _ => ⟨rfl, ⟨k + L, by rw [w32_id (by omega) (by omega)]; rfl, hk, ?_⟩⟩, fun q => absurd h32 q⟩
    dsimp only
    refine ⟨fun q => absurd h32 q, fun _ => ?_⟩
    have lb : L = 0 ∨ p + (L - 1) < e := by
      rcases Nat.eq_zero_or_pos L with z | z
      · exact Or.inl z
      · exact Or.inr (g (L - 1) (by omega)).1
    simp (disch := omega) only [n0 W, c12, c13, w32_id, true_and]
    exact ⟨fun q => out fun m => q (by have := m.1; omega), fun q => (by first | exact q_at rfl (hQ1 ⟨by omega, fun j hj => (g j hj).2⟩) | exact (hQ1 ⟨by omega, fun j hj => (g j hj).2⟩))⟩
  · intro i hi ih g
    have ne := hl i hi
    have P2 := P ((p : Int) + (i : Int))
    refine b_N_wordHere_15 ⟨rfl, ⟨k + i, by rw [w32_id (by omega) (by omega)]; rfl, by omega, ?_⟩⟩
    dsimp only
    refine ⟨fun q => absurd q ne, fun _ => ?_⟩
    by_cases y : p + i < e
    · simp (disch := omega) only [n0 W, nr_1 W, c12, c13, (P2 (by omega) (by omega)).2, w32_id, true_and]
      refine ⟨fun q => by omega, fun _ => ⟨by omega, by omega, ⟨k + i, rfl, by omega, ?_⟩⟩⟩
      dsimp only
      refine ⟨fun q => ⟨k + i, rfl, by omega, ?_⟩, fun q => ?_⟩
      · dsimp only
        exact ⟨fun _ => out fun m => q (m.2 i hi), fun q2 => absurd q2 ne⟩
      · refine ih fun j hj => ?_
        by_cases z : j = i
        · subst z; exact ⟨y, q⟩
        · exact g j (by omega)
    · simp (disch := omega) only [n0 W, nr_1 W, c12, c13, w32_id, true_and]
      refine ⟨fun _ => ⟨k + i, rfl, by omega, ?_⟩, fun q => by omega⟩
      dsimp only
      exact ⟨fun _ => out fun m => by have := m.1; omega, fun q2 => absurd q2 ne⟩
theorem sp_N_wordHere {p e : Nat} (W : NW n hr) (P : TPn T h) (hp : p < e) (he : e ≤ 700) (c12 : h 138 12 = (e : Int)) (c13 : h 138 13 = (p : Int)) (hle : ∀ i, p ≤ i → i < e → isL (T (i : Int)) = true) (hQ : Q (0, if e ≤ p + 6 then wi (nv T p e 6) else -1) n hr h) : f_N_wordHere [(2, 138)] n hr h Q := by
  have k0 := MW_5 (k := 0) 19 20 1 20 5 rfl rfl rfl rfl rfl (by decide) hp hle
  have k1 := MW_5 (k := 6) 9 14 16 21 20 rfl rfl rfl rfl rfl (by decide) hp hle
  have k2 := MW_4 (k := 12) 13 15 18 5 rfl rfl rfl rfl (by decide) hp hle
  have k3 := MW_3 (k := 17) 1 18 3 rfl rfl rfl (by decide) hp hle
  have k4 := MW_5 (k := 21) 20 23 9 19 20 rfl rfl rfl rfl rfl (by decide) hp hle
  have k5 := MW_5 (k := 27) 5 24 20 18 1 rfl rfl rfl rfl rfl (by decide) hp hle
  have k6 := MW_4 (k := 33) 19 5 5 4 rfl rfl rfl rfl (by decide) hp hle
  unfold wi at hQ
  apply e_N_wordHere
  refine N_wH15 (w := 0) (k := 0) (L := 5) W P hp he c12 c13 hle rfl (by decide) (by decide) (by decide) (fun m => ?_) (fun m0 => ?_)
  · obtain ⟨y, v⟩ := k0.mp m
    rw [if_pos y, if_pos (by omega)] at hQ; exact hQ
  refine N_wH15 (w := 1) (k := 6) (L := 5) W P hp he c12 c13 hle rfl (by decide) (by decide) (by decide) (fun m => ?_) (fun m1 => ?_)
  · obtain ⟨y, v⟩ := k1.mp m
    rw [if_pos y, if_neg (by omega), if_pos (by omega)] at hQ; exact hQ
  refine N_wH15 (w := 2) (k := 12) (L := 4) W P hp he c12 c13 hle rfl (by decide) (by decide) (by decide) (fun m => ?_) (fun m2 => ?_)
  · obtain ⟨y, v⟩ := k2.mp m
    rw [if_pos y, if_neg (by omega), if_neg (by omega), if_pos (by omega)] at hQ; exact hQ
  refine N_wH15 (w := 3) (k := 17) (L := 3) W P hp he c12 c13 hle rfl (by decide) (by decide) (by decide) (fun m => ?_) (fun m3 => ?_)
  · obtain ⟨y, v⟩ := k3.mp m
    rw [if_pos y, if_neg (by omega), if_neg (by omega), if_neg (by omega), if_pos (by omega)] at hQ; exact hQ
  refine N_wH15 (w := 4) (k := 21) (L := 5) W P hp he c12 c13 hle rfl (by decide) (by decide) (by decide) (fun m => ?_) (fun m4 => ?_)
  · obtain ⟨y, v⟩ := k4.mp m
    rw [if_pos y, if_neg (by omega), if_neg (by omega), if_neg (by omega), if_neg (by omega), if_pos (by omega)] at hQ; exact hQ
  refine N_wH15 (w := 5) (k := 27) (L := 5) W P hp he c12 c13 hle rfl (by decide) (by decide) (by decide) (fun m => ?_) (fun m5 => ?_)
  · obtain ⟨y, v⟩ := k5.mp m
    rw [if_pos y, if_neg (by omega), if_neg (by omega), if_neg (by omega), if_neg (by omega), if_neg (by omega), if_pos (by omega)] at hQ; exact hQ
  refine N_wH15 (w := 6) (k := 33) (L := 4) W P hp he c12 c13 hle rfl (by decide) (by decide) (by decide) (fun m => ?_) (fun m6 => ?_)
  · obtain ⟨y, v⟩ := k6.mp m
    rw [if_pos y, if_neg (by omega), if_neg (by omega), if_neg (by omega), if_neg (by omega), if_neg (by omega), if_neg (by omega), if_pos (by omega)] at hQ; exact hQ
  refine b_N_wordHere_4 ⟨rfl, ⟨rfl, ?_⟩⟩
  dsimp only
  refine ⟨fun _ => q_at rfl ?_, fun q => absurd q (by decide)⟩
  by_cases y : e ≤ p + 6
  · have no : ∀ v : Nat, (MW T p e 0 5 ∨ MW T p e 6 5 ∨ MW T p e 12 4 ∨ MW T p e 17 3 ∨ MW T p e 21 5 ∨ MW T p e 27 5 ∨ MW T p e 33 4) → False := fun v q => by
      rcases q with q | q | q | q | q | q | q
      · exact m0 q
      · exact m1 q
      · exact m2 q
      · exact m3 q
      · exact m4 q
      · exact m5 q
      · exact m6 q
    rw [if_pos y, if_neg fun q => m0 (k0.mpr ⟨y, by omega⟩), if_neg fun q => m1 (k1.mpr ⟨y, by omega⟩), if_neg fun q => m2 (k2.mpr ⟨y, by omega⟩), if_neg fun q => m3 (k3.mpr ⟨y, by omega⟩), if_neg fun q => m4 (k4.mpr ⟨y, by omega⟩), if_neg fun q => m5 (k5.mpr ⟨y, by omega⟩), if_neg fun q => m6 (k6.mpr ⟨y, by omega⟩)] at hQ
    exact hQ
  · rw [if_neg y] at hQ; exact hQ
theorem sp_N_nameHere {p e : Nat} (W : NW n hr) (P : TPn T h) (hp : p < e) (he : e ≤ 700) (c12 : h 138 12 = (e : Int)) (c13 : h 138 13 = (p : Int)) (hle : ∀ i, p ≤ i → i < e → isL (T (i : Int)) = true) (hQ : Q (9, 0) n hr (ai_up h 138 15 (nv T p e 6 : Int))) : f_N_nameHere [(2, 138)] n hr h Q := by
  apply e_N_nameHere
  refine ⟨n0 W, ?_⟩
  have main := lupN (N := 6) (P := fun k => ∀ h1, h1 = ai_up h 138 15 (nv T p e k : Int) → p_N_nameHere_7 (n + 0) (ai_q 0 n Q) 138 (k : Int) n hr h1) ?_ ?_
  · exact main _ rfl
  · intro h1 e1
    rw [e1]
    exact b_N_nameHere_7 ⟨fun _ => q_at rfl hQ, fun q => by omega⟩
  · intro k hk ih h1 e1
    have d12 : h1 138 12 = (e : Int) := by rw [e1, up_oth (by omega)]; exact c12
    have d13 : h1 138 13 = (p : Int) := by rw [e1, up_oth (by omega)]; exact c13
    have d15 : h1 138 15 = (nv T p e k : Int) := by rw [e1, up_same]
    have l := nv_lt hle k
    have l5 : (32 : Nat) ^ k ≤ 32 ^ 5 := Nat.pow_le_pow_right (by decide) (by omega)
    have l6 : (32 : Nat) ^ 5 = 33554432 := by decide
    have es : i_shl (nv T p e k : Int) 5 = ((nv T p e k * 2 ^ 5 : Nat) : Int) := shl_n (k := 5) (by decide) (by omega)
    have tw : ∀ v : Int, ai_up h1 138 15 v = ai_up h 138 15 v := fun v => by
      rw [e1]; funext c j
      unfold ai_up
      split <;> rfl
    refine b_N_nameHere_7 ⟨fun q => by omega, fun _ => ?_⟩
    by_cases y : p + k < e
    · have P2 := P ((p : Int) + (k : Int)) (by omega) (by omega)
      have P3 : h1 139 ((p : Int) + (k : Int)) = T ((p : Int) + (k : Int)) := by rw [e1, up_oth (by omega)]; exact P2.2
      have d := isL_i.mp (hle (p + k) (by omega) y)
      rw [show ((p + k : Nat) : Int) = (p : Int) + (k : Int) by omega] at d
      obtain ⟨c, hc⟩ := Int.eq_ofNat_of_zero_le (show 0 ≤ T ((p : Int) + (k : Int)) - 96 by omega)
      have nx := nv_y (T := T) (p := p) (e := e) (k := k) y
      rw [hc, Int.toNat_natCast] at nx
      have ec : T ((p : Int) + (k : Int)) - 97 + 1 = (c : Int) := by omega
      have eo := or_add (a := nv T p e k) (b := c) (k := 5) (by omega) (by omega)
      simp (disch := omega) only [n0 W, nr_1 W, d12, d13, d15, P3, w32_id, ec, es, eo, true_and]
      refine ⟨fun q => by omega, fun _ => ?_⟩
      repeat (refine ⟨by omega, ?_⟩)
      refine ih _ ?_
      rw [tw, nx]
      congr 1
      omega
    · have nx := nv_n (T := T) (p := p) (e := e) (k := k) y
      have eo := or_add (a := nv T p e k) (b := 0) (k := 5) (by omega) (by omega)
      have eo2 : i_or ((nv T p e k * 2 ^ 5 : Nat) : Int) 0 = ((nv T p e k * 2 ^ 5 + 0 : Nat) : Int) := eo
      simp (disch := omega) only [n0 W, d12, d13, d15, w32_id, es, eo2, true_and]
      refine ⟨fun _ => ?_, fun q => by omega⟩
      refine ih _ ?_
      rw [tw, nx]
      congr 1
      omega
end
