-- deps: 19.num 22.bfs 26.first 27.refine 29.bits 30.order 31.pair
/-! what is changed at most -/
def EX (cs : List Int) (ps : List (Int × Int)) (h h1 : HP) : Prop := ∀ c j, c ∉ cs → (c, j) ∉ ps → h1 c j = h c j
theorem EX_rf {cs : List Int} {ps : List (Int × Int)} {h : HP} : EX cs ps h h := fun _ _ _ _ => rfl
theorem EX_tr {cs : List Int} {ps : List (Int × Int)} {h h1 h2 : HP} (a : EX cs ps h h1) (b : EX cs ps h1 h2) : EX cs ps h h2 := fun c j hc hp => (b c j hc hp).trans (a c j hc hp)
theorem EX_le {cs cs' : List Int} {ps ps' : List (Int × Int)} {h h1 : HP} (a : EX cs ps h h1) (hc : ∀ c ∈ cs, c ∈ cs') (hp : ∀ c ∈ ps, c ∈ ps' ∨ c.1 ∈ cs') : EX cs' ps' h h1 := fun c j h1 h2 => a c j (fun q => h1 (hc c q)) (fun q => (hp _ q).elim h2 h1)
theorem EX_ex {cs : List Int} {h h1 : HP} (a : ai_ex cs h h1) : EX cs [] h h1 := fun c j hc _ => a c hc j
theorem EX_upc {cs : List Int} {ps : List (Int × Int)} {h h1 : HP} {x i v : Int} (a : EX cs ps h h1) (hx : x ∈ cs) : EX cs ps h (ai_up h1 x i v) := fun c j hc hp => by
  rw [up_oth (Or.inl (fun z => hc (by rw [z]; exact hx)))]; exact a c j hc hp
theorem EX_upp {cs : List Int} {ps : List (Int × Int)} {h h1 : HP} {x i v : Int} (a : EX cs ps h h1) (hx : (x, i) ∈ ps) : EX cs ps h (ai_up h1 x i v) := fun c j hc hp => by
  rw [up_oth]
  · exact a c j hc hp
  · by_cases z : c = x
    · subst z
      exact Or.inr (fun z => hp (by rw [z]; exact hx))
    · exact Or.inl z
theorem EX_fl {cs : List Int} {ps : List (Int × Int)} {h h1 : HP} {x k : Int} {F : Int → Int} (a : EX cs ps h h1) (hx : x ∈ cs) : EX cs ps h (ai_fl h1 x k F) := fun c j hc hp => by
  rw [fl_out (fun z => hc (by rw [z]; exact hx))]; exact a c j hc hp
theorem EX_fn {cs : List Int} {ps : List (Int × Int)} {h h1 : HP} (a : EX cs ps h h1) {c : Int} (hc : c ∉ cs) (hp : c ∉ ps.map Prod.fst) : h1 c = h c := funext fun j => a c j hc (fun q => hp (List.mem_map.mpr ⟨_, q, rfl⟩))
theorem EX_at {cs : List Int} {ps : List (Int × Int)} {h h1 : HP} (a : EX cs ps h h1) {c j : Int} (hc : c ∉ cs) (hp : (c, j) ∉ ps) : h1 c j = h c j := a c j hc hp
/-! first words that come to places -/
noncomputable def AC (m : Nat) (t : Int → Int) (p x : Int) : Int := fw fun w => wok m w ∧ dS t p w = x
def clo (N : Nat) (t : Int → Int) : Prop := ∀ (p : Int) (i : Nat), 0 ≤ p → p < (N : Int) → i < 3 → 0 ≤ t (3 * p + (i : Int)) ∧ t (3 * p + (i : Int)) < (N : Int)
theorem clo_m {N m : Nat} {t : Int → Int} (hm : m ≤ 3) (h : clo N t) : ∀ (p : Int) (i : Nat), 0 ≤ p → p < (N : Int) → i < m → 0 ≤ t (3 * p + (i : Int)) ∧ t (3 * p + (i : Int)) < (N : Int) := fun p i h1 h2 h3 => h p i h1 h2 (by omega)
def cA (A : Int → Int) (S : Nat) : Nat := cntB (fun k => decide (0 ≤ A (k : Int))) S
theorem cA_new {A B : Int → Int} {x : Nat} : ∀ {S : Nat}, x < S → A (x : Int) < 0 → 0 ≤ B (x : Int) → (∀ y : Nat, y ≠ x → B (y : Int) = A (y : Int)) → cA B S = cA A S + 1
  | S + 1, hx, h1, h2, h3 => by
    show cntB _ S + _ = cntB _ S + _ + 1
    by_cases z : x = S
    · subst z
      have e : cntB (fun k => decide (0 ≤ B (k : Int))) x = cntB (fun k => decide (0 ≤ A (k : Int))) x := cntB_ext fun s hs => by rw [h3 s (by omega)]
      rw [e, if_pos (by simpa using h2), if_neg (by simp; omega)]
    · have ih := cA_new (A := A) (B := B) (x := x) (S := S) (by omega) h1 h2 h3
      have ih2 : cntB (fun k => decide (0 ≤ B (k : Int))) S = cntB (fun k => decide (0 ≤ A (k : Int))) S + 1 := ih
      have e : (fun k : Nat => decide (0 ≤ B (k : Int))) S = (fun k : Nat => decide (0 ≤ A (k : Int))) S := by
        dsimp only; rw [h3 S (by omega)]
      rw [ih2, e]
      omega
theorem cA_old {A B : Int → Int} {x S : Nat} (h1 : 0 ≤ A (x : Int)) (h2 : 0 ≤ B (x : Int)) (h3 : ∀ y : Nat, y ≠ x → B (y : Int) = A (y : Int)) : cA B S = cA A S := cntB_ext fun s hs => by
  by_cases z : s = x
  · subst z; simp [h1, h2]
  · rw [h3 s z]
/-- words are told in rounds -/
def BF (m S : Nat) (t : Int → Int) (p0 : Int) (A : Int → Int) (r s i : Nat) : Prop :=
  (∀ x : Nat, x < S → (A (x : Int) = -2 ∨ ∃ w : Nat, A (x : Int) = (w : Int) ∧ wok m w ∧ dS t p0 w = (x : Int)) ∧ A (x : Int) < (4 : Int) ^ cA A S) ∧
  (∀ w, wok m w → wlen w ≤ r → 0 ≤ A (dS t p0 w) ∧ A (dS t p0 w) ≤ (w : Int)) ∧
  ∀ (x j w : Nat), x < S → j < m → (x < s ∨ (x = s ∧ j < i)) → wok m w → wlen w ≤ r → dS t p0 w = (x : Int) → 0 ≤ A (t (3 * (x : Int) + (j : Int))) ∧ A (t (3 * (x : Int) + (j : Int))) ≤ ((4 * w + j + 1 : Nat) : Int)
theorem BF_6 {m S : Nat} {t : Int → Int} {p0 : Int} {A : Int → Int} {r s i : Nat} (hS : S ≤ 6) (h : BF m S t p0 A r s i) {x : Nat} (hx : x < S) : -2 ≤ A (x : Int) ∧ A (x : Int) < 4096 := by
  obtain ⟨h1, h2⟩ := h.1 x hx
  have h3 := cntB_le (fun k => decide (0 ≤ A (k : Int))) S
  have h4 : (4 : Int) ^ cA A S ≤ 4 ^ 6 := by
    have : ∀ k, k ≤ 6 → (4 : Int) ^ k ≤ 4 ^ 6 := by decide
    exact this _ (by unfold cA; omega)
  have h5 : (4 : Int) ^ 6 = 4096 := by decide
  rcases h1 with h1 | ⟨w, h1, _⟩ <;> omega
/-- an arc is looked at -/
theorem BF_up {m S : Nat} (hm : m ≤ 3) {t : Int → Int} {p0 : Int} {A B : Int → Int} {r s i : Nat} (hc : clo S t) (h : BF m S t p0 A r s i) (hs : s < S) (hi : i < m) (ha : 0 ≤ A (s : Int)) (hB : ∀ y : Int, y ≠ t (3 * (s : Int) + (i : Int)) → B y = A y) (hw : (B (t (3 * (s : Int) + (i : Int))) = 4 * A (s : Int) + (i : Int) + 1 ∧ (A (t (3 * (s : Int) + (i : Int))) < 0 ∨ 4 * A (s : Int) + (i : Int) + 1 < A (t (3 * (s : Int) + (i : Int))))) ∨ (B (t (3 * (s : Int) + (i : Int))) = A (t (3 * (s : Int) + (i : Int))) ∧ 0 ≤ A (t (3 * (s : Int) + (i : Int))) ∧ A (t (3 * (s : Int) + (i : Int))) ≤ 4 * A (s : Int) + (i : Int) + 1)) : BF m S t p0 B r s (i + 1) := by
  obtain ⟨h1, h2, h3⟩ := h
  have ct := hc (s : Int) i (by omega) (by omega) (by omega)
  generalize ht : t (3 * (s : Int) + (i : Int)) = y at hB hw ct
  obtain ⟨k, rfl⟩ := Int.eq_ofNat_of_zero_le ct.1
  have hk : k < S := by omega
  have le : ∀ x : Int, 0 ≤ A x → 0 ≤ B x ∧ B x ≤ A x := by
    intro x hx
    by_cases z : x = (k : Int)
    · subst z; omega
    · rw [hB x z]; omega
  have sw : B (k : Int) ≤ 4 * A (s : Int) + (i : Int) + 1 ∧ 0 ≤ B (k : Int) := by omega
  have cnt : cA A S ≤ cA B S ∧ (A (k : Int) < 0 → cA B S = cA A S + 1) := by
    by_cases z : A (k : Int) < 0
    · have := cA_new (A := A) (B := B) hk z (by omega) (fun y hy => hB _ (by omega))
      omega
    · have := cA_old (A := A) (B := B) (x := k) (S := S) (by omega) (by omega) (fun y hy => hB _ (by omega))
      omega
  have pw : (4 : Int) ^ cA A S ≤ 4 ^ cA B S := by
    have := Nat.pow_le_pow_right (show 0 < 4 by decide) cnt.1
    have e : ∀ k : Nat, (4 : Int) ^ k = ((4 ^ k : Nat) : Int) := fun k => by simp
    rw [e, e]; omega
  refine ⟨fun x hx => ?_, fun w hw1 hw2 => ?_, fun x j w a1 a2 a3 a4 a5 a6 => ?_⟩
  · by_cases z : x = k
    · subst z
      obtain ⟨b1, b2⟩ := h1 x hx
      obtain ⟨c1, c2⟩ := h1 s hs
      rcases hw with ⟨w1, w2⟩ | ⟨w1, w2, w3⟩
      · refine ⟨Or.inr ?_, ?_⟩
        · rcases c1 with c1 | ⟨w, d1, d2, d3⟩
          · omega
          · refine ⟨4 * w + i + 1, by rw [w1, d1]; omega, (wok_cc (by omega)).mpr ⟨hi, d2⟩, ?_⟩
            rw [dS_c _ _ _ (by omega), d3, ht]
        · rcases w2 with w2 | w2
          · rw [cnt.2 w2, Int.pow_succ, w1]
            omega
          · omega
      · rw [w1]
        exact ⟨b1, by omega⟩
    · rw [hB _ (by omega)]
      obtain ⟨b1, b2⟩ := h1 x hx
      exact ⟨b1, by omega⟩
  · have := h2 w hw1 hw2
    have := le _ this.1
    omega
  · by_cases z : x = s ∧ j = i
    · obtain ⟨rfl, rfl⟩ := z
      rw [ht]
      have := h2 w a4 a5
      rw [a6] at this
      omega
    · have := h3 x j w a1 a2 (by omega) a4 a5 a6
      have := le _ this.1
      omega
theorem BF_no {m S : Nat} {t : Int → Int} {p0 : Int} {A : Int → Int} {r s i : Nat} (h : BF m S t p0 A r s i) (ha : A (s : Int) < 0) : BF m S t p0 A r (s + 1) 0 := by
  obtain ⟨h1, h2, h3⟩ := h
  refine ⟨h1, h2, fun x j w a1 a2 a3 a4 a5 a6 => ?_⟩
  by_cases z : x = s
  · subst z
    have := h2 w a4 a5
    rw [a6] at this
    omega
  · exact h3 x j w a1 a2 (by omega) a4 a5 a6
theorem BF_n {m S : Nat} {t : Int → Int} {p0 : Int} {A : Int → Int} {r s : Nat} (h : BF m S t p0 A r s m) : BF m S t p0 A r (s + 1) 0 :=
  ⟨h.1, h.2.1, fun x j w a1 a2 a3 => h.2.2 x j w a1 a2 (by omega)⟩
theorem BF_r {m S : Nat} (hm : m ≤ 3) {t : Int → Int} {p0 : Int} (hp : 0 ≤ p0 ∧ p0 < (S : Int)) (hc : clo S t) {A : Int → Int} {r s i : Nat} (hs : S ≤ s) (h : BF m S t p0 A r s i) : BF m S t p0 A (r + 1) 0 0 := by
  obtain ⟨h1, h2, h3⟩ := h
  refine ⟨h1, fun w hw hl => ?_, fun x j w a1 a2 a3 => by omega⟩
  by_cases h0 : w = 0
  · subst h0; exact h2 0 hw (by rw [wlen_0]; omega)
  · obtain ⟨v, j, b1, b2, b3, rfl⟩ := wok_ne hm hw h0
    rw [wlen_c _ b2] at hl
    have d := dS_cl hm (clo_m hm hc) hp v b3
    have := h3 (dS t p0 v).toNat j v (by omega) b1 (by omega) b3 (by omega) (by omega)
    rw [dS_c _ _ _ b2]
    rw [show (((dS t p0 v).toNat : Nat) : Int) = dS t p0 v by omega] at this
    exact this
theorem BF_0 {m S : Nat} {t : Int → Int} {p0 : Nat} (hp : p0 < S) {A : Int → Int} (ha : A (p0 : Int) = 0) (hb : ∀ x : Nat, x < S → x ≠ p0 → A (x : Int) = -2) : BF m S t (p0 : Int) A 0 0 0 := by
  have pos : ∀ k : Nat, (0 : Int) < 4 ^ k := fun k => Int.pow_pos (by decide)
  refine ⟨fun x hx => ?_, fun w hw hl => ?_, fun x j w a1 a2 a3 => by omega⟩
  · by_cases z : x = p0
    · subst z
      exact ⟨Or.inr ⟨0, ha, wok_0 m, by rw [dS_0]⟩, by rw [ha]; exact pos _⟩
    · have := pos (cA A S)
      exact ⟨Or.inl (hb x hx z), by rw [hb x hx z]; omega⟩
  · have : w = 0 := by
      have : w < 4 ^ 0 := wlen_le.mp hl
      simpa using this
    subst this
    rw [dS_0, ha]; omega
theorem BF_ac {m S : Nat} (hm : m ≤ 3) (hS : S ≤ 6) {t : Int → Int} {p0 : Int} (hp : 0 ≤ p0 ∧ p0 < (S : Int)) (hc : clo S t) {A : Int → Int} {s i : Nat} (h : BF m S t p0 A 6 s i) {x : Nat} (hx : x < S) : A (x : Int) = AC m t p0 (x : Int) := by
  obtain ⟨h1, h2, _⟩ := h
  rcases (h1 x hx).1 with a | ⟨w, a1, a2, a3⟩
  · rw [a]
    refine (fw_no fun w g => ?_).symm
    obtain ⟨v, b1, b2, b3, b4⟩ := short hm (clo_m hm hc) hp w g.1
    have := h2 v b1 (by omega)
    rw [b2, g.2] at this
    omega
  · rw [a1]
    refine (fw_at ⟨a2, a3⟩ fun j hj g => ?_).symm
    obtain ⟨v, b1, b2, b3, b4⟩ := short hm (clo_m hm hc) hp j g.1
    have := h2 v b1 (by omega)
    rw [b2, g.2] at this
    omega
theorem AC_b {m S : Nat} (hm : m ≤ 3) (hS : S ≤ 6) {t : Int → Int} {p0 : Int} (hp : 0 ≤ p0 ∧ p0 < (S : Int)) (hc : clo S t) (x : Int) : AC m t p0 x = -2 ∨ ∃ w : Nat, AC m t p0 x = (w : Int) ∧ wok m w ∧ dS t p0 w = x ∧ wlen w ≤ 5 := by
  rcases fw_cases (fun w => wok m w ∧ dS t p0 w = x) with ⟨w, a1, a2, a3⟩ | ⟨a1, _⟩
  · refine Or.inr ⟨w, a1, a2.1, a2.2, ?_⟩
    obtain ⟨v, b1, b2, b3, b4⟩ := short hm (clo_m hm hc) hp w a2.1
    have : v = w := by
      rcases Nat.lt_or_ge v w with z | z
      · exact (a3 v z ⟨b1, b2.trans a2.2⟩).elim
      · omega
    subst this; omega
  · exact Or.inl a1
/-! separators, splitters -/
noncomputable def SPr (m : Nat) (t o : Int → Int) (a b : Int) : Int := UL m t o t o a b
theorem SPr_c {m S : Nat} (hm3 : m ≤ 3) (hS : S ≤ 6) {t o : Int → Int} (hm : mok t o) (hc : clo S t) {a b : Int} (ha : 0 ≤ a ∧ a < (S : Int)) (hb : 0 ≤ b ∧ b < (S : Int)) : (SPr m t o a b = -2 ∧ ∀ w, wok m w → aS t o a w = aS t o b w) ∨ ∃ w : Nat, SPr m t o a b = (w : Int) ∧ wok m w ∧ aS t o a w ≠ aS t o b w ∧ 0 < w ∧ wlen w ≤ 5 ∧ ∀ v, v < w → wok m v → aS t o a v = aS t o b v := by
  rcases fw_cases (fun w => wok m w ∧ aS t o a w ≠ aS t o b w) with ⟨w, a1, a2, a3⟩ | ⟨a1, a2⟩
  · refine Or.inr ⟨w, a1, a2.1, a2.2, ?_, ?_, fun v hv hw => Classical.byContradiction fun z => a3 v hv ⟨hw, z⟩⟩
    · refine Nat.pos_of_ne_zero fun z => ?_
      subst z
      exact a2.2 (by rw [aS_0, aS_0])
    · obtain ⟨v, b1, b2⟩ := UL_N hm3 (show 0 < S by omega) (by omega) hm (clo_m hm3 hc) ha hb a2
      have : w ≤ v := Nat.le_of_not_lt fun z => a3 v z b2
      have := wlen_mono this
      omega
  · exact Or.inl ⟨a1, fun w hw => Classical.byContradiction fun z => a2 w ⟨hw, z⟩⟩
theorem SPr_sy (m : Nat) (t o : Int → Int) (a b : Int) : SPr m t o a b = SPr m t o b a := fw_ext fun w => ⟨fun h => ⟨h.1, Ne.symm h.2⟩, fun h => ⟨h.1, Ne.symm h.2⟩⟩
theorem SPr_rf (m : Nat) (t o : Int → Int) (a : Int) : SPr m t o a a = -2 := fw_no fun w h => h.2 rfl
noncomputable def spS (m S : Nat) (t o : Int → Int) : Nat → List Nat
  | 0 => []
  | k + 1 => @ite _ (k / 6 < k % 6 ∧ k % 6 < S ∧ 0 ≤ AC m t 0 ((k / 6 : Nat) : Int) ∧ 0 ≤ AC m t 0 ((k % 6 : Nat) : Int) ∧ SPr m t o ((k / 6 : Nat) : Int) ((k % 6 : Nat) : Int) ≠ -2 ∧ ∀ w ∈ spS m S t o k, aS t o ((k / 6 : Nat) : Int) w = aS t o ((k % 6 : Nat) : Int) w) (Classical.propDecidable _) (spS m S t o k ++ [(SPr m t o ((k / 6 : Nat) : Int) ((k % 6 : Nat) : Int)).toNat]) (spS m S t o k)
theorem spS_no {m S : Nat} {t o : Int → Int} {k : Nat} (h : ¬ (k / 6 < k % 6 ∧ k % 6 < S ∧ 0 ≤ AC m t 0 ((k / 6 : Nat) : Int) ∧ 0 ≤ AC m t 0 ((k % 6 : Nat) : Int) ∧ SPr m t o ((k / 6 : Nat) : Int) ((k % 6 : Nat) : Int) ≠ -2 ∧ ∀ w ∈ spS m S t o k, aS t o ((k / 6 : Nat) : Int) w = aS t o ((k % 6 : Nat) : Int) w)) : spS m S t o (k + 1) = spS m S t o k := by
  rw [spS, if_neg h]
theorem spS_yes {m S : Nat} {t o : Int → Int} {k : Nat} (h : k / 6 < k % 6 ∧ k % 6 < S ∧ 0 ≤ AC m t 0 ((k / 6 : Nat) : Int) ∧ 0 ≤ AC m t 0 ((k % 6 : Nat) : Int) ∧ SPr m t o ((k / 6 : Nat) : Int) ((k % 6 : Nat) : Int) ≠ -2 ∧ ∀ w ∈ spS m S t o k, aS t o ((k / 6 : Nat) : Int) w = aS t o ((k % 6 : Nat) : Int) w) : spS m S t o (k + 1) = spS m S t o k ++ [(SPr m t o ((k / 6 : Nat) : Int) ((k % 6 : Nat) : Int)).toNat] := by
  rw [spS, if_pos h]
theorem spS_s (m S : Nat) (t o : Int → Int) (k : Nat) : spS m S t o (k + 1) = spS m S t o k ∨ (k / 6 < k % 6 ∧ k % 6 < S ∧ SPr m t o ((k / 6 : Nat) : Int) ((k % 6 : Nat) : Int) ≠ -2 ∧ (∀ w ∈ spS m S t o k, aS t o ((k / 6 : Nat) : Int) w = aS t o ((k % 6 : Nat) : Int) w) ∧ spS m S t o (k + 1) = spS m S t o k ++ [(SPr m t o ((k / 6 : Nat) : Int) ((k % 6 : Nat) : Int)).toNat]) := by
  by_cases z : k / 6 < k % 6 ∧ k % 6 < S ∧ 0 ≤ AC m t 0 ((k / 6 : Nat) : Int) ∧ 0 ≤ AC m t 0 ((k % 6 : Nat) : Int) ∧ SPr m t o ((k / 6 : Nat) : Int) ((k % 6 : Nat) : Int) ≠ -2 ∧ ∀ w ∈ spS m S t o k, aS t o ((k / 6 : Nat) : Int) w = aS t o ((k % 6 : Nat) : Int) w
  · exact Or.inr ⟨z.1, z.2.1, z.2.2.2.2.1, z.2.2.2.2.2, spS_yes z⟩
  · exact Or.inl (spS_no z)
theorem spS_w {m S : Nat} (hm3 : m ≤ 3) (hS : S ≤ 6) {t o : Int → Int} (hm : mok t o) (hc : clo S t) : ∀ k, ∀ w ∈ spS m S t o k, wok m w ∧ 0 < w ∧ wlen w ≤ 5
  | 0, w, h => by cases h
  | k + 1, w, h => by
    rcases spS_s m S t o k with e | ⟨e1, e2, e3, e4, e⟩
    · rw [e] at h; exact spS_w hm3 hS hm hc k w h
    · rw [e] at h
      rcases List.mem_append.mp h with h | h
      · exact spS_w hm3 hS hm hc k w h
      · have hw := List.mem_singleton.mp h
        rcases SPr_c (S := S) hm3 hS hm hc (a := ((k / 6 : Nat) : Int)) (b := ((k % 6 : Nat) : Int)) (by omega) (by omega) with ⟨a, _⟩ | ⟨v, a1, a2, a3, a4, a5, a6⟩
        · exact (e3 a).elim
        · have : w = v := by rw [hw, a1]; rfl
          subst this
          exact ⟨a2, a4, a5⟩
theorem spS_len {m S : Nat} (hm3 : m ≤ 3) (hS0 : 0 < S) (hS : S ≤ 6) {t o : Int → Int} (hm : mok t o) (hc : clo S t) (k : Nat) : (spS m S t o k).length < S := by
  have key : apart S (fun k p q => ∀ w ∈ spS m S t o k, aS t o p w = aS t o q w) k ((spS m S t o k).length + 1) := by
    induction k with
    | zero => exact ⟨fun _ => 0, fun j hj => ⟨Int.le_refl 0, by show (0 : Int) < S; omega⟩, fun i j h1 h2 => by simp [spS] at h2; omega⟩
    | succ k ih =>
      rcases spS_s m S t o k with e | ⟨e1, e2, e3, e4, e⟩
      · obtain ⟨f, f1, f2⟩ := ih
        rw [e]
        exact ⟨f, f1, fun i j h1 h2 => by dsimp only; rw [e]; exact f2 i j h1 h2⟩
      · have := apart_s (N := S) (R := fun k p q => ∀ w ∈ spS m S t o k, aS t o p w = aS t o q w) (fun k p q g w hw => (g w hw).symm) (fun k p q r g g' w hw => (g w hw).trans (g' w hw)) (fun k p q g w hw => g w (by
          rcases spS_s m S t o k with e | ⟨_, _, _, _, e⟩
          · rw [e]; exact hw
          · rw [e]; exact List.mem_append_left _ hw)) ih (p := ((k / 6 : Nat) : Int)) (q := ((k % 6 : Nat) : Int)) (by omega) (by omega) e4 (fun g => ?_)
        · rw [e, List.length_append]
          exact this
        · rcases SPr_c (S := S) hm3 hS hm hc (a := ((k / 6 : Nat) : Int)) (b := ((k % 6 : Nat) : Int)) (by omega) (by omega) with ⟨a, _⟩ | ⟨v, a1, a2, a3, a4, a5, a6⟩
          · exact e3 a
          · refine a3 (g v ?_)
            rw [e, a1]
            exact List.mem_append_right _ (List.mem_singleton.mpr rfl)
  have := apart_le (N := S) (R := fun k p q => ∀ w ∈ spS m S t o k, aS t o p w = aS t o q w) (fun k p w _ => rfl) key
  omega
/-- the splitters -/
noncomputable def SPL (m S : Nat) (t o : Int → Int) : List Nat := if spS m S t o 36 = [] then (if 0 < S then [0] else []) else spS m S t o 36
