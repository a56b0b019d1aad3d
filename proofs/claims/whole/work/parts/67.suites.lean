-- deps: 18 19 20 21 23 24 25 26 22 27 29 30 31 34
/-! the suites' words, pure -/
/-- a row without repeats within another is no longer -/
theorem nod_len {l m : List Nat} (h : ∀ i j : Nat, i < j → j < l.length → l[i]? ≠ l[j]?) (hs : ∀ x ∈ l, x ∈ m) : l.length ≤ m.length := by
  refine few l.length (fun k => m.idxOf (l[k]?.getD 0)) ?_ ?_
  · intro k hk
    have e : l[k]? = some l[k] := List.getElem?_eq_getElem hk
    show m.idxOf (l[k]?.getD 0) < m.length
    rw [e]
    exact List.idxOf_lt_length_of_mem (hs _ (List.getElem_mem hk))
  · intro j k hjk hk g
    have ej : l[j]? = some l[j] := List.getElem?_eq_getElem (by omega)
    have ek : l[k]? = some l[k] := List.getElem?_eq_getElem hk
    have g' : m.idxOf (l[j]?.getD 0) = m.idxOf (l[k]?.getD 0) := g
    rw [ej, ek] at g'
    have m1 := hs _ (List.getElem_mem (show j < l.length by omega))
    have m2 := hs _ (List.getElem_mem hk)
    have e1 := List.getElem_idxOf (List.idxOf_lt_length_of_mem m1)
    have e2 := List.getElem_idxOf (List.idxOf_lt_length_of_mem m2)
    refine h j k hjk hk ?_
    rw [ej, ek, ← e1, ← e2]
    simp only [Option.getD_some] at g'
    simp only [g']
theorem fm_len {α β : Type} {f : α → List β} {c : Nat} : ∀ l : List α, (∀ x ∈ l, (f x).length ≤ c) → (l.flatMap f).length ≤ c * l.length
  | [], _ => by simp
  | x :: l, h => by
    have ih := fm_len (f := f) (c := c) l fun y hy => h y (List.mem_cons_of_mem _ hy)
    have h1 := h x (List.mem_cons_self)
    rw [List.flatMap_cons, List.length_append, List.length_cons, Nat.mul_succ]
    omega
/-- what a word is behind one more input -/
def chl (I w : Nat) : List Nat := (List.range I).map fun i => 4 * w + i + 1
theorem chl_len (I w : Nat) : (chl I w).length = I := by simp [chl]
theorem chl_mem {I w i : Nat} (h : i < I) : 4 * w + i + 1 ∈ chl I w := List.mem_map.mpr ⟨i, List.mem_range.mpr h, rfl⟩
def HL (I : Nat) (A : List Nat) : Nat → List Nat
  | 0 => 0 :: A.flatMap (chl I)
  | k + 1 => 0 :: (HL I A k).flatMap (chl I)
/-- heads -/
def HD (I : Nat) (A : List Nat) (n h : Nat) : Prop := ∃ a u, a ∈ A ∧ wok I u ∧ wlen u ≤ n + 1 ∧ h = cat a u
def okA (I : Nat) (A : List Nat) : Prop := A.length ≤ 6 ∧ 0 ∈ A ∧ (∀ w ∈ A, wok I w ∧ wlen w ≤ 5) ∧ ∀ w ∈ A, w / 4 ∈ A
theorem HL_len {I : Nat} {A : List Nat} (hI : I ≤ 3) (hA : okA I A) : (HL I A 0).length ≤ 19 ∧ (HL I A 1).length ≤ 58 ∧ (HL I A 2).length ≤ 175 := by
  have e0 := fm_len (f := chl I) (c := 3) A fun x _ => by rw [chl_len]; exact hI
  have e1 := fm_len (f := chl I) (c := 3) (HL I A 0) fun x _ => by rw [chl_len]; exact hI
  have e2 := fm_len (f := chl I) (c := 3) (HL I A 1) fun x _ => by rw [chl_len]; exact hI
  have l0 : (HL I A 0).length = (A.flatMap (chl I)).length + 1 := rfl
  have l1 : (HL I A 1).length = ((HL I A 0).flatMap (chl I)).length + 1 := rfl
  have l2 : (HL I A 2).length = ((HL I A 1).flatMap (chl I)).length + 1 := rfl
  have := hA.1
  omega
theorem HL_A {I : Nat} {A : List Nat} (hI : I ≤ 3) (hA : okA I A) {a : Nat} (h : a ∈ A) : ∀ k, a ∈ HL I A k := by
  have key : a = 0 ∨ ∃ v i, v ∈ A ∧ i < I ∧ a = 4 * v + i + 1 := by
    by_cases z : a = 0
    · exact Or.inl z
    · obtain ⟨v, j, h1, h2, h3, h4⟩ := wok_ne hI (hA.2.2.1 a h).1 z
      refine Or.inr ⟨v, j, ?_, h1, h4⟩
      have := hA.2.2.2 a h
      rwa [h4, show (4 * v + j + 1) / 4 = v by omega] at this
  have gen : ∀ (m : Nat), ∀ a, a ∈ A → a < m → ∀ k, a ∈ HL I A k := by
    intro m
    induction m with
    | zero => intro a _ h; omega
    | succ m ih =>
      intro a ha hm k
      by_cases z : a = 0
      · subst z; cases k <;> exact List.mem_cons_self
      · obtain ⟨v, j, h1, h2, h3, h4⟩ := wok_ne hI (hA.2.2.1 a ha).1 z
        have hv : v ∈ A := by
          have := hA.2.2.2 a ha
          rwa [h4, show (4 * v + j + 1) / 4 = v by omega] at this
        rw [h4]
        cases k with
        | zero => exact List.mem_cons_of_mem _ (List.mem_flatMap.mpr ⟨v, hv, chl_mem h1⟩)
        | succ k => exact List.mem_cons_of_mem _ (List.mem_flatMap.mpr ⟨v, ih v hv (by omega) k, chl_mem h1⟩)
  exact gen (a + 1) a h (by omega)
theorem HD_0 {I : Nat} {A : List Nat} {n a : Nat} (h : a ∈ A) : HD I A n a := ⟨a, 0, h, wok_0 I, by rw [wlen_0]; omega, by rw [cat_0]⟩
theorem HD_L {I : Nat} {A : List Nat} (hI : I ≤ 3) (hA : okA I A) : ∀ (n h : Nat), HD I A n h → h ∈ HL I A n := by
  intro n
  induction n with
  | zero =>
    rintro h ⟨a, u, h1, h2, h3, rfl⟩
    by_cases z : u = 0
    · subst z; rw [cat_0]; exact HL_A hI hA h1 0
    · obtain ⟨v, j, a1, a2, a3, a4⟩ := wok_ne hI h2 z
      rw [a4, wlen_c _ a2] at h3
      have v0 : v = 0 := Classical.byContradiction fun q => by rw [wlen_s q] at h3; omega
      subst v0
      rw [a4, cat_c _ _ a2, cat_0]
      exact List.mem_cons_of_mem _ (List.mem_flatMap.mpr ⟨a, h1, chl_mem a1⟩)
  | succ n ih =>
    rintro h ⟨a, u, h1, h2, h3, rfl⟩
    by_cases z : u = 0
    · subst z; rw [cat_0]; exact HL_A hI hA h1 (n + 1)
    · obtain ⟨v, j, a1, a2, a3, a4⟩ := wok_ne hI h2 z
      rw [a4, wlen_c _ a2] at h3
      rw [a4, cat_c _ _ a2]
      exact List.mem_cons_of_mem _ (List.mem_flatMap.mpr ⟨cat a v, ih _ ⟨a, v, h1, a3, by omega, rfl⟩, chl_mem a1⟩)
/-- its beginnings but the empty one -/
def pxl (w : Nat) : List Nat := if h : w = 0 then [] else pxl (w / 4) ++ [w]
termination_by w
decreasing_by omega
theorem pxl_0 : pxl 0 = [] := by unfold pxl; simp
theorem pxl_s {w : Nat} (h : w ≠ 0) : pxl w = pxl (w / 4) ++ [w] := by rw [pxl, dif_neg h]
theorem pxl_len : ∀ w, (pxl w).length = wlen w := by
  intro w
  induction w using Nat.strongRecOn with
  | ind w ih =>
    by_cases z : w = 0
    · subst z; rw [pxl_0, wlen_0]; rfl
    · rw [pxl_s z, wlen_s z, List.length_append, ih (w / 4) (by omega)]; rfl
theorem pxl_mem {x : Nat} : ∀ w k : Nat, x = w / 4 ^ k → x ≠ 0 → x ∈ pxl w := by
  intro w
  induction w using Nat.strongRecOn with
  | ind w ih =>
    intro k hk h0
    have w0 : w ≠ 0 := fun q => h0 (by rw [hk, q, Nat.zero_div])
    rw [pxl_s w0]
    cases k with
    | zero => rw [Nat.pow_zero, Nat.div_one] at hk; subst hk; exact List.mem_append_right _ (List.mem_singleton.mpr rfl)
    | succ k =>
      refine List.mem_append_left _ (ih (w / 4) (by omega) k ?_ h0)
      rw [hk, Nat.pow_succ, Nat.mul_comm, ← Nat.div_div_eq_div_mul]
/-- words of a suite: heads with what comes behind -/
def WD (I : Nat) (A : List Nat) (BH : Nat → List Nat) (n w : Nat) : Prop := ∃ h b, HD I A n h ∧ b ∈ BH h ∧ w = cat h b
/-- their beginnings -/
def ND (I : Nat) (A : List Nat) (BH : Nat → List Nat) (n x : Nat) : Prop := ∃ v k, WD I A BH n v ∧ x = v / 4 ^ k
def okB (I : Nat) (BH : Nat → List Nat) : Prop := ∀ h, wok I h → (BH h).length ≤ 5 ∧ BH h ≠ [] ∧ ∀ b ∈ BH h, wok I b ∧ wlen b ≤ 5
def NDL (I : Nat) (A : List Nat) (BH : Nat → List Nat) (n : Nat) : List Nat := (HL I A n).flatMap fun h => h :: (BH h).flatMap fun b => (pxl b).map (cat h)
def WDL (I : Nat) (A : List Nat) (BH : Nat → List Nat) (n : Nat) : List Nat := (HL I A n).flatMap fun h => (BH h).map (cat h)
theorem cat_div {m h b : Nat} (hm : m ≤ 3) (hb : wok m b) : ∀ k, k ≤ wlen b → cat h b / 4 ^ k = cat h (b / 4 ^ k) ∧ wlen (b / 4 ^ k) = wlen b - k
  | 0, _ => by rw [Nat.pow_zero, Nat.div_one, Nat.div_one]; exact ⟨rfl, rfl⟩
  | k + 1, hk => by
    obtain ⟨e1, e2⟩ := cat_div (h := h) hm hb k (by omega)
    have z : b / 4 ^ k ≠ 0 := fun q => by rw [q, wlen_0] at e2; omega
    obtain ⟨v, j, a1, a2, a3, a4⟩ := wok_ne hm (wok_divp k hb) z
    rw [div_s, div_s, e1, a4, cat_c _ _ a2, show (4 * cat h v + j + 1) / 4 = cat h v by omega, show (4 * v + j + 1) / 4 = v by omega]
    rw [a4, wlen_c _ a2] at e2
    exact ⟨rfl, by omega⟩
section
variable {I : Nat} {A : List Nat} {BH : Nat → List Nat}
theorem HD_ok (hI : I ≤ 3) (hA : okA I A) {n h : Nat} (H : HD I A n h) : wok I h ∧ wlen h ≤ n + 6 := by
  obtain ⟨a, u, h1, h2, h3, rfl⟩ := H
  have := hA.2.2.1 a h1
  have e := cat_ok hI this.1 u h2
  exact ⟨e.1, by omega⟩
theorem HD_div (hI : I ≤ 3) (hA : okA I A) {n h : Nat} (H : HD I A n h) : HD I A n (h / 4) := by
  obtain ⟨a, u, h1, h2, h3, rfl⟩ := H
  by_cases z : u = 0
  · subst z; rw [cat_0]; exact HD_0 (hA.2.2.2 a h1)
  · obtain ⟨v, j, a1, a2, a3, a4⟩ := wok_ne hI h2 z
    rw [a4, wlen_c _ a2] at h3
    rw [a4, cat_c _ _ a2, show (4 * cat a v + j + 1) / 4 = cat a v by omega]
    exact ⟨a, v, h1, a3, by omega, rfl⟩
theorem HD_divp (hI : I ≤ 3) (hA : okA I A) {n h : Nat} (H : HD I A n h) : ∀ k, HD I A n (h / 4 ^ k)
  | 0 => by rw [Nat.pow_zero, Nat.div_one]; exact H
  | k + 1 => by rw [div_s]; exact HD_div hI hA (HD_divp hI hA H k)
theorem HL_ok (hI : I ≤ 3) (hA : okA I A) : ∀ (n : Nat), ∀ h ∈ HL I A n, wok I h := by
  have cl : ∀ l : List Nat, (∀ x ∈ l, wok I x) → ∀ x ∈ l.flatMap (chl I), wok I x := by
    intro l hl x hx
    obtain ⟨y, y1, y2⟩ := List.mem_flatMap.mp hx
    obtain ⟨i, i1, i2⟩ := List.mem_map.mp y2
    have := List.mem_range.mp i1
    rw [← i2]; exact (wok_cc (by omega)).mpr ⟨this, hl y y1⟩
  intro n
  induction n with
  | zero =>
    intro h hh
    rcases List.mem_cons.mp hh with q | q
    · rw [q]; exact wok_0 I
    · exact cl A (fun x hx => (hA.2.2.1 x hx).1) h q
  | succ n ih =>
    intro h hh
    rcases List.mem_cons.mp hh with q | q
    · rw [q]; exact wok_0 I
    · exact cl _ ih h q
theorem WD_ok (hI : I ≤ 3) (hA : okA I A) (hB : okB I BH) {n w : Nat} (H : WD I A BH n w) : wok I w ∧ wlen w ≤ n + 11 := by
  obtain ⟨h, b, h1, h2, rfl⟩ := H
  have a := HD_ok hI hA h1
  have b' := (hB h a.1).2.2 b h2
  have e := cat_ok hI a.1 b b'.1
  exact ⟨e.1, by omega⟩
theorem wlen_div (w k : Nat) : wlen (w / 4 ^ k) ≤ wlen w := wlen_mono (Nat.div_le_self _ _)
theorem ND_ok (hI : I ≤ 3) (hA : okA I A) (hB : okB I BH) {n w : Nat} (H : ND I A BH n w) : wok I w ∧ wlen w ≤ n + 11 := by
  obtain ⟨v, k, h1, rfl⟩ := H
  have := WD_ok hI hA hB h1
  exact ⟨wok_divp k this.1, Nat.le_trans (wlen_div v k) this.2⟩
theorem ND_W {n w : Nat} (H : WD I A BH n w) : ND I A BH n w := ⟨w, 0, H, by rw [Nat.pow_zero, Nat.div_one]⟩
theorem ND_div {n w : Nat} (H : ND I A BH n w) : ND I A BH n (w / 4) := by
  obtain ⟨v, k, h1, rfl⟩ := H
  exact ⟨v, k + 1, h1, (div_s v k).symm⟩
theorem ND_divp {n w : Nat} (H : ND I A BH n w) (k : Nat) : ND I A BH n (w / 4 ^ k) := by
  obtain ⟨v, j, h1, rfl⟩ := H
  exact ⟨v, j + k, h1, by rw [Nat.pow_add, ← Nat.div_div_eq_div_mul]⟩
theorem ND_H (hI : I ≤ 3) (hA : okA I A) (hB : okB I BH) {n h : Nat} (H : HD I A n h) : ND I A BH n h := by
  obtain ⟨b1, b2, b3⟩ := hB h (HD_ok hI hA H).1
  obtain ⟨b, hb⟩ := List.exists_mem_of_ne_nil _ b2
  have bo := b3 b hb
  refine ⟨cat h b, wlen b, ⟨h, b, H, hb, rfl⟩, ?_⟩
  have e := cat_div (h := h) hI bo.1 (wlen b) (Nat.le_refl _)
  rw [e.1, div_top, cat_0]
theorem ND_L (hI : I ≤ 3) (hA : okA I A) (hB : okB I BH) {n x : Nat} (H : ND I A BH n x) : x ∈ NDL I A BH n := by
  obtain ⟨v, k, ⟨h, b, h1, h2, rfl⟩, rfl⟩ := H
  have ho := HD_ok hI hA h1
  have bo := (hB h ho.1).2.2 b h2
  by_cases z : k < wlen b
  · have e := cat_div (h := h) hI bo.1 k (by omega)
    rw [e.1]
    have z2 : b / 4 ^ k ≠ 0 := fun q => by have := e.2; rw [q, wlen_0] at this; omega
    refine List.mem_flatMap.mpr ⟨h, HD_L hI hA n h h1, List.mem_cons_of_mem _ (List.mem_flatMap.mpr ⟨b, h2, List.mem_map.mpr ⟨_, pxl_mem b k rfl z2, rfl⟩⟩)⟩
  · have e := cat_div (h := h) hI bo.1 (wlen b) (Nat.le_refl _)
    have e2 : cat h b / 4 ^ k = h / 4 ^ (k - wlen b) := by
      rw [show k = wlen b + (k - wlen b) by omega, Nat.pow_add, ← Nat.div_div_eq_div_mul, e.1, div_top, cat_0, show wlen b + (k - wlen b) - wlen b = k - wlen b by omega]
    rw [e2]
    exact List.mem_flatMap.mpr ⟨_, HD_L hI hA n _ (HD_divp hI hA h1 _), List.mem_cons_self⟩
theorem WD_L (hI : I ≤ 3) (hA : okA I A) {n x : Nat} (H : WD I A BH n x) : x ∈ WDL I A BH n := by
  obtain ⟨h, b, h1, h2, rfl⟩ := H
  exact List.mem_flatMap.mpr ⟨h, HD_L hI hA n h h1, List.mem_map.mpr ⟨b, h2, rfl⟩⟩
/-- how many heads are there at most -/
def mH (n : Nat) : Nat := if n = 0 then 19 else if n = 1 then 58 else 175
theorem HL_mH (hI : I ≤ 3) (hA : okA I A) {n : Nat} (hn : n < 3) : (HL I A n).length ≤ mH n := by
  have := HL_len hI hA
  rcases (by omega : n = 0 ∨ n = 1 ∨ n = 2) with rfl | rfl | rfl
  · exact this.1
  · exact this.2.1
  · exact this.2.2
theorem NDL_len (hI : I ≤ 3) (hA : okA I A) (hB : okB I BH) {n : Nat} (hn : n < 3) : (NDL I A BH n).length ≤ 26 * mH n := by
  have e := fm_len (f := fun h => h :: (BH h).flatMap fun b => (pxl b).map (cat h)) (c := 26) (HL I A n) fun h hh => by
    obtain ⟨b1, b2, b3⟩ := hB h (HL_ok hI hA n h hh)
    have := fm_len (f := fun b => (pxl b).map (cat h)) (c := 5) (BH h) fun b hb => by
      rw [List.length_map, pxl_len]; exact (b3 b hb).2
    rw [List.length_cons]; omega
  have := HL_mH hI hA hn
  unfold NDL
  omega
theorem WDL_len (hI : I ≤ 3) (hA : okA I A) (hB : okB I BH) {n : Nat} (hn : n < 3) : (WDL I A BH n).length ≤ 5 * mH n := by
  have e := fm_len (f := fun h => (BH h).map (cat h)) (c := 5) (HL I A n) fun h hh => by
    rw [List.length_map]; exact (hB h (HL_ok hI hA n h hh)).1
  have := HL_mH hI hA hn
  unfold WDL
  omega
/-- tests: words with which no other begins -/
def LF (I : Nat) (A : List Nat) (BH : Nat → List Nat) (n w : Nat) : Prop := WD I A BH n w ∧ ∀ i, i < I → ¬ ND I A BH n (4 * w + i + 1)
theorem LF_of {n x : Nat} (hI : I ≤ 3) (hA : okA I A) (hB : okB I BH) (h : ND I A BH n x) (hc : ∀ i, i < I → ¬ ND I A BH n (4 * x + i + 1)) : LF I A BH n x := by
  refine ⟨?_, hc⟩
  obtain ⟨v, k, h1, rfl⟩ := h
  have vo := WD_ok hI hA hB h1
  induction k with
  | zero => rw [Nat.pow_zero, Nat.div_one]; exact h1
  | succ k ih =>
    by_cases z : v / 4 ^ k = 0
    · rw [div_s, z] at hc ⊢
      rw [z] at ih
      exact ih hc
    · obtain ⟨u, j, a1, a2, a3, a4⟩ := wok_ne hI (wok_divp k vo.1) z
      rw [div_s, a4, show (4 * u + j + 1) / 4 = u by omega] at hc
      exact (hc j a1 ⟨v, k, h1, by rw [a4]⟩).elim
end
