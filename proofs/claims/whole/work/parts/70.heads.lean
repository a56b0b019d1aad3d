-- deps: 18 19 20 21 23 24 25 26 22 27 29 30 31 34 35 38 39 67 68
/-! heads and what comes behind them, of a text; pure -/
/-- the words with k inputs behind one of A -/
def LV (I : Nat) (A : List Nat) : Nat → List Nat
  | 0 => A
  | k + 1 => (LV I A k).flatMap (chl I)
def HS (I : Nat) (A : List Nat) : Nat → List Nat
  | 0 => A
  | k + 1 => HS I A k ++ LV I A (k + 1)
theorem LV_len {I : Nat} {A : List Nat} (hI : I ≤ 3) (hA : A.length ≤ 6) : (LV I A 0).length ≤ 6 ∧ (LV I A 1).length ≤ 18 ∧ (LV I A 2).length ≤ 54 ∧ (LV I A 3).length ≤ 162 := by
  have s : ∀ k, (LV I A (k + 1)).length ≤ 3 * (LV I A k).length := fun k => fm_len (f := chl I) (c := 3) _ fun x _ => by rw [chl_len]; exact hI
  have e0 : (LV I A 0).length ≤ 6 := hA
  have e1 := s 0; have e2 := s 1; have e3 := s 2
  simp only [Nat.zero_add, show 1 + 1 = 2 by rfl, show 2 + 1 = 3 by rfl] at e1 e2 e3
  omega
theorem LV_mem {I : Nat} {A : List Nat} (hI : I ≤ 3) {x : Nat} : ∀ k, x ∈ LV I A k ↔ ∃ a u, a ∈ A ∧ wok I u ∧ wlen u = k ∧ x = cat a u := by
  intro k
  induction k generalizing x with
  | zero =>
    constructor
    · intro h; exact ⟨x, 0, h, wok_0 I, wlen_0, (cat_0 x).symm⟩
    · rintro ⟨a, u, h1, h2, h3, rfl⟩
      have : u = 0 := Classical.byContradiction fun q => by rw [wlen_s q] at h3; omega
      subst this
      rw [cat_0]; exact h1
  | succ k ih =>
    constructor
    · intro h
      obtain ⟨y, y1, y2⟩ := List.mem_flatMap.mp h
      obtain ⟨i, i1, i2⟩ := List.mem_map.mp y2
      have i3 := List.mem_range.mp i1
      obtain ⟨a, u, h1, h2, h3, h4⟩ := ih.mp y1
      refine ⟨a, 4 * u + i + 1, h1, (wok_cc (by omega)).mpr ⟨i3, h2⟩, by rw [wlen_c _ (by omega)]; omega, ?_⟩
      rw [cat_c _ _ (by omega), ← h4, ← i2]
    · rintro ⟨a, u, h1, h2, h3, rfl⟩
      have z : u ≠ 0 := fun q => by rw [q, wlen_0] at h3; omega
      obtain ⟨v, j, a1, a2, a3, a4⟩ := wok_ne hI h2 z
      rw [a4, wlen_c _ a2] at h3
      rw [a4, cat_c _ _ a2]
      exact List.mem_flatMap.mpr ⟨cat a v, ih.mpr ⟨a, v, h1, a3, by omega, rfl⟩, chl_mem a1⟩
theorem HS_mem {I : Nat} {A : List Nat} (hI : I ≤ 3) {x : Nat} : ∀ k, x ∈ HS I A k ↔ ∃ a u, a ∈ A ∧ wok I u ∧ wlen u ≤ k ∧ x = cat a u
  | 0 => (LV_mem hI 0).trans ⟨fun ⟨a, u, h1, h2, h3, h4⟩ => ⟨a, u, h1, h2, by omega, h4⟩, fun ⟨a, u, h1, h2, h3, h4⟩ => ⟨a, u, h1, h2, by omega, h4⟩⟩
  | k + 1 => by
    have e : x ∈ HS I A (k + 1) ↔ x ∈ HS I A k ∨ x ∈ LV I A (k + 1) := List.mem_append
    have ih := HS_mem (A := A) hI (x := x) k
    rw [e, ih, LV_mem hI (k + 1)]
    constructor
    · rintro (⟨a, u, h1, h2, h3, h4⟩ | ⟨a, u, h1, h2, h3, h4⟩)
      · exact ⟨a, u, h1, h2, by omega, h4⟩
      · exact ⟨a, u, h1, h2, by omega, h4⟩
    · rintro ⟨a, u, h1, h2, h3, h4⟩
      by_cases z : wlen u ≤ k
      · exact Or.inl ⟨a, u, h1, h2, z, h4⟩
      · exact Or.inr ⟨a, u, h1, h2, by omega, h4⟩
theorem HS_HD {I : Nat} {A : List Nat} (hI : I ≤ 3) {n x : Nat} : x ∈ HS I A (n + 1) ↔ HD I A n x := HS_mem hI (n + 1)
/-- the access words of the reached states before s -/
noncomputable def ALs (I : Nat) (t : Int → Int) : Nat → List Nat
  | 0 => []
  | s + 1 => if 0 ≤ AC I t 0 (s : Int) then ALs I t s ++ [(AC I t 0 (s : Int)).toNat] else ALs I t s
theorem ALs_len (I : Nat) (t : Int → Int) : ∀ s, (ALs I t s).length ≤ s
  | 0 => Nat.le_refl 0
  | s + 1 => by
    have ih := ALs_len I t s
    rw [ALs]; split
    · rw [List.length_append, List.length_singleton]; omega
    · omega
theorem ALs_mem {I : Nat} {t : Int → Int} {w : Nat} : ∀ s, w ∈ ALs I t s ↔ ∃ x, x < s ∧ AC I t 0 (x : Int) = (w : Int)
  | 0 => ⟨fun h => (by cases h), fun ⟨x, h, _⟩ => by omega⟩
  | s + 1 => by
    have ih := ALs_mem (I := I) (t := t) (w := w) s
    rw [ALs]
    split
    · rename_i z
      rw [List.mem_append, ih, List.mem_singleton]
      constructor
      · rintro (⟨x, h1, h2⟩ | h)
        · exact ⟨x, by omega, h2⟩
        · exact ⟨s, by omega, by omega⟩
      · rintro ⟨x, h1, h2⟩
        by_cases y : x = s
        · subst y; exact Or.inr (by omega)
        · exact Or.inl ⟨x, by omega, h2⟩
    · rename_i z
      rw [ih]
      constructor
      · rintro ⟨x, h1, h2⟩; exact ⟨x, by omega, h2⟩
      · rintro ⟨x, h1, h2⟩
        by_cases y : x = s
        · subst y; omega
        · exact ⟨x, by omega, h2⟩
section
variable {S I : Nat} {t o : Int → Int}
theorem AC_0 (hI : I ≤ 3) : AC I t 0 0 = 0 := by
  have := fw_at (P := fun w => wok I w ∧ dS t 0 w = 0) (k := 0) ⟨wok_0 I, dS_0 t 0⟩ fun j hj => absurd hj (Nat.not_lt_zero j)
  exact this
theorem ALs_ok (hS : S ≤ 6) (hS0 : 0 < S) (hI : I ≤ 3) (hc : clo S t) : okA I (ALs I t S) := by
  refine ⟨Nat.le_trans (ALs_len I t S) hS, (ALs_mem S).mpr ⟨0, hS0, AC_0 hI⟩, fun w hw => ?_, fun w hw => ?_⟩
  · obtain ⟨x, h1, h2⟩ := (ALs_mem S).mp hw
    rcases AC_b hI hS (p0 := 0) (by omega) hc (x : Int) with q | ⟨v, q1, q2, q3, q4⟩
    · omega
    · have : v = w := by omega
      subst this; exact ⟨q2, q4⟩
  · obtain ⟨x, h1, h2⟩ := (ALs_mem S).mp hw
    by_cases z : w = 0
    · subst z; exact hw
    · rcases fw_cases (fun w => wok I w ∧ dS t 0 w = (x : Int)) with ⟨v, a1, a2, a3⟩ | ⟨a1, _⟩
      · have ev : v = w := by have : AC I t 0 (x : Int) = (v : Int) := a1; omega
        subst ev
        obtain ⟨u, i, i1, i2, i3, i4⟩ := wok_ne hI a2.1 z
        have eu : v / 4 = u := by omega
        rw [eu]
        have d := dS_cl hI (clo_m hI hc) (p := (0 : Int)) (by omega) u i3
        refine (ALs_mem S).mpr ⟨(dS t 0 u).toNat, by omega, ?_⟩
        rw [show (((dS t 0 u).toNat : Nat) : Int) = dS t 0 u by omega]
        refine fw_at ⟨i3, rfl⟩ fun u' hu' g => ?_
        have := a3 (4 * u' + i + 1) (by omega) ⟨(wok_cc i2).mpr ⟨i1, g.1⟩, ?_⟩
        · exact this
        · rw [dS_c _ _ _ i2, g.2, ← dS_c t 0 u i2, ← i4]; exact a2.2
      · have : AC I t 0 (x : Int) = -2 := a1
        omega
/-- every state that a word comes to has an access word -/
theorem RD_d (hI : I ≤ 3) {w : Nat} (hw : wok I w) {s : Nat} (h : dS t 0 w = (s : Int)) : RD I t s := by
  rcases fw_cases (fun w => wok I w ∧ dS t 0 w = (s : Int)) with ⟨v, a1, a2, a3⟩ | ⟨a1, a2⟩
  · have : AC I t 0 (s : Int) = (v : Int) := a1
    unfold RD; omega
  · exact (a2 w ⟨hw, h⟩).elim
/-- a mark -/
theorem MK_p (k s : Nat) : MK S I t o s k = -2 ∨ (k = 0 ∧ MK S I t o s k = 0) ∨ ∃ x w : Nat, x < S ∧ RD I t x ∧ SPr I t o (s : Int) (x : Int) = (w : Int) ∧ MK S I t o s k = (w : Int) ∧ (0 < k → MK S I t o s (k - 1) < (w : Int)) ∧ (0 < k → MK S I t o s (k - 1) ≠ -2) := by
  have key : ∀ than : Int, MAb S I t o s than = -2 ∨ (than < 0 ∧ MAb S I t o s than = 0) ∨ ∃ x w : Nat, x < S ∧ RD I t x ∧ SPr I t o (s : Int) (x : Int) = (w : Int) ∧ MAb S I t o s than = (w : Int) ∧ than < (w : Int) := by
    intro than
    unfold MAb
    split
    · rcases fw_cases (mkP I t o s than S) with ⟨v, a1, ⟨a2, x, a4, a5, a6⟩, a3⟩ | ⟨a1, a2⟩
      · exact Or.inr (Or.inr ⟨x, v, a4, a5, a6, a1, a2⟩)
      · exact Or.inl a1
    · split
      · exact Or.inr (Or.inl ⟨by assumption, rfl⟩)
      · exact Or.inl rfl
  have nn : ∀ k, MK S I t o s k = -2 ∨ 0 ≤ MK S I t o s k := by
    intro k
    cases k with
    | zero =>
      rcases key (-1) with q | ⟨_, q⟩ | ⟨x, w, q1, q2, q3, q4, q5⟩
      · exact Or.inl q
      · exact Or.inr (by show 0 ≤ MAb S I t o s (-1); omega)
      · exact Or.inr (by show 0 ≤ MAb S I t o s (-1); omega)
    | succ k =>
      rw [MK]
      split
      · exact Or.inl rfl
      · rcases key (MK S I t o s k) with q | ⟨_, q⟩ | ⟨x, w, q1, q2, q3, q4, q5⟩
        · exact Or.inl q
        · exact Or.inr (by omega)
        · exact Or.inr (by omega)
  cases k with
  | zero =>
    rcases key (-1) with q | ⟨_, q⟩ | ⟨x, w, q1, q2, q3, q4, q5⟩
    · exact Or.inl q
    · exact Or.inr (Or.inl ⟨rfl, q⟩)
    · exact Or.inr (Or.inr ⟨x, w, q1, q2, q3, q4, fun z => by omega, fun z => by omega⟩)
  | succ k =>
    rw [MK]
    split
    · exact Or.inl rfl
    · rename_i z
      have := nn k
      rcases key (MK S I t o s k) with q | ⟨y, q⟩ | ⟨x, w, q1, q2, q3, q4, q5⟩
      · exact Or.inl q
      · omega
      · exact Or.inr (Or.inr ⟨x, w, q1, q2, q3, q4, fun _ => q5, fun _ => z⟩)
theorem MK_5 (hS : S ≤ 6) {s : Nat} (hs : s < S) : MK S I t o s 5 = -2 := by
  refine Classical.byContradiction fun h5 => ?_
  have ne : ∀ k, k ≤ 5 → MK S I t o s k ≠ -2 := fun k hk q => h5 (by
    have := MK_neg q (5 - k)
    rwa [show k + (5 - k) = 5 by omega] at this)
  -- the state of each mark behind the first
  have st : ∀ k, 0 < k → k ≤ 5 → ∃ x w : Nat, x < S ∧ SPr I t o (s : Int) (x : Int) = (w : Int) ∧ MK S I t o s k = (w : Int) ∧ MK S I t o s (k - 1) < (w : Int) := by
    intro k h0 hk
    rcases MK_p (S := S) (I := I) (t := t) (o := o) k s with q | ⟨q, _⟩ | ⟨x, w, q1, q2, q3, q4, q5, q6⟩
    · exact (ne k hk q).elim
    · omega
    · exact ⟨x, w, q1, q3, q4, q5 h0⟩
  have st0 : ∃ x w : Nat, x < S ∧ SPr I t o (s : Int) (x : Int) = (w : Int) ∧ MK S I t o s 0 = (w : Int) := by
    rcases MK_p (S := S) (I := I) (t := t) (o := o) 0 s with q | ⟨_, q⟩ | ⟨x, w, q1, q2, q3, q4, q5, q6⟩
    · exact (ne 0 (by omega) q).elim
    · -- then there is no mark behind it
      have e1 : MK S I t o s 1 = MAb S I t o s (MK S I t o s 0) := if_neg (ne 0 (by omega))
      have e0 : MAb S I t o s (-1) = 0 := q
      have n1 := ne 1 (by omega)
      rw [e1, q] at n1
      unfold MAb at n1 e0
      by_cases y : ∃ x, x < S ∧ RD I t x ∧ SPr I t o (s : Int) (x : Int) ≠ -2
      · rw [if_pos y] at e0
        rcases fw_cases (mkP I t o s (-1) S) with ⟨v, a1, ⟨a2, x, a4, a5, a6⟩, a3⟩ | ⟨a1, a2⟩
        · exact ⟨x, v, a4, a6, by show MAb S I t o s (-1) = _; unfold MAb; rw [if_pos y, a1]⟩
        · omega
      · rw [if_neg y] at n1
        exact (n1 (if_neg (by omega))).elim
    · exact ⟨x, w, q1, q3, q4⟩
  have all : ∀ k, k ≤ 5 → ∃ x : Nat, x < S ∧ SPr I t o (s : Int) (x : Int) = MK S I t o s k := by
    intro k hk
    by_cases z : k = 0
    · subst z
      obtain ⟨x, w, q1, q2, q3⟩ := st0
      exact ⟨x, q1, by omega⟩
    · obtain ⟨x, w, q1, q2, q3, _⟩ := st k (by omega) hk
      exact ⟨x, q1, by omega⟩
  have up1 : ∀ k, k < 5 → MK S I t o s k < MK S I t o s (k + 1) := by
    intro k hk
    obtain ⟨x, w, q1, q2, q3, q4⟩ := st (k + 1) (by omega) (by omega)
    rw [Nat.add_sub_cancel] at q4
    omega
  have up : ∀ d k, k + d ≤ 5 → 0 < d → MK S I t o s k < MK S I t o s (k + d) := by
    intro d
    induction d with
    | zero => intro k _ h; omega
    | succ d ih =>
      intro k hk _
      have u := up1 (k + d) (by omega)
      by_cases z : d = 0
      · subst z; exact u
      · have := ih k (by omega) (by omega)
        rw [show k + (d + 1) = k + d + 1 by omega]; omega
  obtain ⟨f, hf⟩ : ∃ f : Nat → Nat, ∀ k, k ≤ 5 → f k < S ∧ SPr I t o (s : Int) (f k : Int) = MK S I t o s k := by
    refine ⟨fun k => if z : k ≤ 5 then (all k z).choose else 0, fun k hk => ?_⟩
    simp only [dif_pos hk]
    exact (all k hk).choose_spec
  have ns : ∀ k, k ≤ 5 → f k ≠ s := fun k hk q => by
    have := (hf k hk).2
    rw [q, SPr_rf] at this
    exact ne k hk this.symm
  have := few (N := 5) 6 (fun k => if f k < s then f k else f k - 1) (fun k hk => by
    have a := (hf k (by omega)).1; have b := ns k (by omega)
    (try dsimp only); split <;> omega) (fun j k hjk hk => by
    have a := (hf k (by omega)).2; have b := (hf j (by omega)).2
    have u := up (k - j) j (by omega) (by omega)
    rw [show j + (k - j) = k by omega] at u
    have n1 := ns k (by omega); have n2 := ns j (by omega)
    have nf : f j ≠ f k := fun q => by rw [q] at b; omega
    (try dsimp only); split <;> split <;> omega)
  omega
noncomputable def MKl (S I : Nat) (t o : Int → Int) (s : Nat) : Nat → List Nat
  | 0 => []
  | k + 1 => if MK S I t o s k = -2 then MKl S I t o s k else MKl S I t o s k ++ [(MK S I t o s k).toNat]
theorem MKl_len (s : Nat) : ∀ k, (MKl S I t o s k).length ≤ k
  | 0 => Nat.le_refl 0
  | k + 1 => by
    have ih := MKl_len s k
    rw [MKl]; split
    · omega
    · rw [List.length_append, List.length_singleton]; omega
theorem MKl_of {s c : Nat} (h : ∀ k, k < c → MK S I t o s k ≠ -2) : ∀ k, k ≤ c → (MKl S I t o s k).length = k ∧ ∀ j w : Nat, (MKl S I t o s k)[j]? = some w → j < k ∧ (w : Int) = ((MK S I t o s j).toNat : Int)
  | 0, _ => ⟨rfl, fun j w h => by cases h⟩
  | k + 1, hk => by
    obtain ⟨i1, i2⟩ := MKl_of h k (by omega)
    rw [MKl, if_neg (h k (by omega))]
    refine ⟨by rw [List.length_append, List.length_singleton, i1], fun j w hj => ?_⟩
    rcases at_add.mp hj with ⟨a1, a2⟩ | ⟨a1, a2⟩
    · have := i2 j w a2; exact ⟨by omega, this.2⟩
    · rw [i1] at a1; subst a1; subst a2; exact ⟨by omega, rfl⟩
theorem MKl_st {s c : Nat} (h : MK S I t o s c = -2) : ∀ d, MKl S I t o s (c + d) = MKl S I t o s c
  | 0 => rfl
  | d + 1 => by
    show MKl S I t o s (c + d + 1) = _
    rw [MKl, if_pos (MK_neg h d), MKl_st h d]
theorem MKl_mem {s w : Nat} : ∀ k, w ∈ MKl S I t o s k → ∃ j, j < k ∧ MK S I t o s j ≠ -2 ∧ w = (MK S I t o s j).toNat
  | 0, h => by cases h
  | k + 1, h => by
    rw [MKl] at h
    split at h
    · obtain ⟨j, a, b⟩ := MKl_mem k h; exact ⟨j, by omega, b⟩
    · rcases List.mem_append.mp h with q | q
      · obtain ⟨j, a, b⟩ := MKl_mem k q; exact ⟨j, by omega, b⟩
      · exact ⟨k, by omega, by assumption, List.mem_singleton.mp q⟩
/-- what comes behind a head -/
noncomputable def BHf (S I : Nat) (t o : Int → Int) (su : Nat) (h : Nat) : List Nat := if su = 0 then SPL I S t o else MKl S I t o (dS t 0 h).toNat 5
theorem SPL_ok (hS : S ≤ 6) (hS0 : 0 < S) (hI : I ≤ 3) (hm : mok t o) (hc : clo S t) : (SPL I S t o).length ≤ 5 ∧ SPL I S t o ≠ [] ∧ ∀ b ∈ SPL I S t o, wok I b ∧ wlen b ≤ 5 := by
  have l := spS_len hI hS0 hS hm hc 36
  unfold SPL
  split
  · exact ⟨by simp, by simp, fun b hb => by rw [List.mem_singleton.mp hb, wlen_0]; exact ⟨wok_0 I, by omega⟩⟩
  · rename_i z
    exact ⟨by omega, z, fun b hb => ⟨(spS_w hI hS hm hc 36 b hb).1, (spS_w hI hS hm hc 36 b hb).2.2⟩⟩
theorem BHf_ok (hS : S ≤ 6) (hS0 : 0 < S) (hI : I ≤ 3) (hm : mok t o) (hc : clo S t) (su : Nat) : okB I (BHf S I t o su) := by
  intro h hh
  unfold BHf
  split
  · exact SPL_ok hS hS0 hI hm hc
  · have d := dS_cl hI (clo_m hI hc) (p := (0 : Int)) (by omega) h hh
    generalize hs : (dS t 0 h).toNat = s
    have s6 : s < S := by omega
    refine ⟨MKl_len s 5, fun q => ?_, fun b hb => ?_⟩
    · have m0 : MK S I t o s 0 ≠ -2 := by
        show MAb S I t o s (-1) ≠ -2
        unfold MAb
        split
        · rename_i y
          obtain ⟨x, x1, x2, x3⟩ := y
          rcases SPr_c (S := S) hI hS hm hc (a := (s : Int)) (b := (x : Int)) (by omega) (by omega) with ⟨q, _⟩ | ⟨v, q, _⟩
          · exact (x3 q).elim
          · rcases fw_cases (mkP I t o s (-1) S) with ⟨v, a1, _⟩ | ⟨_, a2⟩
            · omega
            · exact (a2 v ⟨by omega, x, x1, x2, q⟩).elim
        · rw [if_pos (by omega)]; omega
      have : (MK S I t o s 0).toNat ∈ MKl S I t o s 5 := by
        have sub : ∀ k, (MK S I t o s 0).toNat ∈ MKl S I t o s (k + 1) := by
          intro k
          induction k with
          | zero => rw [MKl, if_neg m0]; exact List.mem_append_right _ (List.mem_singleton.mpr rfl)
          | succ k ih =>
            rw [MKl]; split
            · exact ih
            · exact List.mem_append_left _ ih
        exact sub 4
      rw [q] at this; cases this
    · obtain ⟨j, j1, j2, j3⟩ := MKl_mem 5 hb
      rcases MK_p (S := S) (I := I) (t := t) (o := o) j s with q | ⟨_, q⟩ | ⟨x, w, q1, q2, q3, q4, _⟩
      · exact (j2 q).elim
      · rw [j3, q]; exact ⟨wok_0 I, by rw [show (0 : Int).toNat = 0 by rfl, wlen_0]; omega⟩
      · rcases SPr_c (S := S) hI hS hm hc (a := (s : Int)) (b := (x : Int)) (by omega) (by omega) with ⟨g, _⟩ | ⟨v, g, g1, _, _, g2, _⟩
        · omega
        · have : b = v := by omega
          subst this; exact ⟨g1, g2⟩
end
