-- deps: 18 19 20 21 23 24 25 26 27 28 29 22 30 31 32 33 34 35 36 37 38 39 40 41 42 43 44
/-! the class: marks; all that is learnt of a text's states -/
def SR (h : HP) (s c : Nat) (P : Int → Prop) : Prop := h 25 (s : Int) = (c : Int) ∧ (∀ i j : Nat, i < j → j < c → h 24 (6 * (s : Int) + (i : Int)) < h 24 (6 * (s : Int) + (j : Int))) ∧ ∀ w : Int, (∃ j : Nat, j < c ∧ h 24 (6 * (s : Int) + (j : Int)) = w) ↔ P w
def mkF (h h1 : HP) (s : Nat) : Prop := EX [24, 25] [] h h1 ∧ (∀ j : Int, (j < 6 * (s : Int) ∨ 6 * (s : Int) + 6 ≤ j) → h1 24 j = h 24 j) ∧ ∀ x : Int, x ≠ (s : Int) → h1 25 x = h 25 x
theorem mkF_rf {h : HP} {s : Nat} : mkF h h s := ⟨EX_rf, fun _ _ => rfl, fun _ _ => rfl⟩
theorem mkF_tr {h h1 h2 : HP} {s : Nat} (a : mkF h h1 s) (b : mkF h1 h2 s) : mkF h h2 s := ⟨EX_tr a.1 b.1, fun j hj => (b.2.1 j hj).trans (a.2.1 j hj), fun x hx => (b.2.2 x hx).trans (a.2.2 x hx)⟩
section
variable {Q : RP} {n : Nat} {hr h : HP} {S I : Nat} {t o : Int → Int}
theorem sp_A_addMark {s c : Nat} {w : Int} {P : Int → Prop} (V : CW n hr) (hs : s < 6) (hc : c < 6) (H : SR h s c P) (hQ : ∀ h1 c', mkF h h1 s → c' ≤ c + 1 → SR h1 s c' (fun x => P x ∨ x = w) → Q (9, 0) n hr h1) : f_A_addMark [(2, 19), (0, (s : Int)), (0, w)] n hr h Q := by
  obtain ⟨a1, a2, a3⟩ := H
  have hm3 : (s : Int) * 6 = 6 * (s : Int) := Int.mul_comm _ _
  apply e_A_addMark
  simp (disch := omega) only [ok_19 V.1, cr_19_6 V, w32_id, hm3, a1, true_and]
  repeat (refine ⟨by omega, ?_⟩)
  -- where the word goes
  have place : ∀ (k : Nat) (h1 : HP), k ≤ c → mkF h h1 s → (∀ x : Int, h1 25 x = h 25 x) → (∀ j : Nat, j ≤ k → h1 24 (6 * (s : Int) + (j : Int)) = h 24 (6 * (s : Int) + (j : Int))) → (∀ j : Nat, k < j → j ≤ c → h1 24 (6 * (s : Int) + (j : Int)) = h 24 (6 * (s : Int) + ((j - 1 : Nat) : Int))) → (∀ j : Nat, k ≤ j → j < c → w < h 24 (6 * (s : Int) + (j : Int))) → (∀ j : Nat, j < k → h 24 (6 * (s : Int) + (j : Int)) < w) → Q (9, 0) n hr (ai_up (ai_up h1 24 (6 * (s : Int) + (k : Int)) w) 25 (s : Int) ((c : Int) + 1)) := by
    intro k h1 hk f1 f2 f3 f4 f5 f6
    have val : ∀ j : Nat, j < c + 1 → (ai_up (ai_up h1 24 (6 * (s : Int) + (k : Int)) w) 25 (s : Int) ((c : Int) + 1)) 24 (6 * (s : Int) + (j : Int)) = if j < k then h 24 (6 * (s : Int) + (j : Int)) else if j = k then w else h 24 (6 * (s : Int) + ((j - 1 : Nat) : Int)) := by
      intro j hj
      rw [up_oth (Or.inl (by decide))]
      by_cases z : j < k
      · rw [if_pos z, up_oth (Or.inr (by omega))]; exact f3 j (by omega)
      · rw [if_neg z]
        by_cases z2 : j = k
        · rw [if_pos z2, z2, up_same]
        · rw [if_neg z2, up_oth (Or.inr (by omega))]; exact f4 j (by omega) (by omega)
    refine hQ _ (c + 1) (mkF_tr f1 ⟨EX_upc (EX_upc EX_rf (by decide)) (by decide), fun j hj => ?_, fun x hx => ?_⟩) (by omega) ⟨?_, fun i j hij hj => ?_, fun x => ?_⟩
    · rw [up_oth (Or.inl (by decide)), up_oth (Or.inr (by omega))]
    · rw [up_oth (Or.inr hx), up_oth (Or.inl (by decide))]
    · rw [up_same]; omega
    · rw [val i (by omega), val j hj]
      by_cases z : i < k
      · rw [if_pos z]
        by_cases z2 : j < k
        · rw [if_pos z2]; exact a2 i j hij (by omega)
        · rw [if_neg z2]
          by_cases z3 : j = k
          · rw [if_pos z3]; exact f6 i z
          · rw [if_neg z3]
            by_cases z4 : i = j - 1
            · omega
            · exact a2 i (j - 1) (by omega) (by omega)
      · rw [if_neg z, if_neg (show ¬ j < k by omega), if_neg (show ¬ j = k by omega)]
        by_cases z3 : i = k
        · rw [if_pos z3]; exact f5 (j - 1) (by omega) (by omega)
        · rw [if_neg z3]; exact a2 (i - 1) (j - 1) (by omega) (by omega)
    · constructor
      · rintro ⟨j, hj, e⟩
        rw [val j hj] at e
        by_cases z : j < k
        · rw [if_pos z] at e
          exact Or.inl ((a3 x).mp ⟨j, by omega, e⟩)
        · rw [if_neg z] at e
          by_cases z2 : j = k
          · rw [if_pos z2] at e; exact Or.inr e.symm
          · rw [if_neg z2] at e
            exact Or.inl ((a3 x).mp ⟨j - 1, by omega, e⟩)
      · rintro (e | e)
        · obtain ⟨j, hj, e⟩ := (a3 x).mpr e
          by_cases z : j < k
          · exact ⟨j, by omega, by rw [val j (by omega), if_pos z]; exact e⟩
          · exact ⟨j + 1, by omega, by rw [val (j + 1) (by omega), if_neg (by omega), if_neg (by omega)]; exact e⟩
        · exact ⟨k, by omega, by rw [val k (by omega), if_neg (by omega), if_pos rfl]; exact e.symm⟩
  have shift : (∀ j : Nat, j < c → h 24 (6 * (s : Int) + (j : Int)) ≠ w) → ∀ (k : Nat) (h1 : HP), k ≤ c → mkF h h1 s → (∀ x : Int, h1 25 x = h 25 x) → (∀ j : Nat, j ≤ k → h1 24 (6 * (s : Int) + (j : Int)) = h 24 (6 * (s : Int) + (j : Int))) → (∀ j : Nat, k < j → j ≤ c → h1 24 (6 * (s : Int) + (j : Int)) = h 24 (6 * (s : Int) + ((j - 1 : Nat) : Int))) → (∀ j : Nat, k ≤ j → j < c → w < h 24 (6 * (s : Int) + (j : Int))) → p_A_addMark_55 (n + 0) (ai_q 0 n Q) 19 (s : Int) w (6 * (s : Int)) (c : Int) (k : Int) n hr h1 := by
    intro hne k
    induction k with
    | zero =>
      intro h1 hk f1 f2 f3 f4 f5
      have := place 0 h1 hk f1 f2 f3 f4 f5 (fun j hj => by omega)
      refine b_A_addMark_55 ⟨fun _ => ?_, fun z => by omega⟩
      simp (disch := omega) only [ok_19 V.1, cr_19_5 V, cr_19_6 V, w32_id, true_and]
      repeat (refine ⟨by omega, ?_⟩)
      exact (by first | exact q_at rfl (this) | exact (this))
    | succ k ih =>
      intro h1 hk f1 f2 f3 f4 f5
      have g := f3 k (by omega)
      have ek : 6 * (s : Int) + ((k + 1 : Nat) : Int) - 1 = 6 * (s : Int) + (k : Int) := by omega
      refine b_A_addMark_55 ⟨fun z => by omega, fun _ => ?_⟩
      simp (disch := omega) only [ok_19 V.1, cr_19_5 V, cr_19_6 V, w32_id, ek, g, true_and]
      repeat (refine ⟨by omega, ?_⟩)
      refine ⟨fun z => ?_, fun z => ?_⟩
      · have hlt : h 24 (6 * (s : Int) + (k : Int)) < w := by have := hne k (by omega); omega
        have := place (k + 1) h1 hk f1 f2 f3 f4 f5 (fun j hj => by
          by_cases y : j = k
          · subst y; exact hlt
          · have := a2 j k (by omega) (by omega); omega)
        repeat (refine ⟨by omega, ?_⟩)
        exact (by first | exact q_at rfl (this) | exact (this))
      · repeat (refine ⟨by omega, ?_⟩)
        rw [show ((k + 1 : Nat) : Int) + -1 = (k : Int) by omega]
        refine ih _ (by omega) (mkF_tr f1 ⟨EX_upc EX_rf (by decide), fun j hj => up_oth (Or.inr (by omega)), fun x hx => up_oth (Or.inl (by decide))⟩) (fun x => by rw [up_oth (Or.inl (by decide))]; exact f2 x) (fun j hj => by rw [up_oth (Or.inr (by omega))]; exact f3 j (by omega)) (fun j h2 h3 => ?_) (fun j h2 h3 => ?_)
        · by_cases y : j = k + 1
          · subst y; rw [up_same]; rfl
          · rw [up_oth (Or.inr (by omega))]; exact f4 j (by omega) h3
        · by_cases y : j = k
          · subst y; exact z
          · exact f5 j (by omega) h3
  have := lupN (N := c) (P := fun k => (∀ j : Nat, j < k → h 24 (6 * (s : Int) + (j : Int)) ≠ w) → p_A_addMark_16 (n + 0) (ai_q 0 n Q) 19 (s : Int) w (6 * (s : Int)) (c : Int) (k : Int) n hr h) ?_ ?_
  · exact this fun j hj => by omega
  · intro hne
    exact b_A_addMark_16 ⟨fun _ => ⟨fun _ => shift hne c h (by omega) mkF_rf (fun _ => rfl) (fun _ _ => rfl) (fun j h1 h2 => by omega) (fun j h1 h2 => by omega), fun z => by omega⟩, fun z => by omega⟩
  · intro k hk ih hne
    refine b_A_addMark_16 ⟨fun z => by omega, fun _ => ?_⟩
    simp (disch := omega) only [ok_19 V.1, cr_19_5 V, w32_id, true_and]
    repeat (refine ⟨by omega, ?_⟩)
    refine ⟨fun z => ih fun j hj => ?_, fun z => ?_⟩
    · by_cases y : j = k
      · subst y; exact z
      · exact hne j (by omega)
    · have := hQ h c mkF_rf (by omega) ⟨a1, a2, fun x => ⟨fun q => Or.inl ((a3 x).mp q), fun q => by
        rcases q with q | q
        · exact (a3 x).mpr q
        · exact ⟨k, hk, by rw [q]; exact z⟩⟩⟩
      exact (by first | exact q_at rfl (this) | exact (this))
/-- the marks among the first so many states -/
def mkS (S I : Nat) (t o : Int → Int) (s k : Nat) (x : Int) : Prop := ∃ y, y < k ∧ y < S ∧ RD I t y ∧ SPr I t o (s : Int) (y : Int) = x ∧ x ≠ -2
/-- a row holds the marks -/
def MR (S I : Nat) (t o : Int → Int) (h : HP) (s : Nat) : Prop := ∃ c : Nat, h 25 (s : Int) = (c : Int) ∧ 1 ≤ c ∧ c ≤ 6 ∧ (∀ k : Nat, k < c → h 24 (6 * (s : Int) + (k : Int)) = MK S I t o s k ∧ MK S I t o s k ≠ -2) ∧ MK S I t o s c = -2
theorem MR_of {S I : Nat} {t o : Int → Int} {h : HP} {s c : Nat} (hI : I ≤ 3) (hS : S ≤ 6) (hm : mok t o) (hc : clo S t) (hs : s < S) (h0 : 0 < c) (h6 : c ≤ 6) (H : SR h s c (mkS S I t o s S)) : MR S I t o h s := by
  obtain ⟨a1, a2, a3⟩ := H
  have any : ∃ x, x < S ∧ RD I t x ∧ SPr I t o (s : Int) (x : Int) ≠ -2 := by
    obtain ⟨y, y1, y2, y3, y4, y5⟩ := (a3 (h 24 (6 * (s : Int) + ((0 : Nat) : Int)))).mp ⟨0, h0, rfl⟩
    exact ⟨y, y1, y3, by rw [y4]; exact y5⟩
  have mab : ∀ than, MAb S I t o s than = fw (mkP I t o s than S) := fun than => by unfold MAb; rw [if_pos any]
  have nat : ∀ k : Nat, k < c → ∃ v : Nat, h 24 (6 * (s : Int) + (k : Int)) = (v : Int) := by
    intro k hk
    obtain ⟨y, y1, y2, y3, y4, y5⟩ := (a3 _).mp ⟨k, hk, rfl⟩
    rcases SPr_c (S := S) hI hS hm hc (a := (s : Int)) (b := (y : Int)) (by omega) (by omega) with ⟨q, _⟩ | ⟨v, q, _⟩
    · exact (y5 (by rw [← y4]; exact q)).elim
    · exact ⟨v, by rw [← y4]; exact q⟩
  have step : ∀ (k : Nat) (than : Int), (∀ j : Nat, j < k → j < c → h 24 (6 * (s : Int) + (j : Int)) ≤ than) → (k < c → than < h 24 (6 * (s : Int) + (k : Int))) → fw (mkP I t o s than S) = if k < c then h 24 (6 * (s : Int) + (k : Int)) else -2 := by
    intro k than hlo hhi
    by_cases z : k < c
    · rw [if_pos z]
      obtain ⟨v, hv⟩ := nat k z
      have hh := hhi z
      rw [hv] at hh ⊢
      obtain ⟨y, y1, y2, y3, y4, y5⟩ := (a3 _).mp ⟨k, z, hv⟩
      refine fw_at ⟨hh, y, y1, y3, y4⟩ ?_
      rintro w hw ⟨q1, x, q2, q3, q4⟩
      obtain ⟨j, j1, j2⟩ := (a3 (w : Int)).mpr ⟨x, q2, q2, q3, q4, by omega⟩
      rcases Nat.lt_or_ge j k with y | y
      · have := hlo j y j1; omega
      · by_cases e : j = k
        · subst e; omega
        · have := a2 k j (by omega) j1; omega
    · rw [if_neg z]
      refine fw_no ?_
      rintro w ⟨q1, x, q2, q3, q4⟩
      obtain ⟨j, j1, j2⟩ := (a3 (w : Int)).mpr ⟨x, q2, q2, q3, q4, by omega⟩
      have := hlo j (by omega) j1
      omega
  have all : ∀ k : Nat, k ≤ c → MK S I t o s k = if k < c then h 24 (6 * (s : Int) + (k : Int)) else -2 := by
    intro k
    induction k with
    | zero =>
      intro _
      show MAb S I t o s (-1) = _
      rw [mab]
      refine step 0 (-1) (fun j hj => by omega) (fun z => ?_)
      obtain ⟨v, hv⟩ := nat 0 z
      rw [hv]; omega
    | succ k ih =>
      intro hk
      have e := ih (by omega)
      rw [if_pos (by omega)] at e
      obtain ⟨v, hv⟩ := nat k (by omega)
      show (if MK S I t o s k = -2 then -2 else MAb S I t o s (MK S I t o s k)) = _
      rw [e, hv, if_neg (by omega), mab, ← hv]
      refine step (k + 1) _ (fun j hj hjc => ?_) (fun z => a2 k (k + 1) (by omega) z)
      by_cases y : j = k
      · subst y; omega
      · have := a2 j k (by omega) (by omega); omega
  refine ⟨c, a1, by omega, h6, fun k hk => ?_, ?_⟩
  · have e := all k (by omega)
    rw [if_pos hk] at e
    obtain ⟨v, hv⟩ := nat k hk
    exact ⟨e.symm, by rw [e, hv]; omega⟩
  · rw [all c (Nat.le_refl _), if_neg (by omega)]
theorem MR_0 {S I : Nat} {t o : Int → Int} {h : HP} {s : Nat} (hno : ¬ ∃ x, x < S ∧ RD I t x ∧ SPr I t o (s : Int) (x : Int) ≠ -2) (h1 : h 25 (s : Int) = 1) (h2 : h 24 (6 * (s : Int)) = 0) : MR S I t o h s := by
  have m0 : MK S I t o s 0 = 0 := by
    show MAb S I t o s (-1) = 0
    unfold MAb; rw [if_neg hno, if_pos (by omega)]
  refine ⟨1, h1, by omega, by omega, fun k hk => ?_, ?_⟩
  · have : k = 0 := by omega
    subst this
    rw [m0, show 6 * (s : Int) + ((0 : Nat) : Int) = 6 * (s : Int) by omega]
    exact ⟨h2, by omega⟩
  · show (if MK S I t o s 0 = -2 then -2 else MAb S I t o s (MK S I t o s 0)) = -2
    rw [m0, if_neg (by omega)]
    unfold MAb; rw [if_neg hno, if_neg (by omega)]
theorem sp_A_learnMarks {s : Nat} (V : CW n hr) (T : TV S I t o) (X : CX S I t o h) (hre : h 19 8 = (RMk S I t : Int)) (hsp : ∀ a b : Nat, a < S → b < S → h 21 (6 * (a : Int) + (b : Int)) = SPr I t o (a : Int) (b : Int)) (hs : s < S) (hQ : ∀ h1, mkF h h1 s → MR S I t o h1 s → Q (9, 0) n hr h1) : f_A_learnMarks [(2, 19), (0, (s : Int))] n hr h Q := by
  obtain ⟨hS, hI, hm, hc, hT⟩ := T
  have hm3 : (s : Int) * 6 = 6 * (s : Int) := Int.mul_comm _ _
  apply e_A_learnMarks
  simp (disch := omega) only [ok_19 V.1, cr_19_6 V, true_and]
  repeat (refine ⟨by omega, ?_⟩)
  have main := lupN (N := S) (P := fun k => ∀ (h1 : HP) (c : Nat), mkF h h1 s → c ≤ k → SR h1 s c (mkS S I t o s k) → p_A_learnMarks_9 (n + 0) (ai_q 0 n Q) 19 (s : Int) (k : Int) n hr h1) ?_ ?_
  · refine main _ 0 ⟨EX_upc EX_rf (by decide), fun j hj => up_oth (Or.inl (by decide)), fun x hx => up_oth (Or.inr hx)⟩ (Nat.le_refl _) ⟨up_same, fun i j h1 h2 => by omega, fun w => ⟨fun ⟨j, hj, _⟩ => by omega, fun ⟨y, hy, _⟩ => by omega⟩⟩
  · intro h1 c f1 f2 f3
    have X1 := CX_fr X f1.1 (by decide) (by decide)
    refine b_A_learnMarks_9 ?_
    simp (disch := omega) only [ok_19 V.1, cr_19_0 V, cr_19_6 V, ok_13 V.1, X1.1, f3.1, true_and]
    refine ⟨fun _ => ?_, fun z => by omega⟩
    repeat (refine ⟨by omega, ?_⟩)
    refine ⟨fun z => ?_, fun z => ?_⟩
    · exact (by first | exact q_at rfl (hQ h1 f1 (MR_of hI hS hm hc hs (by omega) (by omega) f3)) | exact (hQ h1 f1 (MR_of hI hS hm hc hs (by omega) (by omega) f3)))
    · have c0 : c = 0 := by omega
      subst c0
      refine sp_A_addMark V (by omega) (by omega) f3 fun h2 c' g1 g2 g3 => ?_
      have hno : ¬ ∃ x, x < S ∧ RD I t x ∧ SPr I t o (s : Int) (x : Int) ≠ -2 := fun ⟨x, x1, x2, x3⟩ => by
        obtain ⟨j, hj, _⟩ := (f3.2.2 (SPr I t o (s : Int) (x : Int))).mpr ⟨x, x1, x1, x2, rfl, x3⟩
        omega
      obtain ⟨j, hj, ej⟩ := (g3.2.2 0).mpr (Or.inr rfl)
      have j0 : j = 0 := by omega
      subst j0
      have c1 : c' = 1 := by omega
      subst c1
      have := hQ h2 (mkF_tr f1 g1) (MR_0 hno g3.1 (by rw [show 6 * (s : Int) + ((0 : Nat) : Int) = 6 * (s : Int) by omega] at ej; exact ej))
      exact (by first | exact q_at rfl (this) | exact (this))
  · intro k hk ih h1 c f1 f2 f3
    have X1 := CX_fr X f1.1 (by decide) (by decide)
    have r1 : h1 19 8 = (RMk S I t : Int) := by rw [EX_at f1.1 (by decide) (by decide)]; exact hre
    have r2 : h1 21 = h 21 := EX_fn f1.1 (by decide) (by decide)
    have same : (∀ x, ¬ (RD I t k ∧ SPr I t o (s : Int) (k : Int) = x ∧ x ≠ -2)) → p_A_learnMarks_9 (n + 0) (ai_q 0 n Q) 19 (s : Int) ((k : Int) + 1) n hr h1 := by
      intro z
      refine ih h1 c f1 (by omega) ⟨f3.1, f3.2.1, fun w => (f3.2.2 w).trans ⟨fun ⟨y, y1, y2⟩ => ⟨y, by omega, y2⟩, fun ⟨y, y1, y2⟩ => ?_⟩⟩
      by_cases e : y = k
      · subst e; exact (z w y2.2).elim
      · exact ⟨y, by omega, y2⟩
    refine b_A_learnMarks_9 ?_
    simp (disch := omega) only [ok_19 V.1, cr_19_0 V, cr_19_2 V, ok_13 V.1, X1.1, w32_id, true_and]
    refine ⟨fun z => by omega, fun _ => ?_⟩
    refine sp_A_isReached V r1 (by omega) (fun z => ?_) (fun z => ?_)
    · have z' := (RMk_tb S I t k).mp z
      refine ⟨fun q => absurd q (by decide), fun _ => ⟨ok_19 V.1, sp_A_areAlike V (by omega) (by omega) (fun z2 => ?_) (fun z2 => ?_)⟩⟩
      · rw [r2, hsp s k hs hk] at z2
        exact ⟨fun _ => same fun x q => q.2.2 (by rw [← q.2.1]; exact z2), fun q => absurd q (by decide)⟩
      · rw [r2, hsp s k hs hk] at z2
        refine ⟨fun q => absurd rfl q, fun _ => ?_⟩
        simp (disch := omega) only [ok_19 V.1, cr_19_2 V, w32_id, hm3, r2, hsp s k hs hk, true_and]
        repeat (refine ⟨by omega, ?_⟩)
        refine sp_A_addMark V (by omega) (by omega) f3 fun h2 c' g1 g2 g3 => ?_
        refine ih h2 c' (mkF_tr f1 g1) (by omega) ⟨g3.1, g3.2.1, fun w => (g3.2.2 w).trans ⟨fun q => ?_, fun ⟨y, y1, y2⟩ => ?_⟩⟩
        · rcases q with ⟨y, y1, y2⟩ | q
          · exact ⟨y, by omega, y2⟩
          · exact ⟨k, by omega, hk, z'.2, q.symm, by rw [q]; exact z2⟩
        · by_cases e : y = k
          · subst e; exact Or.inr y2.2.2.1.symm
          · exact Or.inl ⟨y, by omega, y2⟩
    · exact ⟨fun _ => same fun x q => z ((RMk_tb S I t k).mpr ⟨hk, q.1⟩), fun q => absurd rfl q⟩
/-- what the class has learnt of a text's states -/
def CTr (S I : Nat) (t o : Int → Int) (h : HP) : Prop := h 19 11 = tpR o 24 ∧ (∀ x : Nat, x < S → h 20 (x : Int) = AC I t 0 (x : Int)) ∧ h 19 8 = (RMk S I t : Int) ∧ (∀ a b : Nat, a < S → b < S → h 21 (6 * (a : Int) + (b : Int)) = SPr I t o (a : Int) (b : Int)) ∧ (∀ s : Nat, s < S → h 22 (s : Int) = KD I t o s) ∧ h 19 9 = (cntP (isNew I t o) S : Int) ∧ h 19 10 = ((SPL I S t o).length : Int) ∧ rowL (h 23) 0 (SPL I S t o) ∧ ∀ s : Nat, s < S → MR S I t o h s
theorem CTr_fr {h1 : HP} {cs : List Int} {ps : List (Int × Int)} (H : CTr S I t o h) (e : EX cs ps h h1) (a : ∀ c ∈ [19, 20, 21, 22, 23, 24, (25 : Int)], c ∉ cs ∧ c ∉ ps.map Prod.fst) : CTr S I t o h1 := by
  have f : ∀ c ∈ [19, 20, 21, 22, 23, 24, (25 : Int)], h1 c = h c := fun c hc => EX_fn e (a c hc).1 (a c hc).2
  unfold CTr MR
  rw [f 19 (by decide), f 20 (by decide), f 21 (by decide), f 22 (by decide), f 23 (by decide), f 24 (by decide), f 25 (by decide)]
  exact H
theorem sp_A_learn (V : CW n hr) (T : TV S I t o) (X : CX S I t o h) (hQ : ∀ h1, EX [19, 20, 21, 22, 23, 24, 25, 26] [] h h1 → CTr S I t o h1 → Q (9, 0) n hr h1) : f_A_learn [(2, 19)] n hr h Q := by
  apply e_A_learn
  refine ⟨ok_19 V.1, sp_A_learnTop V X fun h1 a1 a2 => ⟨ok_19 V.1, ?_⟩⟩
  have X1 := CX_fr X a1 (by decide) (by decide)
  refine sp_A_learnAccess V T X1 fun h2 b1 b2 b3 => ⟨ok_19 V.1, ?_⟩
  have X2 := CX_fr X1 b1 (by decide) (by decide)
  refine sp_A_learnSeparators V T X2 fun h3 c1 c2 => ⟨ok_19 V.1, ?_⟩
  have X3 := CX_fr X2 c1 (by decide) (by decide)
  refine sp_A_learnKinds V T X3 c2 (by rw [EX_at c1 (by decide) (by decide)]; exact b3) fun h4 d1 d2 d3 => ⟨ok_19 V.1, ?_⟩
  have X4 := CX_fr X3 d1 (by decide) (by decide)
  have r8 : h4 19 8 = (RMk S I t : Int) := by rw [EX_at d1 (by decide) (by decide), EX_at c1 (by decide) (by decide)]; exact b3
  have r21 : h4 21 = h3 21 := EX_fn d1 (by decide) (by decide)
  refine sp_A_learnSplitters V T X4 r8 (by rw [r21]; exact c2) fun h5 e1 e2 e3 => ?_
  have X5 := CX_fr X4 e1 (by decide) (by decide)
  have E5 : EX [19, 20, 21, 22, 23, 24, 25, 26] [] h h5 := EX_tr (EX_tr (EX_tr (EX_tr (EX_le a1 (by decide) (by decide)) (EX_le b1 (by decide) (by decide))) (EX_le c1 (by decide) (by decide))) (EX_le d1 (by decide) (by decide))) (EX_le e1 (by decide) (by decide))
  have r8' : h5 19 8 = (RMk S I t : Int) := by rw [EX_at e1 (by decide) (by decide)]; exact r8
  have r21' : h5 21 = h3 21 := by rw [EX_fn e1 (by decide) (by decide)]; exact r21
  have := lupN (N := S) (P := fun s => ∀ h6, EX [24, 25] [] h5 h6 → (∀ x : Nat, x < s → MR S I t o h6 x) → p_A_learn_22 (n + 0) (ai_q 0 n Q) 19 (s : Int) n hr h6) ?_ ?_
  · exact this h5 EX_rf (fun x hx => by omega)
  · intro h6 f1 f2
    have X6 := CX_fr X5 f1 (by decide) (by decide)
    refine b_A_learn_22 ?_
    simp (disch := omega) only [ok_19 V.1, cr_19_0 V, ok_13 V.1, X6.1, true_and]
    refine ⟨fun _ => ?_, fun z => by omega⟩
    have fin : CTr S I t o h6 := by
      refine ⟨?_, ?_, ?_, ?_, ?_, ?_, ?_, ?_, f2⟩
      · rw [EX_at f1 (by decide) (by decide), EX_at e1 (by decide) (by decide), EX_at d1 (by decide) (by decide), EX_at c1 (by decide) (by decide), EX_at b1 (by decide) (by decide)]; exact a2
      · rw [EX_fn f1 (c := 20) (by decide) (by decide), EX_fn e1 (c := 20) (by decide) (by decide), EX_fn d1 (c := 20) (by decide) (by decide), EX_fn c1 (c := 20) (by decide) (by decide)]; exact b2
      · rw [EX_at f1 (by decide) (by decide)]; exact r8'
      · rw [EX_fn f1 (c := 21) (by decide) (by decide), r21']; exact c2
      · rw [EX_fn f1 (c := 22) (by decide) (by decide), EX_fn e1 (c := 22) (by decide) (by decide)]; exact d2
      · rw [EX_at f1 (by decide) (by decide), EX_at e1 (by decide) (by decide)]; exact d3
      · rw [EX_at f1 (by decide) (by decide)]; exact e2
      · rw [EX_fn f1 (c := 23) (by decide) (by decide)]; exact e3
    exact (by first | exact q_at rfl (hQ h6 (EX_tr E5 (EX_le f1 (by decide) (by decide))) fin) | exact (hQ h6 (EX_tr E5 (EX_le f1 (by decide) (by decide))) fin))
  · intro s hs ih h6 f1 f2
    have X6 := CX_fr X5 f1 (by decide) (by decide)
    refine b_A_learn_22 ?_
    simp (disch := omega) only [ok_19 V.1, cr_19_0 V, ok_13 V.1, X6.1, w32_id, true_and]
    refine ⟨fun z => by omega, fun _ => ?_⟩
    refine sp_A_learnMarks V T X6 (by rw [EX_at f1 (by decide) (by decide)]; exact r8') (by rw [EX_fn f1 (c := 21) (by decide) (by decide), r21']; exact c2) hs fun h7 g1 g2 => ?_
    have hS6 := T.1
    rw [w32_id (by omega) (by omega)]
    refine ih h7 (EX_tr f1 g1.1) fun x hx => ?_
    by_cases y : x = s
    · subst y; exact g2
    · obtain ⟨c, q1, q2, q3, q4, q5⟩ := f2 x (by omega)
      refine ⟨c, by rw [g1.2.2 _ (by omega)]; exact q1, q2, q3, fun k hk => ?_, q5⟩
      rw [g1.2.1 _ (by omega)]
      exact q4 k hk
end
