-- deps: 18 19 20 21 23 24 25 26 27 28 29 22 30 31 32 33 34 35 36 37
/-! the reference: words, what is asked of states -/
theorem fw_or (P : Nat → Prop) (v : Nat) : fw (fun w => P w ∨ w = v) = if fw P = -2 then (v : Int) else if (v : Int) < fw P then (v : Int) else fw P := by
  rcases fw_cases P with ⟨k, a1, a2, a3⟩ | ⟨a1, a2⟩
  · rw [a1, if_neg (by omega)]
    by_cases z : v < k
    · rw [if_pos (by omega)]
      exact fw_at (Or.inr rfl) fun j hj q => q.elim (a3 j (by omega)) (fun e => by omega)
    · rw [if_neg (by omega)]
      exact fw_at (Or.inl a2) fun j hj q => q.elim (a3 j hj) (fun e => by omega)
  · rw [a1, if_pos rfl]
    exact fw_at (Or.inr rfl) fun j hj q => q.elim (a2 j) (fun e => by omega)
noncomputable def cntP (P : Nat → Prop) (n : Nat) : Nat := cntB (fun s => @decide (P s) (Classical.propDecidable _)) n
theorem cntP_0 (P : Nat → Prop) : cntP P 0 = 0 := rfl
theorem cntP_y {P : Nat → Prop} {n : Nat} (h : P n) : cntP P (n + 1) = cntP P n + 1 := by
  show cntB _ n + _ = cntB _ n + 1
  rw [if_pos (by simpa using h)]
theorem cntP_n {P : Nat → Prop} {n : Nat} (h : ¬ P n) : cntP P (n + 1) = cntP P n := by
  show cntB _ n + _ = cntB _ n
  rw [if_neg (by simpa using h)]; rfl
theorem cntP_le (P : Nat → Prop) (n : Nat) : cntP P n ≤ n := cntB_le _ n
theorem cntP_ext {P R : Nat → Prop} {n : Nat} (h : ∀ s, s < n → (P s ↔ R s)) : cntP P n = cntP R n := cntB_ext fun s hs => by
  by_cases z : P s
  · have := (h s hs).mp z; simp [z, this]
  · have : ¬ R s := fun q => z ((h s hs).mpr q)
    simp [z, this]
/-- a number that is a word -/
def wq (I : Nat) (w : Int) : Prop := 0 ≤ w ∧ w < 1073741824 ∧ wok I w.toNat
def RD (I : Nat) (t : Int → Int) (s : Nat) : Prop := 0 ≤ AC I t 0 (s : Int)
noncomputable def KD (I : Nat) (t o : Int → Int) (s : Nat) : Int := fw fun k => SPr I t o (s : Int) (k : Int) = -2
def isNew (I : Nat) (t o : Int → Int) (s : Nat) : Prop := RD I t s ∧ ∀ a, a < s → ¬ (RD I t a ∧ SPr I t o (a : Int) (s : Int) = -2)
def tpR (o : Int → Int) : Nat → Int
  | 0 => 1
  | k + 1 => if tpR o k < o (k : Int) then o (k : Int) else tpR o k
theorem tpR_1 (o : Int → Int) : ∀ k, 1 ≤ tpR o k
  | 0 => Int.le_refl 1
  | k + 1 => by
    have := tpR_1 o k
    show 1 ≤ if tpR o k < o (k : Int) then o (k : Int) else tpR o k
    split <;> omega
theorem tpR_9 {t o : Int → Int} (hm : mok t o) : ∀ k, k ≤ 24 → tpR o k ≤ 9
  | 0, _ => by show (1 : Int) ≤ 9; omega
  | k + 1, h => by
    have := tpR_9 hm k (by omega)
    have := (hm (k : Int) (by omega) (by omega)).2
    show (if tpR o k < o (k : Int) then o (k : Int) else tpR o k) ≤ 9
    split <;> omega
theorem tpR_z {o : Int → Int} {k : Nat} : ∀ d, (∀ j, k ≤ j → j < k + d → o (j : Int) = 0) → tpR o (k + d) = tpR o k
  | 0, _ => rfl
  | d + 1, h => by
    have ih := tpR_z (o := o) (k := k) d fun j h1 h2 => h j h1 (by omega)
    have h1 := tpR_1 o (k + d)
    show (if tpR o (k + d) < o ((k + d : Nat) : Int) then o ((k + d : Nat) : Int) else tpR o (k + d)) = _
    rw [if_neg (by rw [h (k + d) (by omega) (by omega)]; omega), ih]
/-- the separators of a state and reached ones before n that are greater than a number -/
def mkP (I : Nat) (t o : Int → Int) (s : Nat) (than : Int) (n w : Nat) : Prop := than < (w : Int) ∧ ∃ x, x < n ∧ RD I t x ∧ SPr I t o (s : Int) (x : Int) = (w : Int)
noncomputable def MAb (S I : Nat) (t o : Int → Int) (s : Nat) (than : Int) : Int := @ite Int (∃ x, x < S ∧ RD I t x ∧ SPr I t o (s : Int) (x : Int) ≠ -2) (Classical.propDecidable _) (fw (mkP I t o s than S)) (if than < 0 then 0 else -2)
/-- the k-th mark -/
noncomputable def MK (S I : Nat) (t o : Int → Int) (s : Nat) : Nat → Int
  | 0 => MAb S I t o s (-1)
  | k + 1 => if MK S I t o s k = -2 then -2 else MAb S I t o s (MK S I t o s k)
section
variable {Q : RP} {n : Nat} {hr h : HP} {S I : Nat} {t o : Int → Int}
theorem sp_N_isWordNumber {w : Int} (W : NW n hr) (hI : h 140 1 = (I : Int)) (h1 : wq I w → Q (0, 1) n hr h) (h0 : ¬ wq I w → Q (0, 0) n hr h) : f_N_isWordNumber [(2, 138), (0, w)] n hr h Q := by
  apply e_N_isWordNumber
  refine ⟨fun z => ⟨Or.inl rfl, q_at rfl (h0 fun q => by have := q.1; omega)⟩, fun z => ⟨fun z2 => ?_, fun z2 => ⟨Or.inl rfl, q_at rfl (h0 fun q => by have := q.2.1; omega)⟩⟩⟩
  obtain ⟨v, rfl⟩ := Int.eq_ofNat_of_zero_le z
  have key : ∀ x : Nat, x ≤ v → (wok I x → wok I v) → (wok I v → wok I x) → p_N_isWordNumber_15 (n + 0) (ai_q 0 n Q) 138 (x : Int) n hr h := by
    intro x
    induction x using Nat.strongRecOn with
    | ind x ih =>
      intro hx a b
      refine b_N_isWordNumber_15 ⟨fun y => ⟨Or.inr rfl, q_at rfl (h1 ⟨z, z2, ?_⟩)⟩, fun y => ?_⟩
      · have : x = 0 := by omega
        subst this
        exact a (wok_0 I)
      · have hs := wok_s (m := I) (w := x) (by omega)
        have hno : ¬ (1 ≤ x % 4 ∧ x % 4 ≤ I) → ai_q 0 n Q (0, 0) n hr h := fun q => q_at rfl (h0 fun g => q (hs.mp (b g.2.2)).1)
        rw [and_3 (by omega) (by omega)]
        refine ⟨fun q => ⟨Or.inl rfl, hno (by omega)⟩, fun q => ⟨n0 W, sp_N_inputs W ⟨fun q2 => ?_, fun q2 => ⟨Or.inl rfl, hno ?_⟩⟩⟩⟩
        · dsimp only at q2; rw [hI] at q2
          rw [shr_2 (by omega) (by omega), show (x : Int) / 4 = ((x / 4 : Nat) : Int) by omega]
          exact ih (x / 4) (by omega) (by omega) (fun g => a (hs.mpr ⟨by omega, g⟩)) (fun g => (hs.mp (b g)).2)
        · dsimp only at q2; rw [hI] at q2; omega
  exact key v (Nat.le_refl _) id id
theorem EX_1 {h : HP} {v : Int} : EX [] [(138, 0)] h (ai_up h 138 0 v) := EX_upp EX_rf (by decide)
theorem NX_1 {v : Int} (X : NX S I t o h) : NX S I t o (ai_up h 138 0 v) := NX_fr X EX_1 (by decide) (by decide)
theorem NP_1 {v : Int} (X : NP S I t o h) : NP S I t o (ai_up h 138 0 v) := NP_fr X EX_1 (by decide) (by decide)
theorem sp_N_arc {s i w : Int} (W : NW n hr) (T : TV S I t o) (X : NX S I t o h) (hQ1 : ¬ ((0 ≤ s ∧ s < (S : Int)) ∧ 0 ≤ i ∧ i < (I : Int)) → Q (0, 0) n hr (ai_up (ai_up h 138 0 0) 138 0 1)) (hQ2 : ((0 ≤ s ∧ s < (S : Int)) ∧ 0 ≤ i ∧ i < (I : Int)) → ¬ (w = 0 ∨ w = 1) → Q (0, 0) n hr (ai_up (ai_up h 138 0 0) 138 0 2)) (hQ0 : ((0 ≤ s ∧ s < (S : Int)) ∧ 0 ≤ i ∧ i < (I : Int)) → (w = 0 ∨ w = 1) → Q (0, if w = 0 then t (3 * s + i) else o (3 * s + i)) n hr (ai_up h 138 0 0)) : f_N_arc [(2, 138), (0, s), (0, i), (0, w)] n hr h Q := by
  obtain ⟨hS, hI, hm, hc, hT⟩ := T
  have X1 := NX_1 (v := 0) X
  apply e_N_arc
  refine ⟨n0 W, n0 W, sp_N_isState W (fun z => ?_) (fun z => ⟨fun _ => ⟨n0 W, q_at rfl (hQ1 ?_)⟩, fun q => absurd rfl q⟩)⟩
  · rw [X1.1] at z
    refine ⟨fun q => absurd q (by decide), fun _ => ⟨n0 W, sp_N_isInput W (fun z2 => ⟨fun _ => ?_, fun q => absurd q (by decide)⟩) (fun z2 => ⟨fun q => absurd rfl q, fun _ => ⟨n0 W, q_at rfl (hQ1 ?_)⟩⟩)⟩⟩
    · rw [X1.2.1] at z2
      have g1 := X1.2.2.1 (3 * s + i) (by omega) (by omega)
      have g2 := X1.2.2.2 (3 * s + i) (by omega) (by omega)
      refine ⟨fun y => ⟨n0 W, q_at rfl (hQ2 ⟨z, z2⟩ (by omega))⟩, fun y => ⟨fun y2 => ⟨fun y3 => ?_, fun y3 => ?_⟩, fun y2 => ⟨n0 W, q_at rfl (hQ2 ⟨z, z2⟩ (by omega))⟩⟩⟩
      · simp (disch := omega) only [n0 W, nr_21 W, Int.zero_add, w32_id, g2, true_and]
        repeat (refine ⟨by omega, ?_⟩)
        have := hQ0 ⟨z, z2⟩ (by omega)
        rw [if_neg y3] at this
        exact this
      · simp (disch := omega) only [n0 W, nr_20 W, Int.zero_add, w32_id, g1, true_and]
        repeat (refine ⟨by omega, ?_⟩)
        have := hQ0 ⟨z, z2⟩ (by omega)
        rw [if_pos y3] at this
        exact this
    · rw [X1.2.1] at z2; omega
  · rw [X1.1] at z; omega
theorem sp_N_answer {s w : Int} (W : NW n hr) (T : TV S I t o) (X : NX S I t o h) (h1 : (0 ≤ s ∧ s < (S : Int)) → wq I w → Q (1, aS t o s w.toNat) n hr (ai_up h 138 0 0)) (h0 : ¬ ((0 ≤ s ∧ s < (S : Int)) ∧ wq I w) → Q (1, -1) n hr (ai_up h 138 0 0)) : f_N_answer [(2, 138), (0, s), (0, w)] n hr h Q := by
  obtain ⟨hS, hI, hm, hc, hT⟩ := T
  have X1 := NX_1 (v := 0) X
  apply e_N_answer
  refine ⟨n0 W, n0 W, sp_N_isState W (fun z => ?_) (fun z => ⟨fun _ => q_at rfl (h0 ?_), fun q => absurd rfl q⟩)⟩
  · rw [X1.1] at z
    refine ⟨fun q => absurd q (by decide), fun _ => ⟨n0 W, sp_N_isWordNumber W X1.2.1 (fun z2 => ⟨fun q => absurd q (by decide), fun _ => ⟨n0 W, ?_⟩⟩) (fun z2 => ⟨fun _ => q_at rfl (h0 fun q => z2 q.2), fun q => absurd rfl q⟩)⟩⟩
    obtain ⟨v, rfl⟩ := Int.eq_ofNat_of_zero_le z2.1
    exact sp_N_ans W (by omega) hm (r24_z X1.2.2.1) (r24_z X1.2.2.2) (by omega) (by have := z2.2.1; omega) (wok3 hI z2.2.2) (q_at rfl (h1 z z2))
  · rw [X1.1] at z; omega
theorem sp_N_leads {s w : Int} (W : NW n hr) (T : TV S I t o) (X : NX S I t o h) (h1 : (0 ≤ s ∧ s < (S : Int)) → wq I w → Q (0, dS t s w.toNat) n hr (ai_up h 138 0 0)) (h0 : ¬ ((0 ≤ s ∧ s < (S : Int)) ∧ wq I w) → Q (0, -1) n hr (ai_up h 138 0 0)) : f_N_leads [(2, 138), (0, s), (0, w)] n hr h Q := by
  obtain ⟨hS, hI, hm, hc, hT⟩ := T
  have X1 := NX_1 (v := 0) X
  apply e_N_leads
  refine ⟨n0 W, n0 W, sp_N_isState W (fun z => ?_) (fun z => ⟨fun _ => q_at rfl (h0 ?_), fun q => absurd rfl q⟩)⟩
  · rw [X1.1] at z
    refine ⟨fun q => absurd q (by decide), fun _ => ⟨n0 W, sp_N_isWordNumber W X1.2.1 (fun z2 => ⟨fun q => absurd q (by decide), fun _ => ⟨n0 W, ?_⟩⟩) (fun z2 => ⟨fun _ => q_at rfl (h0 fun q => z2 q.2), fun q => absurd rfl q⟩)⟩⟩
    obtain ⟨v, rfl⟩ := Int.eq_ofNat_of_zero_le z2.1
    exact sp_N_lead W (by omega) hm (r24_z X1.2.2.1) (r24_z X1.2.2.2) (by omega) (by have := z2.2.1; omega) (wok3 hI z2.2.2) (q_at rfl (h1 z z2))
  · rw [X1.1] at z; omega
theorem sp_N_answerBuilt {w : Int} {bt bo : Int → Int} (W : NW n hr) (hI : I ≤ 3) (hS2 : h 140 0 = (S : Int)) (hI2 : h 140 1 = (I : Int)) (hm : mok bt bo) (r1 : r24 (fun a => h 147 (24 + a)) bt) (r2 : r24 (fun a => h 148 (24 + a)) bo) (h1 : 0 < S → wq I w → Q (1, aS bt bo 0 w.toNat) n hr (ai_up h 138 0 0)) (h0 : ¬ (0 < S ∧ wq I w) → Q (1, -1) n hr (ai_up h 138 0 0)) : f_N_answerBuilt [(2, 138), (0, w)] n hr h Q := by
  have e1 : (ai_up h 138 0 0) 140 = h 140 := EX_fn EX_1 (by decide) (by decide)
  have e2 : (ai_up h 138 0 0) 147 = h 147 := EX_fn EX_1 (by decide) (by decide)
  have e3 : (ai_up h 138 0 0) 148 = h 148 := EX_fn EX_1 (by decide) (by decide)
  apply e_N_answerBuilt
  refine ⟨n0 W, n0 W, sp_N_states W ⟨fun z => q_at rfl (h0 ?_), fun z => ⟨n0 W, sp_N_isWordNumber (I := I) W (by rw [e1]; exact hI2) (fun z2 => ⟨fun q => absurd q (by decide), fun _ => ⟨n0 W, ?_⟩⟩) (fun z2 => ⟨fun _ => q_at rfl (h0 fun q => z2 q.2), fun q => absurd rfl q⟩)⟩⟩⟩
  · dsimp only at z; rw [e1, hS2] at z; omega
  · dsimp only at z; rw [e1, hS2] at z
    obtain ⟨v, rfl⟩ := Int.eq_ofNat_of_zero_le z2.1
    exact sp_N_ans W (by omega) hm (by rw [e2]; exact r1) (by rw [e3]; exact r2) (by omega) (by have := z2.2.1; omega) (wok3 hI z2.2.2) (q_at rfl (h1 (by omega) z2))
theorem sp_N_access {s : Int} (W : NW n hr) (T : TV S I t o) (X : NX S I t o h) (P : NP S I t o h) (h1 : (0 ≤ s ∧ s < (S : Int)) → Q (0, AC I t 0 s) n hr (ai_up h 138 0 0)) (h0 : ¬ (0 ≤ s ∧ s < (S : Int)) → Q (0, -1) n hr (ai_up h 138 0 0)) : f_N_access [(2, 138), (0, s)] n hr h Q := by
  obtain ⟨hS, hI, hm, hc, hT⟩ := T
  have X1 := NX_1 (v := 0) X
  have P1 := NP_1 (v := 0) P
  apply e_N_access
  refine ⟨n0 W, n0 W, sp_N_isState W (fun z => ?_) (fun z => ⟨fun _ => q_at rfl (h0 ?_), fun q => absurd rfl q⟩)⟩
  · rw [X1.1] at z
    refine ⟨fun q => absurd q (by decide), fun _ => ?_⟩
    simp only [n0 W, nr_22 W, true_and]
    obtain ⟨v, rfl⟩ := Int.eq_ofNat_of_zero_le z.1
    rw [P1.1 v (by omega)]
    exact ⟨by omega, by omega, q_at rfl (h1 z)⟩
  · rw [X1.1] at z; exact z
theorem KD_b (I : Nat) (t o : Int → Int) (s : Nat) : 0 ≤ KD I t o s ∧ KD I t o s ≤ (s : Int) := by
  rcases fw_cases (fun k : Nat => SPr I t o (s : Int) (k : Int) = -2) with ⟨k, a1, a2, a3⟩ | ⟨a1, a2⟩
  · unfold KD
    rw [a1]
    have : k ≤ s := Nat.le_of_not_lt fun z => a3 s z (SPr_rf I t o _)
    omega
  · exact (a2 s (SPr_rf I t o _)).elim
theorem sp_N_kindOf {s : Nat} (W : NW n hr) (hS : S ≤ 6) (P : NP S I t o h) (hs : s < S) (hQ : Q (0, KD I t o s) n hr h) : f_N_kindOf [(2, 138), (0, (s : Int))] n hr h Q := by
  apply e_N_kindOf
  obtain ⟨k, hk⟩ : ∃ k : Nat, KD I t o s = (k : Int) := ⟨(KD I t o s).toNat, by have := KD_b I t o s; omega⟩
  have hb := KD_b I t o s
  obtain ⟨c1, c2⟩ := fw_pos (P := fun k : Nat => SPr I t o (s : Int) (k : Int) = -2) (k := k) hk
  have := lupN (N := k) (P := fun j => p_N_kindOf_2 (n + 0) (ai_q 0 n Q) 138 (s : Int) (j : Int) n hr h) ?_ ?_
  · exact this
  · have e := P.2.2.1 s k hs (by omega)
    refine b_N_kindOf_2 ?_
    simp (disch := omega) only [n0 W, nr_27 W, w32_id, e, true_and]
    repeat (refine ⟨by omega, ?_⟩)
    exact ⟨fun _ => q_at rfl (by rw [← hk]; exact hQ), fun q => absurd c1 q⟩
  · intro j hj ih
    have e := P.2.2.1 s j hs (by omega)
    refine b_N_kindOf_2 ?_
    simp (disch := omega) only [n0 W, nr_27 W, w32_id, e, true_and]
    repeat (refine ⟨by omega, ?_⟩)
    exact ⟨fun q => absurd q (c2 j hj), fun _ => ih⟩
theorem sp_N_kind {s : Int} (W : NW n hr) (T : TV S I t o) (X : NX S I t o h) (P : NP S I t o h) (h1 : (0 ≤ s ∧ s < (S : Int)) → Q (0, KD I t o s.toNat) n hr (ai_up h 138 0 0)) (h0 : ¬ (0 ≤ s ∧ s < (S : Int)) → Q (0, -1) n hr (ai_up h 138 0 0)) : f_N_kind [(2, 138), (0, s)] n hr h Q := by
  obtain ⟨hS, hI, hm, hc, hT⟩ := T
  have X1 := NX_1 (v := 0) X
  have P1 := NP_1 (v := 0) P
  apply e_N_kind
  refine ⟨n0 W, n0 W, sp_N_isState W (fun z => ?_) (fun z => ⟨fun _ => q_at rfl (h0 ?_), fun q => absurd rfl q⟩)⟩
  · rw [X1.1] at z
    refine ⟨fun q => absurd q (by decide), fun _ => ⟨n0 W, ?_⟩⟩
    obtain ⟨v, rfl⟩ := Int.eq_ofNat_of_zero_le z.1
    exact sp_N_kindOf W hS P1 (by omega) (q_at rfl (h1 z))
  · rw [X1.1] at z; exact z
theorem sp_N_separator {s x : Int} (W : NW n hr) (T : TV S I t o) (X : NX S I t o h) (P : NP S I t o h) (h1 : (0 ≤ s ∧ s < (S : Int)) → (0 ≤ x ∧ x < (S : Int)) → Q (0, SPr I t o s x) n hr (ai_up h 138 0 0)) (h0 : ¬ ((0 ≤ s ∧ s < (S : Int)) ∧ (0 ≤ x ∧ x < (S : Int))) → Q (0, -1) n hr (ai_up h 138 0 0)) : f_N_separator [(2, 138), (0, s), (0, x)] n hr h Q := by
  obtain ⟨hS, hI, hm, hc, hT⟩ := T
  have X1 := NX_1 (v := 0) X
  have P1 := NP_1 (v := 0) P
  apply e_N_separator
  refine ⟨n0 W, n0 W, sp_N_isState W (fun z => ?_) (fun z => ⟨fun _ => q_at rfl (h0 ?_), fun q => absurd rfl q⟩)⟩
  · rw [X1.1] at z
    refine ⟨fun q => absurd q (by decide), fun _ => ⟨n0 W, sp_N_isState W (fun z2 => ?_) (fun z2 => ⟨fun _ => q_at rfl (h0 ?_), fun q => absurd rfl q⟩)⟩⟩
    · rw [X1.1] at z2
      refine ⟨fun q => absurd q (by decide), fun _ => ?_⟩
      obtain ⟨v, rfl⟩ := Int.eq_ofNat_of_zero_le z.1
      obtain ⟨w, rfl⟩ := Int.eq_ofNat_of_zero_le z2.1
      have e := P1.2.2.1 v w (by omega) (by omega)
      simp (disch := omega) only [n0 W, nr_27 W, w32_id, e, true_and]
      repeat (refine ⟨by omega, ?_⟩)
      exact h1 z z2
    · rw [X1.1] at z2; exact fun q => z2 q.2
  · rw [X1.1] at z; exact fun q => z q.1
theorem sp_N_splitter {k : Int} (W : NW n hr) (T : TV S I t o) (X : NX S I t o h) (P : NP S I t o h) (hl : (SPL I S t o).length ≤ 6) (h2 : k < 0 ∨ S = 0 → Q (0, -1) n hr (ai_up h 138 0 0)) (h1 : ∀ (j w : Nat), 0 < S → k = (j : Int) → (SPL I S t o)[j]? = some w → Q (0, (w : Int)) n hr (ai_up h 138 0 0)) (h0 : 0 < S → ((SPL I S t o).length : Int) ≤ k → Q (0, -2) n hr (ai_up h 138 0 0)) : f_N_splitter [(2, 138), (0, k)] n hr h Q := by
  have X1 := NX_1 (v := 0) X
  have P1 := NP_1 (v := 0) P
  apply e_N_splitter
  refine ⟨n0 W, fun z => q_at rfl (h2 (Or.inl z)), fun z => ⟨n0 W, sp_N_states W ⟨fun z2 => ?_, fun z2 => q_at rfl (h2 (Or.inr ?_))⟩⟩⟩
  · dsimp only at z2; rw [X1.1] at z2
    refine ⟨n0 W, fun y => q_at rfl (h0 (by omega) ?_), fun y => ?_⟩
    · rw [P1.2.2.2.1] at y; exact y
    · rw [P1.2.2.2.1] at y
      obtain ⟨j, rfl⟩ := Int.eq_ofNat_of_zero_le z
      have hj : j < (SPL I S t o).length := by omega
      have e1 := List.getElem?_eq_getElem hj
      have e := P1.2.2.2.2 j _ e1
      rw [Int.zero_add] at e
      simp (disch := omega) only [n0 W, nr_28 W, w32_id, e, true_and]
      repeat (refine ⟨by omega, ?_⟩)
      exact h1 j _ (by omega) rfl e1
  · dsimp only at z2; rw [X1.1] at z2; omega
end
