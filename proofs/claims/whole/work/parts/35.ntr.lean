-- deps: 18 19 20 21 23 24 25 26 27 28 29 22 30 31 32 33 34
/-! the reference: access, separators, splitters -/
theorem lupN {P : Nat → Prop} {N : Nat} (hN : P N) (hs : ∀ k, k < N → P (k + 1) → P k) : P 0 := by
  have key : ∀ m k : Nat, k + m = N → P k := by
    intro m
    induction m with
    | zero => intro k hk; have : k = N := by omega
              subst this; exact hN
    | succ m ih => intro k hk; exact hs k (by omega) (ih (k + 1) (by omega))
  exact key N 0 (by omega)
theorem lupNa {P : Nat → Prop} {N : Nat} (a : Nat) (ha : a ≤ N) (hN : P N) (hs : ∀ k, a ≤ k → k < N → P (k + 1) → P k) : P a := by
  have key : ∀ m k : Nat, a ≤ k → k + m = N → P k := by
    intro m
    induction m with
    | zero => intro k _ hk; have : k = N := by omega
              subst this; exact hN
    | succ m ih => intro k h1 hk; exact hs k h1 (by omega) (ih (k + 1) (by omega) (by omega))
  exact key (N - a) a (Nat.le_refl _) (by omega)
/-- a text's machine in the reference -/
def NX (S I : Nat) (t o : Int → Int) (h : HP) : Prop := h 140 0 = (S : Int) ∧ h 140 1 = (I : Int) ∧ r24 (h 147) t ∧ r24 (h 148) o
def TV (S I : Nat) (t o : Int → Int) : Prop := S ≤ 6 ∧ I ≤ 3 ∧ mok t o ∧ clo S t ∧ ∀ a : Int, 0 ≤ a → a < 24 → 3 * (S : Int) ≤ a ∨ (I : Int) ≤ a % 3 → t a = a / 3 ∧ o a = 0
theorem NX_fr {S I : Nat} {t o : Int → Int} {h h1 : HP} {cs : List Int} {ps : List (Int × Int)} (H : NX S I t o h) (e : EX cs ps h h1) (a : (140 : Int) ∉ cs ∧ (147 : Int) ∉ cs ∧ (148 : Int) ∉ cs) (b : (140 : Int) ∉ ps.map Prod.fst ∧ (147 : Int) ∉ ps.map Prod.fst ∧ (148 : Int) ∉ ps.map Prod.fst) : NX S I t o h1 := by
  unfold NX
  rw [EX_fn e a.1 b.1, EX_fn e a.2.1 b.2.1, EX_fn e a.2.2 b.2.2]
  exact H
theorem r24_z {f g : Int → Int} (h : r24 f g) : r24 (fun a => f (0 + a)) g := fun a h1 h2 => by
  show f (0 + a) = g a
  rw [Int.zero_add]; exact h a h1 h2
section
variable {Q : RP} {n : Nat} {hr h : HP} {S I : Nat} {t o : Int → Int}
theorem sp_N_laysAccess (W : NW n hr) (T : TV S I t o) (X : NX S I t o h) (hQ : ∀ h1, EX [149] [(138, 23)] h h1 → (∀ x : Nat, x < S → h1 149 (x : Int) = AC I t 0 (x : Int)) → h1 138 23 = (cA (AC I t 0) S : Int) → Q (9, 0) n hr h1) : f_N_laysAccess [(2, 138)] n hr h Q := by
  obtain ⟨hS, hI, hm, hc, _⟩ := T
  apply e_N_laysAccess
  have cnt : ∀ h1, EX [149] [(138, 23)] h h1 → (∀ x : Nat, x < S → h1 149 (x : Int) = AC I t 0 (x : Int)) → h1 138 23 = 0 → p_N_laysAccess_158 (n + 0) (ai_q 0 n Q) 138 0 n hr h1 := by
    intro h1 e1 e2 e3
    have := lupN (N := S) (P := fun k => ∀ h1, EX [149] [(138, 23)] h h1 → (∀ x : Nat, x < S → h1 149 (x : Int) = AC I t 0 (x : Int)) → h1 138 23 = (cA (AC I t 0) k : Int) → p_N_laysAccess_158 (n + 0) (ai_q 0 n Q) 138 (k : Int) n hr h1) ?_ ?_
    · exact this h1 e1 e2 e3
    · intro h1 e1 e2 e3
      have X1 := NX_fr X e1 (by decide) (by decide)
      refine b_N_laysAccess_158 ⟨n0 W, sp_N_states W ⟨fun _ => q_at rfl (hQ h1 e1 e2 e3), fun z => ?_⟩⟩
      dsimp only at z; rw [X1.1] at z; omega
    · intro k hk ih h1 e1 e2 e3
      have X1 := NX_fr X e1 (by decide) (by decide)
      have hcl : cA (AC I t 0) k ≤ k := cntB_le _ k
      refine b_N_laysAccess_158 ⟨n0 W, sp_N_states W ⟨fun z => ?_, fun _ => ⟨n0 W, n0 W, sp_N_isReached W (by omega) (fun z => ?_) (fun z => ?_)⟩⟩⟩
      · dsimp only at z; rw [X1.1] at z; omega
      · refine ⟨fun q => ?_, fun _ => ⟨n0 W, ?_⟩⟩
        · exact absurd q (by decide)
        · simp (disch := omega) only [e3, w32_id]
          refine ih _ (EX_upp e1 (by decide)) (fun x hx => ?_) ?_
          · rw [up_oth (Or.inl (by decide))]; exact e2 x hx
          · rw [up_same]
            show _ = ((cntB _ k + _ : Nat) : Int)
            rw [e2 k hk] at z
            rw [if_pos (by simpa using z)]
            rfl
      · refine ⟨fun _ => ⟨n0 W, ?_⟩, fun q => ?_⟩
        · simp (disch := omega) only [e3, w32_id]
          refine ih _ (EX_upp e1 (by decide)) (fun x hx => ?_) ?_
          · rw [up_oth (Or.inl (by decide))]; exact e2 x hx
          · rw [up_same]
            show _ = ((cntB _ k + _ : Nat) : Int)
            rw [e2 k hk] at z
            rw [if_neg (by simp; omega)]
            rfl
        · exact absurd rfl q
  have rounds : ∀ h1, EX [149] [(138, 23)] h h1 → (0 < S → BF I S t 0 (h1 149) 0 0 0) → p_N_laysAccess_39 (n + 0) (ai_q 0 n Q) 138 0 n hr h1 := by
    have := lupN (N := 6) (P := fun r => ∀ h1, EX [149] [(138, 23)] h h1 → (0 < S → BF I S t 0 (h1 149) r 0 0) → p_N_laysAccess_39 (n + 0) (ai_q 0 n Q) 138 (r : Int) n hr h1) ?_ ?_
    · exact this
    · intro h1 e1 e2
      refine b_N_laysAccess_39 ⟨fun _ => ⟨n0 W, ?_⟩, fun z => by omega⟩
      refine cnt _ (EX_upp e1 (by decide)) (fun x hx => ?_) up_same
      rw [up_oth (Or.inl (by decide))]
      exact BF_ac hI hS (by omega) hc (e2 (by omega)) hx
    · intro r hr6 ihr h1 e1 e2
      refine b_N_laysAccess_39 ⟨fun z => by omega, fun _ => ?_⟩
      have := lupN (N := S) (P := fun s => ∀ h1, EX [149] [(138, 23)] h h1 → (0 < S → BF I S t 0 (h1 149) r s 0) → p_N_laysAccess_47 (n + 0) (ai_q 0 n Q) 138 (r : Int) (s : Int) n hr h1) ?_ ?_
      · exact this h1 e1 e2
      · intro h1 e1 e2
        have X1 := NX_fr X e1 (by decide) (by decide)
        refine b_N_laysAccess_47 ⟨n0 W, sp_N_states W ⟨fun _ => ?_, fun z => ?_⟩⟩
        · rw [w32_id (by omega) (by omega)]
          exact ihr h1 e1 fun z => BF_r hI (by omega) hc (Nat.le_refl _) (e2 z)
        · dsimp only at z; rw [X1.1] at z; omega
      · intro s hs ihs h1 e1 e2
        have X1 := NX_fr X e1 (by decide) (by decide)
        refine b_N_laysAccess_47 ⟨n0 W, sp_N_states W ⟨fun z => ?_, fun _ => ?_⟩⟩
        · dsimp only at z; rw [X1.1] at z; omega
        · have := lupN (N := I) (P := fun i => ∀ h1, EX [149] [(138, 23)] h h1 → BF I S t 0 (h1 149) r s i → p_N_laysAccess_57 (n + 0) (ai_q 0 n Q) 138 (r : Int) (s : Int) (i : Int) n hr h1) ?_ ?_
          · exact this h1 e1 (e2 (by omega))
          · intro h1 e1 e2
            have X1 := NX_fr X e1 (by decide) (by decide)
            refine b_N_laysAccess_57 ⟨n0 W, sp_N_inputs W ⟨fun _ => ?_, fun z => ?_⟩⟩
            · rw [w32_id (by omega) (by omega)]
              exact ihs h1 e1 fun _ => BF_n e2
            · dsimp only at z; rw [X1.2.1] at z; omega
          · intro i hi ih h1 e1 e2
            have X1 := NX_fr X e1 (by decide) (by decide)
            have b6 := BF_6 hS e2 hs
            have ct := hc (s : Int) i (by omega) (by omega) (by omega)
            have gt := X1.2.2.1 (3 * (s : Int) + (i : Int)) (by omega) (by omega)
            obtain ⟨y, hy⟩ := Int.eq_ofNat_of_zero_le ct.1
            have b7 := BF_6 hS e2 (show y < S by omega)
            refine b_N_laysAccess_57 ⟨n0 W, sp_N_inputs W ⟨fun z => ?_, fun _ => ?_⟩⟩
            · dsimp only at z; rw [X1.2.1] at z; omega
            · have up : ∀ B : HP, EX [149] [(138, 23)] h B → (∀ x : Int, x ≠ (y : Int) → B 149 x = h1 149 x) → ((B 149 (y : Int) = 4 * h1 149 (s : Int) + (i : Int) + 1 ∧ (h1 149 (y : Int) < 0 ∨ 4 * h1 149 (s : Int) + (i : Int) + 1 < h1 149 (y : Int))) ∨ (B 149 (y : Int) = h1 149 (y : Int) ∧ 0 ≤ h1 149 (y : Int) ∧ h1 149 (y : Int) ≤ 4 * h1 149 (s : Int) + (i : Int) + 1)) → 0 ≤ h1 149 (s : Int) → p_N_laysAccess_57 (n + 0) (ai_q 0 n Q) 138 (r : Int) (s : Int) ((i + 1 : Nat) : Int) n hr B := by
                intro B c1 c2 c3 c4
                exact ih B c1 (BF_up hI hc e2 hs hi c4 (by rw [hy]; exact c2) (by rw [hy]; exact c3))
              simp (disch := omega) only [n0 W, nr_20 W, nr_22 W, Int.zero_add, w32_id, gt, hy, true_and]
              repeat (refine ⟨by omega, ?_⟩)
              refine ⟨fun z => ?_, fun z => ?_⟩
              · exact ihs h1 e1 fun _ => BF_no e2 z
              · repeat (refine ⟨by omega, ?_⟩)
                refine ⟨fun z2 => ?_, fun z2 => ?_⟩
                · repeat (refine ⟨by omega, ?_⟩)
                  exact up _ (EX_upc e1 (by decide)) (fun x hx => up_oth (Or.inr hx)) (Or.inl ⟨up_same, Or.inl z2⟩) z
                · repeat (refine ⟨by omega, ?_⟩)
                  refine ⟨fun z3 => ?_, fun z3 => ?_⟩
                  · exact up h1 e1 (fun x hx => rfl) (Or.inr ⟨rfl, z2, z3⟩) z
                  · repeat (refine ⟨by omega, ?_⟩)
                    exact up _ (EX_upc e1 (by decide)) (fun x hx => up_oth (Or.inr hx)) (Or.inl ⟨up_same, Or.inr z3⟩) z
  have := lupN (N := 6) (P := fun k => p_N_laysAccess_2 (n + 0) (ai_q 0 n Q) 138 (k : Int) n hr (ai_fl h 149 (k : Int) (fun j => if j = 0 ∧ 0 < S then 0 else -2))) ?_ ?_
  · rw [show ((0 : Nat) : Int) = 0 from rfl, fl_0] at this; exact this
  · refine b_N_laysAccess_2 ⟨fun _ => rounds _ (EX_fl EX_rf (by decide)) fun z => BF_0 (p0 := 0) z ?_ fun x hx hx0 => ?_, fun z => by omega⟩
    · rw [fl_in (by omega) (by omega), if_pos ⟨rfl, z⟩]
    · rw [fl_in (by omega) (by omega), if_neg (by omega)]
  · intro k hk ih
    have e1 : EX [149] [(138, 23)] h (ai_fl h 149 (k : Int) (fun j => if j = 0 ∧ 0 < S then 0 else -2)) := EX_fl EX_rf (by decide)
    have X1 := NX_fr X e1 (by decide) (by decide)
    have hs := fl_s (h := h) (x := 149) (k := (k : Int)) (F := fun j => if j = 0 ∧ 0 < S then 0 else -2) (by omega)
    refine b_N_laysAccess_2 ⟨fun z => by omega, fun _ => ⟨n0 W, fun z => ?_, fun z => ⟨n0 W, sp_N_states W ⟨fun z2 => ?_, fun z2 => ?_⟩⟩⟩⟩
    · simp (disch := omega) only [n0 W, nr_22 W, w32_id, true_and]
      repeat (refine ⟨by omega, ?_⟩)
      rw [if_neg (by omega)] at hs
      rw [hs]; exact ih
    · dsimp only at z2 hs; rw [X1.1] at z2
      simp (disch := omega) only [n0 W, nr_22 W, w32_id, true_and]
      repeat (refine ⟨by omega, ?_⟩)
      rw [if_neg (by omega)] at hs
      rw [hs]; exact ih
    · dsimp only at z2 hs; rw [X1.1] at z2
      simp (disch := omega) only [n0 W, nr_22 W, w32_id, true_and]
      repeat (refine ⟨by omega, ?_⟩)
      rw [if_pos ⟨z, by omega⟩] at hs
      rw [hs]; exact ih
theorem sp_N_laysSeparators (W : NW n hr) (T : TV S I t o) (X : NX S I t o h) (hQ : ∀ h1, EX [150, 151, 152, 153] [] h h1 → (∀ a b : Nat, a < S → b < S → h1 153 (6 * (a : Int) + (b : Int)) = SPr I t o (a : Int) (b : Int)) → Q (9, 0) n hr h1) : f_N_laysSeparators [(2, 138)] n hr h Q := by
  obtain ⟨hS, hI, hm, hc, _⟩ := T
  apply e_N_laysSeparators
  have := lupN (N := S) (P := fun a => ∀ h1, EX [150, 151, 152, 153] [] h h1 → (∀ x b : Nat, x < a → b < S → h1 153 (6 * (x : Int) + (b : Int)) = SPr I t o (x : Int) (b : Int)) → p_N_laysSeparators_2 (n + 0) (ai_q 0 n Q) 138 (a : Int) n hr h1) ?_ ?_
  · exact this h EX_rf (fun x b h1 => by omega)
  · intro h1 e1 e2
    have X1 := NX_fr X e1 (by decide) (by decide)
    refine b_N_laysSeparators_2 ⟨n0 W, sp_N_states W ⟨fun _ => q_at rfl (hQ h1 e1 e2), fun z => ?_⟩⟩
    dsimp only at z; rw [X1.1] at z; omega
  · intro a ha iha h1 e1 e2
    have X1 := NX_fr X e1 (by decide) (by decide)
    refine b_N_laysSeparators_2 ⟨n0 W, sp_N_states W ⟨fun z => ?_, fun _ => ?_⟩⟩
    · dsimp only at z; rw [X1.1] at z; omega
    · have := lupN (N := S) (P := fun b => ∀ h1, EX [150, 151, 152, 153] [] h h1 → (∀ x y : Nat, (x < a ∧ y < S) ∨ (x = a ∧ y < b) → h1 153 (6 * (x : Int) + (y : Int)) = SPr I t o (x : Int) (y : Int)) → p_N_laysSeparators_12 (n + 0) (ai_q 0 n Q) 138 (a : Int) (b : Int) n hr h1) ?_ ?_
      · exact this h1 e1 (fun x y q => e2 x y (by omega) (by omega))
      · intro h1 e1 e2
        have X1 := NX_fr X e1 (by decide) (by decide)
        refine b_N_laysSeparators_12 ⟨n0 W, sp_N_states W ⟨fun _ => ?_, fun z => ?_⟩⟩
        · rw [w32_id (by omega) (by omega)]
          exact iha h1 e1 (fun x y q1 q2 => e2 x y (by omega))
        · dsimp only at z; rw [X1.1] at z; omega
      · intro b hb ihb h1 e1 e2
        have X1 := NX_fr X e1 (by decide) (by decide)
        refine b_N_laysSeparators_12 ⟨n0 W, sp_N_states W ⟨fun z => ?_, fun _ => ⟨n0 W, n0 W, ?_⟩⟩⟩
        · dsimp only at z; rw [X1.1] at z; omega
        · refine sp_N_unlike W X1.2.1 hI (by omega) (by omega) hm hm (r24_z X1.2.2.1) (r24_z X1.2.2.2) (r24_z X1.2.2.1) (r24_z X1.2.2.2) (by omega) (by omega) fun h2 g => ?_
          simp (disch := omega) only [nr_27 W, w32_id, true_and]
          repeat (refine ⟨by omega, ?_⟩)
          refine ihb _ (EX_upc (EX_tr e1 (EX_le (EX_ex g) (by decide) (by decide))) (by decide)) (fun x y q => ?_)
          by_cases z : x = a ∧ y = b
          · rw [z.1, z.2, up_same]; rfl
          · rw [up_oth (Or.inr (by omega)), ex_at g (by decide)]
            exact e2 x y (by omega)
end
