-- deps: 18 19 20 21 23 24 25 26 27 28 29 22 30 31 32 33 34 35 36 37 38 39 40 41 42 43 44 45 46 47 48 49
/-! the reference: words one after another; signs -/
def rep1 : Nat → Nat → Nat
  | 0, x => x
  | k + 1, x => rep1 k (4 * x + 1)
theorem rep1_le : ∀ k x, x ≤ rep1 k x
  | 0, x => Nat.le_refl x
  | k + 1, x => Nat.le_trans (by omega) (rep1_le k (4 * x + 1))
theorem rep1_s : ∀ k x, rep1 (k + 1) x = 4 * rep1 k x + 1
  | 0, x => rfl
  | k + 1, x => by
    show rep1 (k + 1) (4 * x + 1) = 4 * rep1 k (4 * x + 1) + 1
    exact rep1_s k (4 * x + 1)
theorem aft_b {m : Nat} (h1 : 1 ≤ m) : ∀ w, aft m w ≤ 4 * w + 1 := by
  intro w
  induction w using Nat.strongRecOn with
  | ind w ih =>
    by_cases z : w = 0 ∨ w % 4 ≠ m
    · rw [aft_f z]; omega
    · rw [aft_t (by omega) (by omega)]
      have := ih (w / 4) (by omega)
      omega
section
variable {Q : RP} {n : Nat} {hr h : HP} {S I : Nat} {t o : Int → Int}
theorem sp_N_after {w : Nat} (W : NW n hr) (hI : h 140 1 = (I : Int)) (hI1 : 1 ≤ I) (hI3 : I ≤ 3) (hw : w < 4194304) (hQ : Q (0, (aft I w : Int)) n hr h) : f_N_after [(2, 138), (0, (w : Int))] n hr h Q := by
  apply e_N_after
  have hb := aft_b hI1 w
  have second : ∀ (low : Nat), low ≤ 40 → ∀ (d k x : Nat), low - k = d → k ≤ low → rep1 d x = aft I w → p_N_after_36 (n + 0) (ai_q 0 n Q) (low : Int) (x : Int) (k : Int) n hr h := by
    intro low hlow d
    induction d with
    | zero =>
      intro k x h1 h2 h3
      refine b_N_after_36 ⟨fun _ => q_at rfl ?_, fun z => by omega⟩
      have : x = aft I w := h3
      rw [this]; exact hQ
    | succ d ih =>
      intro k x h1 h2 h3
      have hx := rep1_le d (4 * x + 1)
      have h3' : rep1 d (4 * x + 1) = aft I w := h3
      refine b_N_after_36 ⟨fun z => by omega, fun _ => ?_⟩
      simp (disch := omega) only [w32_id]
      rw [show 4 * (x : Int) + 1 = ((4 * x + 1 : Nat) : Int) by omega, show (k : Int) + 1 = ((k + 1 : Nat) : Int) by omega]
      exact ih (k + 1) (4 * x + 1) (by omega) (by omega) h3
  have first : ∀ (v low : Nat), v ≤ w → low + wlen v ≤ 40 → rep1 low (aft I v) = aft I w → p_N_after_4 (n + 0) (ai_q 0 n Q) 138 (low : Int) (v : Int) n hr h := by
    intro v
    induction v using Nat.strongRecOn with
    | ind v ih =>
      intro low hv hl he
      have stop : (v = 0 ∨ v % 4 ≠ I) → p_N_after_36 (n + 0) (ai_q 0 n Q) (low : Int) (w32 ((v : Int) + 1)) 0 n hr h := by
        intro z
        rw [w32_id (by omega) (by omega), show (v : Int) + 1 = ((v + 1 : Nat) : Int) by omega]
        rw [aft_f z] at he
        exact second low (by omega) low 0 (v + 1) (by omega) (by omega) he
      refine b_N_after_4 ⟨fun z => stop (by omega), fun z => ⟨n0 W, sp_N_inputs W ⟨fun z2 => stop ?_, fun z2 => ?_⟩⟩⟩
      · dsimp only at z2; rw [hI, and_3 (by omega) (by omega)] at z2; omega
      · dsimp only at z2; rw [hI, and_3 (by omega) (by omega)] at z2
        have hs := wlen_s (w := v) (by omega)
        rw [aft_t (by omega) (by omega)] at he
        simp (disch := omega) only [w32_id, shr_2]
        rw [show (v : Int) / 4 = ((v / 4 : Nat) : Int) by omega, show (low : Int) + 1 = ((low + 1 : Nat) : Int) by omega]
        refine ih (v / 4) (by omega) (low + 1) (by omega) (by omega) ?_
        exact he
  refine first w 0 (Nat.le_refl _) ?_ rfl
  have : wlen w ≤ 11 := wlen_le.mpr hw
  omega
theorem sp_N_isSign {s w : Nat} (W : NW n hr) (T : TV S I t o) (X : NX S I t o h) (P : NP S I t o h) (hs : s < S) (hw : wok I w) (hl : wlen w ≤ 8) (h1 : isSg S I t o s w → Q (0, 1) n hr h) (h0 : ¬ isSg S I t o s w → Q (0, 0) n hr h) : f_N_isSign [(2, 138), (0, (s : Int)), (0, (w : Int))] n hr h Q := by
  obtain ⟨hS, hI, hm, hc, hT⟩ := T
  apply e_N_isSign
  refine ⟨n0 W, sp_N_ans W (by omega) hm (r24_z X.2.2.1) (r24_z X.2.2.2) (by omega) (wl15 (by omega)) (wok3 hI hw) ?_⟩
  have := lupN (N := S) (P := fun k => (∀ x, x < k → x ≠ s → 0 ≤ AC I t 0 (x : Int) → aS t o (x : Int) w ≠ aS t o (s : Int) w) → p_N_isSign_11 (n + 0) (ai_q 0 n Q) 138 (s : Int) (w : Int) (aS t o (s : Int) w) (k : Int) n hr h) ?_ ?_
  · exact this fun x hx => by omega
  · intro e
    refine b_N_isSign_11 ⟨n0 W, sp_N_states W ⟨fun _ => ⟨Or.inr rfl, q_at rfl (h1 e)⟩, fun z => ?_⟩⟩
    dsimp only at z; rw [X.1] at z; omega
  · intro k hk ih e
    have ea := P.1 k hk
    refine b_N_isSign_11 ⟨n0 W, sp_N_states W ⟨fun z => ?_, fun _ => ⟨fun z => ?_, fun z => ⟨n0 W, sp_N_isReached W (by omega) (fun z2 => ?_) (fun z2 => ?_)⟩⟩⟩⟩
    · dsimp only at z; rw [X.1] at z; omega
    · rw [w32_id (by omega) (by omega)]
      refine ih fun x hx hxs hr => ?_
      by_cases y : x = k
      · subst y; omega
      · exact e x (by omega) hxs hr
    · rw [ea] at z2
      refine ⟨fun q => absurd q (by decide), fun _ => ⟨n0 W, sp_N_ans W (by omega) hm (r24_z X.2.2.1) (r24_z X.2.2.2) (by omega) (wl15 (by omega)) (wok3 hI hw) ?_⟩⟩
      refine ⟨fun z3 => ?_, fun z3 => ⟨Or.inl rfl, q_at rfl (h0 fun g => g k hk (by omega) z2 (lcmp0.mp z3))⟩⟩
      rw [w32_id (by omega) (by omega)]
      refine ih fun x hx hxs hr => ?_
      by_cases y : x = k
      · subst y; exact fun q => z3 (lcmp0.mpr q)
      · exact e x (by omega) hxs hr
    · rw [ea] at z2
      refine ⟨fun _ => ?_, fun q => absurd rfl q⟩
      rw [w32_id (by omega) (by omega)]
      refine ih fun x hx hxs hr => ?_
      by_cases y : x = k
      · subst y; omega
      · exact e x (by omega) hxs hr
def NSg (S I : Nat) (t o : Int → Int) (h : HP) : Prop := h 138 31 = 0 ∨ (h 138 31 = 1 ∧ ∀ s : Nat, s < S → h 155 (s : Int) = SGN S I t o s)
/-- the sign, if it is one of the words below w -/
noncomputable def sgB (S I : Nat) (t o : Int → Int) (s w : Nat) : Int := if SGN S I t o s < (w : Int) then SGN S I t o s else -2
theorem sgB_y {s w : Nat} (hw : wok I w) (hl : wlen w ≤ 8) (h1 : sgB S I t o s w = -2) (h2 : isSg S I t o s w) : sgB S I t o s (w + 1) = (w : Int) := by
  unfold sgB at h1 ⊢
  rcases fw_cases (fun w => wok I w ∧ wlen w ≤ 8 ∧ isSg S I t o s w) with ⟨v, a1, a2, a3⟩ | ⟨a1, a2⟩
  · have e : SGN S I t o s = (v : Int) := a1
    rw [e] at h1 ⊢
    rcases Nat.lt_trichotomy v w with y | y | y
    · rw [if_pos (by omega)] at h1; omega
    · subst y
      rw [if_pos (by omega)]
    · exact (a3 w y ⟨hw, hl, h2⟩).elim
  · exact (a2 w ⟨hw, hl, h2⟩).elim
theorem sgB_n {s w : Nat} (hw : wok I w) (hl : wlen w ≤ 8) (h2 : ¬ (sgB S I t o s w = -2 ∧ isSg S I t o s w)) : sgB S I t o s (w + 1) = sgB S I t o s w := by
  unfold sgB at h2 ⊢
  rcases fw_cases (fun w => wok I w ∧ wlen w ≤ 8 ∧ isSg S I t o s w) with ⟨v, a1, a2, a3⟩ | ⟨a1, a2⟩
  · have e : SGN S I t o s = (v : Int) := a1
    rw [e] at h2 ⊢
    rcases Nat.lt_trichotomy v w with y | y | y
    · rw [if_pos (by omega), if_pos (by omega)]
    · subst y
      exact (h2 ⟨by rw [if_neg (by omega)], a2.2.2⟩).elim
    · rw [if_neg (by omega), if_neg (by omega)]
  · have e : SGN S I t o s = -2 := a1
    rw [e, if_pos (by omega), if_pos (by omega)]
theorem sgB_gap {s w w' : Nat} (h1 : w + 1 ≤ w') (h2 : ∀ x, w < x → x < w' → ¬ wok I x) : sgB S I t o s w' = sgB S I t o s (w + 1) := by
  unfold sgB
  rcases fw_cases (fun w => wok I w ∧ wlen w ≤ 8 ∧ isSg S I t o s w) with ⟨v, a1, a2, a3⟩ | ⟨a1, a2⟩
  · have e : SGN S I t o s = (v : Int) := a1
    rw [e]
    by_cases y : v < w + 1
    · rw [if_pos (by omega), if_pos (by omega)]
    · by_cases y2 : v < w'
      · exact (h2 v (by omega) y2 a2.1).elim
      · rw [if_neg (by omega), if_neg (by omega)]
  · have e : SGN S I t o s = -2 := a1
    rw [e, if_pos (by omega), if_pos (by omega)]
theorem cntP_upd {P R : Nat → Prop} {N k : Nat} (hk : k < N) (h1 : P k) (h2 : ¬ R k) (h3 : ∀ x, x ≠ k → (P x ↔ R x)) : cntP P N = cntP R N + 1 := by
  induction N with
  | zero => omega
  | succ N ih =>
    by_cases y : k = N
    · subst y
      rw [cntP_y h1, cntP_n h2, cntP_ext fun s hs => h3 s (by omega)]
    · have e := ih (by omega)
      by_cases p : P N
      · rw [cntP_y p, cntP_y ((h3 N (by omega)).mp p), e]
      · rw [cntP_n p, cntP_n (fun q => p ((h3 N (by omega)).mpr q)), e]
theorem cntP_z {P : Nat → Prop} {N : Nat} (h : cntP P N = 0) : ∀ x, x < N → ¬ P x := by
  induction N with
  | zero => intro x hx; omega
  | succ N ih =>
    by_cases p : P N
    · rw [cntP_y p] at h; omega
    · rw [cntP_n p] at h
      intro x hx
      by_cases y : x = N
      · subst y; exact p
      · exact ih h x (by omega)
theorem sp_N_laysSigns (W : NW n hr) (T : TV S I t o) (X : NX S I t o h) (P : NP S I t o h) (G : NSg S I t o h) (hQ : ∀ h1, EX [155] [(138, 31)] h h1 → h1 138 31 = 1 → (∀ s : Nat, s < S → h1 155 (s : Int) = SGN S I t o s) → Q (9, 0) n hr h1) : f_N_laysSigns [(2, 138)] n hr h Q := by
  have TT := T
  obtain ⟨hS, hI, hm, hc, hT⟩ := T
  apply e_N_laysSigns
  refine ⟨n0 W, fun z => ?_, fun z => ?_⟩
  · have e0 : EX [155] [(138, 31)] h (ai_up h 138 31 1) := EX_upp EX_rf (by decide)
    have p8 : (4 : Nat) ^ 8 = 65536 := by decide
    have words : ∀ (m w : Nat), 262144 - w ≤ m → w < 262144 → wok I w → ∀ (l : Nat) (h1 : HP), EX [155] [(138, 31)] h h1 → h1 138 31 = 1 → (∀ s : Nat, s < S → h1 155 (s : Int) = sgB S I t o s w) → l = cntP (fun s => h1 155 (s : Int) = -2) S → p_N_laysSigns_44 (n + 0) (ai_q 0 n Q) 138 (l : Int) (w : Int) n hr h1 := by
      intro m
      induction m with
      | zero => intro w hw hw2; omega
      | succ m ih =>
        intro w hw hw2 hwk l h1 e1 e31 e2 el
        have big : 65536 ≤ w → ai_q 0 n Q (9, 0) n hr h1 := fun y => q_at rfl (hQ h1 e1 e31 fun s hs => by
          rw [e2 s hs]
          have := SGN_b S I t o s
          unfold sgB; rw [if_pos (by omega)])
        refine b_N_laysSigns_44 ⟨fun z => q_at rfl (hQ h1 e1 e31 fun s hs => ?_), fun z => ?_⟩
        · have := cntP_z (el.symm.trans (by omega)) s hs
          have e := e2 s hs
          unfold sgB at e
          by_cases y : SGN S I t o s < (w : Int)
          · rw [if_pos y] at e; exact e
          · rw [if_neg y] at e; exact (this e).elim
        · refine sp_N_long1 (by omega) ⟨fun z2 => big ?_, fun z2 => ?_⟩
          · dsimp only at z2
            refine Nat.le_of_not_lt fun q => ?_
            have := wlen_le.mpr (show w < 4 ^ 8 by omega)
            omega
          · dsimp only at z2
            have hl : wlen w ≤ 8 := by omega
            have hw8 : w < 65536 := by have := wlen_le.mp hl; omega
            have := lupN (N := S) (P := fun k => ∀ (l : Nat) (h1 : HP), EX [155] [(138, 31)] h h1 → h1 138 31 = 1 → (∀ s : Nat, s < S → h1 155 (s : Int) = sgB S I t o s (if s < k then w + 1 else w)) → l = cntP (fun s => h1 155 (s : Int) = -2) S → p_N_laysSigns_59 (n + 0) (ai_q 0 n Q) 138 (l : Int) (w : Int) (k : Int) n hr h1) ?_ ?_
            · exact this l h1 e1 e31 (fun s hs => by rw [if_neg (by omega)]; exact e2 s hs) el
            · intro l h1 e1 e31 e2 el
              have X1 := NX_fr X e1 (by decide) (by decide)
              refine b_N_laysSigns_59 ⟨n0 W, sp_N_states W ⟨fun _ => ⟨n0 W, sp_N_inputs W ⟨fun z3 => ⟨n0 W, ?_⟩, fun z3 => q_at rfl (hQ h1 e1 e31 fun s hs => ?_)⟩⟩, fun z3 => ?_⟩⟩
              · dsimp only at z3; rw [X1.2.1] at z3
                refine sp_N_after W X1.2.1 (by omega) hI (by omega) ?_
                have ab := aft_b (show 1 ≤ I by omega) w
                obtain ⟨o1, o2, o3⟩ := aft_ok (show 1 ≤ I by omega) hI w hwk
                refine ih (aft I w) (by omega) (by omega) o1 l h1 e1 e31 (fun s hs => ?_) el
                rw [e2 s hs, if_pos hs, sgB_gap (show w + 1 ≤ aft I w by omega) o3]
              · dsimp only at z3; rw [X1.2.1] at z3
                have hI0 : I = 0 := by omega
                rw [e2 s hs, if_pos hs]
                unfold sgB
                rcases fw_cases (fun w => wok I w ∧ wlen w ≤ 8 ∧ isSg S I t o s w) with ⟨v, a1, a2, a3⟩ | ⟨a1, a2⟩
                · have e : SGN S I t o s = (v : Int) := a1
                  have v0 : v = 0 := wok_m0 (by rw [← hI0]; exact a2.1)
                  rw [e, if_pos (by omega)]
                · have e : SGN S I t o s = -2 := a1
                  rw [e, if_pos (by omega)]
              · dsimp only at z3; rw [X1.1] at z3; omega
            · intro k hk ihk l h1 e1 e31 e2 el
              have X1 := NX_fr X e1 (by decide) (by decide)
              have P1 := NP_fr P e1 (by decide) (by decide)
              have ek := e2 k hk
              rw [if_neg (by omega)] at ek
              have next : ∀ (l : Nat) (h2 : HP), EX [155] [(138, 31)] h h2 → h2 138 31 = 1 → (∀ s : Nat, s ≠ k → h2 155 (s : Int) = h1 155 (s : Int)) → h2 155 (k : Int) = sgB S I t o k (w + 1) → l = cntP (fun s => h2 155 (s : Int) = -2) S → p_N_laysSigns_59 (n + 0) (ai_q 0 n Q) 138 (l : Int) (w : Int) ((k : Int) + 1) n hr h2 := by
                intro l h2 f1 f2 f3 f4 f5
                refine ihk l h2 f1 f2 (fun s hs => ?_) f5
                by_cases y : s = k
                · subst y; rw [if_pos (by omega)]; exact f4
                · rw [f3 s y, e2 s hs]
                  by_cases y2 : s < k
                  · rw [if_pos y2, if_pos (by omega)]
                  · rw [if_neg y2, if_neg (by omega)]
              refine b_N_laysSigns_59 ⟨n0 W, sp_N_states W ⟨fun z3 => ?_, fun _ => ?_⟩⟩
              · dsimp only at z3; rw [X1.1] at z3; omega
              · simp (disch := omega) only [n0 W, nr_30 W, w32_id, true_and]
                repeat (refine ⟨by omega, ?_⟩)
                refine ⟨fun z3 => ?_, fun z3 => ?_⟩
                · exact next l h1 e1 e31 (fun _ _ => rfl) (by rw [sgB_n hwk hl (fun q => z3 (by rw [ek]; exact q.1))]; exact ek) el
                · refine sp_N_isSign W TT X1 P1 hk hwk hl (fun y => ?_) (fun y => ?_)
                  · refine ⟨fun _ => ?_, fun q => absurd q (by decide)⟩
                    simp (disch := omega) only [n0 W, nr_30 W, w32_id, true_and]
                    repeat (refine ⟨by omega, ?_⟩)
                    have hcl : cntP (fun s => h1 155 (s : Int) = -2) S ≤ S := cntP_le _ _
                    have eu := cntP_upd (P := fun s => h1 155 (s : Int) = -2) (R := fun s => (ai_up h1 155 (k : Int) (w : Int)) 155 (s : Int) = -2) hk z3 (by rw [up_same]; omega) (fun x hx => by rw [up_oth (Or.inr (by omega))])
                    rw [show (l : Int) + -1 = ((cntP (fun s => (ai_up h1 155 (k : Int) (w : Int)) 155 (s : Int) = -2) S : Nat) : Int) by omega, w32_id (by omega) (by omega)]
                    refine next _ (ai_up h1 155 (k : Int) (w : Int)) (EX_upc e1 (by decide)) (by rw [up_oth (Or.inl (by decide))]; exact e31) (fun s hs => up_oth (Or.inr (by omega))) ?_ rfl
                    rw [up_same, sgB_y hwk hl (by rw [← ek]; exact z3) y]
                  · refine ⟨fun q => absurd rfl q, fun _ => ?_⟩
                    exact next l h1 e1 e31 (fun _ _ => rfl) (by rw [sgB_n hwk hl (fun q => y q.2)]; exact ek) el
    refine ⟨n0 W, Or.inr rfl, n0 W, sp_N_states W ?_⟩
    have X0 := NX_fr X e0 (by decide) (by decide)
    rw [X0.1]
    have := lupN (N := S) (P := fun k => ∀ h1, EX [155] [(138, 31)] h h1 → h1 138 31 = 1 → (∀ x : Nat, x < k → h1 155 (x : Int) = -2) → p_N_laysSigns_20 (n + 0) (ai_q 0 n Q) 138 (S : Int) (k : Int) n hr h1) ?_ ?_
    · exact this _ e0 up_same (fun x hx => by omega)
    · intro h1 e1 e31 e2
      have X1 := NX_fr X e1 (by decide) (by decide)
      refine b_N_laysSigns_20 ⟨n0 W, sp_N_states W ⟨fun _ => ?_, fun z3 => ?_⟩⟩
      · have ec : S = cntP (fun s => h1 155 (s : Int) = -2) S := by
          have : ∀ k, k ≤ S → cntP (fun s => h1 155 (s : Int) = -2) k = k := by
            intro k
            induction k with
            | zero => intro _; rfl
            | succ k ih => intro hk; rw [cntP_y (e2 k (by omega)), ih (by omega)]
          exact (this S (Nat.le_refl _)).symm
        refine words 262144 0 (by omega) (by omega) (wok_0 I) S h1 e1 e31 (fun s hs => ?_) ec
        rw [e2 s hs]
        have := SGN_b S I t o s
        unfold sgB
        by_cases y : SGN S I t o s < ((0 : Nat) : Int)
        · rw [if_pos y]; omega
        · rw [if_neg y]
      · dsimp only at z3; rw [X1.1] at z3; omega
    · intro k hk ih h1 e1 e31 e2
      have X1 := NX_fr X e1 (by decide) (by decide)
      refine b_N_laysSigns_20 ⟨n0 W, sp_N_states W ⟨fun z3 => ?_, fun _ => ?_⟩⟩
      · dsimp only at z3; rw [X1.1] at z3; omega
      · simp (disch := omega) only [n0 W, nr_30 W, w32_id, true_and]
        repeat (refine ⟨by omega, ?_⟩)
        refine ih _ (EX_upc e1 (by decide)) (by rw [up_oth (Or.inl (by decide))]; exact e31) fun x hx => ?_
        by_cases y : x = k
        · subst y; exact up_same
        · rw [up_oth (Or.inr (by omega))]; exact e2 x (by omega)
  · rcases G with g | ⟨g1, g2⟩
    · exact (z g).elim
    · exact q_at rfl (hQ h EX_rf g1 g2)
theorem sp_N_sign {s : Int} (W : NW n hr) (T : TV S I t o) (X : NX S I t o h) (P : NP S I t o h) (G : NSg S I t o h) (h1 : (0 ≤ s ∧ s < (S : Int)) → ∀ h1, EX [155] [(138, 0), (138, 31)] h h1 → NSg S I t o h1 → Q (0, SGN S I t o s.toNat) n hr h1) (h0 : ¬ (0 ≤ s ∧ s < (S : Int)) → Q (0, -1) n hr (ai_up h 138 0 0)) : f_N_sign [(2, 138), (0, s)] n hr h Q := by
  have hS := T.1
  have X1 := NX_1 (v := 0) X
  have P1 := NP_1 (v := 0) P
  have G1 : NSg S I t o (ai_up h 138 0 0) := by
    unfold NSg
    rw [up_oth (Or.inr (by decide)), EX_fn EX_1 (c := 155) (by decide) (by decide)]; exact G
  apply e_N_sign
  refine ⟨n0 W, n0 W, sp_N_isState W (fun z => ?_) (fun z => ⟨fun q => absurd rfl q, fun _ => q_at rfl (h0 ?_)⟩)⟩
  · rw [X1.1] at z
    refine ⟨fun _ => ⟨n0 W, sp_N_laysSigns W T X1 P1 G1 fun h2 e2 g1 g2 => ?_⟩, fun q => absurd q (by decide)⟩
    obtain ⟨v, rfl⟩ := Int.eq_ofNat_of_zero_le z.1
    simp (disch := omega) only [n0 W, nr_30 W, g2 v (by omega), true_and]
    repeat (refine ⟨by omega, ?_⟩)
    have := h1 z h2 (EX_tr (EX_le EX_1 (by decide) (by decide)) (EX_le e2 (by decide) (by decide))) (Or.inr ⟨g1, g2⟩)
    exact (by first | exact q_at rfl (this) | exact (this))
  · rw [X1.1] at z; exact z
end
