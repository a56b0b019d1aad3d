-- deps: 18 19 20 21 23 24 25 26 27 28 29 22 30 31 32 33 34 35 36 37 38 39 40 41 42 43
/-! the class: kinds, splitters -/
section
variable {Q : RP} {n : Nat} {hr h : HP} {S I : Nat} {t o : Int → Int}
theorem sp_A_learnKinds (V : CW n hr) (T : TV S I t o) (X : CX S I t o h) (hsp : ∀ a b : Nat, a < S → b < S → h 21 (6 * (a : Int) + (b : Int)) = SPr I t o (a : Int) (b : Int)) (hre : h 19 8 = (RMk S I t : Int)) (hQ : ∀ h1, EX [22] [(19, 9)] h h1 → (∀ s : Nat, s < S → h1 22 (s : Int) = KD I t o s) → h1 19 9 = (cntP (isNew I t o) S : Int) → Q (9, 0) n hr h1) : f_A_learnKinds [(2, 19)] n hr h Q := by
  obtain ⟨hS, hI, hm, hc, hTT⟩ := T
  apply e_A_learnKinds
  refine ⟨ok_19 V.1, ?_⟩
  have := lupN (N := S) (P := fun s => ∀ h1, EX [22] [(19, 9)] h h1 → (∀ x : Nat, x < s → h1 22 (x : Int) = KD I t o x) → h1 19 9 = (cntP (isNew I t o) s : Int) → p_A_learnKinds_7 (n + 0) (ai_q 0 n Q) 19 (s : Int) n hr h1) ?_ ?_
  · exact this _ (EX_upp EX_rf (by decide)) (fun x hx => by omega) up_same
  · intro h1 e1 e2 e3
    have X1 := CX_fr X e1 (by decide) (by decide)
    refine b_A_learnKinds_7 ?_
    simp (disch := omega) only [ok_19 V.1, cr_19_0 V, ok_13 V.1, X1.1, true_and]
    exact ⟨fun _ => (by first | exact q_at rfl (hQ h1 e1 e2 e3) | exact (hQ h1 e1 e2 e3)), fun z => by omega⟩
  · intro s hs ihs h1 e1 e2 e3
    have X1 := CX_fr X e1 (by decide) (by decide)
    have hcl := cntP_le (isNew I t o) s
    refine b_A_learnKinds_7 ?_
    simp (disch := omega) only [ok_19 V.1, cr_19_0 V, cr_19_3 V, ok_13 V.1, X1.1, true_and]
    refine ⟨fun z => by omega, fun _ => ?_⟩
    repeat (refine ⟨by omega, ?_⟩)
    have e4 : EX [22] [(19, 9)] h (ai_up h1 22 (s : Int) (s : Int)) := EX_upc e1 (by decide)
    have loop : ∀ (k : Nat), k ≤ s → ∀ (h2 : HP) (l2 : Int) (m : Nat), EX [22] [(19, 9)] h h2 → (∀ x : Nat, x < s → h2 22 (x : Int) = KD I t o x) → h2 19 9 = (cntP (isNew I t o) s : Int) → k ≤ m → m ≤ s → h2 22 (s : Int) = (m : Int) → SPr I t o (s : Int) (m : Int) = -2 → (∀ y : Nat, k ≤ y → y < m → SPr I t o (s : Int) (y : Int) ≠ -2) → ((l2 = 1 ∧ RD I t s ∧ ∀ x, k ≤ x → x < s → ¬ (RD I t x ∧ SPr I t o (x : Int) (s : Int) = -2)) ∨ (l2 = 0 ∧ ¬ isNew I t o s)) → p_A_learnKinds_35 (n + 0) (ai_q 0 n Q) 19 (s : Int) l2 ((k : Int) - 1) n hr h2 := by
      intro k
      induction k with
      | zero =>
        intro _ h2 l2 m f1 f2 f3 m1 m2 m3 m4 m5 hl
        have kd : KD I t o s = (m : Int) := fw_at (P := fun k : Nat => SPr I t o (s : Int) (k : Int) = -2) m4 fun y hy => m5 y (by omega) hy
        refine b_A_learnKinds_35 ⟨fun _ => ⟨fun z => ?_, fun z => ?_⟩, fun z => by omega⟩
        · rw [w32_id (by omega) (by omega)]
          refine ihs h2 f1 (fun x hx => ?_) ?_
          · by_cases y : x = s
            · rw [y, m3, kd]
            · exact f2 x (by omega)
          · rw [cntP_n (by rcases hl with q | q; omega; exact q.2)]; exact f3
        · simp (disch := omega) only [ok_19 V.1, f3, w32_id, true_and]
          refine ihs _ (EX_upp f1 (by decide)) (fun x hx => ?_) ?_
          · rw [up_oth (Or.inl (by decide))]
            by_cases y : x = s
            · rw [y, m3, kd]
            · exact f2 x (by omega)
          · have y : isNew I t o s := by
              rcases hl with ⟨q1, q2, q3⟩ | q
              · exact ⟨q2, fun a ha => q3 a (by omega) ha⟩
              · omega
            rw [cntP_y y, up_same]; rfl
      | succ k ih =>
        intro hk h2 l2 m f1 f2 f3 m1 m2 m3 m4 m5 hl
        have g21 : h2 21 = h 21 := EX_fn f1 (by decide) (by decide)
        have g8 : h2 19 8 = (RMk S I t : Int) := by rw [EX_at f1 (by decide) (by decide)]; exact hre
        refine b_A_learnKinds_35 ⟨fun z => by omega, fun _ => ⟨ok_19 V.1, ?_⟩⟩
        rw [show ((k + 1 : Nat) : Int) - 1 = (k : Int) by omega, w32_id (x := (k : Int) + -1) (by omega) (by omega)]
        refine sp_A_areAlike V (by omega) (by omega) (fun z => ?_) (fun z => ?_)
        · rw [g21, hsp k s (by omega) hs] at z
          refine ⟨fun q => absurd q (by decide), fun _ => ?_⟩
          simp (disch := omega) only [ok_19 V.1, cr_19_3 V, true_and]
          repeat (refine ⟨by omega, ?_⟩)
          have f1' : EX [22] [(19, 9)] h (ai_up h2 22 (s : Int) (k : Int)) := EX_upc f1 (by decide)
          have go : ∀ l3 : Int, ((l3 = 1 ∧ RD I t s ∧ ∀ x, k ≤ x → x < s → ¬ (RD I t x ∧ SPr I t o (x : Int) (s : Int) = -2)) ∨ (l3 = 0 ∧ ¬ isNew I t o s)) → p_A_learnKinds_35 (n + 0) (ai_q 0 n Q) 19 (s : Int) l3 ((k : Int) + -1) n hr (ai_up h2 22 (s : Int) (k : Int)) := by
            intro l3 hl3
            refine ih (by omega) _ l3 k f1' (fun x hx => ?_) ?_ (by omega) (by omega) up_same (by rw [SPr_sy]; exact z) (fun y y1 y2 => by omega) hl3
            · rw [up_oth (Or.inr (by omega))]; exact f2 x hx
            · rw [up_oth (Or.inl (by decide))]; exact f3
          refine ⟨fun z2 => ?_, fun z2 => ?_⟩
          · refine go 0 (Or.inr ⟨rfl, ?_⟩)
            rcases hl with q | q
            · omega
            · exact q.2
          · have hl2 : RD I t s ∧ ∀ x, k + 1 ≤ x → x < s → ¬ (RD I t x ∧ SPr I t o (x : Int) (s : Int) = -2) := by
              rcases hl with q | q
              · exact q.2
              · omega
            refine sp_A_isReached (M := RMk S I t) V (by rw [EX_at f1' (by decide) (by decide)]; exact hre) (by omega) (fun z3 => ?_) (fun z3 => ?_)
            · refine ⟨fun _ => go 0 (Or.inr ⟨rfl, fun q => q.2 k (by omega) ⟨((RMk_tb S I t k).mp z3).2, z⟩⟩), fun q => absurd q (by decide)⟩
            · refine ⟨fun q => absurd rfl q, fun _ => go 1 (Or.inl ⟨rfl, hl2.1, fun x x1 x2 q => ?_⟩)⟩
              by_cases y : x = k
              · subst y
                exact z3 ((RMk_tb S I t x).mpr ⟨by omega, q.1⟩)
              · exact hl2.2 x (by omega) x2 q
        · rw [g21, hsp k s (by omega) hs] at z
          refine ⟨fun _ => ?_, fun q => absurd rfl q⟩
          refine ih (by omega) h2 l2 m f1 f2 f3 (by omega) m2 m3 m4 (fun y y1 y2 => ?_) ?_
          · by_cases w : y = k
            · subst w; rw [SPr_sy]; exact z
            · exact m5 y (by omega) y2
          · rcases hl with ⟨q1, q2, q3⟩ | q
            · refine Or.inl ⟨q1, q2, fun x x1 x2 q => ?_⟩
              by_cases w : x = k
              · subst w; exact z q.2
              · exact q3 x (by omega) x2 q
            · exact Or.inr q
    have f2 : ∀ x : Nat, x < s → (ai_up h1 22 (s : Int) (s : Int)) 22 (x : Int) = KD I t o x := fun x hx => by
      rw [up_oth (Or.inr (by omega))]; exact e2 x hx
    have f3 : (ai_up h1 22 (s : Int) (s : Int)) 19 9 = (cntP (isNew I t o) s : Int) := by
      rw [up_oth (Or.inl (by decide))]; exact e3
    rw [w32_id (by omega) (by omega)]
    refine sp_A_isReached (M := RMk S I t) V (by rw [EX_at e4 (by decide) (by decide)]; exact hre) (by omega) (fun z => ?_) (fun z => ?_)
    · exact loop s (by omega) _ 1 s e4 f2 f3 (by omega) (by omega) up_same (SPr_rf I t o _) (fun y y1 y2 => by omega) (Or.inl ⟨rfl, ((RMk_tb S I t s).mp z).2, fun x x1 x2 => by omega⟩)
    · exact loop s (by omega) _ 0 s e4 f2 f3 (by omega) (by omega) up_same (SPr_rf I t o _) (fun y y1 y2 => by omega) (Or.inr ⟨rfl, fun q => z ((RMk_tb S I t s).mpr ⟨hs, q.1⟩)⟩)
theorem sp_A_areSplit {a b : Nat} {L : List Nat} (V : CW n hr) (T : TV S I t o) (X : CX S I t o h) (ha : a < 8) (hb : b < 8) (hl : h 19 10 = (L.length : Int)) (hl2 : L.length ≤ 6) (hL : rowL (h 23) 0 L) (hw : ∀ w ∈ L, wok I w ∧ wlen w ≤ 5) (h1 : ¬ (∀ w ∈ L, aS t o (a : Int) w = aS t o (b : Int) w) → Q (0, 1) n hr h) (h0 : (∀ w ∈ L, aS t o (a : Int) w = aS t o (b : Int) w) → Q (0, 0) n hr h) : f_A_areSplit [(2, 19), (0, (a : Int)), (0, (b : Int))] n hr h Q := by
  obtain ⟨hS, hI, hm, hc, _⟩ := T
  apply e_A_areSplit
  have := lupN (N := L.length) (P := fun k => (∀ (j w : Nat), j < k → L[j]? = some w → aS t o (a : Int) w = aS t o (b : Int) w) → p_A_areSplit_2 (n + 0) (ai_q 0 n Q) 19 (a : Int) (b : Int) (k : Int) n hr h) ?_ ?_
  · exact this fun j w hj => by omega
  · intro e
    refine b_A_areSplit_2 ⟨ok_19 V.1, fun _ => ⟨Or.inl rfl, q_at rfl (h0 fun w hwL => ?_)⟩, fun z => by omega⟩
    obtain ⟨j, hj⟩ := List.getElem?_of_mem hwL
    exact e j w (by have := (List.getElem?_eq_some_iff.mp hj).1; exact this) hj
  · intro k hk ih e
    obtain ⟨w, hw1⟩ : ∃ w, L[k]? = some w := ⟨_, List.getElem?_eq_getElem hk⟩
    have hmem := List.mem_of_getElem? hw1
    have hv := hL k w hw1
    rw [Int.zero_add] at hv
    obtain ⟨w1, w2⟩ := hw w hmem
    refine b_A_areSplit_2 ⟨ok_19 V.1, fun z => by omega, fun _ => ?_⟩
    simp (disch := omega) only [ok_19 V.1, cr_19_0 V, cr_19_4 V, ok_13 V.1, hv, true_and]
    repeat (refine ⟨by omega, ?_⟩)
    refine sp_M_tl (mr_13 V) hm X.2.2.1 X.2.2.2 (by omega) (wl15 (by omega)) (wok3 hI w1) ?_
    simp (disch := omega) only [ok_19 V.1, cr_19_0 V, cr_19_4 V, ok_13 V.1, hv, true_and]
    repeat (refine ⟨by omega, ?_⟩)
    refine sp_M_tl (mr_13 V) hm X.2.2.1 X.2.2.2 (by omega) (wl15 (by omega)) (wok3 hI w1) ?_
    refine ⟨fun z => ?_, fun z => ⟨Or.inr trivial, (by first | exact q_at rfl (h1 fun g => z (lcmp0.mpr (g w hmem))) | exact (h1 fun g => z (lcmp0.mpr (g w hmem))))⟩⟩
    rw [w32_id (by omega) (by omega)]
    refine ih fun j v hj hv2 => ?_
    by_cases y : j = k
    · subst y
      rw [hw1] at hv2
      cases hv2
      exact lcmp0.mp z
    · exact e j v (by omega) hv2
def cspH (S I : Nat) (t o : Int → Int) (h h1 : HP) (k : Nat) : Prop := EX [23] [(19, 10)] h h1 ∧ h1 19 10 = ((spS I S t o k).length : Int) ∧ rowL (h1 23) 0 (spS I S t o k)
theorem rowL_add {f : Int → Int} {L : List Nat} {v : Nat} {h : HP} {c : Int} (hf : f = h c) (H : rowL f 0 L) : rowL ((ai_up h c (L.length : Int) (v : Int)) c) 0 (L ++ [v]) := by
  intro j w q
  rw [Int.zero_add]
  rw [List.getElem?_append] at q
  split at q
  · rw [up_oth (Or.inr (by omega)), ← hf]
    have := H j w q
    rwa [Int.zero_add] at this
  · have hj := (List.getElem?_eq_some_iff.mp q).1
    simp only [List.length_singleton] at hj
    have : j = L.length := by omega
    subst this
    rw [Nat.sub_self] at q
    cases q
    exact up_same
theorem sp_A_learnSplitters (V : CW n hr) (T : TV S I t o) (X : CX S I t o h) (hre : h 19 8 = (RMk S I t : Int)) (hsp : ∀ a b : Nat, a < S → b < S → h 21 (6 * (a : Int) + (b : Int)) = SPr I t o (a : Int) (b : Int)) (hQ : ∀ h1, EX [23] [(19, 10)] h h1 → h1 19 10 = ((SPL I S t o).length : Int) → rowL (h1 23) 0 (SPL I S t o) → Q (9, 0) n hr h1) : f_A_learnSplitters [(2, 19)] n hr h Q := by
  obtain ⟨hS, hI, hm, hc, hT⟩ := T
  apply e_A_learnSplitters
  refine ⟨ok_19 V.1, ?_⟩
  have := lupN (N := S) (P := fun a => ∀ h1, cspH S I t o h h1 (6 * a) → p_A_learnSplitters_7 (n + 0) (ai_q 0 n Q) 19 (a : Int) n hr h1) ?_ ?_
  · refine this _ ⟨EX_upp EX_rf (by decide), up_same, fun j w q => by cases q⟩
  · rintro h1 ⟨e1, e2, e3⟩
    have X1 := CX_fr X e1 (by decide) (by decide)
    have e36 : spS I S t o (6 * S) = spS I S t o 36 := by
      have : ∀ d, S + d ≤ 6 → spS I S t o (6 * (S + d)) = spS I S t o (6 * S) := by
        intro d
        induction d with
        | zero => intro _; rfl
        | succ d ih =>
          intro hd
          rw [← ih (by omega), show 6 * (S + (d + 1)) = 6 * (S + d) + 0 + 6 by omega, spS_skip (a := S + d) (b := 0) 6 (by omega) (fun y _ _ q => by omega)]
          rfl
      have := this (6 - S) (by omega)
      rw [← this, show 6 * (S + (6 - S)) = 36 by omega]
    rw [e36] at e2 e3
    refine b_A_learnSplitters_7 ?_
    simp (disch := omega) only [ok_19 V.1, cr_19_0 V, cr_19_4 V, ok_13 V.1, X1.1, true_and]
    refine ⟨fun _ => ⟨fun z => ?_, fun z => ⟨fun z2 => ?_, fun z2 => ?_⟩⟩, fun z => by omega⟩
    · have hne : spS I S t o 36 ≠ [] := fun q => z (by rw [e2, q]; rfl)
      have f1 : h1 19 10 = ((SPL I S t o).length : Int) := by unfold SPL; rw [if_neg hne]; exact e2
      have f2 : rowL (h1 23) 0 (SPL I S t o) := by unfold SPL; rw [if_neg hne]; exact e3
      exact (by first | exact q_at rfl (hQ h1 e1 f1 f2) | exact (hQ h1 e1 f1 f2))
    · have hnil : spS I S t o 36 = [] := List.length_eq_zero_iff.mp (by omega)
      have f1 : h1 19 10 = ((SPL I S t o).length : Int) := by unfold SPL; rw [if_pos hnil, if_neg (by omega)]; exact z
      have f2 : rowL (h1 23) 0 (SPL I S t o) := by unfold SPL; rw [if_pos hnil, if_neg (by omega)]; exact fun j w q => by cases q
      exact (by first | exact q_at rfl (hQ h1 e1 f1 f2) | exact (hQ h1 e1 f1 f2))
    · have hnil : spS I S t o 36 = [] := List.length_eq_zero_iff.mp (by omega)
      repeat (refine ⟨by omega, ?_⟩)
      have f0 : EX [23] [(19, 10)] h (ai_up (ai_up h1 23 0 0) 19 10 1) := EX_upp (EX_upc e1 (by decide)) (by decide)
      have f1 : (ai_up (ai_up h1 23 0 0) 19 10 1) 19 10 = ((SPL I S t o).length : Int) := by unfold SPL; rw [if_pos hnil, if_pos (by omega), up_same]; rfl
      have f2 : rowL ((ai_up (ai_up h1 23 0 0) 19 10 1) 23) 0 (SPL I S t o) := by
        unfold SPL; rw [if_pos hnil, if_pos (by omega)]
        intro j w q
        have hj : j < 1 := (List.getElem?_eq_some_iff.mp q).1
        have : j = 0 := by omega
        subst this
        cases q
        rw [up_oth (Or.inl (by decide))]
        exact up_same
      exact (by first | exact q_at rfl (hQ _ f0 f1 f2) | exact (hQ _ f0 f1 f2))
  · rintro a ha iha h1 ⟨e1, e2, e3⟩
    have X1 := CX_fr X e1 (by decide) (by decide)
    refine b_A_learnSplitters_7 ?_
    simp (disch := omega) only [ok_19 V.1, cr_19_0 V, cr_19_4 V, ok_13 V.1, X1.1, w32_id, true_and]
    refine ⟨fun z => by omega, fun _ => ?_⟩
    have := lupNa (N := S) (P := fun b => ∀ h1, cspH S I t o h h1 (6 * a + b) → p_A_learnSplitters_22 (n + 0) (ai_q 0 n Q) 19 (a : Int) (b : Int) n hr h1) (a + 1) (by omega) ?_ ?_
    · refine this h1 ?_
      unfold cspH
      have e := spS_skip (m := I) (S := S) (t := t) (o := o) (a := a) (b := 0) (a + 1) (by omega) (fun y _ _ q => by omega)
      rw [show 6 * a + (a + 1) = 6 * a + 0 + (a + 1) by omega, e]
      exact ⟨e1, e2, e3⟩
    · rintro h1 ⟨e1, e2, e3⟩
      have X1 := CX_fr X e1 (by decide) (by decide)
      refine b_A_learnSplitters_22 ?_
      simp (disch := omega) only [ok_19 V.1, cr_19_0 V, ok_13 V.1, X1.1, w32_id, true_and]
      refine ⟨fun _ => ?_, fun z => by omega⟩
      refine iha h1 ?_
      unfold cspH
      have e := spS_skip (m := I) (S := S) (t := t) (o := o) (a := a) (b := S) (6 - S) (by omega) (fun y _ _ q => by omega)
      rw [show 6 * (a + 1) = 6 * a + S + (6 - S) by omega, e]
      exact ⟨e1, e2, e3⟩
    · rintro b hab hb ihb h1 ⟨e1, e2, e3⟩
      have X1 := CX_fr X e1 (by decide) (by decide)
      have len := spS_len (S := S) hI (by omega) hS hm hc (6 * a + b)
      have r1 : h1 19 8 = (RMk S I t : Int) := by rw [EX_at e1 (by decide) (by decide)]; exact hre
      have r2 : h1 21 = h 21 := EX_fn e1 (by decide) (by decide)
      have ka : (6 * a + b) / 6 = a := by omega
      have kb : (6 * a + b) % 6 = b := by omega
      have no : ¬ ((6 * a + b) / 6 < (6 * a + b) % 6 ∧ (6 * a + b) % 6 < S ∧ 0 ≤ AC I t 0 (((6 * a + b) / 6 : Nat) : Int) ∧ 0 ≤ AC I t 0 (((6 * a + b) % 6 : Nat) : Int) ∧ SPr I t o (((6 * a + b) / 6 : Nat) : Int) (((6 * a + b) % 6 : Nat) : Int) ≠ -2 ∧ ∀ w ∈ spS I S t o (6 * a + b), aS t o (((6 * a + b) / 6 : Nat) : Int) w = aS t o (((6 * a + b) % 6 : Nat) : Int) w) → p_A_learnSplitters_22 (n + 0) (ai_q 0 n Q) 19 (a : Int) ((b : Int) + 1) n hr h1 := by
        intro z
        refine ihb h1 ?_
        unfold cspH
        rw [show 6 * a + (b + 1) = 6 * a + b + 1 by omega, spS_no z]
        exact ⟨e1, e2, e3⟩
      rw [ka, kb] at no
      refine b_A_learnSplitters_22 ?_
      simp (disch := omega) only [ok_19 V.1, cr_19_0 V, ok_13 V.1, X1.1, w32_id, true_and]
      refine ⟨fun z => by omega, fun _ => ?_⟩
      refine sp_A_isReached V r1 (by omega) (fun ya => ?_) (fun ya => ?_)
      · rw [RMk_tb] at ya
        refine ⟨fun q => absurd q (by decide), fun _ => ⟨ok_19 V.1, sp_A_isReached V r1 (by omega) (fun yb => ?_) (fun yb => ?_)⟩⟩
        · rw [RMk_tb] at yb
          refine ⟨fun q => absurd q (by decide), fun _ => ⟨ok_19 V.1, sp_A_areAlike V (by omega) (by omega) (fun z => ?_) (fun z => ?_)⟩⟩
          · rw [r2, hsp a b ha hb] at z
            refine ⟨fun _ => no fun q => q.2.2.2.2.1 z, fun q => absurd q (by decide)⟩
          · rw [r2, hsp a b ha hb] at z
            refine ⟨fun q => absurd rfl q, fun _ => ⟨ok_19 V.1, ?_⟩⟩
            refine sp_A_areSplit (L := spS I S t o (6 * a + b)) V ⟨hS, hI, hm, hc, hT⟩ X1 (by omega) (by omega) e2 (by omega) e3 (fun w hw => by have := spS_w hI hS hm hc _ w hw; exact ⟨this.1, this.2.2⟩) (fun y => ?_) (fun y => ?_)
            · exact ⟨fun _ => no fun q => y q.2.2.2.2.2, fun q => absurd q (by decide)⟩
            · refine ⟨fun q => absurd rfl q, fun _ => ⟨ok_19 V.1, fun q => by omega, fun _ => ?_⟩⟩
              have yes := spS_yes (m := I) (S := S) (t := t) (o := o) (k := 6 * a + b) (by
                rw [ka, kb]
                exact ⟨by omega, hb, ya.2, yb.2, z, y⟩)
              rw [ka, kb] at yes
              obtain ⟨v, v1⟩ : ∃ v : Nat, SPr I t o (a : Int) (b : Int) = (v : Int) := by
                rcases SPr_c (S := S) hI hS hm hc (a := (a : Int)) (b := (b : Int)) (by omega) (by omega) with ⟨q, _⟩ | ⟨v, q, _⟩
                · exact (z q).elim
                · exact ⟨v, q⟩
              rw [v1] at yes
              have hm3 : (a : Int) * 6 = 6 * (a : Int) := Int.mul_comm _ _
              simp (disch := omega) only [ok_19 V.1, cr_19_2 V, cr_19_4 V, w32_id, hm3, r2, hsp a b ha hb, e2, v1, up_oth, up_same, true_and]
              repeat (refine ⟨by omega, ?_⟩)
              refine ihb _ ?_
              unfold cspH
              rw [show 6 * a + (b + 1) = 6 * a + b + 1 by omega, yes]
              refine ⟨EX_upp (EX_upc e1 (by decide)) (by decide), ?_, ?_⟩
              · rw [up_same, List.length_append]; rfl
              · have := rowL_add (v := v) (h := h1) (c := 23) rfl e3
                intro j w q
                rw [up_oth (Or.inl (by decide))]
                exact this j w q
        · refine ⟨fun _ => no fun q => yb ((RMk_tb S I t b).mpr ⟨hb, q.2.2.2.1⟩), fun q => absurd rfl q⟩
      · refine ⟨fun _ => no fun q => ya ((RMk_tb S I t a).mpr ⟨ha, q.2.2.1⟩), fun q => absurd rfl q⟩
end
