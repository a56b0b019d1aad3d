-- deps: 18 19 20 21 23 24 25 26 27 28 29 22 30 31 32 33 34 35
/-! the reference: splitters; what is laid of a text -/
theorem lcmp0 {x y : Int} : l_cmp x y = 0 ↔ x = y := by
  unfold l_cmp
  by_cases h : x < y
  · rw [if_pos h]; omega
  · rw [if_neg h]
    by_cases h2 : x = y
    · rw [if_pos h2]; omega
    · rw [if_neg h2]; omega
theorem wl15 {w : Nat} (h : wlen w ≤ 15) : w < 4 ^ 15 := wlen_le.mp h
section
variable {Q : RP} {n : Nat} {hr h : HP} {S I : Nat} {t o : Int → Int}
theorem sp_N_ans {b p : Int} {w : Nat} (W : NW n hr) (hb : 0 ≤ b ∧ b ≤ 72) (hm : mok t o) (r1 : r24 (fun a => h 147 (b + a)) t) (r2 : r24 (fun a => h 148 (b + a)) o) (hp : 0 ≤ p ∧ p < 8) (hw : w < 4 ^ 15) (hk : wok 3 w) (hQ : Q (1, aS t o p w) n hr h) : f_N_answers [(2, 138), (0, b), (0, p), (0, (w : Int))] n hr h Q := by
  have hm2 := mok_r24 hm (r24_sy r1) (r24_sy r2)
  refine sp_N_answers (nrow_of W) hb hm2 hp hw hk ?_
  rw [aS_r24 r1 r2 hm2 hp w hk]; exact hQ
theorem sp_N_lead {b p : Int} {w : Nat} (W : NW n hr) (hb : 0 ≤ b ∧ b ≤ 72) (hm : mok t o) (r1 : r24 (fun a => h 147 (b + a)) t) (r2 : r24 (fun a => h 148 (b + a)) o) (hp : 0 ≤ p ∧ p < 8) (hw : w < 4 ^ 15) (hk : wok 3 w) (hQ : Q (0, dS t p w) n hr h) : f_N_leadsTo [(2, 138), (0, b), (0, p), (0, (w : Int))] n hr h Q := by
  have hm2 := mok_r24 hm (r24_sy r1) (r24_sy r2)
  refine sp_N_leadsTo (nrow_of W) hb hm2 hp hw hk ?_
  rw [(dS_r24 r1 (mok_t hm2) hp w hk).1]; exact hQ
/-- a row of words holds a list -/
def rowL (f : Int → Int) (b : Int) (L : List Nat) : Prop := ∀ (j w : Nat), L[j]? = some w → f (b + (j : Int)) = (w : Int)
theorem sp_N_isSplit {a b : Nat} {L : List Nat} (W : NW n hr) (T : TV S I t o) (X : NX S I t o h) (ha : a < 8) (hb : b < 8) (hl : h 138 29 = (L.length : Int)) (hl2 : L.length ≤ 6) (hL : rowL (h 154) 0 L) (hw : ∀ w ∈ L, wok I w ∧ wlen w ≤ 5) (h1 : ¬ (∀ w ∈ L, aS t o (a : Int) w = aS t o (b : Int) w) → Q (0, 1) n hr h) (h0 : (∀ w ∈ L, aS t o (a : Int) w = aS t o (b : Int) w) → Q (0, 0) n hr h) : f_N_isSplit [(2, 138), (0, (a : Int)), (0, (b : Int))] n hr h Q := by
  obtain ⟨hS, hI, hm, hc, _⟩ := T
  apply e_N_isSplit
  have := lupN (N := L.length) (P := fun k => (∀ (j w : Nat), j < k → L[j]? = some w → aS t o (a : Int) w = aS t o (b : Int) w) → p_N_isSplit_2 (n + 0) (ai_q 0 n Q) 138 (a : Int) (b : Int) (k : Int) n hr h) ?_ ?_
  · exact this fun j w hj => by omega
  · intro e
    refine b_N_isSplit_2 ⟨n0 W, fun _ => ⟨Or.inl rfl, q_at rfl (h0 fun w hwL => ?_)⟩, fun z => by omega⟩
    obtain ⟨j, hj⟩ := List.getElem?_of_mem hwL
    exact e j w (by have := (List.getElem?_eq_some_iff.mp hj).1; exact this) hj
  · intro k hk ih e
    obtain ⟨w, hw1⟩ : ∃ w, L[k]? = some w := ⟨_, List.getElem?_eq_getElem hk⟩
    have hmem := List.mem_of_getElem? hw1
    have hv := hL k w hw1
    rw [Int.zero_add] at hv
    obtain ⟨w1, w2⟩ := hw w hmem
    refine b_N_isSplit_2 ⟨n0 W, fun z => by omega, fun _ => ?_⟩
    simp (disch := omega) only [n0 W, nr_28 W, hv, true_and]
    repeat (refine ⟨by omega, ?_⟩)
    refine sp_N_ans W (by omega) hm (r24_z X.2.2.1) (r24_z X.2.2.2) (by omega) (wl15 (by omega)) (wok3 hI w1) ?_
    simp (disch := omega) only [n0 W, nr_28 W, hv, true_and]
    repeat (refine ⟨by omega, ?_⟩)
    refine sp_N_ans W (by omega) hm (r24_z X.2.2.1) (r24_z X.2.2.2) (by omega) (wl15 (by omega)) (wok3 hI w1) ?_
    refine ⟨fun z => ?_, fun z => ⟨Or.inr trivial, q_at rfl (h1 fun g => z (lcmp0.mpr (g w hmem)))⟩⟩
    rw [w32_id (by omega) (by omega)]
    refine ih fun j v hj hv2 => ?_
    by_cases y : j = k
    · subst y
      rw [hw1] at hv2
      cases hv2
      exact lcmp0.mp z
    · exact e j v (by omega) hv2
/-- what stands of splitters behind so many pairs -/
def spH (S I : Nat) (t o : Int → Int) (h h1 : HP) (k : Nat) : Prop := EX [154] [(138, 29)] h h1 ∧ h1 138 29 = ((spS I S t o k).length : Int) ∧ rowL (h1 154) 0 (spS I S t o k)
theorem spS_skip {m S : Nat} {t o : Int → Int} {a b : Nat} : ∀ (d : Nat), b + d ≤ 6 → (∀ y, b ≤ y → y < b + d → ¬ (a < y ∧ y < S)) → spS m S t o (6 * a + b + d) = spS m S t o (6 * a + b)
  | 0, _, _ => rfl
  | d + 1, h1, h2 => by
    rw [show 6 * a + b + (d + 1) = 6 * a + b + d + 1 by omega, spS_no, spS_skip d (by omega) fun y y1 y2 => h2 y y1 (by omega)]
    rw [show (6 * a + b + d) / 6 = a by omega, show (6 * a + b + d) % 6 = b + d by omega]
    exact fun q => h2 (b + d) (by omega) (by omega) ⟨q.1, q.2.1⟩
theorem sp_N_laysSplitters (W : NW n hr) (T : TV S I t o) (X : NX S I t o h) (hac : ∀ x : Nat, x < S → h 149 (x : Int) = AC I t 0 (x : Int)) (hsp : ∀ a b : Nat, a < S → b < S → h 153 (6 * (a : Int) + (b : Int)) = SPr I t o (a : Int) (b : Int)) (hQ : ∀ h1, EX [154] [(138, 29)] h h1 → h1 138 29 = ((SPL I S t o).length : Int) → rowL (h1 154) 0 (SPL I S t o) → Q (9, 0) n hr h1) : f_N_laysSplitters [(2, 138)] n hr h Q := by
  obtain ⟨hS, hI, hm, hc, hT⟩ := T
  apply e_N_laysSplitters
  refine ⟨n0 W, ?_⟩
  have := lupN (N := S) (P := fun a => ∀ h1, spH S I t o h h1 (6 * a) → p_N_laysSplitters_7 (n + 0) (ai_q 0 n Q) 138 (a : Int) n hr h1) ?_ ?_
  · refine this _ ⟨EX_upp EX_rf (by decide), up_same, fun j w q => by cases q⟩
  · rintro h1 ⟨e1, e2, e3⟩
    have X1 := NX_fr X e1 (by decide) (by decide)
    have e36 : spS I S t o (6 * S) = spS I S t o 36 := by
      have : ∀ d, S + d ≤ 6 → spS I S t o (6 * (S + d)) = spS I S t o (6 * S) := by
        intro d
        induction d with
        | zero => intro _; rfl
        | succ d ih =>
          intro hd
          rw [← ih (by omega), show 6 * (S + (d + 1)) = 6 * (S + d) + 0 + 6 by omega, spS_skip (a := S + d) (b := 0) 6 (by omega) (fun y _ _ q => by omega)]
          rfl
      have := this (6 - S) (by omega)
      rw [← this, show 6 * (S + (6 - S)) = 36 by omega]
    rw [e36] at e2 e3
    refine b_N_laysSplitters_7 ⟨n0 W, sp_N_states W ⟨fun _ => ⟨n0 W, fun z => q_at rfl ?_, fun z => ⟨n0 W, sp_N_states W ⟨fun z2 => q_at rfl ?_, fun z2 => ?_⟩⟩⟩, fun z => ?_⟩⟩
    · have hne : spS I S t o 36 ≠ [] := fun q => z (by rw [e2, q]; rfl)
      refine hQ h1 e1 ?_ ?_
      · unfold SPL; rw [if_neg hne]; exact e2
      · unfold SPL; rw [if_neg hne]; exact e3
    · dsimp only at z2; rw [X1.1] at z2
      have hnil : spS I S t o 36 = [] := List.length_eq_zero_iff.mp (by omega)
      refine hQ h1 e1 ?_ ?_
      · unfold SPL; rw [if_pos hnil, if_neg (by omega)]; exact z
      · unfold SPL; rw [if_pos hnil, if_neg (by omega)]; exact fun j w q => by cases q
    · dsimp only at z2; rw [X1.1] at z2
      have hnil : spS I S t o 36 = [] := List.length_eq_zero_iff.mp (by omega)
      simp (disch := omega) only [n0 W, nr_28 W, true_and]
      repeat (refine ⟨by omega, ?_⟩)
      refine hQ (ai_up (ai_up h1 154 0 0) 138 29 1) (EX_upp (EX_upc e1 (by decide)) (by decide)) ?_ ?_
      · unfold SPL; rw [if_pos hnil, if_pos (by omega), up_same]; rfl
      · unfold SPL; rw [if_pos hnil, if_pos (by omega)]
        intro j w q
        have hj : j < 1 := (List.getElem?_eq_some_iff.mp q).1
        have : j = 0 := by omega
        subst this
        cases q
        rw [up_oth (Or.inl (by decide))]
        exact up_same
    · dsimp only at z; rw [X1.1] at z; omega
  · rintro a ha iha h1 ⟨e1, e2, e3⟩
    have X1 := NX_fr X e1 (by decide) (by decide)
    refine b_N_laysSplitters_7 ⟨n0 W, sp_N_states W ⟨fun z => ?_, fun _ => ?_⟩⟩
    · dsimp only at z; rw [X1.1] at z; omega
    · rw [w32_id (by omega) (by omega)]
      have := lupNa (N := S) (P := fun b => ∀ h1, spH S I t o h h1 (6 * a + b) → p_N_laysSplitters_19 (n + 0) (ai_q 0 n Q) 138 (a : Int) (b : Int) n hr h1) (a + 1) (by omega) ?_ ?_
      · refine this h1 ?_
        unfold spH
        have e := spS_skip (m := I) (S := S) (t := t) (o := o) (a := a) (b := 0) (a + 1) (by omega) (fun y _ _ q => by omega)
        rw [show 6 * a + (a + 1) = 6 * a + 0 + (a + 1) by omega, e]
        exact ⟨e1, e2, e3⟩
      · rintro h1 ⟨e1, e2, e3⟩
        have X1 := NX_fr X e1 (by decide) (by decide)
        refine b_N_laysSplitters_19 ⟨n0 W, sp_N_states W ⟨fun _ => ?_, fun z => ?_⟩⟩
        · rw [w32_id (by omega) (by omega)]
          refine iha h1 ?_
          unfold spH
          have e := spS_skip (m := I) (S := S) (t := t) (o := o) (a := a) (b := S) (6 - S) (by omega) (fun y _ _ q => by omega)
          rw [show 6 * (a + 1) = 6 * a + S + (6 - S) by omega, e]
          exact ⟨e1, e2, e3⟩
        · dsimp only at z; rw [X1.1] at z; omega
      · rintro b hab hb ihb h1 ⟨e1, e2, e3⟩
        have X1 := NX_fr X e1 (by decide) (by decide)
        have len := spS_len (S := S) hI (by omega) hS hm hc (6 * a + b)
        have r1 : h1 149 = h 149 := EX_fn e1 (by decide) (by decide)
        have r2 : h1 153 = h 153 := EX_fn e1 (by decide) (by decide)
        have ka : (6 * a + b) / 6 = a := by omega
        have kb : (6 * a + b) % 6 = b := by omega
        have no : ¬ ((6 * a + b) / 6 < (6 * a + b) % 6 ∧ (6 * a + b) % 6 < S ∧ 0 ≤ AC I t 0 (((6 * a + b) / 6 : Nat) : Int) ∧ 0 ≤ AC I t 0 (((6 * a + b) % 6 : Nat) : Int) ∧ SPr I t o (((6 * a + b) / 6 : Nat) : Int) (((6 * a + b) % 6 : Nat) : Int) ≠ -2 ∧ ∀ w ∈ spS I S t o (6 * a + b), aS t o (((6 * a + b) / 6 : Nat) : Int) w = aS t o (((6 * a + b) % 6 : Nat) : Int) w) → p_N_laysSplitters_19 (n + 0) (ai_q 0 n Q) 138 (a : Int) (w32 ((b : Int) + 1)) n hr h1 := by
          intro z
          rw [w32_id (by omega) (by omega)]
          refine ihb h1 ?_
          unfold spH
          rw [show 6 * a + (b + 1) = 6 * a + b + 1 by omega, spS_no z]
          exact ⟨e1, e2, e3⟩
        rw [ka, kb] at no
        refine b_N_laysSplitters_19 ⟨n0 W, sp_N_states W ⟨fun z => ?_, fun _ => ⟨n0 W, sp_N_isReached W (by omega) (fun ya => ?_) (fun ya => ?_)⟩⟩⟩
        · dsimp only at z; rw [X1.1] at z; omega
        · refine ⟨fun q => absurd q (by decide), fun _ => ⟨n0 W, sp_N_isReached W (by omega) (fun yb => ?_) (fun yb => ?_)⟩⟩
          · rw [r1, hac a ha] at ya
            rw [r1, hac b hb] at yb
            refine ⟨fun q => absurd q (by decide), fun _ => ?_⟩
            simp (disch := omega) only [n0 W, nr_27 W, w32_id, r2, hsp a b ha hb, true_and]
            repeat (refine ⟨by omega, ?_⟩)
            refine ⟨fun z => ?_, fun z => ?_⟩
            · have := no fun q => q.2.2.2.2.1 z
              rwa [w32_id (by omega) (by omega)] at this
            · refine sp_N_isSplit (L := spS I S t o (6 * a + b)) W ⟨hS, hI, hm, hc, hT⟩ X1 (by omega) (by omega) e2 (by omega) e3 (fun w hw => by have := spS_w hI hS hm hc _ w hw; exact ⟨this.1, this.2.2⟩) (fun y => ?_) (fun y => ?_)
              · refine ⟨fun q => absurd q (by decide), fun _ => ?_⟩
                have := no fun q => y q.2.2.2.2.2
                rwa [w32_id (by omega) (by omega)] at this
              · refine ⟨fun _ => ?_, fun q => absurd rfl q⟩
                have yes := spS_yes (m := I) (S := S) (t := t) (o := o) (k := 6 * a + b) (by
                  rw [ka, kb]
                  exact ⟨by omega, hb, ya, yb, z, y⟩)
                rw [ka, kb] at yes
                obtain ⟨v, v1⟩ : ∃ v : Nat, SPr I t o (a : Int) (b : Int) = (v : Int) := by
                  rcases SPr_c (S := S) hI hS hm hc (a := (a : Int)) (b := (b : Int)) (by omega) (by omega) with ⟨q, _⟩ | ⟨v, q, _⟩
                  · exact (z q).elim
                  · exact ⟨v, q⟩
                rw [v1] at yes
                simp (disch := omega) only [n0 W, nr_27 W, nr_28 W, w32_id, r2, hsp a b ha hb, e2, v1, up_oth, up_same, true_and]
                repeat (refine ⟨by omega, ?_⟩)
                refine ihb _ ?_
                unfold spH
                rw [show 6 * a + (b + 1) = 6 * a + b + 1 by omega, yes]
                refine ⟨EX_upp (EX_upc e1 (by decide)) (by decide), ?_, fun j w q => ?_⟩
                · rw [up_same, List.length_append]; rfl
                · rw [up_oth (Or.inl (by decide)), Int.zero_add]
                  rw [List.getElem?_append] at q
                  split at q
                  · rename_i hj
                    rw [up_oth (Or.inr (by omega))]
                    have := e3 j w q
                    rwa [Int.zero_add] at this
                  · have hj := (List.getElem?_eq_some_iff.mp q).1
                    simp only [List.length_singleton] at hj
                    have : j = (spS I S t o (6 * a + b)).length := by omega
                    subst this
                    rw [Nat.sub_self] at q
                    cases q
                    exact up_same
          · refine ⟨fun _ => no fun q => ?_, fun q => absurd rfl q⟩
            rw [r1, hac b hb] at yb
            omega
        · refine ⟨fun _ => no fun q => ?_, fun q => absurd rfl q⟩
          rw [r1, hac a ha] at ya
          omega
/-- nothing is worked out yet -/
def NF (h : HP) : Prop := h 138 31 = 0 ∧ (∀ k : Nat, k < 2 → h 158 (k : Int) = 0 ∧ h 157 (k : Int) = 0 ∧ h 175 (k : Int) = -1) ∧ (∀ k : Nat, k < 6 → h 162 (k : Int) = -1) ∧ (∀ k : Nat, k < 4 → h 165 (k : Int) = 0 ∧ h 167 (k : Int) = 0) ∧ ∀ k : Nat, k < 3 → h 172 (k : Int) = 0
theorem sp_N_forgets (W : NW n hr) (hQ : ∀ h1, EX [157, 158, 175, 162, 165, 167, 172] [(138, 31)] h h1 → NF h1 → Q (9, 0) n hr h1) : f_N_forgets [(2, 138)] n hr h Q := by
  apply e_N_forgets
  refine ⟨n0 W, Or.inl rfl, ?_⟩
  have := lupN (N := 2) (P := fun a => ∀ h1, EX [157, 158, 175, 162, 165, 167, 172] [(138, 31)] h h1 → h1 138 31 = 0 → (∀ k : Nat, k < a → h1 158 (k : Int) = 0 ∧ h1 157 (k : Int) = 0 ∧ h1 175 (k : Int) = -1) → p_N_forgets_7 (n + 0) (ai_q 0 n Q) 138 (a : Int) n hr h1) ?_ ?_
  · exact this _ (EX_upp EX_rf (by decide)) up_same (fun k hk => by omega)
  · intro h1 e1 e2 e3
    refine b_N_forgets_7 ⟨fun _ => ?_, fun z => by omega⟩
    have := lupN (N := 6) (P := fun a => ∀ h1, EX [157, 158, 175, 162, 165, 167, 172] [(138, 31)] h h1 → h1 138 31 = 0 → (∀ k : Nat, k < 2 → h1 158 (k : Int) = 0 ∧ h1 157 (k : Int) = 0 ∧ h1 175 (k : Int) = -1) → (∀ k : Nat, k < a → h1 162 (k : Int) = -1) → p_N_forgets_41 (n + 0) (ai_q 0 n Q) 138 (a : Int) n hr h1) ?_ ?_
    · exact this h1 e1 e2 e3 (fun k hk => by omega)
    · intro h1 e1 e2 e3 e4
      refine b_N_forgets_41 ⟨fun _ => ?_, fun z => by omega⟩
      have := lupN (N := 4) (P := fun a => ∀ h1, EX [157, 158, 175, 162, 165, 167, 172] [(138, 31)] h h1 → h1 138 31 = 0 → (∀ k : Nat, k < 2 → h1 158 (k : Int) = 0 ∧ h1 157 (k : Int) = 0 ∧ h1 175 (k : Int) = -1) → (∀ k : Nat, k < 6 → h1 162 (k : Int) = -1) → (∀ k : Nat, k < a → h1 165 (k : Int) = 0 ∧ h1 167 (k : Int) = 0) → p_N_forgets_62 (n + 0) (ai_q 0 n Q) 138 (a : Int) n hr h1) ?_ ?_
      · exact this h1 e1 e2 e3 e4 (fun k hk => by omega)
      · intro h1 e1 e2 e3 e4 e5
        refine b_N_forgets_62 ⟨fun _ => ?_, fun z => by omega⟩
        have := lupN (N := 3) (P := fun a => ∀ h1, EX [157, 158, 175, 162, 165, 167, 172] [(138, 31)] h h1 → h1 138 31 = 0 → (∀ k : Nat, k < 2 → h1 158 (k : Int) = 0 ∧ h1 157 (k : Int) = 0 ∧ h1 175 (k : Int) = -1) → (∀ k : Nat, k < 6 → h1 162 (k : Int) = -1) → (∀ k : Nat, k < 4 → h1 165 (k : Int) = 0 ∧ h1 167 (k : Int) = 0) → (∀ k : Nat, k < a → h1 172 (k : Int) = 0) → p_N_forgets_89 (n + 0) (ai_q 0 n Q) 138 (a : Int) n hr h1) ?_ ?_
        · exact this h1 e1 e2 e3 e4 e5 (fun k hk => by omega)
        · intro h1 e1 e2 e3 e4 e5 e6
          exact b_N_forgets_89 ⟨fun _ => q_at rfl (hQ h1 e1 ⟨e2, e3, e4, e5, e6⟩), fun z => by omega⟩
        · intro k hk ih h1 e1 e2 e3 e4 e5 e6
          refine b_N_forgets_89 ⟨fun z => by omega, fun _ => ?_⟩
          simp (disch := omega) only [n0 W, nr_55 W, w32_id, true_and, true_or]
          repeat (refine ⟨by omega, ?_⟩)
          refine ih _ (EX_upc e1 (by decide)) ?_ ?_ ?_ ?_ ?_
          · simp (disch := omega) only [up_same, up_oth]
            exact e2
          · intro j hj; simp (disch := omega) only [up_same, up_oth]
            exact e3 j hj
          · intro j hj; simp (disch := omega) only [up_same, up_oth]
            exact e4 j hj
          · intro j hj; simp (disch := omega) only [up_same, up_oth]
            exact e5 j hj
          · intro j hj
            by_cases z : j = k
            · subst z; simp (disch := omega) only [up_same, up_oth]
            · simp (disch := omega) only [up_same, up_oth]
              exact e6 j (by omega)
      · intro k hk ih h1 e1 e2 e3 e4 e5
        refine b_N_forgets_62 ⟨fun z => by omega, fun _ => ?_⟩
        simp (disch := omega) only [n0 W, nr_48 W, nr_50 W, w32_id, true_and, true_or]
        repeat (refine ⟨by omega, ?_⟩)
        refine ih _ (EX_upc (EX_upc e1 (by decide)) (by decide)) ?_ ?_ ?_ ?_
        · simp (disch := omega) only [up_same, up_oth]
          exact e2
        · intro j hj; simp (disch := omega) only [up_same, up_oth]
          exact e3 j hj
        · intro j hj; simp (disch := omega) only [up_same, up_oth]
          exact e4 j hj
        · intro j hj
          by_cases z : j = k
          · subst z; simp (disch := omega) only [up_same, up_oth]
            exact ⟨trivial, trivial⟩
          · simp (disch := omega) only [up_same, up_oth]
            exact e5 j (by omega)
    · intro k hk ih h1 e1 e2 e3 e4
      refine b_N_forgets_41 ⟨fun z => by omega, fun _ => ?_⟩
      simp (disch := omega) only [n0 W, nr_39 W, w32_id, true_and, true_or]
      repeat (refine ⟨by omega, ?_⟩)
      refine ih _ (EX_upc e1 (by decide)) ?_ ?_ ?_
      · simp (disch := omega) only [up_same, up_oth]
        exact e2
      · intro j hj; simp (disch := omega) only [up_same, up_oth]
        exact e3 j hj
      · intro j hj
        by_cases z : j = k
        · subst z; simp (disch := omega) only [up_same, up_oth]
        · simp (disch := omega) only [up_same, up_oth]
          exact e4 j (by omega)
  · intro k hk ih h1 e1 e2 e3
    refine b_N_forgets_7 ⟨fun z => by omega, fun _ => ?_⟩
    simp (disch := omega) only [n0 W, nr_34 W, nr_33 W, nr_58 W, w32_id, true_and, true_or]
    repeat (refine ⟨by omega, ?_⟩)
    refine ih _ (EX_upc (EX_upc (EX_upc e1 (by decide)) (by decide)) (by decide)) ?_ ?_
    · simp (disch := omega) only [up_same, up_oth]
      exact e2
    · intro j hj
      by_cases z : j = k
      · subst z; simp (disch := omega) only [up_same, up_oth]
        exact ⟨trivial, trivial, trivial⟩
      · simp (disch := omega) only [up_same, up_oth]
        exact e3 j (by omega)
end
