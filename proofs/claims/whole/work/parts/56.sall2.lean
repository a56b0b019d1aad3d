-- deps: 18 19 20 21 23 24 25 26 27 28 29 22 30 31 32 33 34 35 36 37 38 39 40 41 42 43 44 45 46 47 48 49 51 52 53 54 55
/-! the class: words for all, found and kept -/
section
variable {Q : RP} {n : Nat} {hr h : HP} {S I : Nat} {t o : Int → Int}
theorem sp_S_findForAll {wh : Nat} (V : CW n hr) (T : TV S I t o) (X : CX S I t o h) (hre : h 19 8 = (RMk S I t : Int)) (hwh : wh < 3) (hc0 : SC h) (hQ : ∀ h1, EX [28, 29, 30] [(27, 10)] h h1 → SC h1 → Q (0, FAw I t o (RMk S I t) wh) n hr h1) : f_S_findForAll [(2, 27), (0, (wh : Int))] n hr h Q := by
  have TT := T
  obtain ⟨hS, hI, hm, hc, hTT⟩ := T
  have hR64 := RMk_lt (S := S) (I := I) hS t
  have hR : ∀ x, (RMk S I t).testBit x = true → x < S := fun x hx => ((RMk_tb S I t x).mp hx).1
  generalize hRR : RMk S I t = R at *
  have p2 := popc_two (m := R) (by omega)
  have fin : ∀ (v l : Int) (h1 : HP) (tail : Nat) (sp : Nat → Nat) (P : Nat → Int), v = FAw I t o R wh → EX [28, 29, 30] [(27, 10)] h h1 → SQ h1 tail sp P → (v ≠ -2 ∨ (tail : Int) ≤ l) → p_S_findForAll_33 (n + 0) (ai_q 0 n Q) 27 (wh : Int) v l n hr h1 := by
    intro v l h1 tail sp P hv e1 hq hl
    have lv : f_S_leave [(2, 27)] n hr h1 (fun r1 n1 hr1 h1 => ai_q 0 n Q (0, v) n1 hr1 h1) := by
      refine sp_S_leave V hq fun h2 e2 s2 => q_at rfl ?_
      rw [hv]
      exact hQ h2 (EX_tr e1 (EX_le e2 (by decide) (by decide))) s2
    refine b_S_findForAll_33 ?_
    simp (disch := omega) only [ok_27 V.1, cr_27_2 V, hq.1, true_and]
    refine ⟨fun _ => lv, fun z => ⟨fun _ => lv, fun z2 => ⟨fun _ => lv, fun z3 => ?_⟩⟩⟩
    rcases hl with q | q
    · exact (q z3).elim
    · omega
  apply e_S_findForAll
  simp only [ok_27 V.1, cr_27_1 V, ok_19 V.1, hre, true_and]
  refine sp_J_bitCount (by omega) ⟨fun z => ?_, fun z => ?_⟩
  · have hR2 : two R := p2.mp (by dsimp only at z; omega)
    have hR0 := two_ne hR2
    have hdd := WT_d (S := S) (t := t) (o := o) wh
    have hGd : ¬ ((262144 : Nat) = 0) := by omega
    have sgn : FAw I t o R wh = fw (fun w => wok I w ∧ wlen w ≤ 8 ∧ sg (WT S t o wh) R w = 0) := fw_ext fun w => by
      constructor
      · rintro ⟨a, b, c⟩; exact ⟨a, b, (WT_goal hS hI hm hc hR hR64 hR2 hwh a).mp c⟩
      · rintro ⟨a, b, c⟩; exact ⟨a, b, (WT_goal hS hI hm hc hR hR64 hR2 hwh a).mpr c⟩
    have main : ∀ (d k : Nat), 3280 - k = d → ∀ (tail : Nat) (sp pa : Nat → Nat) (h1 : HP), BS I 262144 (WT S t o wh) R (fun x => x = 0) sp pa tail k 0 → EX [28, 29, 30] [(27, 10)] h h1 → SQ h1 tail sp (fun j => (pa j : Int)) → p_S_findForAll_33 (n + 0) (ai_q 0 n Q) 27 (wh : Int) (-2) (k : Int) n hr h1 := by
      intro d
      induction d with
      | zero =>
        intro k hk tail sp pa h1 hv e1 hq
        have := BS_tail hv
        refine fin (-2) _ h1 tail sp _ ?_ e1 hq (Or.inr (by omega))
        rw [sgn]; exact (BS_no hv hdd hGd hR0 (by omega)).symm
      | succ d ih =>
        intro k hk tail sp pa h1 hv e1 hq
        have ht := BS_tail hv
        by_cases zk : tail ≤ k
        · refine fin (-2) _ h1 tail sp _ ?_ e1 hq (Or.inr (by omega))
          rw [sgn]; exact (BS_no hv hdd hGd hR0 (by omega)).symm
        · refine b_S_findForAll_33 ?_
          simp (disch := omega) only [ok_27 V.1, cr_27_2 V, hq.1, true_and]
          refine ⟨fun z => by omega, fun _ => ⟨fun z => by omega, fun _ => ⟨fun q => absurd rfl q, fun _ => ?_⟩⟩⟩
          have inner : ∀ (d i : Nat), I - i = d → ∀ (tail : Nat) (sp pa : Nat → Nat) (h1 : HP), k < tail → BS I 262144 (WT S t o wh) R (fun x => x = 0) sp pa tail k i → EX [28, 29, 30] [(27, 10)] h h1 → SQ h1 tail sp (fun j => (pa j : Int)) → p_S_findForAll_57 (n + 0) (ai_q 0 n Q) 27 (wh : Int) (-2) (k : Int) (i : Int) n hr h1 := by
            intro d
            induction d with
            | zero =>
              intro i hi tail sp pa h1 hkt hv e1 hq
              have ht := BS_tail hv
              have X1 := CX_q X e1
              have hi2 : i = I := by omega
              subst hi2
              refine b_S_findForAll_57 ?_
              simp (disch := omega) only [ok_27 V.1, cr_27_0 V, ok_13 V.1, X1.2.1, w32_id, true_and]
              exact ⟨fun _ => ih (k + 1) (by omega) tail sp pa h1 (BS_n hv hkt) e1 hq, fun z => by omega⟩
            | succ d ihd =>
              intro i hi tail sp pa h1 hkt hv e1 hq
              have ht := BS_tail hv
              have X1 := CX_q X e1
              have hiI : i < I := by omega
              have hdd2 : I - (i + 1) = d := by omega
              have g28 := (hq.2.2.1 k hkt).2.1
              have g29 := (hq.2.2.1 k hkt).2.2
              have spl := (hq.2.2.1 k hkt).1
              have pk := hv.2.1 k hkt
              have pth : (pa k : Int) * 4 + (i : Int) + 1 = ((4 * pa k + i + 1 : Nat) : Int) := by omega
              have nogoal : ¬ WT S t o wh (sp k) i = 0 → (4 * pa k + i + 1 < 16384 → WT S t o wh (sp k) i ≠ 262144 → ∃ j, j < tail ∧ sp j = WT S t o wh (sp k) i) → p_S_findForAll_57 (n + 0) (ai_q 0 n Q) 27 (wh : Int) (-2) (k : Int) ((i : Int) + 1) n hr h1 := fun z1 z2 => ihd (i + 1) hdd2 tail sp pa h1 hkt (BS_o hv hkt hiI z1 z2) e1 hq
              have tl : ∀ r : Int, r = (if WT S t o wh (sp k) i = 262144 then -1 else (WT S t o wh (sp k) i : Int)) → (r ≠ 0 → ((16384 : Int) ≤ ((4 * pa k + i + 1 : Nat) : Int) → p_S_findForAll_57 (n + 0) (ai_q 0 n Q) 27 (wh : Int) (-2) (k : Int) ((i : Int) + 1) n hr h1) ∧ (((4 * pa k + i + 1 : Nat) : Int) < (16384 : Int) → ai_ok n 27 5 ∧ f_S_push [(2, 27), (0, r), (0, ((4 * pa k + i + 1 : Nat) : Int))] n hr h1 fun r2 n2 hr2 h2 => p_S_findForAll_57 (n + 0) (ai_q 0 n Q) 27 (wh : Int) (-2) (k : Int) ((i : Int) + 1) n2 hr2 h2)) ∧ (r = 0 → p_S_findForAll_57 (n + 0) (ai_q 0 n Q) 27 (wh : Int) ((4 * pa k + i + 1 : Nat) : Int) (k : Int) ((i : Int) + 1) n hr h1) := by
                rintro r rfl
                by_cases zd : WT S t o wh (sp k) i = 262144
                · rw [if_pos zd]
                  refine ⟨fun _ => ⟨fun _ => nogoal (by omega) (fun _ q => (q zd).elim), fun _ => ⟨ok_27 V.1, sp_S_push_no (by omega) (nogoal (by omega) (fun _ q => (q zd).elim))⟩⟩, fun q => absurd q (by decide)⟩
                · rw [if_neg zd]
                  have sm2 : WT S t o wh (sp k) i < 262144 := by
                    have b := hv.1.2.2.2.2.1 k hkt
                    have w2 := (wok_cc (m := I) (v := pa k) (j := i) (by omega)).mpr ⟨by omega, b.1⟩
                    have := WT_lt hS hI hm hc hR hR64 hR2 (what := wh) w2
                    rw [sg_c _ _ (by omega), b.2.1] at this
                    exact this.resolve_left zd
                  refine ⟨fun z8 => ⟨fun zl => nogoal (by omega) (fun q => by omega), fun zl => ⟨ok_27 V.1, ?_⟩⟩, fun z8 => ?_⟩
                  · refine sp_S_push V hq sm2 (fun hno => ?_) (fun zold => nogoal (by omega) (fun _ _ => zold)) (fun znew h2 e2 q2 => ?_)
                    · have := BS_tail (BS_p hv hkt hiI (by omega) (by omega) zd hno)
                      omega
                    · have hv2 := BS_p hv hkt hiI (by omega) (by omega) zd znew
                      refine ihd (i + 1) hdd2 (tail + 1) _ _ h2 (by omega) hv2 (EX_tr e1 e2) ?_
                      have : (fun j => (((if j = tail then 4 * pa k + i + 1 else pa j) : Nat) : Int)) = (fun j => if j = tail then ((4 * pa k + i + 1 : Nat) : Int) else (pa j : Int)) := by
                        funext j; split <;> rfl
                      rw [this]; exact q2
                  · have e := BS_at hv hdd hGd hR0 hkt hiI (show WT S t o wh (sp k) i = 0 by omega)
                    have fnd := fin ((4 * pa k + i + 1 : Nat) : Int) ((k : Int) + 1) h1 tail sp _ (by rw [sgn]; exact e.1.symm) e1 hq (Or.inl (by omega))
                    refine b_S_findForAll_57 ?_
                    simp (disch := omega) only [ok_27 V.1, cr_27_0 V, ok_13 V.1, X1.2.1, w32_id (x := (k : Int) + 1), true_and]
                    exact ⟨fun _ => fnd, fun _ => ⟨fun _ => fnd, fun q => by omega⟩⟩
              have tl0 := tl _ rfl
              refine b_S_findForAll_57 ?_
              simp (disch := omega) only [ok_27 V.1, cr_27_0 V, ok_13 V.1, cr_27_2 V, cr_27_3 V, X1.2.1, g28, g29, w32_id, pth, true_and, true_or, or_true]
              refine ⟨fun z => by omega, fun _ => ⟨fun q => absurd rfl q, fun _ => ?_⟩⟩
              repeat (refine ⟨by omega, ?_⟩)
              have e0 : wh = 0 → WT S t o wh = GT S t o true := fun q => by unfold WT; rw [if_pos q]
              have e1' : wh = 1 → WT S t o wh = GT S t o false := fun q => by subst q; unfold WT; rw [if_neg (by decide), if_pos rfl]
              have e2' : wh = 2 → WT S t o wh = FT S t := fun q => by subst q; unfold WT; rw [if_neg (by decide), if_neg (by decide)]
              refine ⟨fun z0 => ?_, fun z0 => ⟨fun z1 => ?_, fun z1 => ?_⟩⟩
              · repeat (refine ⟨by omega, ?_⟩)
                refine fun _ => ?_
                rw [e0 (by omega)] at tl0
                exact sp_S_followGroups (ap := true) V TT X1 spl (by omega) tl0
              · repeat (refine ⟨by omega, ?_⟩)
                rw [e2' (by omega)] at tl0
                have b := hv.1.2.2.2.2.1 k hkt
                have s64 : sp k < 64 := by
                  rw [e2' (by omega)] at b
                  rcases FT_sem hS hI hc hR hR64 hR2 (pa k) b.1 with ⟨a1, _⟩ | ⟨_, a1, _⟩
                  · rw [← b.2.1, a1]; omega
                  · rw [← b.2.1]; exact a1
                have ef : FT S t (sp k) i = FAz S t (sp k) i := if_neg (by omega)
                have lf := FAz_lt hS hc (set := sp k) (show i < 3 by omega)
                rw [ef, if_neg (by omega)] at tl0
                exact sp_S_followAll V TT X1 s64 (by omega) tl0
              · repeat (refine ⟨by omega, ?_⟩)
                refine ⟨fun _ => ?_, fun q => absurd q z0⟩
                rw [e1' (by omega)] at tl0
                exact sp_S_followGroups (ap := false) V TT X1 spl (by omega) tl0
          exact inner I 0 (by omega) tail sp pa h1 (by omega) hv e1 hq
    simp only [ok_27 V.1, cr_27_1 V, ok_19 V.1, hre, true_and]
    refine sp_S_push (sp := fun _ => R) (P := fun _ => 0) V (SQ_0 hc0) (by omega) (fun _ => by omega) (fun q => ?_) (fun _ h2 e2 q2 => ?_)
    · obtain ⟨j, hj, _⟩ := q; omega
    · have e1 : (fun j => if j = 0 then R else R) = (fun _ : Nat => R) := by funext j; split <;> rfl
      have e2' : (fun j : Nat => if j = 0 then (0 : Int) else 0) = (fun j : Nat => (((fun _ => 0 : Nat → Nat) j : Nat) : Int)) := by funext j; split <;> rfl
      rw [e1, e2'] at q2
      exact main 3280 0 rfl 1 (fun _ => R) (fun _ => 0) h2 (BS_0 hI (by omega)) e2 q2
  · have hn2 : ¬ two R := fun q => by have := p2.mpr q; dsimp only at z; omega
    have v0 : FAw I t o R wh = 0 := fw_at (k := 0) ⟨wok_0 I, by rw [wlen_0]; omega, fun a b hab ha hb => (hn2 ⟨a, b, hab, ha, hb⟩).elim⟩ (fun j hj => by omega)
    have := hQ h EX_rf hc0
    rw [v0] at this
    exact (by first | exact q_at rfl (this) | exact (this))
def CFa (S I : Nat) (t o : Int → Int) (h : HP) : Prop := ∀ w : Nat, w < 3 → h 32 (w : Int) = -9 ∨ h 32 (w : Int) = FAw I t o (RMk S I t) w
theorem sp_S_wordForAll {wh : Nat} (V : CW n hr) (T : TV S I t o) (X : CX S I t o h) (hre : h 19 8 = (RMk S I t : Int)) (hwh : wh < 3) (hc0 : SC h) (hg : CFa S I t o h) (hQ : ∀ h1, EX [28, 29, 30, 32] [(27, 10)] h h1 → SC h1 → CFa S I t o h1 → Q (0, FAw I t o (RMk S I t) wh) n hr h1) : f_S_wordForAll [(2, 27), (0, (wh : Int))] n hr h Q := by
  have hS := T.1
  apply e_S_wordForAll
  simp (disch := omega) only [ok_27 V.1, cr_27_6 V, true_and]
  repeat (refine ⟨by omega, ?_⟩)
  refine ⟨fun z => ?_, fun z => ?_⟩
  · repeat (refine ⟨by omega, ?_⟩)
    rcases hg wh hwh with q | q
    · exact (z q).elim
    · rw [q]
      have := hQ h EX_rf hc0 hg
      exact (by first | exact q_at rfl (this) | exact (this))
  · refine sp_S_findForAll V T X hre hwh hc0 fun h1 e1 s1 => ?_
    simp (disch := omega) only [ok_27 V.1, cr_27_6 V, up_same, true_and]
    repeat (refine ⟨by omega, ?_⟩)
    have := hQ (ai_up h1 32 (wh : Int) (FAw I t o (RMk S I t) wh)) (EX_upc (EX_le e1 (by decide) (by decide)) (by decide)) (SC_fr s1 (up_oth (Or.inl (by decide))) (funext fun j => up_oth (Or.inl (by decide)))) fun x hx => by
      by_cases y : x = wh
      · subst y; exact Or.inr up_same
      · rw [up_oth (Or.inr (by omega)), EX_fn e1 (c := 32) (by decide) (by decide)]
        exact hg x hx
    exact (by first | exact q_at rfl (this) | exact (this))
end
