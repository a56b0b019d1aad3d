-- deps: 18 19 20 21 23 24 25 26 27 28 29 22 30 31 32 33 34 35 36 37 38 39 40 41 42 43 44 45 46 47 48
/-! the class: signs -/
section
variable {Q : RP} {n : Nat} {hr h : HP} {S I : Nat} {t o : Int → Int}
theorem CX_q {h1 : HP} (X : CX S I t o h) (e : EX [28, 29, 30] [(27, 10)] h h1) : CX S I t o h1 := CX_fr X e (by decide) (by decide)
theorem sp_S_findSign {s : Nat} (V : CW n hr) (T : TV S I t o) (X : CX S I t o h) (hre : h 19 8 = (RMk S I t : Int)) (hs : s < S) (hc0 : SC h) (hQ : ∀ h1, EX [28, 29, 30] [(27, 10)] h h1 → SC h1 → Q (0, SGN S I t o s) n hr h1) : f_S_findSign [(2, 27), (0, (s : Int))] n hr h Q := by
  have TT := T
  obtain ⟨hS, hI, hm, hc, hTT⟩ := T
  have hR64 := RMk_lt (S := S) (I := I) hS t
  have hR : mdiff (RMk S I t) (2 ^ s) < 64 := mdiff_le (k := 6) hR64
  have hRe : ∀ x, (mdiff (RMk S I t) (2 ^ s)).testBit x = true ↔ x < S ∧ x ≠ s ∧ 0 ≤ AC I t 0 (x : Int) := by
    intro x
    rw [tb_mdiff, Bool.and_eq_true, RMk_tb, Nat.testBit_two_pow]
    constructor
    · rintro ⟨⟨a, b⟩, c⟩
      refine ⟨a, fun q => ?_, b⟩
      subst q; simp at c
    · rintro ⟨a, b, c⟩
      refine ⟨⟨a, c⟩, ?_⟩
      simp; exact fun q => b q.symm
  have msk : i_and ((RMk S I t : Nat) : Int) (i_xor (i_shl 1 (s : Int)) (-1)) = ((mdiff (RMk S I t) (2 ^ s) : Nat) : Int) := by
    rw [shl1_n (by omega), and_not (by omega)]
  generalize mdiff (RMk S I t) (2 ^ s) = R at hR hRe msk
  have sgn : SGN S I t o s = fw (fun w => wok I w ∧ wlen w ≤ 8 ∧ sg (SGT S t o) (8 * R + s) w < 8) := fw_ext fun w => by
    constructor
    · rintro ⟨a, b, c⟩; exact ⟨a, b, (SGT_goal hS hI hm hc hs hR hRe a).mp c⟩
    · rintro ⟨a, b, c⟩; exact ⟨a, b, (SGT_goal hS hI hm hc hs hR hRe a).mpr c⟩
  have fin : ∀ (v l : Int) (h1 : HP) (tail : Nat) (sp : Nat → Nat) (P : Nat → Int), v = SGN S I t o s → EX [28, 29, 30] [(27, 10)] h h1 → SQ h1 tail sp P → (v ≠ -2 ∨ (tail : Int) ≤ l) → p_S_findSign_36 (n + 0) (ai_q 0 n Q) 27 v l n hr h1 := by
    intro v l h1 tail sp P hv e1 hq hl
    have lv : f_S_leave [(2, 27)] n hr h1 (fun r1 n1 hr1 h1 => ai_q 0 n Q (0, v) n1 hr1 h1) := by
      refine sp_S_leave V hq fun h2 e2 s2 => q_at rfl ?_
      rw [hv]
      exact hQ h2 (EX_tr e1 (EX_le e2 (by decide) (by decide))) s2
    refine b_S_findSign_36 ?_
    simp (disch := omega) only [ok_27 V.1, cr_27_2 V, hq.1, true_and]
    refine ⟨fun _ => lv, fun z => ⟨fun _ => lv, fun z2 => ⟨fun _ => lv, fun z3 => ?_⟩⟩⟩
    rcases hl with q | q
    · exact (q z3).elim
    · omega
  apply e_S_findSign
  simp only [ok_27 V.1, cr_27_1 V, ok_19 V.1, hre, msk, true_and]
  refine ⟨fun z => ?_, fun z => ?_⟩
  · have hR0 : R ≠ 0 := fun q => z (by rw [q]; rfl)
    have hdd := SGT_d S t o
    have hGd : ¬ ((512 : Nat) < 8) := by omega
    have hG0 : ¬ (8 * R + s < 8) := by omega
    have main : ∀ (d k : Nat), 3280 - k = d → ∀ (tail : Nat) (sp pa : Nat → Nat) (h1 : HP), BS I 512 (SGT S t o) (8 * R + s) (fun x => x < 8) sp pa tail k 0 → (∀ j, j < tail → sp j < 512 ∧ sp j % 8 < S) → EX [28, 29, 30] [(27, 10)] h h1 → SQ h1 tail sp (fun j => (pa j : Int)) → p_S_findSign_36 (n + 0) (ai_q 0 n Q) 27 (-2) (k : Int) n hr h1 := by
      intro d
      induction d with
      | zero =>
        intro k hk tail sp pa h1 hv hsp e1 hq
        have := BS_tail hv
        refine fin (-2) _ h1 tail sp _ ?_ e1 hq (Or.inr (by omega))
        rw [sgn]; exact (BS_no hv hdd hGd hG0 (by omega)).symm
      | succ d ih =>
        intro k hk tail sp pa h1 hv hsp e1 hq
        have ht := BS_tail hv
        by_cases zk : tail ≤ k
        · refine fin (-2) _ h1 tail sp _ ?_ e1 hq (Or.inr (by omega))
          rw [sgn]; exact (BS_no hv hdd hGd hG0 (by omega)).symm
        · refine b_S_findSign_36 ?_
          simp (disch := omega) only [ok_27 V.1, cr_27_2 V, hq.1, true_and]
          refine ⟨fun z => by omega, fun _ => ⟨fun z => by omega, fun _ => ⟨fun q => absurd rfl q, fun _ => ?_⟩⟩⟩
          have inner : ∀ (d i : Nat), I - i = d → ∀ (tail : Nat) (sp pa : Nat → Nat) (h1 : HP), k < tail → BS I 512 (SGT S t o) (8 * R + s) (fun x => x < 8) sp pa tail k i → (∀ j, j < tail → sp j < 512 ∧ sp j % 8 < S) → EX [28, 29, 30] [(27, 10)] h h1 → SQ h1 tail sp (fun j => (pa j : Int)) → p_S_findSign_62 (n + 0) (ai_q 0 n Q) 27 (-2) (k : Int) (i : Int) n hr h1 := by
            intro d
            induction d with
            | zero =>
              intro i hi tail sp pa h1 hkt hv hsp e1 hq
              have ht := BS_tail hv
              have X1 := CX_q X e1
              have hi2 : i = I := by omega
              subst hi2
              refine b_S_findSign_62 ?_
              simp (disch := omega) only [ok_27 V.1, cr_27_0 V, ok_13 V.1, X1.2.1, w32_id, true_and]
              exact ⟨fun _ => ih (k + 1) (by omega) tail sp pa h1 (BS_n hv hkt) hsp e1 hq, fun z => by omega⟩
            | succ d ihd =>
              intro i hi tail sp pa h1 hkt hv hsp e1 hq
              have ht := BS_tail hv
              have X1 := CX_q X e1
              have g28 := (hq.2.2.1 k hkt).2.1
              have g29 := (hq.2.2.1 k hkt).2.2
              have pk := hv.2.1 k hkt
              obtain ⟨s1, s2⟩ := hsp k hkt
              have pth : (pa k : Int) * 4 + (i : Int) + 1 = ((4 * pa k + i + 1 : Nat) : Int) := by omega
              refine b_S_findSign_62 ?_
              simp (disch := omega) only [ok_27 V.1, cr_27_0 V, ok_13 V.1, cr_27_2 V, cr_27_3 V, X1.2.1, g28, g29, w32_id, pth, true_and]
              refine ⟨fun z => by omega, fun _ => ⟨fun q => absurd rfl q, fun _ => ?_⟩⟩
              repeat (refine ⟨by omega, ?_⟩)
              refine sp_S_followSign V TT X1 s1 s2 (by omega) ?_
              have hne : 4 * pa k + i + 1 < 16384 → SGT S t o (sp k) i ≠ 512 → SGT S t o (sp k) i < 512 ∧ SGT S t o (sp k) i % 8 < S := by
                intro _ z
                have b := hv.1.2.2.2.2.1 k hkt
                have w2 := (wok_cc (m := I) (v := pa k) (j := i) (by omega)).mpr ⟨by omega, b.1⟩
                have dd := dS_cl hI (clo_m hI hc) (p := (s : Int)) (by omega) _ w2
                rcases SGT_sem hS hI hm hc hs hR (fun x h => ((hRe x).mp h).1) _ w2 with ⟨a1, _⟩ | ⟨M, a1, a2, _⟩
                · rw [sg_c _ _ (by omega), b.2.1] at a1; exact (z a1).elim
                · rw [sg_c _ _ (by omega), b.2.1] at a1
                  rw [a1]; omega
              have hiI : i < I := by omega
              have hdd2 : I - (i + 1) = d := by omega
              have nogoal : ¬ SGT S t o (sp k) i < 8 → (4 * pa k + i + 1 < 16384 → SGT S t o (sp k) i ≠ 512 → ∃ j, j < tail ∧ sp j = SGT S t o (sp k) i) → p_S_findSign_62 (n + 0) (ai_q 0 n Q) 27 (-2) (k : Int) ((i : Int) + 1) n hr h1 := fun z1 z2 => ihd (i + 1) hdd2 tail sp pa h1 hkt (BS_o hv hkt hiI z1 z2) hsp e1 hq
              by_cases zd : SGT S t o (sp k) i = 512
              · rw [if_pos zd]
                refine ⟨fun _ => ⟨fun _ => nogoal (by omega) (fun _ q => (q zd).elim), fun _ => ⟨ok_27 V.1, sp_S_push_no (by omega) (nogoal (by omega) (fun _ q => (q zd).elim))⟩⟩, fun q => absurd rfl q⟩
              · rw [if_neg zd]
                have nz := hne
                refine ⟨fun q => ?_, fun _ => ?_⟩
                · dsimp only at q; omega
                · have sm : SGT S t o (sp k) i < 512 ∨ 16384 ≤ 4 * pa k + i + 1 := by
                    rcases Nat.lt_or_ge (4 * pa k + i + 1) 16384 with y | y
                    · exact Or.inl (hne y zd).1
                    · exact Or.inr y
                  have sm2 : SGT S t o (sp k) i < 512 := by
                    have b := hv.1.2.2.2.2.1 k hkt
                    have w2 := (wok_cc (m := I) (v := pa k) (j := i) (by omega)).mpr ⟨by omega, b.1⟩
                    have dd := dS_cl hI (clo_m hI hc) (p := (s : Int)) (by omega) _ w2
                    rcases SGT_sem hS hI hm hc hs hR (fun x h => ((hRe x).mp h).1) _ w2 with ⟨a1, _⟩ | ⟨M, a1, a2, _⟩
                    · rw [sg_c _ _ (by omega), b.2.1] at a1; exact (zd a1).elim
                    · rw [sg_c _ _ (by omega), b.2.1] at a1
                      rw [a1]; omega
                  simp (disch := omega) only [shr_3]
                  refine ⟨fun z8 => ⟨fun zl => nogoal (by omega) (fun q => by omega), fun zl => ⟨ok_27 V.1, ?_⟩⟩, fun z8 => ?_⟩
                  · refine sp_S_push V hq (by omega) (fun hno => ?_) (fun zold => nogoal (by omega) (fun _ _ => zold)) (fun znew h2 e2 q2 => ?_)
                    · have := BS_tail (BS_p hv hkt (by omega) (by omega) (by omega) zd hno)
                      omega
                    · have hv2 := BS_p hv hkt (by omega) (by omega) (by omega) zd znew
                      refine ihd (i + 1) (by omega) (tail + 1) _ _ h2 (by omega) hv2 (fun j hj => ?_) (EX_tr e1 e2) ?_
                      · by_cases y : j = tail
                        · simp only [if_pos y]; exact hne (by omega) zd
                        · simp only [if_neg y]; exact hsp j (by omega)
                      · have : (fun j => (((if j = tail then 4 * pa k + i + 1 else pa j) : Nat) : Int)) = (fun j => if j = tail then ((4 * pa k + i + 1 : Nat) : Int) else (pa j : Int)) := by
                          funext j; split <;> rfl
                        rw [this]; exact q2
                  · have e := BS_at hv hdd hGd hG0 hkt (show i < I by omega) (show SGT S t o (sp k) i < 8 by omega)
                    have fnd := fin ((4 * pa k + i + 1 : Nat) : Int) ((k : Int) + 1) h1 tail sp _ (by rw [sgn]; exact e.1.symm) e1 hq (Or.inl (by omega))
                    refine b_S_findSign_62 ?_
                    simp (disch := omega) only [ok_27 V.1, cr_27_0 V, ok_13 V.1, X1.2.1, w32_id (x := (k : Int) + 1), true_and]
                    exact ⟨fun _ => fnd, fun _ => ⟨fun _ => fnd, fun q => by omega⟩⟩
          exact inner I 0 (by omega) tail sp pa h1 (by omega) hv hsp e1 hq
    have e0 : i_or (i_shl (R : Int) 3) (s : Int) = ((8 * R + s : Nat) : Int) := by
      rw [shl_3 (by omega) (by omega), show (R : Int) * 8 = ((R * 2 ^ 3 : Nat) : Int) by omega, or_add (by omega) (by omega)]
      omega
    rw [e0]
    refine sp_S_push (sp := fun _ => 8 * R + s) (P := fun _ => 0) V (SQ_0 hc0) (by omega) (fun _ => by omega) (fun q => ?_) (fun _ h2 e2 q2 => ?_)
    · obtain ⟨j, hj, _⟩ := q; omega
    · have e1 : (fun j => if j = 0 then 8 * R + s else 8 * R + s) = (fun _ : Nat => 8 * R + s) := by funext j; split <;> rfl
      have e2' : (fun j : Nat => if j = 0 then (0 : Int) else 0) = (fun j : Nat => (((fun _ => 0 : Nat → Nat) j : Nat) : Int)) := by funext j; split <;> rfl
      rw [e1, e2'] at q2
      exact main 3280 0 rfl 1 (fun _ => 8 * R + s) (fun _ => 0) h2 (BS_0 hI (by omega)) (fun j _ => ⟨by show 8 * R + s < 512; omega, by show (8 * R + s) % 8 < S; omega⟩) e2 q2
  · have hR0 : R = 0 := by omega
    have v0 : SGN S I t o s = 0 := fw_at (k := 0) ⟨wok_0 I, by rw [wlen_0]; omega, fun x x1 x2 x3 => by
      have := (hRe x).mpr ⟨x1, x2, x3⟩
      rw [hR0, tb_0] at this
      cases this⟩ (fun j hj => by omega)
    have := hQ h EX_rf hc0
    rw [v0] at this
    exact (by first | exact q_at rfl (this) | exact (this))
def CSg (S I : Nat) (t o : Int → Int) (h : HP) : Prop := ∀ s : Nat, s < S → h 31 (s : Int) = -9 ∨ h 31 (s : Int) = SGN S I t o s
theorem SGN_b (S I : Nat) (t o : Int → Int) (s : Nat) : SGN S I t o s = -2 ∨ (0 ≤ SGN S I t o s ∧ SGN S I t o s < 65536) := by
  rcases fw_cases (fun w => wok I w ∧ wlen w ≤ 8 ∧ isSg S I t o s w) with ⟨w, a1, a2, a3⟩ | ⟨a1, _⟩
  · right
    have : w < 4 ^ 8 := wlen_le.mp a2.2.1
    have : (4 : Nat) ^ 8 = 65536 := by decide
    unfold SGN; omega
  · exact Or.inl a1
theorem sp_S_signOf {s : Nat} (V : CW n hr) (T : TV S I t o) (X : CX S I t o h) (hre : h 19 8 = (RMk S I t : Int)) (hs : s < S) (hc0 : SC h) (hg : CSg S I t o h) (hQ : ∀ h1, EX [28, 29, 30, 31] [(27, 10)] h h1 → SC h1 → CSg S I t o h1 → Q (0, SGN S I t o s) n hr h1) : f_S_signOf [(2, 27), (0, (s : Int))] n hr h Q := by
  have hS := T.1
  apply e_S_signOf
  simp (disch := omega) only [ok_27 V.1, cr_27_5 V, true_and]
  repeat (refine ⟨by omega, ?_⟩)
  refine ⟨fun z => ?_, fun z => ?_⟩
  · repeat (refine ⟨by omega, ?_⟩)
    rcases hg s hs with q | q
    · exact (z q).elim
    · rw [q]
      have := hQ h EX_rf hc0 hg
      exact (by first | exact q_at rfl (this) | exact (this))
  · refine sp_S_findSign V T X hre hs hc0 fun h1 e1 s1 => ?_
    simp (disch := omega) only [ok_27 V.1, cr_27_5 V, up_same, true_and]
    repeat (refine ⟨by omega, ?_⟩)
    have := hQ (ai_up h1 31 (s : Int) (SGN S I t o s)) (EX_upc (EX_le e1 (by decide) (by decide)) (by decide)) (SC_fr s1 (up_oth (Or.inl (by decide))) (funext fun j => up_oth (Or.inl (by decide)))) fun x hx => by
      by_cases y : x = s
      · subst y; exact Or.inr up_same
      · rw [up_oth (Or.inr (by omega)), EX_fn e1 (c := 31) (by decide) (by decide)]
        exact hg x hx
    exact (by first | exact q_at rfl (this) | exact (this))
theorem sp_S_renew (V : CW n hr) (hQ : ∀ h1, EX [31, 32] [(27, 9)] h h1 → (∀ s : Nat, s < 6 → h1 31 (s : Int) = -9) → (∀ s : Nat, s < 3 → h1 32 (s : Int) = -9) → h1 27 9 = 0 → Q (9, 0) n hr h1) : f_S_renew [(2, 27)] n hr h Q := by
  apply e_S_renew
  simp only [ok_27 V.1, cr_27_5 V, true_and]
  refine sp_J_fill (ok_31 V.1) ?_
  simp only [ok_27 V.1, cr_27_6 V, true_and]
  refine sp_J_fill (ok_32 V.1) ?_
  rw [l_31, l_32]
  refine ⟨ok_27 V.1, by simp, q_at rfl ?_⟩
  refine hQ _ (EX_upp (EX_fl (EX_fl EX_rf (by decide)) (by decide)) (by decide)) (fun s hs => ?_) (fun s hs => ?_) up_same
  · rw [up_oth (Or.inl (by decide)), fl_out (by decide), fl_in (by omega) (by omega)]
  · rw [up_oth (Or.inl (by decide)), fl_in (by omega) (by omega)]
end
