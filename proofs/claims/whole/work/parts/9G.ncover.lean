-- deps: 18 19 20 21 23 24 25 26 27 28 29 22 30 31 32 33 34 35 36 37 38 39 40 41 42 43 44 45 46 47 48 49 50 51 62 63 64 65 66 67 68 69 70 71 72 73 74 75 76 77 78 79 80 81 82 83 84 85 86 87 88 89 90 91 92 93 94 95 96 97 98 99 9C 9D 9E 9F
/-! the reference: tests that together notice all -/
section
variable {Q : RP} {n : Nat} {hr h : HP} {S I : Nat} {t o t' o' : Int → Int}
def FBl (F : Nat → Nat → Prop) (N : Nat) (h : HP) (K j : Nat) : Prop := ∀ k p i : Nat, k < N → p < 4 → i < 64 → (lb (h 173 (4 * (k : Int) + (p : Int))) i = true ↔ Dn F K j k (64 * p + i))
theorem FBl_n {F : Nat → Nat → Prop} {N K j : Nat} (H : FBl F N h K j) (hn : ¬ F j K) : FBl F N h K (j + 1) := by
  have e : ∀ k m, Dn F K (j + 1) k m ↔ Dn F K j k m := fun k m => by
    constructor
    · rintro ⟨q | ⟨q, q2⟩, f⟩
      · exact ⟨Or.inl q, f⟩
      · refine ⟨Or.inr ⟨q, ?_⟩, f⟩
        have : k ≠ j := fun y => hn (by subst y; subst q; exact f)
        omega
    · rintro ⟨q | ⟨q, q2⟩, f⟩
      · exact ⟨Or.inl q, f⟩
      · exact ⟨Or.inr ⟨q, by omega⟩, f⟩
  unfold FBl
  simp only [e]
  exact H
theorem FBl_y {F : Nat → Nat → Prop} {N K j : Nat} {x : Int} (H : FBl F N h K j) (hK : K < 256) (hy : F j K) (hx : x = l_or (h 173 (4 * (j : Int) + ((K / 64 : Nat) : Int))) (l_shl 1 ((K % 64 : Nat) : Int))) : FBl F N (ai_up h 173 (4 * (j : Int) + ((K / 64 : Nat) : Int)) x) K (j + 1) := by
  have e : ∀ k m, Dn F K (j + 1) k m ↔ (Dn F K j k m ∨ (k = j ∧ m = K)) := fun k m => by
    constructor
    · rintro ⟨q | ⟨q, q2⟩, f⟩
      · exact Or.inl ⟨Or.inl q, f⟩
      · by_cases z : k = j
        · exact Or.inr ⟨z, q⟩
        · exact Or.inl ⟨Or.inr ⟨q, by omega⟩, f⟩
    · rintro (⟨q | ⟨q, q2⟩, f⟩ | ⟨q, q2⟩)
      · exact ⟨Or.inl q, f⟩
      · exact ⟨Or.inr ⟨q, by omega⟩, f⟩
      · subst q; subst q2; exact ⟨Or.inr ⟨rfl, by omega⟩, hy⟩
  have m63 : K % 64 < 64 := Nat.mod_lt _ (by decide)
  intro k p i hk hp hi
  rw [e, ← H k p i hk hp hi]
  by_cases z : k = j ∧ p = K / 64
  · obtain ⟨rfl, rfl⟩ := z
    rw [up_same, hx, lb_or, lb_shl1 m63 hi, Bool.or_eq_true, decide_eq_true_eq]
    refine or_congr Iff.rfl ⟨fun q => ⟨rfl, by omega⟩, fun q => by omega⟩
  · rw [up_oth (by omega)]
    exact ⟨Or.inl, fun q => q.elim id fun q => absurd ⟨q.1, by omega⟩ z⟩
theorem FBl_s {F : Nat → Nat → Prop} {N K : Nat} (H : FBl F N h K N) : FBl F N h (K + 1) 0 := by
  have e : ∀ k m, k < N → (Dn F (K + 1) 0 k m ↔ Dn F K N k m) := fun k m hk => by
    constructor
    · rintro ⟨q | ⟨q, q2⟩, f⟩
      · by_cases z : m = K
        · exact ⟨Or.inr ⟨z, hk⟩, f⟩
        · exact ⟨Or.inl (by omega), f⟩
      · omega
    · rintro ⟨q | ⟨q, q2⟩, f⟩
      · exact ⟨Or.inl (by omega), f⟩
      · exact ⟨Or.inl (by omega), f⟩
  exact fun k p i hk hp hi => by rw [e k _ hk]; exact H k p i hk hp hi
def FL (F : Nat → Nat → Prop) (N : Nat) (h : HP) : Prop := ∀ k p i : Nat, k < N → p < 4 → i < 64 → (lb (h 173 (4 * (k : Int) + (p : Int))) i = true ↔ F k (64 * p + i))
def SL (R : Nat → Prop) (h : HP) : Prop := ∀ p i : Nat, p < 4 → i < 64 → (lb (h 174 (p : Int)) i = true ↔ R (64 * p + i))
theorem sp_N_laysFails {su e : Nat} (W : NW n hr) (T : TV S I t o) (B : NB S I t o e h) (hsu : su < 2) (he : e < 3) (R : RW h (2 * e + su) (LFr S I t o su e)) (hQ : ∀ h1, fxQ 3 h h1 → NB S I t o e h1 → h1 162 = h 162 → h1 174 = h 174 → h1 175 = h 175 → FL (Fm S I t o e su) (LFr S I t o su e).length h1 → Q (9, 0) n hr h1) : f_N_laysFails [(2, 138), (0, ((2 * e + su : Nat) : Int))] n hr h Q := by
  have TT := T
  obtain ⟨hS, hI, hm, hc, hT⟩ := T
  have ub := UN_b hm hS hI
  have ll := LFr_len (o := o) hS hI hm hc (su := su) he
  have ew : SWl S I t o e su = LFr S I t o su e := by unfold SWl; rw [if_pos hsu]
  have R1 := R.1
  generalize hN : (LFr S I t o su e).length = N at *
  generalize hF : Fm S I t o e su = F at *
  have step : ∀ {h1 : HP}, fxQ 3 h h1 → EX [147, 148, 173] [(138, 43), (138, 44), (138, 45), (138, 46)] h h1 → RW h1 (2 * e + su) (LFr S I t o su e) := fun _ e1 => by
    unfold RW; rw [EX_fn e1 (c := 162) (by decide) (by decide), EX_fn e1 (c := 161) (by decide) (by decide)]; exact R
  apply e_N_laysFails
  -- the mutants
  have muts : ∀ h1, EX [147, 148, 173] [(138, 43), (138, 44), (138, 45), (138, 46)] h h1 → fxQ 3 h h1 → NB S I t o e h1 → FBl F N h1 0 0 → p_N_laysFails_34 (n + 0) (ai_q 0 n Q) 138 ((2 * e + su : Nat) : Int) (UN S I t o : Int) 0 n hr h1 := by
    have main := lupN (N := UN S I t o) (P := fun K => ∀ h1, EX [147, 148, 173] [(138, 43), (138, 44), (138, 45), (138, 46)] h h1 → fxQ 3 h h1 → NB S I t o e h1 → FBl F N h1 K 0 → p_N_laysFails_34 (n + 0) (ai_q 0 n Q) 138 ((2 * e + su : Nat) : Int) (UN S I t o : Int) (K : Int) n hr h1) ?_ ?_
    · exact main
    · intro h1 e1 f1 b1 g1
      refine b_N_laysFails_34 ⟨fun _ => q_at rfl (hQ h1 f1 b1 (EX_fn e1 (by decide) (by decide)) (EX_fn e1 (by decide) (by decide)) (EX_fn e1 (by decide) (by decide)) fun k p i hk hp hi => ?_), fun z => by omega⟩
      rw [g1 k p i hk hp hi]
      exact ⟨fun q => q.2, fun q => ⟨Or.inl (by rw [← hF] at q; exact q.1), q⟩⟩
    · intro K hK ih h1 e1 f1 b1 g1
      have mk := mok_Mu hm hS hI hc hK
      refine b_N_laysFails_34 ⟨fun z => by omega, fun _ => ⟨n0 W, ?_⟩⟩
      refine sp_N_laysMutant W TT b1.1 b1.2.1 (by omega) hK fun h2 f2 m2 => ?_
      have e2 : EX [147, 148, 173] [(138, 43), (138, 44), (138, 45), (138, 46)] h h2 := EX_tr e1 (EX_le f2.1 (by decide) (by decide))
      have F2 : fxQ 3 h h2 := fxQ_tr f1 (fxL_Q (by omega) f2 (NO_NM mk m2))
      have b2 := NB_L (by omega) f2 b1
      have g2 : FBl F N h2 K 0 := by unfold FBl; rw [EX_fn f2.1 (c := 173) (by decide) (by decide)]; exact g1
      have inner := lupN (N := N) (P := fun j => ∀ h3, EX [173] [] h2 h3 → FBl F N h3 K j → p_N_laysFails_49 (n + 0) (ai_q 0 n Q) 138 ((2 * e + su : Nat) : Int) (UN S I t o : Int) (K : Int) (j : Int) n hr h3) ?_ ?_
      · exact inner h2 EX_rf g2
      · intro h3 e3 g3
        have e3' : EX [147, 148, 173] [(138, 43), (138, 44), (138, 45), (138, 46)] h h3 := EX_tr e2 (EX_le e3 (by decide) (by decide))
        have F3 : fxQ 3 h h3 := fxQ_tr F2 (fxQ_of e3 (by decide) (by decide))
        have r3 := step F3 e3'
        refine b_N_laysFails_49 ?_
        simp (disch := omega) only [n0 W, nr_39 W, r3.1, hN, w32_id, true_and]
        repeat (refine ⟨by omega, ?_⟩)
        exact ⟨fun _ => ih h3 e3' F3 (NB_fr b2 e3 (by decide)) (FBl_s g3), fun z => by omega⟩
      · intro j hj ihj h3 e3 g3
        have e3' : EX [147, 148, 173] [(138, 43), (138, 44), (138, 45), (138, 46)] h h3 := EX_tr e2 (EX_le e3 (by decide) (by decide))
        have F3 : fxQ 3 h h3 := fxQ_tr F2 (fxQ_of e3 (by decide) (by decide))
        have r3 := step F3 e3'
        have b3 := NB_fr b2 e3 (by decide)
        have hw := List.getElem?_eq_getElem (l := LFr S I t o su e) (i := j) (by omega)
        generalize (LFr S I t o su e)[j] = w at hw
        have okw := LFr_ok hS hI hm hc he (List.mem_of_getElem? hw)
        have m3 : NM 48 (tMu S I t o K) (oMu S I t o K) h3 := NM_fr m2 (EX_fn e3 (by decide) (by decide)) (EX_fn e3 (by decide) (by decide))
        refine b_N_laysFails_49 ?_
        simp (disch := omega) only [n0 W, nr_39 W, r3.1, hN, w32_id, true_and]
        repeat (refine ⟨by omega, ?_⟩)
        refine fun _ => ?_
        refine sp_N_tsAt W (by omega) (by omega) ?_
        rw [r3.2 j w hw]
        refine ⟨n0 W, sp_N_isPassed W b3.1 hm mk m3 (by omega) (wok_mono hI okw.1) (by omega) (fun q => ?_) (fun q => ?_)⟩
        · have nF : ¬ F j K := by
            rw [← hF]; rintro ⟨_, u, u1, u2⟩
            rw [ew, hw] at u1; cases u1; exact u2 q
          exact ⟨fun _ => ihj h3 e3 (FBl_n g3 nF), fun y => absurd y (by decide)⟩
        · have yF : F j K := by
            rw [← hF]; exact ⟨hK, w, by rw [ew]; exact hw, q⟩
          have d5 : i_div (K : Int) 64 = ((K / 64 : Nat) : Int) := by rw [div_i (by omega) (by omega) (by omega) (by omega)]; omega
          have d31 : i_rem (K : Int) 64 = ((K % 64 : Nat) : Int) := by rw [rem_i (by omega) (by omega) (by omega) (by omega)]; omega
          refine ⟨fun y => absurd rfl y, fun _ => ?_⟩
          simp (disch := omega) only [n0 W, nr_56 W, d5, d31, w32_id, true_and]
          repeat (refine ⟨by omega, ?_⟩)
          exact ihj _ (EX_upc e3 (by decide)) (FBl_y g3 (by omega) yF rfl)
  -- the rows are cleared
  have clr := lupN (N := 4 * N) (P := fun c => ∀ h1, EX [173] [] h h1 → (∀ a : Nat, a < c → h1 173 (a : Int) = 0) → p_N_laysFails_2 (n + 0) (ai_q 0 n Q) 138 ((2 * e + su : Nat) : Int) (c : Int) n hr h1) ?_ ?_
  · exact clr h EX_rf fun a ha => by omega
  · intro h1 e1 g1
    have f1 : fxQ 3 h h1 := fxQ_of e1 (by decide) (by decide)
    have b1 := NB_fr B e1 (by decide)
    have r1 := step f1 (EX_le e1 (by decide) (by decide))
    refine b_N_laysFails_2 ?_
    simp (disch := omega) only [n0 W, nr_39 W, r1.1, hN, w32_id, true_and]
    repeat (refine ⟨by omega, ?_⟩)
    refine ⟨fun _ => ?_, fun z => by omega⟩
    refine sp_N_mutantMany W TT b1.1 b1.2.1 ?_
    refine muts h1 (EX_le e1 (by decide) (by decide)) f1 b1 fun k p i hk hp hi => ?_
    have := g1 (4 * k + p) (by omega)
    rw [show ((4 * k + p : Nat) : Int) = 4 * (k : Int) + (p : Int) by omega] at this
    rw [this, lb_0]
    exact ⟨fun q => (by cases q), fun ⟨q, _⟩ => by omega⟩
  · intro c hc4 ih h1 e1 g1
    have f1 : fxQ 3 h h1 := fxQ_of e1 (by decide) (by decide)
    have r1 := step f1 (EX_le e1 (by decide) (by decide))
    refine b_N_laysFails_2 ?_
    simp (disch := omega) only [n0 W, nr_39 W, nr_56 W, r1.1, hN, w32_id, true_and]
    repeat (refine ⟨by omega, ?_⟩)
    refine fun _ => ?_
    repeat (refine ⟨by omega, ?_⟩)
    refine ih _ (EX_upc e1 (by decide)) fun a ha => ?_
    by_cases y : a = c
    · subst y; rw [up_same]
    · rw [up_oth (by omega)]; exact g1 a (by omega)
theorem sp_N_newBy {F : Nat → Nat → Prop} {R : Nat → Prop} {N k : Nat} (W : NW n hr) (hk : k < N) (hN : N ≤ 875) (G : FL F N h) (L : SL R h) (hQ : Q (0, (nbG F R k : Int)) n hr h) : f_N_newBy [(2, 138), (0, (k : Int))] n hr h Q := by
  apply e_N_newBy
  have inner := lupN (N := 4) (P := fun p => p_N_newBy_4 (n + 0) (ai_q 0 n Q) 138 (k : Int) (cntP (fun m => F k m ∧ R m) (64 * p) : Int) (p : Int) n hr h) ?_ ?_
  · exact inner
  · exact b_N_newBy_4 ⟨fun _ => q_at rfl hQ, fun z => by omega⟩
  · intro p hp ihp
    have blk := cntP_blk (P := fun m => F k m ∧ R m) (a := 64 * p) (b := 64) (f := fun i => lb (l_and (h 173 (4 * (k : Int) + (p : Int))) (h 174 (p : Int))) i) fun i hi => by
      show lb _ i = true ↔ _
      rw [lb_and, Bool.and_eq_true, G k p i hk hp hi, L p i hp hi]
    have c1 := cntP_le (fun m => F k m ∧ R m) (64 * p)
    have c2 := cntB_le (fun i => lb (l_and (h 173 (4 * (k : Int) + (p : Int))) (h 174 (p : Int))) i) 64
    refine b_N_newBy_4 ⟨fun z => by omega, fun _ => ?_⟩
    simp (disch := omega) only [n0 W, nr_56 W, nr_57 W, w32_id, true_and]
    repeat (refine ⟨by omega, ?_⟩)
    refine sp_N_bits (l_and_r _ _) ?_
    dsimp only
    rw [show 64 * (p + 1) = 64 * p + 64 by omega, blk] at ihp
    rw [w32_id (by omega) (by omega)]
    have e2 : ((cntP (fun m => F k m ∧ R m) (64 * p) + cntB (fun i => lb (l_and (h 173 (4 * (k : Int) + (p : Int))) (h 174 (p : Int))) i) 64 : Nat) : Int) = (cntP (fun m => F k m ∧ R m) (64 * p) : Int) + (cntB (fun i => lb (l_and (h 173 (4 * (k : Int) + (p : Int))) (h 174 (p : Int))) i) 64 : Int) := by omega
    rw [← e2]
    exact ihp
def NCv (S I : Nat) (t o : Int → Int) (e : Nat) (h : HP) : Prop := ∀ su : Nat, su < 2 → h 175 (su : Int) < 0 ∨ h 175 (su : Int) = (vCv S I t o e su : Int)
theorem sp_N_covered {su : Int} {e : Nat} (W : NW n hr) (T : TV S I t o) (B : NB S I t o e h) (N : NCv S I t o e h) (he : e < 3) (h0 : ¬ (su = 0 ∨ su = 1) → Q (0, -1) n hr (ai_up h 138 0 0)) (h1 : (su = 0 ∨ su = 1) → ∀ h1, fxQ 3 h h1 → NB S I t o e h1 → NCv S I t o e h1 → Q (0, (vCv S I t o e su.toNat : Int)) n hr h1) : f_N_covered [(2, 138), (0, su)] n hr h Q := by
  have TT := T
  obtain ⟨hS, hI, hm, hc, hT⟩ := T
  have B1 : NB S I t o e (ai_up h 138 0 0) := NB_1 B
  have F1 : fxQ 3 h (ai_up h 138 0 0) := fxQ_of EX_1 (by decide) (by decide)
  have N1 : NCv S I t o e (ai_up h 138 0 0) := by
    unfold NCv; rw [EX_fn EX_1 (c := 175) (by decide) (by decide)]; exact N
  apply e_N_covered
  refine ⟨n0 W, sp_N_isOne (fun z => ⟨fun _ => ?_, fun q => absurd q (by decide)⟩) (fun z => ⟨fun q => absurd rfl q, fun _ => (by first | exact q_at rfl (h0 z) | exact (h0 z))⟩)⟩
  have H := h1 z
  obtain ⟨s, rfl⟩ : ∃ s : Nat, su = (s : Int) := ⟨su.toNat, by omega⟩
  rw [Int.toNat_natCast] at H
  have hs : s < 2 := by omega
  simp (disch := omega) only [n0 W, nr_58 W, true_and]
  repeat (refine ⟨by omega, ?_⟩)
  refine ⟨fun z2 => ?_, fun z2 => ?_⟩
  · refine sp_N_suiteOf W TT B1.1 B1.2.1 B1.2.2.2.2.1 B1.2.2.2.2.2 hs he fun h2 a u c => ?_
    have B2 := NB_s B1 a u
    have F2 : fxQ 3 h h2 := fxQ_tr F1 (fxQ_of a (by decide) (by decide))
    simp only [n0 W, true_and]
    refine sp_N_laysFails W TT B2 hs he c fun h3 f3 b3 k162 k174 k175 g3 => ?_
    have ll := LFr_len (o := o) hS hI hm hc (su := s) he
    have ew : SWl S I t o e s = LFr S I t o s e := by unfold SWl; rw [if_pos hs]
    have c162 : h3 162 ((2 * e + s : Nat) : Int) = ((LFr S I t o s e).length : Int) := by rw [k162]; exact c.1
    have k5 : h3 175 = (ai_up h 138 0 0) 175 := by rw [k175, EX_fn a (c := 175) (by decide) (by decide)]
    have hF : ∀ k m, Fm S I t o e s k m → m < 252 := fun k m q => by have := q.1; have := UN_b hm hS hI; omega
    -- the end
    have done : ∀ h4, EX [174] [] h3 h4 → Q (0, (vCv S I t o e s : Int)) n hr (ai_up h4 175 (s : Int) (vCv S I t o e s : Int)) := by
      intro h4 e4
      have e5 : EX [174, 175] [] h3 (ai_up h4 175 (s : Int) (vCv S I t o e s : Int)) := EX_upc (EX_le e4 (by decide) (by decide)) (by decide)
      refine H _ (fxQ_tr F2 (fxQ_tr f3 (fxQ_of e5 (by decide) (by decide)))) (NB_fr b3 e5 (by decide)) fun s' hs' => ?_
      by_cases y : s' = s
      · subst y; rw [up_same]; exact Or.inr rfl
      · rw [up_oth (by omega), EX_fn e4 (c := 175) (by decide) (by decide), k5]; exact N1 s' hs'
    have hV : vCv S I t o e s = cvG (Fm S I t o e s) (LFr S I t o s e).length 252 fun _ => True := by unfold vCv; rw [ew]
    generalize vCv S I t o e s = V at *
    have lN : (LFr S I t o s e).length ≤ 875 := by omega
    generalize (LFr S I t o s e).length = M at *
    generalize Fm S I t o e s = F at *
    have at162 : ∀ {h4 : HP}, EX [174] [] h3 h4 → h4 162 ((2 * e + s : Nat) : Int) = (M : Int) := fun e4 => by
      rw [EX_fn e4 (c := 162) (by decide) (by decide)]; exact c162
    have gl : ∀ {h4 : HP}, EX [174] [] h3 h4 → FL F M h4 := fun e4 => by
      unfold FL; rw [EX_fn e4 (c := 173) (by decide) (by decide)]; exact g3
    -- all tests are looked at
    have tests : ∀ R (j : Nat) h4, EX [174] [] h3 h4 → SL R h4 → p_N_covered_143 (n + 0) (ai_q 0 n Q) 138 (s : Int) ((2 * e + s : Nat) : Int) (j : Int) (bsG F R M).1 0 n hr h4 → p_N_covered_83 (n + 0) (ai_q 0 n Q) 138 (s : Int) ((2 * e + s : Nat) : Int) (j : Int) (-1) 0 0 n hr h4 := by
      intro R j h4 e4 l4 H4
      have loop := lupN (N := M) (P := fun k => p_N_covered_83 (n + 0) (ai_q 0 n Q) 138 (s : Int) ((2 * e + s : Nat) : Int) (j : Int) (bsG F R k).1 ((bsG F R k).2 : Int) (k : Int) n hr h4) ?_ ?_
      · exact loop
      · refine b_N_covered_83 ?_
        simp (disch := omega) only [n0 W, nr_39 W, at162 e4, true_and]
        repeat (refine ⟨by omega, ?_⟩)
        exact ⟨fun _ => H4, fun q => by omega⟩
      · intro k hk ih
        refine b_N_covered_83 ?_
        simp (disch := omega) only [n0 W, nr_39 W, at162 e4, true_and]
        repeat (refine ⟨by omega, ?_⟩)
        refine fun _ => ?_
        refine sp_N_newBy W hk lN (gl e4) l4 ?_
        dsimp only
        rw [w32_id (by omega) (by omega)]
        rw [bsG] at ih
        refine ⟨fun q => ⟨fun _ => ?_, fun q2 => by omega⟩, fun q => ⟨fun q2 => by omega, fun _ => ?_⟩⟩
        · rw [if_neg (by omega)] at ih; exact ih
        · rw [if_pos (by omega)] at ih; exact ih
    -- none is left
    have none : ∀ R (j b0 : Nat) h4, EX [174] [] h3 h4 → SL R h4 → (bsG F R M).1 = -1 → j = V → j ≤ 300 → p_N_covered_68 (n + 0) (ai_q 0 n Q) 138 (s : Int) ((2 * e + s : Nat) : Int) (j : Int) (b0 : Int) n hr h4 := by
      intro R j b0 h4 e4 l4 hb tot hj
      refine b_N_covered_68 ⟨fun q => by omega, fun _ => tests R j h4 e4 l4 ?_⟩
      rw [hb]
      refine b_N_covered_143 ⟨fun q => by omega, fun _ => ⟨fun _ => ⟨fun q => absurd rfl q, fun _ => ?_⟩, fun q => absurd rfl q⟩⟩
      rw [Int.add_zero, w32_id (by omega) (by omega)]
      refine b_N_covered_68 ⟨fun _ => ?_, fun q => absurd rfl q⟩
      simp (disch := omega) only [n0 W, nr_58 W, true_and]
      repeat (refine ⟨by omega, ?_⟩)
      have D := done h4 e4
      rw [← tot] at D
      exact (by first | exact q_at rfl (D) | exact (D))
    have key : ∀ f R, rmG F M R ≤ f → ∀ (j b0 : Nat) h4, EX [174] [] h3 h4 → SL R h4 → j + cvG F M f R = V → j + f ≤ 300 → p_N_covered_68 (n + 0) (ai_q 0 n Q) 138 (s : Int) ((2 * e + s : Nat) : Int) (j : Int) (b0 : Int) n hr h4 := by
      intro f
      induction f with
      | zero =>
        intro R hR j b0 h4 e4 l4 tot hjf
        refine none R j b0 h4 e4 l4 ?_ tot (by omega)
        rcases bsG_b (F := F) (R := R) M with ⟨b1, b2, b3⟩ | ⟨b, b1, b2, b3, b4⟩
        · exact b1
        · have := nbG_0 (F := F) (R := R) (N := M) (by omega) b b2; omega
      | succ f ih =>
        intro R hR j b0 h4 e4 l4 tot hjf
        rw [cvG] at tot
        rcases bsG_b (F := F) (R := R) M with ⟨b1, b2, b3⟩ | ⟨b, b1, b2, b3, b4⟩
        · rw [if_pos (by omega)] at tot
          exact none R j b0 h4 e4 l4 b1 tot (by omega)
        · rw [if_neg (by omega), b1, Int.toNat_natCast] at tot
          have rk := rmG_tk (F := F) (R := R) (N := M) b2 b4
          refine b_N_covered_68 ⟨fun q => by omega, fun _ => tests R j h4 e4 l4 ?_⟩
          rw [b1]
          have inner := lupN (N := 4) (P := fun p => ∀ h5, EX [174] [] h3 h5 → (∀ q i : Nat, q < 4 → i < 64 → (lb (h5 174 (q : Int)) i = true ↔ (R (64 * q + i) ∧ (q < p → ¬ F b (64 * q + i))))) → p_N_covered_143 (n + 0) (ai_q 0 n Q) 138 (s : Int) ((2 * e + s : Nat) : Int) (j : Int) (b : Int) (p : Int) n hr h5) ?_ ?_
          · refine inner h4 e4 fun q i hq hi => ?_
            rw [l4 q i hq hi]
            exact ⟨fun x => ⟨x, fun y => by omega⟩, fun x => x.1⟩
          · intro h5 e5 r5
            refine b_N_covered_143 ⟨fun _ => ⟨fun _ => ?_, fun q => by omega⟩, fun q => by omega⟩
            rw [w32_id (by omega) (by omega)]
            refine ih (tkG F R b) (by omega) (j + 1) b h5 e5 (fun q i hq hi => ?_) (by omega) (by omega)
            rw [r5 q i hq hi]
            exact ⟨fun x => ⟨x.1, x.2 hq⟩, fun x => ⟨x.1, fun _ => x.2⟩⟩
          · intro p hp ihp h5 e5 r5
            have fb := fun i hi => gl e5 b p i b2 hp hi
            refine b_N_covered_143 ⟨fun q => by omega, fun _ => ⟨fun q => by omega, fun _ => ?_⟩⟩
            simp (disch := omega) only [n0 W, nr_56 W, nr_57 W, w32_id, true_and]
            repeat (refine ⟨by omega, ?_⟩)
            refine ihp _ (EX_upc e5 (by decide)) fun q i hq hi => ?_
            by_cases y : q = p
            · subst y
              rw [up_same, lb_and, lb_not _ hi, Bool.and_eq_true, Bool.not_eq_true', r5 q i hq hi]
              constructor
              · rintro ⟨⟨x1, _⟩, x2⟩
                exact ⟨x1, fun _ g => by rw [(fb i hi).mpr g] at x2; cases x2⟩
              · rintro ⟨x1, x2⟩
                refine ⟨⟨x1, fun g => by omega⟩, ?_⟩
                cases x : lb (h5 173 (4 * (b : Int) + (q : Int))) i
                · rfl
                · exact (x2 (by omega) ((fb i hi).mp x)).elim
            · rw [up_oth (by omega), r5 q i hq hi]
              exact ⟨fun x => ⟨x.1, fun g => x.2 (by omega)⟩, fun x => ⟨x.1, fun g => x.2 (by omega)⟩⟩
    have ones := lupN (N := 4) (P := fun p => ∀ h4, EX [174] [] h3 h4 → (∀ q : Nat, q < p → h4 174 (q : Int) = -1) → p_N_covered_43 (n + 0) (ai_q 0 n Q) 138 (s : Int) ((2 * e + s : Nat) : Int) (p : Int) n hr h4) ?_ ?_
    · exact ones h3 EX_rf fun q hq => by omega
    · intro h4 e4 g4
      refine b_N_covered_43 ⟨fun _ => ?_, fun q => by omega⟩
      refine key 252 (fun _ => True) (rmG_le hF) 0 0 h4 e4 (fun p i hp hi => ?_) (by rw [Nat.zero_add]; exact hV.symm) (by omega)
      rw [g4 p hp, lb_m1 hi]
      exact ⟨fun _ => trivial, fun _ => rfl⟩
    · intro p hp ih h4 e4 g4
      refine b_N_covered_43 ⟨fun q => by omega, fun _ => ?_⟩
      simp (disch := omega) only [n0 W, nr_57 W, w32_id, true_and]
      repeat (refine ⟨by omega, ?_⟩)
      refine ih _ (EX_upc e4 (by decide)) fun q hq => ?_
      by_cases y : q = p
      · subst y; rw [up_same]
      · rw [up_oth (by omega)]; exact g4 q (by omega)
  · rcases N1 s hs with q | q
    · omega
    · rw [q]
      repeat (refine ⟨by omega, ?_⟩)
      exact (by first | exact q_at rfl (H _ F1 B1 N1) | exact (H _ F1 B1 N1))
end
