-- deps: 18 19 20 21 23 24 25 26 27 28 29 22 30 31 32 33 34 35 36 37 38 39 40 41 42 43 44 45 46 47 48 49 50 51 62 63 64 65 66 67 68 69 70 71 72 73 74 75 76 77 78 79 80 81 82 83 84 85 86 87 88 89 90 91 92 93 94 95 96 97 9H
/-! the reference: log, suspects -/
section
variable {Q : RP} {n : Nat} {hr h : HP} {S I : Nat} {t o t' o' : Int → Int} {LG : List (Nat × Int)}
def LGn (h : HP) (LG : List (Nat × Int)) : Prop := h 138 61 = (LG.length : Int) ∧ ∀ (j w : Nat) (a : Int), LG[j]? = some (w, a) → h 176 (j : Int) = (w : Int) ∧ h 177 (j : Int) = a
theorem sp_N_ask {w : Int} {e : Nat} (W : NW n hr) (T : TV S I t o) (B : NB S I t o e h) (hm' : mok t' o') (M : NM 24 t' o' h) (G : LGn h LG) (ok : LGok I LG) (h0 : ¬ (0 < S ∧ wq I w) → Q (1, -1) n hr (ai_up h 138 0 0)) (h2 : (0 < S ∧ wq I w) → ¬ LG.length < 20 → Q (1, -3) n hr (ai_up h 138 0 0)) (h1 : (0 < S ∧ wq I w) → LG.length < 20 → ∀ h1, EX [176, 177] [(138, 0), (138, 61)] h h1 → (∀ j : Int, 20 ≤ j → h1 176 j = h 176 j ∧ h1 177 j = h 177 j) → LGn h1 (LG ++ [(w.toNat, aS t' o' 0 w.toNat)]) → Q (1, aS t' o' 0 w.toNat) n hr h1) : f_N_ask [(2, 138), (0, w)] n hr h Q := by
  obtain ⟨hS, hI, hm, hc, hT⟩ := T
  have B1 : NB S I t o e (ai_up h 138 0 0) := NB_1 B
  have l20 := ok.1
  apply e_N_ask
  simp only [n0 W, true_and]
  refine sp_N_states W ?_
  dsimp only
  rw [B1.1.1]
  refine ⟨fun z => (by first | exact q_at rfl (h0 (fun q => by omega)) | exact (h0 (fun q => by omega))), fun z => ⟨n0 W, ?_⟩⟩
  refine sp_N_isWordNumber W B1.1.2.1 (fun q => ?_) (fun q => ⟨fun y => absurd rfl y, fun _ => (by first | exact q_at rfl (h0 (fun y => q y.2)) | exact (h0 (fun y => q y.2)))⟩)
  refine ⟨fun _ => ?_, fun y => absurd y (by decide)⟩
  have S0 : 0 < S := by omega
  have G61 : (ai_up h 138 0 0) 138 61 = (LG.length : Int) := by rw [up_oth (by omega)]; exact G.1
  rw [G61]
  refine ⟨n0 W, fun y => ?_, fun y => (by first | exact q_at rfl (h2 ⟨S0, q⟩ (by omega)) | exact (h2 ⟨S0, q⟩ (by omega)))⟩
  obtain ⟨v, rfl⟩ := Int.eq_ofNat_of_zero_le q.1
  have H := h1 ⟨S0, q⟩ (by omega)
  have q1 := q
  unfold wq at q1
  rw [Int.toNat_natCast] at H q1
  simp (disch := omega) only [n0 W, nr_59 W, nr_60 W, true_and]
  repeat (refine ⟨by omega, ?_⟩)
  have M1 : NM 24 t' o' (ai_up (ai_up h 138 0 0) 176 (LG.length : Int) (v : Int)) := NM_fr M (by funext q; rw [up_oth (by omega), up_oth (by omega)]) (by funext q; rw [up_oth (by omega), up_oth (by omega)])
  have wv : v < 4 ^ 15 := by have : (4 : Nat) ^ 15 = 1073741824 := by decide
                             omega
  refine sp_N_ans W (by omega) hm' M1.1 M1.2 (by omega) wv (wok_mono hI q1.2.2) ?_
  simp (disch := omega) only [n0 W, nr_59 W, nr_60 W, G61, G.1, up_oth, up_same, w32_id, true_and]
  repeat (refine ⟨by omega, ?_⟩)
  rw [show (LG.length : Int) + 1 - 1 = (LG.length : Int) by omega]
  simp (disch := omega) only [up_oth, up_same]
  have H2 := H (ai_up (ai_up (ai_up (ai_up h 138 0 0) 176 (LG.length : Int) (v : Int)) 177 (LG.length : Int) (aS t' o' 0 v)) 138 61 ((LG.length : Int) + 1)) (EX_upp (EX_upc (EX_upc (EX_upp EX_rf (by decide)) (by decide)) (by decide)) (by decide)) (fun j hj => by simp (disch := omega) only [up_oth, and_self]) ⟨?_, fun j u b hj => ?_⟩
  · exact (by first | exact q_at rfl (H2) | exact (H2))
  · rw [up_same, List.length_append, List.length_singleton]; omega
  · rcases Nat.lt_or_ge j LG.length with g | g
    · rw [List.getElem?_append_left g] at hj
      have := G.2 j u b hj
      constructor
      · simp (disch := omega) only [up_oth]; exact this.1
      · simp (disch := omega) only [up_oth]; exact this.2
    · rw [List.getElem?_append_right g] at hj
      have j0 : j - LG.length = 0 := by have := (List.getElem?_eq_some_iff.mp hj).1; simp at this; omega
      rw [j0] at hj
      cases hj
      rw [show j = LG.length by omega]
      constructor
      · simp (disch := omega) only [up_oth, up_same]
      · simp (disch := omega) only [up_oth, up_same]
theorem sp_N_forget (W : NW n hr) (G : LGn h LG) (hQ : ∀ h1, EX [] [(138, 0), (138, 61)] h h1 → LGn h1 [] → Q (0, (LG.length : Int)) n hr h1) : f_N_forget [(2, 138)] n hr h Q := by
  apply e_N_forget
  have G61 : (ai_up h 138 0 0) 138 61 = (LG.length : Int) := by rw [up_oth (by omega)]; exact G.1
  simp only [n0 W, G61, true_and, true_or, or_true]
  have H := hQ (ai_up (ai_up h 138 0 0) 138 61 0) (EX_upp (EX_upp EX_rf (by decide)) (by decide)) ⟨by rw [up_same]; rfl, fun j w a hj => (by cases hj)⟩
  exact (by first | exact q_at rfl (H) | exact (H))
theorem sp_N_isSuspected {b : Int} (W : NW n hr) (hI : I ≤ 3) (G : LGn h LG) (ok : LGok I LG) (hb : 0 ≤ b ∧ b ≤ 72) (hm' : mok t' o') (r : NM b t' o' h) (h1 : fit LG t' o' → Q (0, 1) n hr h) (h0 : ¬ fit LG t' o' → Q (0, 0) n hr h) : f_N_isSuspected [(2, 138), (0, b)] n hr h Q := by
  apply e_N_isSuspected
  have loop := lupN (N := LG.length) (P := fun k => (∀ (j : Nat) p, j < k → LG[j]? = some p → aS t' o' 0 p.1 = p.2) → p_N_isSuspected_2 (n + 0) (ai_q 0 n Q) 138 b (k : Int) n hr h) ?_ ?_
  · exact loop fun j p hj => by omega
  · intro g
    refine b_N_isSuspected_2 ?_
    simp only [n0 W, G.1, true_and, true_or, or_true]
    refine ⟨fun _ => q_at rfl (h1 fun p hp => ?_), fun z => by omega⟩
    obtain ⟨j, hj⟩ := List.getElem?_of_mem hp
    exact g j p (List.getElem?_eq_some_iff.mp hj).1 hj
  · intro k hk ih g
    have hp := List.getElem?_eq_getElem hk
    have okp := ok.2 _ (List.getElem_mem hk)
    generalize LG[k] = p at hp okp
    obtain ⟨w, a⟩ := p
    have gk := G.2 k w a hp
    have l20 := ok.1
    refine b_N_isSuspected_2 ?_
    simp (disch := omega) only [n0 W, nr_59 W, nr_60 W, G.1, gk.1, true_and, true_or, or_true]
    refine ⟨fun z => by omega, fun _ => ?_⟩
    repeat (refine ⟨by omega, ?_⟩)
    refine sp_N_ans W hb hm' r.1 r.2 (by omega) (wl15 okp.2) (wok_mono hI okp.1) ?_
    simp (disch := omega) only [n0 W, nr_60 W, gk.2, true_and, true_or, or_true]
    repeat (refine ⟨by omega, ?_⟩)
    refine ⟨fun z => ?_, fun z => ?_⟩
    · rw [w32_id (by omega) (by omega)]
      refine ih fun j q hj hq => ?_
      by_cases y : j = k
      · subst y; rw [hp] at hq; cases hq; exact lcmp0.mp z
      · exact g j q (by omega) hq
    · exact q_at rfl (h0 fun f => z (lcmp0.mpr (f (w, a) (List.mem_of_getElem? hp))))
def NSs (S I : Nat) (t o : Int → Int) (LG : List (Nat × Int)) (h : HP) : Prop := h 138 63 = ((SUS S I t o LG).length : Int) ∧ rowL (h 178) 0 (SUS S I t o LG)
/-- what these calls change -/
def fxZ (h h1 : HP) : Prop := EX [147, 148, 161, 162, 163, 178, 179] [(138, 0), (138, 43), (138, 44), (138, 45), (138, 46), (138, 63)] h h1 ∧ (∀ a : Int, a < 48 → h1 147 a = h 147 a ∧ h1 148 a = h 148 a) ∧ (NO h → NO h1)
theorem fxZ_tr {h1 h2 : HP} (a : fxZ h h1) (b : fxZ h1 h2) : fxZ h h2 := ⟨EX_tr a.1 b.1, fun x hx => ⟨(b.2.1 x hx).1.trans (a.2.1 x hx).1, (b.2.1 x hx).2.trans (a.2.1 x hx).2⟩, fun q => b.2.2 (a.2.2 q)⟩
theorem fxZ_of {h1 : HP} {cs : List Int} {ps : List (Int × Int)} (e : EX cs ps h h1) (a : ∀ c ∈ cs, c ∈ [161, 162, 163, 178, (179 : Int)]) (b : ∀ p ∈ ps, p ∈ [(138, 0), (138, 43), (138, 44), (138, 45), (138, 46), ((138 : Int), (63 : Int))]) : fxZ h h1 := by
  have k : ∀ c : Int, c = 147 ∨ c = 148 → h1 c = h c := fun c hc => EX_sy e (fun q => by have := a c q; simp only [List.mem_cons, List.not_mem_nil, or_false] at this; omega) (fun j q => by have := b _ q; simp only [List.mem_cons, List.not_mem_nil, or_false, Prod.mk.injEq] at this; omega)
  refine ⟨EX_le e (fun c hc => ?_) (fun p hp => Or.inl (b p hp)), fun x _ => by rw [k 147 (Or.inl rfl), k 148 (Or.inr rfl)]; exact ⟨rfl, rfl⟩, fun q => by unfold NO; rw [k 147 (Or.inl rfl), k 148 (Or.inr rfl)]; exact q⟩
  have := a c hc
  simp only [List.mem_cons, List.not_mem_nil, or_false] at this ⊢
  omega
theorem fxZ_L {h1 : HP} (f : fxL 48 h h1) (g : NO h1) : fxZ h h1 := ⟨EX_le f.1 (by decide) (by decide), fun a ha => f.2 a (by omega), fun _ => g⟩
theorem LGn_Z {h1 : HP} (f : fxZ h h1) (G : LGn h LG) : LGn h1 LG := by
  unfold LGn; rw [f.1 138 61 (by decide) (by decide), EX_fn f.1 (c := 176) (by decide) (by decide), EX_fn f.1 (c := 177) (by decide) (by decide)]; exact G
theorem sp_N_laysSuspects {e : Nat} (W : NW n hr) (T : TV S I t o) (B : NB S I t o e h) (G : LGn h LG) (ok : LGok I LG) (hQ : ∀ h1, fxZ h h1 → NB S I t o e h1 → NSs S I t o LG h1 → Q (9, 0) n hr h1) : f_N_laysSuspects [(2, 138)] n hr h Q := by
  have TT := T
  obtain ⟨hS, hI, hm, hc, hT⟩ := T
  have ub := UN_b hm hS hI
  apply e_N_laysSuspects
  simp only [n0 W, true_and, true_or, or_true]
  have e0 : EX [] [(138, 63)] h (ai_up h 138 63 0) := EX_upp EX_rf (by decide)
  have b0 := NB_fr B e0 (by decide)
  refine sp_N_mutantMany W TT b0.1 b0.2.1 ?_
  dsimp only
  have fin : ∀ h1, fxZ h h1 → NB S I t o e h1 → NSs S I t o LG h1 → p_N_laysSuspects_12 (n + 0) (ai_q 0 n Q) 138 (UN S I t o : Int) ((UN S I t o : Int) + 1) n hr h1 := fun h1 f1 b1 s1 => b_N_laysSuspects_12 ⟨fun _ => q_at rfl (hQ h1 f1 b1 s1), fun q => by omega⟩
  have main := lupN (N := UN S I t o) (P := fun k => ∀ h1, fxZ h h1 → NB S I t o e h1 → h1 138 63 = ((susK S I t o LG k).length : Int) → rowL (h1 178) 0 (susK S I t o LG k) → p_N_laysSuspects_12 (n + 0) (ai_q 0 n Q) 138 (UN S I t o : Int) (k : Int) n hr h1) ?_ ?_
  · exact main (ai_up h 138 63 0) (fxZ_of e0 (by decide) (by decide)) b0 (by rw [up_same]; rfl) fun j w hj => (by cases hj)
  · intro h1 f1 b1 c1 R1
    have sb := (susK_b (S := S) (I := I) (t := t) (o := o) (LG := LG) (UN S I t o)).1
    have M0 := NX_NM b1.1
    refine b_N_laysSuspects_12 ⟨fun q => by omega, fun _ => ⟨n0 W, sp_N_states W ?_⟩⟩
    dsimp only
    rw [b1.1.1]
    refine ⟨fun q => ?_, fun q => ⟨fun _ => ⟨fun _ => ?_, fun y => by omega⟩, fun y => by omega⟩⟩
    · refine q_at rfl (hQ h1 f1 b1 ?_)
      unfold NSs; rw [SUS_n fun y => by omega]
      exact ⟨c1, R1⟩
    · refine ⟨n0 W, sp_N_isSuspected W hI (LGn_Z f1 G) ok (by omega) hm M0 (fun f => ?_) (fun f => ?_)⟩
      · refine ⟨fun _ => ⟨n0 W, n0 W, fun _ => ?_, fun y => by omega⟩, fun y => absurd y (by decide)⟩
        simp (disch := omega) only [n0 W, nr_62 W, c1, up_oth, w32_id, true_and]
        repeat (refine ⟨by omega, ?_⟩)
        have e2 : EX [178] [(138, 63)] h1 (ai_up (ai_up h1 178 ((susK S I t o LG (UN S I t o)).length : Int) 1000) 138 63 (((susK S I t o LG (UN S I t o)).length : Int) + 1)) := EX_upp (EX_upc EX_rf (by decide)) (by decide)
        refine fin _ (fxZ_tr f1 (fxZ_of e2 (by decide) (by decide))) (NB_fr b1 e2 (by decide)) ?_
        unfold NSs
        rw [SUS_y ⟨by omega, f⟩]
        refine ⟨by rw [up_same, List.length_append, List.length_singleton]; omega, fun j v hj => ?_⟩
        rw [up_oth (by omega)]
        rcases at_add.mp hj with ⟨q1, q2⟩ | ⟨q1, q2⟩
        · rw [up_oth (by omega)]; exact R1 j v q2
        · subst q1; subst q2; rw [Int.zero_add, up_same]; rfl
      · refine ⟨fun y => absurd rfl y, fun _ => ?_⟩
        rw [w32_id (by omega) (by omega)]
        refine fin h1 f1 b1 ?_
        unfold NSs; rw [SUS_n fun y => f y.2]
        exact ⟨c1, R1⟩
  · intro k hk ih h1 f1 b1 c1 R1
    have mk := mok_Mu hm hS hI hc hk
    have mb := mu_b hm hS hI hc hk
    have sb := (susK_b (S := S) (I := I) (t := t) (o := o) (LG := LG) k).1
    refine b_N_laysSuspects_12 ⟨fun q => by omega, fun _ => ⟨n0 W, sp_N_states W ?_⟩⟩
    dsimp only
    rw [b1.1.1]
    refine ⟨fun q => by omega, fun q => ⟨fun y => by omega, fun _ => ⟨n0 W, ?_⟩⟩⟩
    refine sp_N_laysMutant W TT b1.1 b1.2.1 (by omega) hk fun h2 f2 m2 => ?_
    have F2 : fxZ h h2 := fxZ_tr f1 (fxZ_L f2 (NO_NM mk m2))
    have b2 := NB_L (by omega) f2 b1
    have c2 : h2 138 63 = ((susK S I t o LG k).length : Int) := by rw [f2.1 138 63 (by decide) (by decide)]; exact c1
    have k78 : h2 178 = h1 178 := EX_fn f2.1 (by decide) (by decide)
    refine ⟨fun y => by omega, fun _ => ⟨n0 W, ?_⟩⟩
    refine sp_N_isSuspected W hI (LGn_Z F2 G) ok (by omega) mk m2 (fun f => ?_) (fun f => ?_)
    · refine ⟨fun _ => ⟨n0 W, n0 W, fun y => by omega, fun _ => ?_⟩, fun y => absurd y (by decide)⟩
      simp (disch := omega) only [n0 W, nr_62 W, c2, up_oth, w32_id, true_and]
      repeat (refine ⟨by omega, ?_⟩)
      have e3 : EX [178] [(138, 63)] h2 (ai_up (ai_up h2 178 ((susK S I t o LG k).length : Int) (k : Int)) 138 63 (((susK S I t o LG k).length : Int) + 1)) := EX_upp (EX_upc EX_rf (by decide)) (by decide)
      refine ih _ (fxZ_tr F2 (fxZ_of e3 (by decide) (by decide))) (NB_fr b2 e3 (by decide)) ?_ ?_
      · rw [up_same, susK_y f, List.length_append, List.length_singleton]; omega
      · rw [susK_y f]
        intro j v hj
        rw [up_oth (by omega)]
        rcases at_add.mp hj with ⟨q1, q2⟩ | ⟨q1, q2⟩
        · rw [up_oth (by omega), k78]; exact R1 j v q2
        · subst q1; subst q2; rw [Int.zero_add, up_same]
    · refine ⟨fun y => absurd rfl y, fun _ => ?_⟩
      rw [w32_id (by omega) (by omega)]
      exact ih h2 F2 b2 (by rw [susK_n f]; exact c2) (by rw [susK_n f, k78]; exact R1)
theorem sp_N_suspects {what : Int} {e : Nat} (W : NW n hr) (T : TV S I t o) (B : NB S I t o e h) (G : LGn h LG) (ok : LGok I LG) (h0 : ¬ (0 ≤ what ∧ what ≤ 1) → Q (0, -1) n hr (ai_up h 138 0 0)) (h1 : (0 ≤ what ∧ what ≤ 1) → ∀ h1, fxZ h h1 → NB S I t o e h1 → Q (0, if what = 0 then ((SUS S I t o LG).length : Int) - vMa S I t o LG else vMa S I t o LG) n hr h1) : f_N_suspects [(2, 138), (0, what)] n hr h Q := by
  have TT := T
  obtain ⟨hS, hI, hm, hc, hT⟩ := T
  have sb := SUS_b (LG := LG) hm hS hI
  have B1 : NB S I t o e (ai_up h 138 0 0) := NB_1 B
  have F1 : fxZ h (ai_up h 138 0 0) := fxZ_of EX_1 (by decide) (by decide)
  apply e_N_suspects
  refine ⟨n0 W, fun z => (by first | exact q_at rfl (h0 (by omega)) | exact (h0 (by omega))), fun z => ⟨fun z2 => ⟨n0 W, ?_⟩, fun z2 => (by first | exact q_at rfl (h0 (by omega)) | exact (h0 (by omega)))⟩⟩
  refine sp_N_laysSuspects W TT B1 (LGn_Z F1 G) ok fun h2 f2 b2 s2 => ?_
  have H := h1 ⟨z, z2⟩ h2 (fxZ_tr F1 f2) b2
  rw [SUS_ma hm hS hI] at H
  simp (disch := omega) only [n0 W, nr_62 W, s2.1, w32_id, true_and]
  refine ⟨fun y => ?_, fun y => ?_⟩
  · rw [List.getElem?_eq_none (by omega), if_neg (show ¬ none = some 1000 by simp)] at H
    refine ⟨fun q => ?_, fun q => ?_⟩
    · rw [if_neg q] at H; exact (by first | exact q_at rfl (H) | exact (H))
    · rw [if_pos q] at H; exact (by first | exact q_at rfl (H) | exact (H))
  · have ee := List.getElem?_eq_getElem (l := SUS S I t o LG) (i := (SUS S I t o LG).length - 1) (by omega)
    have r := s2.2 _ _ ee
    rw [ee] at H
    generalize (SUS S I t o LG)[(SUS S I t o LG).length - 1] = v at *
    rw [show (0 : Int) + (((SUS S I t o LG).length - 1 : Nat) : Int) = ((SUS S I t o LG).length : Int) - 1 by omega] at r
    rw [r]
    repeat (refine ⟨by omega, ?_⟩)
    refine ⟨fun q => ⟨fun q2 => ?_, fun q2 => ?_⟩, fun q => ⟨fun q2 => ?_, fun q2 => ?_⟩⟩
    · rw [if_neg q2, if_neg (fun y => q (by cases y; rfl))] at H; exact (by first | exact q_at rfl (H) | exact (H))
    · rw [if_pos q2, if_neg (fun y => q (by cases y; rfl))] at H; exact (by first | exact q_at rfl (H) | exact (H))
    · rw [if_neg q2, if_pos (by rw [show v = 1000 by omega])] at H; exact (by first | exact q_at rfl (H) | exact (H))
    · rw [if_pos q2, if_pos (by rw [show v = 1000 by omega])] at H; exact (by first | exact q_at rfl (H) | exact (H))
theorem sp_N_suspect {k : Int} {e : Nat} (W : NW n hr) (T : TV S I t o) (B : NB S I t o e h) (G : LGn h LG) (ok : LGok I LG) (h0 : k < 0 → Q (0, -1) n hr (ai_up h 138 0 0)) (h1 : 0 ≤ k → ∀ h1, fxZ h h1 → NB S I t o e h1 → Q (0, match (SUS S I t o LG)[k.toNat]? with | some v => (v : Int) | none => -2) n hr h1) : f_N_suspect [(2, 138), (0, k)] n hr h Q := by
  have TT := T
  obtain ⟨hS, hI, hm, hc, hT⟩ := T
  have sb := SUS_b (LG := LG) hm hS hI
  have B1 : NB S I t o e (ai_up h 138 0 0) := NB_1 B
  have F1 : fxZ h (ai_up h 138 0 0) := fxZ_of EX_1 (by decide) (by decide)
  apply e_N_suspect
  refine ⟨n0 W, fun z => ⟨n0 W, ?_⟩, fun z => (by first | exact q_at rfl (h0 z) | exact (h0 z))⟩
  obtain ⟨i, rfl⟩ := Int.eq_ofNat_of_zero_le z
  refine sp_N_laysSuspects W TT B1 (LGn_Z F1 G) ok fun h2 f2 b2 s2 => ?_
  have H := h1 z h2 (fxZ_tr F1 f2) b2
  rw [Int.toNat_natCast] at H
  simp (disch := omega) only [n0 W, nr_62 W, s2.1, true_and]
  refine ⟨fun y => ?_, fun y => ?_⟩
  · rw [List.getElem?_eq_none (by omega)] at H; exact (by first | exact q_at rfl (H) | exact (H))
  · have ee := List.getElem?_eq_getElem (l := SUS S I t o LG) (i := i) (by omega)
    have r := s2.2 _ _ ee
    rw [ee] at H
    rw [Int.zero_add] at r
    rw [r]
    repeat (refine ⟨by omega, ?_⟩)
    exact (by first | exact q_at rfl (H) | exact (H))
end
