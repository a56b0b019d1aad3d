-- deps: 18 19 20 21 23 24 25 26 27 28 29 22 30 31 32 33 34 35 36 37 38 39 40 41 42 43 44 45 46 47 48 49 50 51 62 63 64 65 66 67 68 69 70 71 72 73 74 75 76 77 78 79 80 81 82 83 84 85 86 87 88 89 90 91 92 93 94 95 96
/-! the reference: small faults that are equal, noticed, missed -/
section
variable {Q : RP} {n : Nat} {hr h : HP} {S I : Nat} {t o t' o' : Int → Int}
/-- the third machine is one -/
def NO (h : HP) : Prop := mok (fun a => h 147 (48 + a)) (fun a => h 148 (48 + a))
theorem NO_NM (hm' : mok t' o') (M : NM 48 t' o' h) : NO h := mok_r24 hm' (r24_sy M.1) (r24_sy M.2)
/-- all that these calls change; the machine and the built one stay -/
def xsQ : Nat → List Int
  | 0 => []
  | 1 => [164, 165]
  | 2 => [166, 167]
  | _ => [173, 174, 175]
theorem xsQ_n (p : Nat) : (147 : Int) ∉ xsQ p ∧ (148 : Int) ∉ xsQ p ∧ (140 : Int) ∉ xsQ p := match p with
  | 0 => by decide
  | 1 => by decide
  | 2 => by decide
  | _ + 3 => by show (147 : Int) ∉ [173, 174, (175 : Int)] ∧ (148 : Int) ∉ [173, 174, (175 : Int)] ∧ (140 : Int) ∉ [173, 174, (175 : Int)]; decide
abbrev psQ : List (Int × Int) := [(138, 0), (138, 31), (138, 37), (138, 41), (138, 42), (138, 43), (138, 44), (138, 45), (138, 46)]
def fxQ (p : Nat) (h h1 : HP) : Prop := EX ([147, 148, 150, 151, 152, 155, 156, 157, 158, 159, 160, 161, 162, 163] ++ xsQ p) psQ h h1 ∧ (∀ a : Int, a < 48 → h1 147 a = h 147 a ∧ h1 148 a = h 148 a) ∧ (NO h → NO h1)
theorem fxQ_tr {p : Nat} {h1 h2 : HP} (a : fxQ p h h1) (b : fxQ p h1 h2) : fxQ p h h2 := ⟨EX_tr a.1 b.1, fun x hx => ⟨(b.2.1 x hx).1.trans (a.2.1 x hx).1, (b.2.1 x hx).2.trans (a.2.1 x hx).2⟩, fun q => b.2.2 (a.2.2 q)⟩
theorem fxQ_of {p : Nat} {h1 : HP} {cs : List Int} {ps : List (Int × Int)} (e : EX cs ps h h1) (a : ∀ c ∈ cs, c ∈ [150, 151, 152, 155, 156, 157, 158, 159, 160, 161, 162, (163 : Int)] ++ xsQ p) (b : ∀ q ∈ ps, q ∈ psQ) : fxQ p h h1 := by
  have x := xsQ_n p
  have k : ∀ c : Int, c = 147 ∨ c = 148 → h1 c = h c := fun c hc => EX_sy e (fun q => by
    rcases List.mem_append.mp (a c q) with y | y
    · simp only [List.mem_cons, List.not_mem_nil, or_false] at y; omega
    · rcases hc with rfl | rfl
      · exact x.1 y
      · exact x.2.1 y) (fun j q => by have := b _ q; simp only [List.mem_cons, List.not_mem_nil, or_false, Prod.mk.injEq] at this; omega)
  refine ⟨EX_le e (fun c hc => ?_) (fun q hq => Or.inl (b q hq)), fun x _ => by rw [k 147 (Or.inl rfl), k 148 (Or.inr rfl)]; exact ⟨rfl, rfl⟩, fun q => by unfold NO; rw [k 147 (Or.inl rfl), k 148 (Or.inr rfl)]; exact q⟩
  rcases List.mem_append.mp (a c hc) with y | y
  · refine List.mem_append_left _ ?_
    simp only [List.mem_cons, List.not_mem_nil, or_false] at y ⊢
    omega
  · exact List.mem_append_right _ y
theorem fxQ_140 {p : Nat} {h1 : HP} (f : fxQ p h h1) : h1 140 = h 140 := EX_fn f.1 (fun q => by
  rcases List.mem_append.mp q with y | y
  · revert y; decide
  · exact (xsQ_n p).2.2 y) (by decide)
theorem fxQ_NX {p : Nat} {h1 : HP} (f : fxQ p h h1) (X : NX S I t o h) : NX S I t o h1 := by
  refine ⟨?_, ?_, fun a a1 a2 => ?_, fun a a1 a2 => ?_⟩
  · rw [fxQ_140 f]; exact X.1
  · rw [fxQ_140 f]; exact X.2.1
  · rw [(f.2.1 a (by omega)).1]; exact X.2.2.1 a a1 a2
  · rw [(f.2.1 a (by omega)).2]; exact X.2.2.2 a a1 a2
theorem fxQ_NM {p : Nat} {h1 : HP} (f : fxQ p h h1) (M : NM 24 t' o' h) : NM 24 t' o' h1 := by
  refine ⟨fun a a1 a2 => ?_, fun a a1 a2 => ?_⟩
  · show h1 147 (24 + a) = _
    rw [(f.2.1 (24 + a) (by omega)).1]; exact M.1 a a1 a2
  · show h1 148 (24 + a) = _
    rw [(f.2.1 (24 + a) (by omega)).2]; exact M.2 a a1 a2
/-- a machine is laid at b -/
def fxL (b : Int) (h h1 : HP) : Prop := EX [147, 148] [(138, 43), (138, 44), (138, 45), (138, 46)] h h1 ∧ ∀ a : Int, (a < b ∨ b + 24 ≤ a) → h1 147 a = h 147 a ∧ h1 148 a = h 148 a
theorem fxL_Q {p : Nat} {b : Int} {h1 : HP} (hb : 48 ≤ b) (f : fxL b h h1) (g : NO h1) : fxQ p h h1 := ⟨EX_le f.1 (fun c hc => List.mem_append_left _ (by revert c; decide)) (fun q hq => Or.inl (by revert q; decide)), fun a ha => f.2 a (by omega), fun _ => g⟩
theorem NB_L {b : Int} {e : Nat} {h1 : HP} (hb : 24 ≤ b) (f : fxL b h h1) (B : NB S I t o e h) : NB S I t o e h1 := by
  have g : ∀ c : Int, c ≠ 147 → c ≠ 148 → c ≠ 138 → h1 c = h c := fun c x y z => EX_fn f.1 (by simp [x, y]) (by simp [z])
  obtain ⟨b1, b2, b3, b4, b5, b6⟩ := B
  refine ⟨⟨?_, ?_, fun a a1 a2 => ?_, fun a a1 a2 => ?_⟩, ?_, ?_, ?_, ?_, ?_⟩
  · rw [g 140 (by decide) (by decide) (by decide)]; exact b1.1
  · rw [g 140 (by decide) (by decide) (by decide)]; exact b1.2.1
  · rw [(f.2 a (by omega)).1]; exact b1.2.2.1 a a1 a2
  · rw [(f.2 a (by omega)).2]; exact b1.2.2.2 a a1 a2
  · unfold NP; rw [g 149 (by decide) (by decide) (by decide), g 153 (by decide) (by decide) (by decide), g 154 (by decide) (by decide) (by decide), f.1 138 23 (by decide) (by decide), f.1 138 29 (by decide) (by decide)]; exact b2
  · unfold NSg; rw [g 155 (by decide) (by decide) (by decide), f.1 138 31 (by decide) (by decide)]; exact b3
  · exact NWy_fr b4 (g 156 (by decide) (by decide) (by decide)) (g 157 (by decide) (by decide) (by decide)) (g 158 (by decide) (by decide) (by decide))
  · unfold NSu RW; rw [g 161 (by decide) (by decide) (by decide), g 162 (by decide) (by decide) (by decide)]; exact b5
  · unfold NEx; rw [g 140 (by decide) (by decide) (by decide)]; exact b6
theorem sp_N_laysMutant {b : Int} {k : Nat} (W : NW n hr) (T : TV S I t o) (X : NX S I t o h) (P : NP S I t o h) (hb : 24 ≤ b ∧ b ≤ 72) (hk : k < UN S I t o) (hQ : ∀ h1, fxL b h h1 → NM b (tMu S I t o k) (oMu S I t o k) h1 → Q (9, 0) n hr h1) : f_N_laysMutant [(2, 138), (0, (k : Int)), (0, b)] n hr h Q := by
  have TT := T
  obtain ⟨hS, hI, hm, hc, hT⟩ := T
  have mb := mu_b hm hS hI hc hk
  apply e_N_laysMutant
  have loop := lupN (N := 24) (P := fun c => ∀ h1, fxL b h h1 → (∀ a : Int, 0 ≤ a → a < (c : Int) → h1 147 (b + a) = t a ∧ h1 148 (b + a) = o a) → p_N_laysMutant_2 (n + 0) (ai_q 0 n Q) 138 (k : Int) b (c : Int) n hr h1) ?_ ?_
  · exact loop h ⟨EX_rf, fun _ _ => ⟨rfl, rfl⟩⟩ fun a a1 a2 => by omega
  · intro h1 f1 g1
    have X1 : NX S I t o h1 := by
      refine ⟨?_, ?_, fun a a1 a2 => ?_, fun a a1 a2 => ?_⟩
      · rw [EX_fn f1.1 (c := 140) (by decide) (by decide)]; exact X.1
      · rw [EX_fn f1.1 (c := 140) (by decide) (by decide)]; exact X.2.1
      · rw [(f1.2 a (by omega)).1]; exact X.2.2.1 a a1 a2
      · rw [(f1.2 a (by omega)).2]; exact X.2.2.2 a a1 a2
    have P1 : NP S I t o h1 := by
      unfold NP; rw [EX_fn f1.1 (c := 149) (by decide) (by decide), EX_fn f1.1 (c := 153) (by decide) (by decide), EX_fn f1.1 (c := 154) (by decide) (by decide), f1.1 138 23 (by decide) (by decide), f1.1 138 29 (by decide) (by decide)]; exact P
    refine b_N_laysMutant_2 ⟨fun _ => ⟨n0 W, ?_⟩, fun z => by omega⟩
    refine sp_N_tellsMutant W TT X1 P1 hk fun h2 f2 v1 v2 v3 v4 => ?_
    have ec : b + 3 * (muS S I t o k : Int) + (muI S I t o k : Int) = b + muC S I t o k := by unfold muC; omega
    simp (disch := omega) only [n0 W, nr_20 W, nr_21 W, v1, v2, v3, v4, up_oth, w32_id, ec, true_and]
    repeat (refine ⟨by omega, ?_⟩)
    have k1 : h2 147 = h1 147 := EX_fn f2 (by decide) (by decide)
    have k2 : h2 148 = h1 148 := EX_fn f2 (by decide) (by decide)
    refine hQ (ai_up (ai_up h2 147 (b + muC S I t o k) (muX S I t o k)) 148 (b + muC S I t o k) (muY S I t o k)) ⟨EX_upc (EX_upc (EX_tr f1.1 (EX_le f2 (by decide) (by decide))) (by decide)) (by decide), fun a ha => ?_⟩ ⟨fun a a1 a2 => ?_, fun a a1 a2 => ?_⟩
    · have := f1.2 a ha
      rw [← k1, ← k2] at this
      constructor
      · simp (disch := omega) only [up_oth]; exact this.1
      · simp (disch := omega) only [up_oth]; exact this.2
    · have := g1 a a1 (by omega)
      rw [← k1, ← k2] at this
      show (ai_up (ai_up h2 147 (b + muC S I t o k) (muX S I t o k)) 148 (b + muC S I t o k) (muY S I t o k)) 147 (b + a) = _
      unfold tMu up1
      by_cases z : a = muC S I t o k
      · rw [if_pos z, z]; simp (disch := omega) only [up_oth, up_same]
      · rw [if_neg z]; simp (disch := omega) only [up_oth]; exact this.1
    · have := g1 a a1 (by omega)
      rw [← k1, ← k2] at this
      show (ai_up (ai_up h2 147 (b + muC S I t o k) (muX S I t o k)) 148 (b + muC S I t o k) (muY S I t o k)) 148 (b + a) = _
      unfold oMu up1
      by_cases z : a = muC S I t o k
      · rw [if_pos z, z, up_same]
      · rw [if_neg z]; simp (disch := omega) only [up_oth]; exact this.2
  · intro c hc24 ih h1 f1 g1
    have r1 : h1 147 (c : Int) = t (c : Int) := by rw [(f1.2 (c : Int) (by omega)).1]; exact X.2.2.1 _ (by omega) (by omega)
    have r2 : h1 148 (c : Int) = o (c : Int) := by rw [(f1.2 (c : Int) (by omega)).2]; exact X.2.2.2 _ (by omega) (by omega)
    refine b_N_laysMutant_2 ⟨fun z => by omega, fun _ => ?_⟩
    simp (disch := omega) only [n0 W, nr_20 W, nr_21 W, Int.zero_add, r1, r2, up_oth, w32_id, true_and]
    repeat (refine ⟨by omega, ?_⟩)
    refine ih _ ⟨EX_upc (EX_upc f1.1 (by decide)) (by decide), fun a ha => ?_⟩ fun a a1 a2 => ?_
    · have := f1.2 a ha
      constructor
      · simp (disch := omega) only [up_oth]; exact this.1
      · simp (disch := omega) only [up_oth]; exact this.2
    · by_cases z : a = (c : Int)
      · subst z
        constructor
        · simp (disch := omega) only [up_oth, up_same]
        · rw [up_same]
      · have := g1 a a1 (by omega)
        constructor
        · simp (disch := omega) only [up_oth]; exact this.1
        · simp (disch := omega) only [up_oth]; exact this.2
theorem sp_N_isMutant {k : Int} (W : NW n hr) (T : TV S I t o) (X : NX S I t o h) (P : NP S I t o h) (h1 : (0 ≤ k ∧ k < (UN S I t o : Int)) → Q (0, 1) n hr h) (h0 : ¬ (0 ≤ k ∧ k < (UN S I t o : Int)) → Q (0, 0) n hr h) : f_N_isMutant [(2, 138), (0, k)] n hr h Q := by
  apply e_N_isMutant
  simp only [n0 W, true_and, true_or, or_true]
  refine ⟨fun z => (by first | exact q_at rfl (h0 (by omega)) | exact (h0 (by omega))), fun z => sp_N_mutantMany W T X P ?_⟩
  exact ⟨fun z2 => (by first | exact q_at rfl (h0 (by dsimp only at z2; omega)) | exact (h0 (by dsimp only at z2; omega))), fun z2 => (by first | exact q_at rfl (h1 ⟨z, by dsimp only at z2; omega⟩) | exact (h1 ⟨z, by dsimp only at z2; omega⟩))⟩
theorem sp_N_mutant {k what : Int} {e : Nat} (W : NW n hr) (T : TV S I t o) (B : NB S I t o e h) (h1 : (0 ≤ k ∧ k < (UN S I t o : Int)) → (0 ≤ what ∧ what ≤ 3) → ∀ h1, fxQ 0 h h1 → NB S I t o e h1 → Q (0, vMu S I t o k.toNat what) n hr h1) (h0 : ¬ ((0 ≤ k ∧ k < (UN S I t o : Int)) ∧ 0 ≤ what ∧ what ≤ 3) → Q (0, -1) n hr (ai_up h 138 0 0)) : f_N_mutant [(2, 138), (0, k), (0, what)] n hr h Q := by
  have B1 : NB S I t o e (ai_up h 138 0 0) := NB_1 B
  apply e_N_mutant
  simp only [n0 W, true_and]
  refine sp_N_isMutant W T B1.1 B1.2.1 (fun z => ?_) (fun z => ⟨fun _ => (by first | exact q_at rfl (h0 (fun q => z q.1)) | exact (h0 (fun q => z q.1))), fun q => absurd rfl q⟩)
  refine ⟨fun q => absurd q (by decide), fun _ => ⟨fun z2 => (by first | exact q_at rfl (h0 (by omega)) | exact (h0 (by omega))), fun z2 => ⟨fun z3 => ?_, fun z3 => (by first | exact q_at rfl (h0 (by omega)) | exact (h0 (by omega)))⟩⟩⟩
  obtain ⟨i, rfl⟩ := Int.eq_ofNat_of_zero_le z.1
  simp only [n0 W, true_and]
  refine sp_N_tellsMutant W T B1.1 B1.2.1 (by omega) fun h2 f2 v1 v2 v3 v4 => ?_
  have E : EX [] [(138, 0), (138, 43), (138, 44), (138, 45), (138, 46)] h h2 := EX_tr (EX_le EX_1 (by decide) (by decide)) (EX_le f2 (by decide) (by decide))
  have H := h1 z ⟨z2, z3⟩ h2 (fxQ_of E (by decide) (by decide)) (NB_fr B1 f2 (by decide))
  unfold vMu at H
  rw [Int.toNat_natCast] at H
  simp only [n0 W, v1, v2, v3, v4, true_and]
  refine ⟨fun q => ⟨fun q2 => ⟨fun q3 => ?_, fun q3 => ?_⟩, fun q2 => ?_⟩, fun q => ?_⟩
  · rw [if_neg q, if_neg q2, if_neg q3] at H; exact (by first | exact q_at rfl (H) | exact (H))
  · rw [if_neg q, if_neg q2, if_pos q3] at H; exact (by first | exact q_at rfl (H) | exact (H))
  · rw [if_neg q, if_pos q2] at H; exact (by first | exact q_at rfl (H) | exact (H))
  · rw [if_pos q] at H; exact (by first | exact q_at rfl (H) | exact (H))
theorem sp_N_parts {a b : Int} {e : Nat} (W : NW n hr) (T : TV S I t o) (B : NB S I t o e h) (h1 : (0 ≤ a ∧ a < (UN S I t o : Int)) → (0 ≤ b ∧ b < (UN S I t o : Int)) → ∀ h1, fxQ 0 h h1 → NB S I t o e h1 → Q (0, UL I (tMu S I t o a.toNat) (oMu S I t o a.toNat) (tMu S I t o b.toNat) (oMu S I t o b.toNat) 0 0) n hr h1) (h0 : ¬ ((0 ≤ a ∧ a < (UN S I t o : Int)) ∧ 0 ≤ b ∧ b < (UN S I t o : Int)) → Q (0, -1) n hr (ai_up h 138 0 0)) : f_N_parts [(2, 138), (0, a), (0, b)] n hr h Q := by
  have TT := T
  obtain ⟨hS, hI, hm, hc, hT⟩ := T
  have B1 : NB S I t o e (ai_up h 138 0 0) := NB_1 B
  apply e_N_parts
  simp only [n0 W, true_and]
  refine sp_N_isMutant W TT B1.1 B1.2.1 (fun z => ?_) (fun z => ⟨fun _ => (by first | exact q_at rfl (h0 (fun q => z q.1)) | exact (h0 (fun q => z q.1))), fun q => absurd rfl q⟩)
  refine ⟨fun q => absurd q (by decide), fun _ => ?_⟩
  simp only [n0 W, true_and]
  refine sp_N_isMutant W TT B1.1 B1.2.1 (fun z2 => ?_) (fun z2 => ⟨fun q => absurd rfl q, fun _ => (by first | exact q_at rfl (h0 (fun q => z2 q.2)) | exact (h0 (fun q => z2 q.2)))⟩)
  refine ⟨fun _ => ?_, fun q => absurd q (by decide)⟩
  obtain ⟨i, rfl⟩ := Int.eq_ofNat_of_zero_le z.1
  obtain ⟨j, rfl⟩ := Int.eq_ofNat_of_zero_le z2.1
  have H := h1 z z2
  rw [Int.toNat_natCast, Int.toNat_natCast] at H
  simp only [n0 W, true_and]
  refine sp_N_laysMutant W TT B1.1 B1.2.1 (by omega) (by omega) fun h2 f2 m2 => ?_
  have B2 := NB_L (by omega) f2 B1
  simp only [n0 W, true_and]
  refine sp_N_laysMutant W TT B2.1 B2.2.1 (by omega) (by omega) fun h3 f3 m3 => ?_
  have B3 := NB_L (by omega) f3 B2
  have m2' : NM 48 (tMu S I t o i) (oMu S I t o i) h3 := ⟨fun x x1 x2 => by
    show h3 147 (48 + x) = _
    rw [(f3.2 (48 + x) (by omega)).1]; exact m2.1 x x1 x2, fun x x1 x2 => by
    show h3 148 (48 + x) = _
    rw [(f3.2 (48 + x) (by omega)).2]; exact m2.2 x x1 x2⟩
  simp only [n0 W, true_and]
  refine sp_N_unlike (p := 0) (q := 0) W B3.1.2.1 hI (by omega) (by omega) (mok_Mu hm hS hI hc (by omega)) (mok_Mu hm hS hI hc (by omega)) m2'.1 m2'.2 m3.1 m3.2 (by omega) (by omega) fun h4 e4 => ?_
  have e4' := EX_ex e4
  exact (by first | exact q_at rfl (H h4 (fxQ_tr (fxQ_of EX_1 (by decide) (by decide)) (fxQ_tr (fxL_Q (by omega) f2 (NO_NM (mok_Mu hm hS hI hc (by omega)) m2)) (fxQ_tr (fxL_Q (by omega) f3 (NO_NM (mok_Mu hm hS hI hc (by omega)) m2')) (fxQ_of e4' (by decide) (by decide))))) (NB_fr B3 e4' (by decide))) | exact (H h4 (fxQ_tr (fxQ_of EX_1 (by decide) (by decide)) (fxQ_tr (fxL_Q (by omega) f2 (NO_NM (mok_Mu hm hS hI hc (by omega)) m2)) (fxQ_tr (fxL_Q (by omega) f3 (NO_NM (mok_Mu hm hS hI hc (by omega)) m2')) (fxQ_of e4' (by decide) (by decide))))) (NB_fr B3 e4' (by decide))))
end
