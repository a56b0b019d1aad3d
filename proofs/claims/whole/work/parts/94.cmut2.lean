-- deps: 18 19 20 21 23 24 25 26 27 28 29 22 30 31 32 33 34 35 38 39 40 41 42 43 44 45 46 47 48 49 50 51 62 63 64 65 66 67 68 69 70 71 72 73 74 75 76 77 78 79 80 81 82 83 84 85 86 87 88 89 91 92 93
/-! the class: small faults that are equal, that are noticed -/
/-- the first number with P so far -/
def FFp (P : Nat → Prop) (k : Nat) (v : Int) : Prop := (v = -2 ∧ ∀ j, j < k → ¬ P j) ∨ ∃ j : Nat, v = (j : Int) ∧ j < k ∧ P j ∧ ∀ i, i < j → ¬ P i
theorem FFp_0 (P : Nat → Prop) : FFp P 0 (-2) := Or.inl ⟨rfl, fun j hj => by omega⟩
theorem FFp_end {P : Nat → Prop} {N : Nat} {v : Int} (h : FFp P N v) : v = fw fun k => k < N ∧ P k := by
  rcases h with ⟨h1, h2⟩ | ⟨j, h1, h2, h3, h4⟩
  · rw [h1, fw_no fun w hw => h2 w hw.1 hw.2]
  · rw [h1, fw_at (k := j) ⟨h2, h3⟩ fun i hi q => h4 i hi q.2]
theorem FFp_n {P : Nat → Prop} {k : Nat} {v : Int} (h : FFp P k v) (hn : ¬ P k) : FFp P (k + 1) v := by
  rcases h with ⟨h1, h2⟩ | ⟨j, h1, h2, h3⟩
  · refine Or.inl ⟨h1, fun j hj => ?_⟩
    by_cases y : j = k
    · subst y; exact hn
    · exact h2 j (by omega)
  · exact Or.inr ⟨j, h1, by omega, h3⟩
theorem FFp_y1 {P : Nat → Prop} {k : Nat} {v : Int} (h : FFp P k v) (z : v ≠ -2) : FFp P (k + 1) v := by
  rcases h with ⟨h1, h2⟩ | ⟨j, h1, h2, h3⟩
  · exact absurd h1 z
  · exact Or.inr ⟨j, h1, by omega, h3⟩
theorem FFp_y0 {P : Nat → Prop} {k : Nat} {v : Int} (h : FFp P k v) (hy : P k) (z : v = -2) : FFp P (k + 1) (k : Int) := by
  rcases h with ⟨h1, h2⟩ | ⟨j, h1, h2, h3⟩
  · exact Or.inr ⟨k, rfl, by omega, hy, h2⟩
  · omega
theorem r24_up {h : HP} {x c v : Int} {f : Int → Int} (r : r24 (h x) f) : r24 ((ai_up h x c v) x) (up1 f c v) := fun a h1 h2 => by
  unfold up1
  by_cases z : a = c
  · subst z; rw [up_same, if_pos rfl]
  · rw [up_oth (Or.inr z), if_neg z]; exact r a h1 h2
theorem r24_un {h : HP} {x c v g : Int} {f : Int → Int} (r : r24 (h x) (up1 f c v)) (hg : g = f c) : r24 ((ai_up h x c g) x) f := fun a h1 h2 => by
  have := r a h1 h2
  unfold up1 at this
  by_cases z : a = c
  · subst z; rw [up_same]; exact hg
  · rw [up_oth (Or.inr z), this, if_neg z]
theorem r24_fn {f : Int → Int} {h h1 : HP} {x : Int} (r : r24 (h x) f) (e : h1 x = h x) : r24 (h1 x) f := by rw [e]; exact r
section
variable {Q : RP} {n : Nat} {hr h : HP} {S I : Nat} {t o t' o' : Int → Int}
/-- the arcs that cell m holds -/
def TRm (m : Int) (t o : Int → Int) (h : HP) : Prop := r24 (h (m + 1)) t ∧ r24 (h (m + 2)) o
theorem TRm_fr {m : Int} {h1 : HP} (H : TRm m t o h) (a : h1 (m + 1) = h (m + 1)) (b : h1 (m + 2) = h (m + 2)) : TRm m t o h1 := ⟨r24_fn H.1 a, r24_fn H.2 b⟩
theorem TRm_cp {m m' : Int} (hmo : m' + 2 < m ∨ m + 2 < m') (r : TRm m' t o h) : EX [m + 1, m + 2] [] h (ai_fl (ai_fl h (m + 1) 24 (h (m' + 1))) (m + 2) 24 (h (m' + 2))) ∧ TRm m t o (ai_fl (ai_fl h (m + 1) 24 (h (m' + 1))) (m + 2) 24 (h (m' + 2))) := by
  refine ⟨fun c j hc _ => ?_, fun a h1 h2 => ?_, fun a h1 h2 => ?_⟩
  · simp only [List.mem_cons, List.not_mem_nil, or_false, not_or] at hc
    rw [fl_out (by omega), fl_out (by omega)]
  · rw [fl_out (by omega), fl_in h1 h2]; exact r.1 a h1 h2
  · rw [fl_in h1 h2]; exact r.2 a h1 h2
theorem sp_M_copyA {m m' : Int} (hm : mrow hr m n) (ho : mrow hr m' n) (hmo : m' + 2 < m ∨ m + 2 < m') (r : TRm m' t o h) (hQ : ∀ h1, EX [m + 1, m + 2] [] h h1 → TRm m t o h1 → Q (9, 0) n hr h1) : f_M_copyArcs [(2, m), (2, m')] n hr h Q := by
  have c := TRm_cp hmo r
  exact sp_M_copyArcs hm ho hmo (hQ _ c.1 c.2)
theorem sp_M_copy {m m' : Int} (hm : mrow hr m n) (ho : mrow hr m' n) (hmo : m' + 2 < m ∨ m + 2 < m') (r : TRm m' t o h) (hQ : ∀ h1, EX [m + 1, m + 2] [(m, 2), (m, 3)] h h1 → TRm m t o h1 → h1 m 2 = h m' 2 → h1 m 3 = h m' 3 → Q (9, 0) n hr h1) : f_M_copy [(2, m), (2, m')] n hr h Q := by
  have c := TRm_cp hmo r
  have m0 := hm.1
  have o0 := ho.1
  apply e_M_copy
  refine ⟨m0, sp_M_copyArcs hm ho hmo ?_⟩
  generalize ai_fl (ai_fl h (m + 1) 24 (h (m' + 1))) (m + 2) 24 (h (m' + 2)) = h0 at c
  have k : ∀ j, h0 m' j = h m' j := fun j => c.1 m' j (by simp; omega) (by simp)
  simp (disch := omega) only [m0, o0, up_oth, true_and]
  have e1 : EX [m + 1, m + 2] [(m, 2), (m, 3)] h (ai_up (ai_up h0 m 2 (h0 m' 2)) m 3 (h0 m' 3)) := EX_upp (EX_upp (EX_le c.1 (by simp) (by simp)) (by simp)) (by simp)
  have H := hQ _ e1 (TRm_fr c.2 (by funext q; rw [up_oth (by omega), up_oth (by omega)]) (by funext q; rw [up_oth (by omega), up_oth (by omega)])) (by rw [up_oth (by omega), up_same, k]) (by rw [up_same, k])
  exact (by first | exact q_at rfl (H) | exact (H))
theorem cMu_sp (hm : mok t o) (hS : S ≤ 6) (hI : I ≤ 3) (hc : clo S t) {k : Nat} (hk : k < UN S I t o) : i_shr (cMu S I t o k) 8 = muC S I t o k ∧ i_and (i_shr (cMu S I t o k) 4) 15 = muX S I t o k ∧ i_and (cMu S I t o k) 15 = muY S I t o k := by
  obtain ⟨_, _, c0, c1, x0, x1, y0, y1⟩ := mu_b hm hS hI hc hk
  unfold cMu
  generalize muC S I t o k = c at *
  generalize muX S I t o k = x at *
  generalize muY S I t o k = y at *
  rw [shr_8 (by omega) (by omega), shr_4 (by omega) (by omega), and_15 (by omega) (by omega), and_15 (by omega) (by omega)]
  exact ⟨by omega, by omega, by omega⟩
theorem sp_U_dress {m : Int} {k : Nat} (V : CW n hr) (T : TV S I t o) (M : mrow hr m n) (hm9 : m + 2 < 109 ∨ 109 < m) (C : CMp S I t o h (UN S I t o)) (hk : k < UN S I t o) (r : TRm m t o h) (hQ : ∀ h1, EX [m + 1, m + 2] [] h h1 → TRm m (tMu S I t o k) (oMu S I t o k) h1 → Q (9, 0) n hr h1) : f_U_dress [(2, 102), (2, m), (0, (k : Int))] n hr h Q := by
  obtain ⟨hS, hI, hm, hc, hT⟩ := T
  obtain ⟨m0, m1, m2, m3, m4, m5, m6⟩ := M
  have b := mu_b hm hS hI hc hk
  have ub := UN_b hm hS hI
  obtain ⟨s1, s2, s3⟩ := cMu_sp hm hS hI hc hk
  have ck := C.2 k hk
  apply e_U_dress
  simp (disch := omega) only [ok_102 V.1, cr_102_5 V, m0, m1, m2, m3, m4, m5, m6, up_oth, ck, s1, s2, s3, true_and]
  repeat (refine ⟨by omega, ?_⟩)
  have H := hQ (ai_up (ai_up h (m + 1) (muC S I t o k) (muX S I t o k)) (m + 2) (muC S I t o k) (muY S I t o k)) (EX_upc (EX_upc EX_rf (by simp)) (by simp)) ⟨?_, ?_⟩
  · exact (by first | exact q_at rfl (H) | exact (H))
  · refine r24_fn (r24_up (h := h) (v := muX S I t o k) r.1) ?_
    funext q; rw [up_oth (by omega)]
  · refine r24_up (h := ai_up h (m + 1) (muC S I t o k) (muX S I t o k)) (r24_fn r.2 ?_)
    funext q; rw [up_oth (by omega)]
theorem sp_U_undress {m : Int} {k : Nat} (V : CW n hr) (T : TV S I t o) (X : CX S I t o h) (M : mrow hr m n) (hm9 : 15 < m ∧ (m + 2 < 109 ∨ 109 < m)) (C : CMp S I t o h (UN S I t o)) (hk : k < UN S I t o) (r : TRm m (tMu S I t o k) (oMu S I t o k) h) (hQ : ∀ h1, EX [m + 1, m + 2] [] h h1 → TRm m t o h1 → Q (9, 0) n hr h1) : f_U_undress [(2, 102), (2, m), (0, (k : Int))] n hr h Q := by
  obtain ⟨hS, hI, hm, hc, hT⟩ := T
  obtain ⟨m0, m1, m2, m3, m4, m5, m6⟩ := M
  have b := mu_b hm hS hI hc hk
  have ub := UN_b hm hS hI
  obtain ⟨s1, s2, s3⟩ := cMu_sp hm hS hI hc hk
  have ck := C.2 k hk
  have g1 := X.2.2.1 (muC S I t o k) (by omega) (by omega)
  have g2 := X.2.2.2 (muC S I t o k) (by omega) (by omega)
  apply e_U_undress
  simp (disch := omega) only [ok_102 V.1, cr_102_5 V, cr_102_0 V, ok_13 V.1, cr_13_0 V, cr_13_1 V, m0, m1, m2, m3, m4, m5, m6, up_oth, ck, s1, s2, s3, g1, g2, true_and]
  repeat (refine ⟨by omega, ?_⟩)
  have H := hQ (ai_up (ai_up h (m + 1) (muC S I t o k) (t (muC S I t o k))) (m + 2) (muC S I t o k) (o (muC S I t o k))) (EX_upc (EX_upc EX_rf (by simp)) (by simp)) ⟨?_, ?_⟩
  · exact (by first | exact q_at rfl (H) | exact (H))
  · refine r24_fn (r24_un (h := h) (v := muX S I t o k) (f := t) r.1 rfl) ?_
    funext q; rw [up_oth (by omega)]
  · refine r24_un (h := ai_up h (m + 1) (muC S I t o k) (t (muC S I t o k))) (v := muY S I t o k) (f := o) (r24_fn r.2 ?_) rfl
    funext q; rw [up_oth (by omega)]
theorem sp_U_has {k : Int} (V : CW n hr) (C : CMp S I t o h (UN S I t o)) (h1 : (0 ≤ k ∧ k < (UN S I t o : Int)) → Q (0, 1) n hr h) (h0 : ¬ (0 ≤ k ∧ k < (UN S I t o : Int)) → Q (0, 0) n hr h) : f_U_has [(2, 102), (0, k)] n hr h Q := by
  apply e_U_has
  simp only [ok_102 V.1, C.1, true_and, true_or, or_true]
  exact ⟨fun z => (by first | exact q_at rfl (h0 (by omega)) | exact (h0 (by omega))), fun z => ⟨fun z2 => (by first | exact q_at rfl (h0 (by omega)) | exact (h0 (by omega))), fun z2 => (by first | exact q_at rfl (h1 ⟨z, z2⟩) | exact (h1 ⟨z, z2⟩))⟩⟩
/-- what is told of a small fault -/
noncomputable def vMu (S I : Nat) (t o : Int → Int) (k : Nat) (what : Int) : Int := if what = 0 then (muS S I t o k : Int) else if what = 1 then (muI S I t o k : Int) else if what = 2 then muX S I t o k else muY S I t o k
theorem sp_U_part {k : Nat} {what : Int} (V : CW n hr) (T : TV S I t o) (C : CMp S I t o h (UN S I t o)) (hk : k < UN S I t o) (hQ : Q (0, vMu S I t o k what) n hr h) : f_U_part [(2, 102), (0, (k : Int)), (0, what)] n hr h Q := by
  obtain ⟨hS, hI, hm, hc, hT⟩ := T
  have b := mu_b hm hS hI hc hk
  have ub := UN_b hm hS hI
  obtain ⟨s1, s2, s3⟩ := cMu_sp hm hS hI hc hk
  have ck := C.2 k hk
  have d1 : i_div (muC S I t o k) 3 = (muS S I t o k : Int) := by
    rw [div_i (by omega) (by omega) (by omega) (by omega)]; unfold muC; omega
  have d2 : i_rem (muC S I t o k) 3 = (muI S I t o k : Int) := by
    rw [rem_i (by omega) (by omega) (by omega) (by omega)]; unfold muC; omega
  unfold vMu at hQ
  apply e_U_part
  simp (disch := omega) only [ok_102 V.1, cr_102_5 V, ck, s1, s2, s3, d1, d2, true_and]
  repeat (refine ⟨by omega, ?_⟩)
  refine ⟨fun z => ⟨by decide, ?_⟩, fun z => ⟨fun z2 => ⟨by decide, ?_⟩, fun z2 => ⟨fun z3 => ?_, fun z3 => ?_⟩⟩⟩
  · rw [if_pos z] at hQ; exact (by first | exact q_at rfl (hQ) | exact (hQ))
  · rw [if_neg z, if_pos z2] at hQ; exact (by first | exact q_at rfl (hQ) | exact (hQ))
  · repeat (refine ⟨by omega, ?_⟩)
    rw [if_neg z, if_neg z2, if_pos z3] at hQ; exact (by first | exact q_at rfl (hQ) | exact (hQ))
  · repeat (refine ⟨by omega, ?_⟩)
    rw [if_neg z, if_neg z2, if_neg z3] at hQ; exact (by first | exact q_at rfl (hQ) | exact (hQ))
/-- what all this changes -/
def fxM (h h1 : HP) : Prop := EX [28, 29, 30, 45, 104, 105, 107, 108, 110, 111, 112] [(27, 10), (102, 14), (103, 2), (103, 3), (106, 2), (106, 3)] h h1
/-- what it needs -/
def CMx (S I : Nat) (t o : Int → Int) (h : HP) : Prop := CX S I t o h ∧ CMp S I t o h (UN S I t o)
theorem CMx_fr {h1 : HP} (H : CMx S I t o h) (f : fxM h h1) : CMx S I t o h1 := by
  refine ⟨CX_fr H.1 f (by decide) (by decide), ?_⟩
  unfold CMp
  rw [f 102 15 (by decide) (by decide), EX_fn f (c := 109) (by decide) (by decide)]
  exact H.2
/-- the trial holds a machine -/
def CTl (h : HP) : Prop := mok (h 104) (h 105)
theorem CTl_of (hm : mok t o) (r : TRm 103 t o h) : CTl h := mok_r24 hm (r24_sy r.1) (r24_sy r.2)
def fxMu (h h1 : HP) : Prop := EX [28, 29, 30, 104, 105, 107, 108] [(27, 10), (103, 2), (103, 3), (106, 2), (106, 3)] h h1
theorem fxMu_M {h1 : HP} (f : fxMu h h1) : fxM h h1 := EX_le f (by decide) (by decide)
theorem sp_U_unlikeOnes {k k2 : Nat} (V : CW n hr) (T : TV S I t o) (C : CMx S I t o h) (hc0 : SC h) (hk : k < UN S I t o) (hk2 : k2 < UN S I t o) (hQ : ∀ h1, fxMu h h1 → SC h1 → CTl h1 → Q (0, UL I (tMu S I t o k) (oMu S I t o k) (tMu S I t o k2) (oMu S I t o k2) 0 0) n hr h1) : f_U_unlikeOnes [(2, 102), (0, (k : Int)), (0, (k2 : Int))] n hr h Q := by
  have TT := T
  obtain ⟨hS, hI, hm, hc, hT⟩ := T
  have b := mu_b hm hS hI hc hk
  have S0 : 0 < S := by omega
  have M := mr_13 V
  have M1 := mr_103 V
  have M2 := mr_106 V
  apply e_U_unlikeOnes
  simp only [ok_102 V.1, cr_102_0 V, cr_102_3 V, cr_102_2 V, cr_102_4 V, ok_103 V.1, ok_106 V.1, ok_27 V.1, true_and]
  refine sp_M_copy M1 M (by omega) (t := t) (o := o) ⟨C.1.2.2.1, C.1.2.2.2⟩ fun h1 e1 r1 p1 i1 => ?_
  have f1 : fxMu h h1 := EX_le e1 (by decide) (by decide)
  have C1 := CMx_fr C (fxMu_M f1)
  simp only [ok_102 V.1, cr_102_0 V, cr_102_3 V, cr_102_2 V, cr_102_4 V, ok_103 V.1, ok_106 V.1, ok_27 V.1, true_and]
  refine sp_U_dress V TT M1 (by omega) C1.2 hk r1 fun h2 e2 r2 => ?_
  have f2 : fxMu h h2 := EX_tr f1 (EX_le e2 (by decide) (by decide))
  have C2 := CMx_fr C (fxMu_M f2)
  simp only [ok_102 V.1, cr_102_0 V, cr_102_3 V, cr_102_2 V, cr_102_4 V, ok_103 V.1, ok_106 V.1, ok_27 V.1, true_and]
  refine sp_M_copy M2 M (by omega) (t := t) (o := o) ⟨C2.1.2.2.1, C2.1.2.2.2⟩ fun h3 e3 r3 p3 i3 => ?_
  have f3 : fxMu h h3 := EX_tr f2 (EX_le e3 (by decide) (by decide))
  have C3 := CMx_fr C (fxMu_M f3)
  simp only [ok_102 V.1, cr_102_0 V, cr_102_3 V, cr_102_2 V, cr_102_4 V, ok_103 V.1, ok_106 V.1, ok_27 V.1, true_and]
  refine sp_U_dress V TT M2 (by omega) C3.2 hk2 r3 fun h4 e4 r4 => ?_
  have f4 : fxMu h h4 := EX_tr f3 (EX_le e4 (by decide) (by decide))
  simp only [ok_102 V.1, cr_102_0 V, cr_102_3 V, cr_102_2 V, cr_102_4 V, ok_103 V.1, ok_106 V.1, ok_27 V.1, true_and]
  have a1 : TRm 103 (tMu S I t o k) (oMu S I t o k) h4 := TRm_fr r2 (by rw [EX_fn e4 (c := 103 + 1) (by decide) (by decide), EX_fn e3 (c := 103 + 1) (by decide) (by decide)]) (by rw [EX_fn e4 (c := 103 + 2) (by decide) (by decide), EX_fn e3 (c := 103 + 2) (by decide) (by decide)])
  have p4 : h4 103 2 = (S : Int) := by rw [e4 103 2 (by decide) (by decide), e3 103 2 (by decide) (by decide), e2 103 2 (by decide) (by decide), p1]; exact C.1.1
  have i4 : h4 103 3 = (I : Int) := by rw [e4 103 3 (by decide) (by decide), e3 103 3 (by decide) (by decide), e2 103 3 (by decide) (by decide), i1]; exact C.1.2.1
  have p5 : h4 106 2 = (S : Int) := by rw [e4 106 2 (by decide) (by decide), p3]; exact C2.1.1
  have s4 : SC h4 := SC_fr hc0 (by rw [e4 27 10 (by decide) (by decide), e3 27 10 (by decide) (by decide), e2 27 10 (by decide) (by decide), e1 27 10 (by decide) (by decide)]) (by rw [EX_fn e4 (c := 30) (by decide) (by decide), EX_fn e3 (c := 30) (by decide) (by decide), EX_fn e2 (c := 30) (by decide) (by decide), EX_fn e1 (c := 30) (by decide) (by decide)])
  refine sp_S_unlike V hI (mok_Mu hm hS hI hc hk) (mok_Mu hm hS hI hc hk2) M1 M2 (by omega) (by omega) i4 a1.1 a1.2 r4.1 r4.2 s4 fun h5 e5 s5 => ?_
  rw [if_pos ⟨by omega, by omega⟩]
  exact (by first | exact q_at rfl (hQ h5 (EX_tr f4 (EX_le e5 (by decide) (by decide))) s5 (CTl_of (mok_Mu hm hS hI hc hk) (TRm_fr a1 (EX_fn e5 (by decide) (by decide)) (EX_fn e5 (by decide) (by decide))))) | exact (hQ h5 (EX_tr f4 (EX_le e5 (by decide) (by decide))) s5 (CTl_of (mok_Mu hm hS hI hc hk) (TRm_fr a1 (EX_fn e5 (by decide) (by decide)) (EX_fn e5 (by decide) (by decide))))))
/-- the k-th one is equal; known -/
abbrev muEq (S I : Nat) (t o : Int → Int) (k : Nat) : Prop := UL I t o (tMu S I t o k) (oMu S I t o k) 0 0 = -2
def EQk (S I : Nat) (t o : Int → Int) (h : HP) : Prop := h 102 14 = (cntP (muEq S I t o) (UN S I t o) : Int) ∧ ∀ k : Nat, k < UN S I t o → h 110 (k : Int) = if muEq S I t o k then 1 else 0
def CEq (S I : Nat) (t o : Int → Int) (h : HP) : Prop := h 102 14 = -9 ∨ EQk S I t o h
end
