-- deps: 18 19 20 21 23 24 25 26 27 28 29 22 30 31 32 33 34 35 36 37 38 39 40 41 42 43 44 45 46 47 48 49 50 62 63 64 65 66 67 68 69 70 71 72 73 74 75 76 77 78 79 80 81 82 83 84 85 86 87 88
/-! the reference: suites in general, verdict -/
section
variable {Q : RP} {n : Nat} {hr h : HP} {S I : Nat} {t o t' o' : Int → Int}
/-- the tests of suite su -/
noncomputable def SWl (S I : Nat) (t o : Int → Int) (e su : Nat) : List Nat := if su < 2 then LFr S I t o su e else if S = 0 then [] else [wrd (WY S I t o (su - 2))]
theorem LFr_ok (hS : S ≤ 6) (hI : I ≤ 3) (hm : mok t o) (hc : clo S t) {su e w : Nat} (he : e < 3) (hw : w ∈ LFr S I t o su e) : wok I w ∧ wlen w ≤ 13 := by
  unfold LFr at hw
  split at hw
  · cases hw
  · rename_i z
    have okA := ALs_ok hS (by omega) hI hc
    have okB := BHf_ok (o := o) hS (by omega) hI hm hc su
    unfold LFs srt at hw
    split at hw
    · rename_i ex
      have := WD_ok hI okA okB ((ex.choose_spec.2 w).mp hw).1
      exact ⟨this.1, by omega⟩
    · cases hw
theorem WY_ok (hS : S ≤ 6) (hI : I ≤ 3) (hc : clo S t) (wh : Nat) : wok 3 (wrd (WY S I t o wh)) ∧ wlen (wrd (WY S I t o wh)) = (WY S I t o wh).length ∧ (WY S I t o wh).length ≤ 252 := by
  have wl := WY_len (o := o) hS hI hc wh
  have l3 : ∀ y ∈ WY S I t o wh, y < 3 := fun y hy => by have := wl.2 y hy; omega
  have := wrd_ok (I := 3) (by omega) l3 (WY S I t o wh).length (Nat.le_refl _)
  rw [List.take_length] at this
  exact ⟨this.1, this.2, wl.1⟩
theorem SWl_ok (hS : S ≤ 6) (hI : I ≤ 3) (hm : mok t o) (hc : clo S t) {su e : Nat} (he : e < 3) : (SWl S I t o e su).length ≤ 875 ∧ ∀ w ∈ SWl S I t o e su, wok 3 w ∧ wlen w ≤ 252 := by
  unfold SWl
  by_cases z : su < 2
  · rw [if_pos z]
    have := LFr_len (o := o) hS hI hm hc (su := su) he
    exact ⟨by omega, fun w hw => by have := LFr_ok hS hI hm hc he hw; exact ⟨wok_mono hI this.1, by omega⟩⟩
  · rw [if_neg z]
    split
    · exact ⟨by simp, fun w hw => by cases hw⟩
    · refine ⟨by simp, fun w hw => ?_⟩
      have := WY_ok (o := o) hS hI hc (su - 2)
      rw [List.mem_singleton.mp hw]
      exact ⟨this.1, by omega⟩
/-- the way of suite su is laid, if it is one -/
def RY (S I : Nat) (t o : Int → Int) (h : HP) (su : Nat) : Prop := su < 2 ∨ LWy S I t o h (su - 2)
theorem RY_s {su : Nat} {h1 : HP} {ps : List (Int × Int)} (H : RY S I t o h su) (E : EX [161, 162, 163] ps h h1) (a : (156 : Int) ∉ ps.map Prod.fst ∧ (157 : Int) ∉ ps.map Prod.fst) : RY S I t o h1 su := by
  refine H.imp id fun q => ?_
  unfold LWy; rw [EX_fn E (c := 156) (by decide) a.1, EX_fn E (c := 157) (by decide) a.2]; exact q
theorem NM_s {b : Int} {h1 : HP} {ps : List (Int × Int)} (H : NM b t' o' h) (E : EX [161, 162, 163] ps h h1) (a : (147 : Int) ∉ ps.map Prod.fst ∧ (148 : Int) ∉ ps.map Prod.fst) : NM b t' o' h1 := NM_fr H (EX_fn E (by decide) a.1) (EX_fn E (by decide) a.2)
theorem sp_N_testsOf_g {su e : Nat} (W : NW n hr) (T : TV S I t o) (B : NB S I t o e h) (hsu : su < 4) (he : e < 3) (hQ : ∀ h1, EX [161, 162, 163] [] h h1 → NB S I t o e h1 → Q (0, ((SWl S I t o e su).length : Int)) n hr h1) : f_N_testsOf [(2, 138), (0, (su : Int))] n hr h Q := by
  by_cases z : su < 2
  · refine sp_N_testsOf W T B.1 B.2.1 B.2.2.2.2.1 B.2.2.2.2.2 z he fun h1 a b c => ?_
    have := hQ h1 a (NB_s B a b)
    unfold SWl at this; rw [if_pos z] at this; exact this
  · apply e_N_testsOf
    refine ⟨fun _ => ⟨n0 W, sp_N_states W ?_⟩, fun y => by omega⟩
    dsimp only
    rw [B.1.1]
    have H := hQ h EX_rf B
    unfold SWl at H; rw [if_neg z] at H
    refine ⟨fun y => ?_, fun y => ?_⟩
    · rw [if_neg (by omega)] at H; exact (by first | exact q_at rfl (H) | exact (H))
    · rw [if_pos (by omega)] at H; exact (by first | exact q_at rfl (H) | exact (H))
theorem SWl_at {su e k w : Nat} (z : ¬ su < 2) (hk : (SWl S I t o e su)[k]? = some w) : 0 < S ∧ k = 0 ∧ w = wrd (WY S I t o (su - 2)) := by
  unfold SWl at hk; rw [if_neg z] at hk
  split at hk
  · cases hk
  · have k0 : k = 0 := by have := (List.getElem?_eq_some_iff.mp hk).1; simp at this; omega
    subst k0; cases hk
    exact ⟨by omega, rfl, rfl⟩
theorem sp_N_longOf_g {su e k w : Nat} (W : NW n hr) (T : TV S I t o) (B : NB S I t o e h) (hsu : su < 4) (he : e < 3) (Y : RY S I t o h su) (hk : (SWl S I t o e su)[k]? = some w) (hQ : ∀ h1, EX [161, 162, 163] [] h h1 → NB S I t o e h1 → Q (0, (wlen w : Int)) n hr h1) : f_N_longOf [(2, 138), (0, (su : Int)), (0, (k : Int))] n hr h Q := by
  have TT := T
  obtain ⟨hS, hI, hm, hc, hT⟩ := T
  by_cases z : su < 2
  · unfold SWl at hk; rw [if_pos z] at hk
    have ok := LFr_ok hS hI hm hc he (List.mem_of_getElem? hk)
    exact sp_N_longOf W TT B.1 B.2.1 B.2.2.2.2.1 B.2.2.2.2.2 z he hk (Nat.lt_trans (wl15 (by omega)) (by decide)) fun h1 a b => hQ h1 a (NB_s B a b)
  · obtain ⟨s0, k0, rfl⟩ := SWl_at z hk
    have ok := WY_ok (o := o) hS hI hc (su - 2)
    rcases Y with y | y
    · exact absurd y z
    · have es : (su : Int) - 2 = ((su - 2 : Nat) : Int) := by omega
      have H := hQ h EX_rf B
      rw [ok.2.1] at H
      apply e_N_longOf
      refine ⟨fun _ => ?_, fun y => by omega⟩
      simp (disch := omega) only [n0 W, nr_33 W, w32_id, es, y.1, true_and]
      repeat (refine ⟨by omega, ?_⟩)
      exact (by first | exact q_at rfl (H) | exact (H))
def fxTe (h h1 : HP) : Prop := EX [161, 162, 163] [(138, 41), (138, 42)] h h1
theorem sp_N_isTestPassed {b : Int} {su e k w : Nat} (W : NW n hr) (T : TV S I t o) (B : NB S I t o e h) (hm' : mok t' o') (M : NM b t' o' h) (hb : 0 ≤ b ∧ b ≤ 72) (hsu : su < 4) (he : e < 3) (Y : RY S I t o h su) (hk : (SWl S I t o e su)[k]? = some w) (h1 : ∀ h1, fxTe h h1 → NB S I t o e h1 → aS t o 0 w = aS t' o' 0 w → Q (0, 1) n hr h1) (h0 : ∀ h1, fxTe h h1 → NB S I t o e h1 → aS t o 0 w ≠ aS t' o' 0 w → (2 ≤ su → h1 138 41 = WPl t o t' o' w ∧ h1 138 42 = WOu t o t' o' w) → Q (0, 0) n hr h1) : f_N_isTestPassed [(2, 138), (0, b), (0, (su : Int)), (0, (k : Int))] n hr h Q := by
  have TT := T
  obtain ⟨hS, hI, hm, hc, hT⟩ := T
  apply e_N_isTestPassed
  by_cases z : su < 2
  · unfold SWl at hk; rw [if_pos z] at hk
    have ok := LFr_ok hS hI hm hc he (List.mem_of_getElem? hk)
    have ll := LFr_len (o := o) hS hI hm hc (su := su) he
    have kl := (List.getElem?_eq_some_iff.mp hk).1
    refine ⟨fun y => by omega, fun _ => ⟨n0 W, sp_N_suiteOf W TT B.1 B.2.1 B.2.2.2.2.1 B.2.2.2.2.2 z he fun h2 a b2 c => ⟨n0 W, sp_N_tsAt W (by omega) (by omega) ?_⟩⟩⟩
    have B2 := NB_s B a b2
    rw [c.2 k w hk]
    refine ⟨n0 W, sp_N_isPassed W B2.1 hm hm' (NM_s M a (by decide)) hb (wok_mono hI ok.1) (by omega) (fun q => ?_) (fun q => ?_)⟩
    · exact ⟨Or.inr rfl, (by first | exact q_at rfl (h1 h2 (EX_le a (by decide) (by decide)) B2 q) | exact (h1 h2 (EX_le a (by decide) (by decide)) B2 q))⟩
    · exact ⟨Or.inl rfl, (by first | exact q_at rfl (h0 h2 (EX_le a (by decide) (by decide)) B2 q (fun y => by omega)) | exact (h0 h2 (EX_le a (by decide) (by decide)) B2 q (fun y => by omega)))⟩
  · obtain ⟨s0, k0, rfl⟩ := SWl_at z hk
    have es : (su : Int) - 2 = ((su - 2 : Nat) : Int) := by omega
    rcases Y with y | y
    · exact absurd y z
    · refine ⟨fun _ => ⟨n0 W, ?_⟩, fun y => by omega⟩
      rw [w32_id (by omega) (by omega), es]
      refine sp_N_isWayPassed W TT B hm' M hb (by omega) y (fun q => ?_) (fun h2 e2 q a c => ?_)
      · exact ⟨Or.inr rfl, (by first | exact q_at rfl (h1 h EX_rf B q) | exact (h1 h EX_rf B q))⟩
      · exact ⟨Or.inl rfl, (by first | exact q_at rfl (h0 h2 (EX_le e2 (by decide) (by decide)) (NB_fr B e2 (by decide)) q (fun _ => ⟨a, c⟩)) | exact (h0 h2 (EX_le e2 (by decide) (by decide)) (NB_fr B e2 (by decide)) q (fun _ => ⟨a, c⟩)))⟩
theorem sp_N_doesFail {b : Int} {su e : Nat} (W : NW n hr) (T : TV S I t o) (B : NB S I t o e h) (hm' : mok t' o') (M : NM b t' o' h) (hb : 0 ≤ b ∧ b ≤ 72) (hsu : su < 4) (he : e < 3) (Y : RY S I t o h su) (h1 : ∀ h1, fxTe h h1 → NB S I t o e h1 → (∃ w ∈ SWl S I t o e su, aS t o 0 w ≠ aS t' o' 0 w) → Q (0, 1) n hr h1) (h0 : ∀ h1, fxTe h h1 → NB S I t o e h1 → (∀ w ∈ SWl S I t o e su, aS t o 0 w = aS t' o' 0 w) → Q (0, 0) n hr h1) : f_N_doesFail [(2, 138), (0, b), (0, (su : Int))] n hr h Q := by
  have TT := T
  obtain ⟨hS, hI, hm, hc, hT⟩ := T
  have ll := (SWl_ok (o := o) hS hI hm hc (su := su) he).1
  apply e_N_doesFail
  refine ⟨n0 W, sp_N_testsOf_g W TT B hsu he fun h2 a b2 => ?_⟩
  have loop := lupN (N := (SWl S I t o e su).length) (P := fun k => ∀ h1, fxTe h h1 → NB S I t o e h1 → (∀ j w : Nat, j < k → (SWl S I t o e su)[j]? = some w → aS t o 0 w = aS t' o' 0 w) → p_N_doesFail_9 (n + 0) (ai_q 0 n Q) 138 b (su : Int) ((SWl S I t o e su).length : Int) (k : Int) n hr h1) ?_ ?_
  · exact loop h2 (EX_le a (by decide) (by decide)) b2 (fun j w hj => by omega)
  · intro h3 f3 b3 g
    refine b_N_doesFail_9 ⟨fun _ => ⟨Or.inl rfl, q_at rfl (h0 h3 f3 b3 fun w hw => ?_)⟩, fun z => by omega⟩
    obtain ⟨j, hj⟩ := mem_at.mp hw
    exact g j w (List.getElem?_eq_some_iff.mp hj).1 hj
  · intro k hk ih h3 f3 b3 g
    have hw := List.getElem?_eq_getElem hk
    generalize (SWl S I t o e su)[k] = w at hw
    refine b_N_doesFail_9 ⟨fun z => by omega, fun _ => ⟨n0 W, ?_⟩⟩
    refine sp_N_isTestPassed W TT b3 hm' (NM_s M f3 (by decide)) hb hsu he (RY_s Y f3 (by decide)) hw (fun h4 f4 b4 q => ?_) (fun h4 f4 b4 q _ => ?_)
    · refine ⟨fun _ => ?_, fun y => absurd y (by decide)⟩
      rw [w32_id (by omega) (by omega)]
      refine ih h4 (EX_tr f3 f4) b4 fun j v hj hv => ?_
      by_cases y : j = k
      · subst y; rw [hw] at hv; cases hv; exact q
      · exact g j v (by omega) hv
    · exact ⟨fun y => absurd rfl y, fun _ => ⟨Or.inr rfl, q_at rfl (h1 h4 (EX_tr f3 f4) b4 ⟨w, List.mem_of_getElem? hw, q⟩)⟩⟩
/-- what a call answers of a suite's sizes -/
noncomputable def vSu (lf : List Nat) (what : Int) : Int := if what = 0 then (lf.length : Int) else if what = 1 then (smK lf lf.length : Int) else (mxK lf lf.length : Int)
def fxS (h h1 : HP) : Prop := EX [155, 156, 157, 158, 159, 160, 161, 162, 163] [(138, 0), (138, 31), (138, 37), (138, 41), (138, 42)] h h1
theorem N_ready {su e : Nat} {Q : RP} (W : NW n hr) (T : TV S I t o) (B : NB S I t o e h) (hsu : su < 4) (h2 : 2 ≤ su) (hQ : ∀ h1, fxS h h1 → NB S I t o e h1 → RY S I t o h1 su → Q (9, 0) n hr h1) : f_N_laysWay [(2, 138), (0, w32 ((su : Int) - 2))] n hr h Q := by
  rw [w32_id (by omega) (by omega), show (su : Int) - 2 = ((su - 2 : Nat) : Int) by omega]
  refine sp_N_laysWay W T B.1 B.2.1 B.2.2.1 B.2.2.2.1 (by omega) fun h1 e1 g1 y1 z1 => hQ h1 (EX_le e1 (by decide) (by decide)) (NB_y B e1 g1 y1) (Or.inr ?_)
  rcases y1 (su - 2) (by omega) with q | q
  · omega
  · exact q.2
theorem sp_N_suite {su what : Int} {e : Nat} (W : NW n hr) (T : TV S I t o) (B : NB S I t o e h) (he : e < 3) (h0 : ¬ ((0 ≤ su ∧ su ≤ 3) ∧ 0 ≤ what ∧ what ≤ 2) → Q (0, -1) n hr (ai_up h 138 0 0)) (h1 : (0 ≤ su ∧ su ≤ 3) → (0 ≤ what ∧ what ≤ 2) → ∀ h1, fxS h h1 → NB S I t o e h1 → Q (0, vSu (SWl S I t o e su.toNat) what) n hr h1) : f_N_suite [(2, 138), (0, su), (0, what)] n hr h Q := by
  have TT := T
  obtain ⟨hS, hI, hm, hc, hT⟩ := T
  have B1 : NB S I t o e (ai_up h 138 0 0) := NB_1 B
  apply e_N_suite
  refine ⟨n0 W, fun z => (by first | exact q_at rfl (h0 (by omega)) | exact (h0 (by omega))), fun z => ⟨fun z2 => (by first | exact q_at rfl (h0 (by omega)) | exact (h0 (by omega))), fun z2 => ⟨fun z3 => (by first | exact q_at rfl (h0 (by omega)) | exact (h0 (by omega))), fun z3 => ⟨fun z4 => ?_, fun z4 => (by first | exact q_at rfl (h0 (by omega)) | exact (h0 (by omega)))⟩⟩⟩⟩
  obtain ⟨s, rfl⟩ := Int.eq_ofNat_of_zero_le z
  have H := h1 ⟨z, z2⟩ ⟨z3, z4⟩
  rw [Int.toNat_natCast] at H
  have ok := SWl_ok (o := o) hS hI hm hc (su := s) he
  have sb := smK_b (lf := SWl S I t o e s) (c := 252) (fun w hw => (ok.2 w hw).2)
  have e1 : fxS h (ai_up h 138 0 0) := EX_le EX_1 (by decide) (by decide)
  -- the loop over all tests
  have go : ∀ h1, fxS h h1 → NB S I t o e h1 → RY S I t o h1 s → f_N_testsOf [(2, 138), (0, (s : Int))] n hr h1 (fun r1 n1 hr1 h1 => p_N_suite_52 (n + 0) (ai_q 0 n Q) 138 (s : Int) what 0 0 r1.2 0 n1 hr1 h1) := by
    intro h1 f1 b1 y1
    refine sp_N_testsOf_g W TT b1 (by omega) he fun h2 a b2 => ?_
    dsimp only
    have loop := lupN (N := (SWl S I t o e s).length) (P := fun k => ∀ h2, fxS h h2 → NB S I t o e h2 → RY S I t o h2 s → p_N_suite_52 (n + 0) (ai_q 0 n Q) 138 (s : Int) what (smK (SWl S I t o e s) k : Int) (mxK (SWl S I t o e s) k : Int) ((SWl S I t o e s).length : Int) (k : Int) n hr h2) ?_ ?_
    · exact loop h2 (EX_tr f1 (EX_le a (by decide) (by decide))) b2 (RY_s y1 a (by decide))
    · intro h3 f3 b3 y3
      have H3 := H h3 f3 b3
      unfold vSu at H3
      refine b_N_suite_52 ⟨fun _ => ⟨fun q => ⟨fun q2 => ?_, fun q2 => ?_⟩, fun q => ?_⟩, fun q => by omega⟩
      · rw [if_neg q, if_neg q2] at H3; exact (by first | exact q_at rfl (H3) | exact (H3))
      · rw [if_neg q, if_pos q2] at H3; exact (by first | exact q_at rfl (H3) | exact (H3))
      · rw [if_pos q] at H3; exact (by first | exact q_at rfl (H3) | exact (H3))
    · intro k hk ih h3 f3 b3 y3
      have hw := List.getElem?_eq_getElem hk
      generalize (SWl S I t o e s)[k] = w at hw
      have wl := (ok.2 w (List.mem_of_getElem? hw)).2
      have s1 := sb k (by omega)
      rw [smK, mxK, hw] at ih
      simp only [Option.getD_some] at ih
      have fin : ∀ {a b c}, fxS a b → EX [161, 162, 163] [] b c → fxS a c := fun x y => EX_tr x (EX_le y (by decide) (by decide))
      refine b_N_suite_52 ⟨fun q => by omega, fun _ => ⟨n0 W, ?_⟩⟩
      refine sp_N_longOf_g W TT b3 (by omega) he y3 hw fun h4 e4 b4 => ⟨n0 W, ?_⟩
      refine sp_N_longOf_g W TT b4 (by omega) he (RY_s y3 e4 (by decide)) hw fun h5 e5 b5 => ?_
      have y5 := RY_s (RY_s y3 e4 (by decide)) e5 (by decide)
      have f5 := fin (fin f3 e4) e5
      dsimp only
      rw [w32_id (x := (smK (SWl S I t o e s) k : Int) + (wlen w : Int)) (by omega) (by omega), w32_id (x := (k : Int) + 1) (by omega) (by omega)]
      refine ⟨fun q => ?_, fun q => ⟨n0 W, sp_N_longOf_g W TT b5 (by omega) he y5 hw fun h6 e6 b6 => ?_⟩⟩
      · rw [show max (mxK (SWl S I t o e s) k) (wlen w) = mxK (SWl S I t o e s) k by omega] at ih
        exact ih h5 f5 b5 y5
      · rw [show max (mxK (SWl S I t o e s) k) (wlen w) = wlen w by omega] at ih
        exact ih h6 (fin f5 e6) b6 (RY_s y5 e6 (by decide))
  refine ⟨fun q => ⟨n0 W, go _ e1 B1 (Or.inl (by omega))⟩, fun q => ⟨n0 W, N_ready W TT B1 (by omega) (by omega) fun h2 f2 b2 y2 => ⟨n0 W, go h2 (EX_tr e1 f2) b2 y2⟩⟩⟩
end
