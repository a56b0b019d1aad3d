-- deps: 18 19 20 21 23 24 25 26 27 28 29 22 30 31 32 33 34 35 38 39 40 41 42 43 44 45 46 67 68 69 70
/-! the class: the heads of a suite -/
section
variable {Q : RP} {n : Nat} {hr h : HP} {S I : Nat} {t o : Int → Int} {P : Nat → Prop} {ws : List Nat}
def HDs (h : HP) (hs ws : List Nat) : Prop := h 35 9 = (hs.length : Int) ∧ ∀ k w : Nat, hs[k]? = some w → ∃ j : Nat, h 41 (k : Int) = (j : Int) ∧ ws[j]? = some w
def INV (I : Nat) (t : Int → Int) (P : Nat → Prop) (h h1 : HP) (ws hs : List Nat) : Prop := EX [37, 38, 41] [(35, 9), (35, 10)] h h1 ∧ TRw I t h1 ws ∧ (∀ x ∈ ws, P x) ∧ HDs h1 hs ws ∧ ws[0]? = some 0
theorem INV_add {h1 h2 : HP} {ws1 ws2 hs : List Nat} {j x : Nat} (H : INV I t P h h1 ws1 hs) (e : EX [37, 38] [(35, 10)] h1 h2) (r : TRw I t h2 ws2) (xt : ext ws1 ws2) (p : ∀ x ∈ ws2, P x) (hj : ws2[j]? = some x) : INV I t P h (ai_up (ai_up h2 41 (hs.length : Int) (j : Int)) 35 9 ((hs.length + 1 : Nat) : Int)) ws2 (hs ++ [x]) := by
  obtain ⟨h1', h2', h3, ⟨h4, h5⟩, h6⟩ := H
  refine ⟨EX_upp (EX_upc (EX_tr h1' (EX_le e (by decide) (by decide))) (by decide)) (by decide), ?_, p, ⟨?_, fun k w hk => ?_⟩, xt 0 0 h6⟩
  · unfold TRw
    have a : ∀ c : Int, c = 37 ∨ c = 38 → (ai_up (ai_up h2 41 (hs.length : Int) (j : Int)) 35 9 ((hs.length + 1 : Nat) : Int)) c = h2 c := fun c hc => by funext q; simp (disch := omega) only [up_oth]
    rw [a 37 (by omega), a 38 (by omega)]
    simp (disch := omega) only [up_oth]
    exact r
  · rw [up_same, List.length_append, List.length_singleton]
  · rcases at_add.mp hk with ⟨a1, a2⟩ | ⟨a1, a2⟩
    · obtain ⟨j', b1, b2⟩ := h5 k w a2
      refine ⟨j', ?_, xt j' w b2⟩
      simp (disch := omega) only [up_oth]
      rw [e 41 _ (by decide) (by simp)]; exact b1
    · subst a1; subst a2
      exact ⟨j, by simp (disch := omega) only [up_oth, up_same], hj⟩
theorem HS_pre (I : Nat) (A : List Nat) (m : Nat) : ∃ pre : List Nat, HS I A m = pre ++ LV I A m := by
  cases m with
  | zero => exact ⟨[], rfl⟩
  | succ m => exact ⟨HS I A m, rfl⟩
theorem chl_s (i w : Nat) : chl (i + 1) w = chl i w ++ [4 * w + i + 1] := by
  unfold chl; rw [List.range_succ, List.map_append]; rfl
theorem tk_fm {α β : Type} {f : α → List β} {L : List α} {k : Nat} {y : α} (h : L[k]? = some y) : (L.take (k + 1)).flatMap f = (L.take k).flatMap f ++ f y := by
  rw [List.take_add_one, h, List.flatMap_append]
  simp
theorem sp_T_growHeads {e : Nat} (V : CW n hr) (T : TV S I t o) (hS0 : 0 < S) (X : CX S I t o h) (C : CTr S I t o h) (R : TRw I t h ws) (F : fewP P) (hP : ∀ x ∈ ws, P x) (h00 : ws[0]? = some 0) (he : e < 3) (hH : ∀ x, HD I (ALs I t S) e x → P x) (hQ : ∀ h1 ws', INV I t P h h1 ws' (HS I (ALs I t S) (e + 1)) → Q (9, 0) n hr h1) : f_T_growHeads [(2, 35), (0, (e : Int))] n hr h Q := by
  have TT := T
  obtain ⟨hS, hI, hm, hc, hT⟩ := T
  have okA := ALs_ok hS hS0 hI hc
  have XI : ∀ h1 ws1 hs, INV I t P h h1 ws1 hs → CX S I t o h1 := fun h1 ws1 hs q => CX_69 X q.1
  have lv := LV_len hI okA.1
  have hsl : (HS I (ALs I t S) 0).length ≤ 6 ∧ (HS I (ALs I t S) 1).length ≤ 24 ∧ (HS I (ALs I t S) 2).length ≤ 78 := by
    have a0 : (HS I (ALs I t S) 0).length ≤ 6 := okA.1
    have a1 : (HS I (ALs I t S) 1).length = (HS I (ALs I t S) 0).length + (LV I (ALs I t S) 1).length := List.length_append
    have a2 : (HS I (ALs I t S) 2).length = (HS I (ALs I t S) 1).length + (LV I (ALs I t S) 2).length := List.length_append
    omega
  apply e_T_growHeads
  -- the levels
  have levels := lupN (N := e + 1) (P := fun m => ∀ h1 ws1 (f : Int), INV I t P h h1 ws1 (HS I (ALs I t S) m) → f = ((HS I (ALs I t S) m).length : Int) - ((LV I (ALs I t S) m).length : Int) → p_T_growHeads_57 (n + 0) (ai_q 0 n Q) 35 (e : Int) f (m : Int) n hr h1) ?_ ?_
  · -- the access words
    have first := lupN (N := S) (P := fun s => ∀ h1 ws1, INV I t P h h1 ws1 (ALs I t s) → p_T_growHeads_7 (n + 0) (ai_q 0 n Q) 35 (e : Int) (s : Int) n hr h1) ?_ ?_
    · refine ⟨ok_35 V.1, first (ai_up h 35 9 0) ws ⟨EX_upp EX_rf (by decide), ?_, hP, ⟨?_, fun k w hk => by cases hk⟩, h00⟩⟩
      · unfold TRw
        simp (disch := omega) only [up_oth]
        exact R
      · rw [up_same]; rfl
    · intro h1 ws1 q
      refine b_T_growHeads_7 ?_
      simp (disch := omega) only [ok_35 V.1, cr_35_0 V, ok_13 V.1, (XI _ _ _ q).1, true_and]
      refine ⟨fun _ => ?_, fun z => by omega⟩
      exact levels h1 ws1 0 q (by show (0 : Int) = ((ALs I t S).length : Int) - ((ALs I t S).length : Int); omega)
    · intro s hs ih h1 ws1 q
      have C1 := CTr_fr C q.1 (by decide)
      refine b_T_growHeads_7 ?_
      simp (disch := omega) only [ok_35 V.1, cr_35_0 V, cr_35_1 V, cr_19_1 V, ok_13 V.1, ok_19 V.1, (XI _ _ _ q).1, true_and]
      refine ⟨fun z => by omega, fun _ => ?_⟩
      have ea : h1 20 (s : Int) = AC I t 0 (s : Int) := C1.2.1 s hs
      refine sp_A_isReached V C1.2.2.1 (by omega) (fun z => ?_) (fun z => ?_)
      · have ar := (RMk_tb S I t s).mp z
        obtain ⟨a, a1⟩ := Int.eq_ofNat_of_zero_le ar.2
        have am : a ∈ ALs I t S := (ALs_mem S).mpr ⟨s, hs, a1⟩
        have ao := okA.2.2.1 a am
        refine ⟨fun q => absurd q (by decide), fun _ => ?_⟩
        simp (disch := omega) only [ok_35 V.1, ok_19 V.1, cr_35_1 V, cr_19_1 V, ea, a1, true_and]
        repeat (refine ⟨by omega, ?_⟩)
        have := sp_T_growWord (Q := fun r n2 hr2 h2 => ai_ok n2 35 6 ∧ f_T_addHead [(2, 35), (0, r.2)] n2 hr2 h2 fun _ n3 hr3 h3 => p_T_growHeads_7 (n + 0) (ai_q 0 n Q) 35 (e : Int) (w32 ((s : Int) + 1)) n3 hr3 h3) (k := 0) (w := 0) (u := a) V TT hS0 (XI _ _ _ q) q.2.1 F q.2.2.1 q.2.2.2.2 ao.1 (by omega) (fun m hm2 => by rw [cat_z]; exact hH _ (HD_divp hI okA (HD_0 am) m)) fun h2 ws2 j e2 r2 x2 p2 q2 => ?_
        · exact this
        · refine ⟨ok_35 V.1, sp_T_addHead V (N := (ALs I t s).length) (by rw [e2 35 9 (by decide) (by decide)]; exact q.2.2.2.1.1) (by have := ALs_len I t s; omega) ?_⟩
          rw [w32_id (by omega) (by omega)]
          refine ih _ ws2 ?_
          have al : ALs I t (s + 1) = ALs I t s ++ [a] := by rw [ALs, if_pos ar.2, a1]; rfl
          rw [al]
          refine INV_add q e2 r2 x2 p2 ?_
          rw [cat_z] at q2; exact q2
      · refine ⟨fun _ => ?_, fun q => absurd rfl q⟩
        rw [w32_id (by omega) (by omega)]
        refine ih h1 ws1 ?_
        have al : ALs I t (s + 1) = ALs I t s := by rw [ALs, if_neg (fun g => z ((RMk_tb S I t s).mpr ⟨hs, g⟩))]
        rw [al]; exact q
  · intro h1 ws1 f q hf
    refine b_T_growHeads_57 ⟨fun _ => q_at rfl (hQ h1 ws1 q), fun z => by omega⟩
  · intro m hme ih h1 ws1 f q hf
    obtain ⟨pre, hpre⟩ := HS_pre I (ALs I t S) m
    have hm3 : m = 0 ∨ m = 1 ∨ m = 2 := by omega
    have lpre : (HS I (ALs I t S) m).length = pre.length + (LV I (ALs I t S) m).length := by rw [hpre, List.length_append]
    have bnd : (HS I (ALs I t S) m).length + 3 * (LV I (ALs I t S) m).length ≤ 240 := by
      rcases hm3 with rfl | rfl | rfl <;> omega
    refine b_T_growHeads_57 ⟨fun z => by omega, fun _ => ?_⟩
    rw [q.2.2.2.1.1]
    have mid := lupN (N := (LV I (ALs I t S) m).length) (P := fun k => ∀ h1 ws1, INV I t P h h1 ws1 (HS I (ALs I t S) m ++ ((LV I (ALs I t S) m).take k).flatMap (chl I)) → p_T_growHeads_71 (n + 0) (ai_q 0 n Q) 35 (e : Int) (m : Int) ((HS I (ALs I t S) m).length : Int) ((pre.length + k : Nat) : Int) n hr h1) ?_ ?_
    · have := mid h1 ws1 (by rw [List.take_zero]; simpa using q)
      rw [hf, show ((HS I (ALs I t S) m).length : Int) - ((LV I (ALs I t S) m).length : Int) = ((pre.length + 0 : Nat) : Int) by omega]
      exact ⟨ok_35 V.1, this⟩
    · intro h2 ws2 q2
      refine b_T_growHeads_71 ⟨fun _ => ?_, fun z => by omega⟩
      rw [List.take_length] at q2
      rw [w32_id (by omega) (by omega)]
      refine ih h2 ws2 _ q2 ?_
      have : (HS I (ALs I t S) (m + 1)).length = (HS I (ALs I t S) m).length + (LV I (ALs I t S) (m + 1)).length := List.length_append
      omega
    · intro k hk ihk h2 ws2 q2
      have hy := List.getElem?_eq_getElem (l := LV I (ALs I t S) m) hk
      generalize (LV I (ALs I t S) m)[k] = y at hy
      have ymem : y ∈ LV I (ALs I t S) m := List.mem_of_getElem? hy
      refine b_T_growHeads_71 ⟨fun z => by omega, fun _ => ?_⟩
      have tl : (((LV I (ALs I t S) m).take k).flatMap (chl I)).length ≤ 3 * k := by
        have := fm_len (f := chl I) (c := 3) ((LV I (ALs I t S) m).take k) fun x _ => by rw [chl_len]; exact hI
        rw [List.length_take] at this; omega
      have inner := lupN (N := I) (P := fun i => ∀ h3 ws3, INV I t P h h3 ws3 (HS I (ALs I t S) m ++ ((LV I (ALs I t S) m).take k).flatMap (chl I) ++ chl i y) → p_T_growHeads_81 (n + 0) (ai_q 0 n Q) 35 (e : Int) (m : Int) ((HS I (ALs I t S) m).length : Int) ((pre.length + k : Nat) : Int) (i : Int) n hr h3) ?_ ?_
      · refine inner h2 ws2 ?_
        have e0 : chl 0 y = [] := rfl
        rw [e0, List.append_nil]; exact q2
      · intro h3 ws3 q3
        refine b_T_growHeads_81 ?_
        simp (disch := omega) only [ok_35 V.1, cr_35_0 V, ok_13 V.1, (XI _ _ _ q3).2.1, true_and]
        refine ⟨fun _ => ?_, fun z => by omega⟩
        rw [w32_id (by omega) (by omega)]
        refine ihk h3 ws3 ?_
        rw [tk_fm hy, ← List.append_assoc]; exact q3
      · intro i hi ihi h3 ws3 q3
        have idx : (HS I (ALs I t S) m ++ ((LV I (ALs I t S) m).take k).flatMap (chl I) ++ chl i y)[pre.length + k]? = some y := by
          rw [hpre, List.append_assoc, List.append_assoc, List.getElem?_append_right (by omega), show pre.length + k - pre.length = k by omega, List.getElem?_append_left hk]; exact hy
        obtain ⟨j, j1, j2⟩ := q3.2.2.2.1.2 _ _ idx
        have jl := (List.getElem?_eq_some_iff.mp j2).1
        have hl : (HS I (ALs I t S) m ++ ((LV I (ALs I t S) m).take k).flatMap (chl I) ++ chl i y).length < 240 := by
          rw [List.length_append, List.length_append, chl_len]; omega
        have pw : P (4 * y + i + 1) := by
          obtain ⟨a, u, a1, a2, a3, a4⟩ := (LV_mem hI m).mp ymem
          refine hH _ ⟨a, 4 * u + i + 1, a1, (wok_cc (by omega)).mpr ⟨hi, a2⟩, by rw [wlen_c _ (by omega)]; omega, ?_⟩
          rw [cat_c _ _ (by omega), ← a4]
        refine b_T_growHeads_81 ?_
        simp (disch := omega) only [ok_35 V.1, cr_35_0 V, cr_35_8 V, ok_13 V.1, (XI _ _ _ q3).2.1, j1, true_and]
        refine ⟨fun z => by omega, fun _ => ?_⟩
        repeat (refine ⟨by omega, ?_⟩)
        refine sp_T_growChild V TT hS0 (XI _ _ _ q3) q3.2.1 F q3.2.2.1 j2 hi pw fun h4 ws4 j' e4 r4 m4 x4 q4 => ?_
        refine ⟨ok_35 V.1, sp_T_addHead V (by rw [e4 35 9 (by decide) (by decide)]; exact q3.2.2.2.1.1) hl ?_⟩
        rw [w32_id (by omega) (by omega)]
        refine ihi _ ws4 ?_
        have := INV_add q3 e4 r4 x4 (fun x hx => ((m4 x).mp hx).elim (q3.2.2.1 x) fun g => by rw [g]; exact pw) q4
        rw [chl_s, ← List.append_assoc]
        exact this
end
