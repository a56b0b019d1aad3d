-- deps: 18 19 20 21 23 24 25 26 27 28 29 22 30 31 32 33 34 35 38 39 40 41 42 43 44 45 46 67 68 69 70 71
/-! the class: a suite's tree, grown -/
section
variable {Q : RP} {n : Nat} {hr h : HP} {S I : Nat} {t o : Int → Int}
theorem mH_b (n : Nat) : 26 * mH n ≤ 4550 := by unfold mH; split <;> (try split) <;> omega
theorem few_ND (hS : S ≤ 6) (hS0 : 0 < S) (hI : I ≤ 3) (hm : mok t o) (hc : clo S t) {su e : Nat} (he : e < 3) : fewP (ND I (ALs I t S) (BHf S I t o su) e) := by
  intro l hl hP
  have okA := ALs_ok hS hS0 hI hc
  have okB := BHf_ok (o := o) hS hS0 hI hm hc su
  have a := nod_len hl fun x hx => ND_L hI okA okB (hP x hx)
  have b := NDL_len hI okA okB he
  have c := mH_b e
  omega
theorem MR_l (hS : S ≤ 6) {s : Nat} (hs : s < S) (H : MR S I t o h s) : h 25 (s : Int) = ((MKl S I t o s 5).length : Int) ∧ (MKl S I t o s 5).length ≤ 5 ∧ ∀ j b : Nat, (MKl S I t o s 5)[j]? = some b → h 24 (6 * (s : Int) + (j : Int)) = (b : Int) := by
  obtain ⟨c, c1, c2, c3, c4, c5⟩ := H
  have c6 : c ≤ 5 := Classical.byContradiction fun q => by
    have := MK_5 (S := S) (I := I) (t := t) (o := o) hS hs
    exact (c4 5 (by omega)).2 this
  have e : MKl S I t o s 5 = MKl S I t o s c := by
    have := MKl_st c5 (5 - c)
    rwa [show c + (5 - c) = 5 by omega] at this
  obtain ⟨l1, l2⟩ := MKl_of (fun k hk => (c4 k hk).2) c (Nat.le_refl _)
  rw [e]
  refine ⟨by rw [l1]; exact c1, by omega, fun j b hj => ?_⟩
  obtain ⟨a1, a2⟩ := l2 j b hj
  have := c4 j a1
  rcases MK_p (S := S) (I := I) (t := t) (o := o) j s with q | ⟨_, q⟩ | ⟨x, w, q1, q2, q3, q4, _⟩
  · exact (this.2 q).elim
  · rw [this.1]; omega
  · rw [this.1]; omega
theorem sp_T_grow {su e : Nat} (V : CW n hr) (T : TV S I t o) (hS0 : 0 < S) (X : CX S I t o h) (C : CTr S I t o h) (hsu : su < 2) (he : e < 3) (hQ : ∀ h1 ws', EX [37, 38, 41] [(35, 9), (35, 10)] h h1 → TRw I t h1 ws' → (∀ x, x ∈ ws' ↔ ND I (ALs I t S) (BHf S I t o su) e x) → Q (9, 0) n hr h1) : f_T_grow [(2, 35), (0, (su : Int)), (0, (e : Int))] n hr h Q := by
  have TT := T
  obtain ⟨hS, hI, hm, hc, hT⟩ := T
  have okA := ALs_ok hS hS0 hI hc
  have okB := BHf_ok (o := o) hS hS0 hI hm hc su
  have F := few_ND (o := o) hS hS0 hI hm hc (su := su) he
  have hH : ∀ x, HD I (ALs I t S) e x → ND I (ALs I t S) (BHf S I t o su) e x := fun x q => ND_H hI okA okB q
  have p0 : ND I (ALs I t S) (BHf S I t o su) e 0 := hH 0 (HD_0 okA.2.1)
  apply e_T_grow
  -- all heads
  have heads : ∀ h1 ws1, INV I t (ND I (ALs I t S) (BHf S I t o su) e) h h1 ws1 (HS I (ALs I t S) (e + 1)) → p_T_grow_39 (n + 0) (ai_q 0 n Q) 35 (su : Int) 0 n hr h1 := by
    intro h1 ws1 q
    have := lupN (N := (HS I (ALs I t S) (e + 1)).length) (P := fun k => ∀ h2 ws2, INV I t (ND I (ALs I t S) (BHf S I t o su) e) h h2 ws2 (HS I (ALs I t S) (e + 1)) → (∀ k' w b : Nat, k' < k → (HS I (ALs I t S) (e + 1))[k']? = some w → b ∈ BHf S I t o su w → cat w b ∈ ws2) → p_T_grow_39 (n + 0) (ai_q 0 n Q) 35 (su : Int) (k : Int) n hr h2) ?_ ?_
    · exact this h1 ws1 q fun k' w b hk => by omega
    · intro h2 ws2 q2 m2
      refine b_T_grow_39 ?_
      simp only [ok_35 V.1, q2.2.2.2.1.1, true_and]
      refine ⟨fun _ => q_at rfl (hQ h2 ws2 q2.1 q2.2.1 fun x => ⟨q2.2.2.1 x, ?_⟩), fun z => by omega⟩
      rintro ⟨v, k, ⟨hd, b, a1, a2, rfl⟩, rfl⟩
      have hin := (HS_HD hI).mpr a1
      obtain ⟨j, hj⟩ := mem_at.mp hin
      have w0 := m2 j hd b (List.getElem?_eq_some_iff.mp hj).1 hj a2
      have cl : ∀ k, cat hd b / 4 ^ k ∈ ws2 := by
        intro k
        induction k with
        | zero => rw [Nat.pow_zero, Nat.div_one]; exact w0
        | succ k ih => rw [div_s]; exact q2.2.1.2.2.2.1 _ ih
      exact cl k
    · intro k hk ih h2 ws2 q2 m2
      have hy := List.getElem?_eq_getElem (l := HS I (ALs I t S) (e + 1)) hk
      generalize (HS I (ALs I t S) (e + 1))[k] = w at hy
      have hd := (HS_HD hI).mp (List.mem_of_getElem? hy)
      have ho := HD_ok hI okA hd
      have C2 := CTr_fr C q2.1 (by decide)
      have X2 := CX_69 X q2.1
      have kl : k < 240 := by
        have lv := LV_len hI okA.1
        have a0 : (HS I (ALs I t S) 0).length ≤ 6 := okA.1
        have a1 : (HS I (ALs I t S) 1).length = (HS I (ALs I t S) 0).length + (LV I (ALs I t S) 1).length := List.length_append
        have a2 : (HS I (ALs I t S) 2).length = (HS I (ALs I t S) 1).length + (LV I (ALs I t S) 2).length := List.length_append
        have a3 : (HS I (ALs I t S) 3).length = (HS I (ALs I t S) 2).length + (LV I (ALs I t S) 3).length := List.length_append
        rcases (by omega : e = 0 ∨ e = 1 ∨ e = 2) with rfl | rfl | rfl
        · have hk2 : k < (HS I (ALs I t S) 1).length := hk
          omega
        · have hk2 : k < (HS I (ALs I t S) 2).length := hk
          omega
        · have hk2 : k < (HS I (ALs I t S) 3).length := hk
          omega
      obtain ⟨j, j1, j2⟩ := q2.2.2.2.1.2 k w hy
      have jl : j < 4550 := by
        have := (List.getElem?_eq_some_iff.mp j2).1
        have := F ws2 q2.2.1.2.2.1 q2.2.2.1
        omega
      have tr := q2.2.1.2.2.2.2 j w j2
      have d := dS_cl hI (clo_m hI hc) (p := (0 : Int)) (by omega) w ho.1
      obtain ⟨s, hs⟩ := Int.eq_ofNat_of_zero_le d.1
      have next : ∀ h3 ws3, EX [37, 38] [(35, 10)] h2 h3 → TRw I t h3 ws3 → ext ws2 ws3 → (∀ x ∈ ws3, ND I (ALs I t S) (BHf S I t o su) e x) → (∀ b ∈ BHf S I t o su w, cat w b ∈ ws3) → p_T_grow_39 (n + 0) (ai_q 0 n Q) 35 (su : Int) ((k : Int) + 1) n hr h3 := by
        intro h3 ws3 e3 r3 x3 p3 m3
        refine ih h3 ws3 ⟨EX_tr q2.1 (EX_le e3 (by decide) (by decide)), r3, p3, ⟨?_, fun k' w' hk' => ?_⟩, x3 0 0 q2.2.2.2.2⟩ fun k' w' b hk' hw' hb => ?_
        · rw [e3 35 9 (by decide) (by decide)]; exact q2.2.2.2.1.1
        · obtain ⟨j', y1, y2⟩ := q2.2.2.2.1.2 k' w' hk'
          exact ⟨j', by rw [e3 41 _ (by decide) (by simp)]; exact y1, x3 j' w' y2⟩
        · by_cases z : k' = k
          · subst z
            rw [hy] at hw'; cases hw'
            exact m3 b hb
          · exact ext_m x3 (m2 k' w' b (by omega) hw' hb)
      have wd : ∀ b ∈ BHf S I t o su w, wok I b ∧ wlen b ≤ 8 ∧ ∀ m, m < wlen b → ND I (ALs I t S) (BHf S I t o su) e (cat w (b / 4 ^ m)) := by
        intro b hb
        have bo := (okB w ho.1).2.2 b hb
        refine ⟨bo.1, by omega, fun m hm2 => ?_⟩
        rw [← (cat_div (h := w) hI bo.1 m (by omega)).1]
        exact ⟨cat w b, m, ⟨w, b, hd, hb, rfl⟩, rfl⟩
      refine b_T_grow_39 ?_
      simp only [ok_35 V.1, q2.2.2.2.1.1, true_and]
      refine ⟨fun z => by omega, fun _ => ⟨fun z => ?_, fun z => ?_⟩⟩
      · have s1 : su = 1 := by omega
        have bh : BHf S I t o su w = MKl S I t o s 5 := by unfold BHf; rw [if_neg (by omega), hs]; rfl
        have mr := MR_l hS (s := s) (by omega) (C2.2.2.2.2.2.2.2.2 s (by omega))
        simp (disch := omega) only [ok_35 V.1, ok_19 V.1, cr_35_8 V, cr_35_5 V, cr_35_1 V, cr_19_5 V, cr_19_6 V, j1, tr.2.1, hs, mr.1, w32_id, true_and]
        repeat (refine ⟨by omega, ?_⟩)
        rw [show (s : Int) * 6 = 6 * (s : Int) by omega]
        refine sp_T_growAll V (ok_24 V.1) (by decide) TT hS0 X2 q2.2.1 F q2.2.2.1 j2 ⟨by omega, by rw [l_24]; omega, by rw [l_24]; decide⟩ (by rw [← bh]; exact wd) mr.2.2 fun h3 ws3 e3 r3 x3 p3 m3 => next h3 ws3 e3 r3 x3 p3 (by rw [bh]; exact m3)
      · have s0 : su = 0 := by omega
        have bh : BHf S I t o su w = SPL I S t o := by unfold BHf; rw [if_pos s0]
        have so := SPL_ok hS hS0 hI hm hc
        simp (disch := omega) only [ok_35 V.1, ok_19 V.1, cr_35_8 V, cr_35_1 V, cr_19_4 V, j1, C2.2.2.2.2.2.2.1, w32_id, true_and]
        repeat (refine ⟨by omega, ?_⟩)
        refine sp_T_growAll V (ok_23 V.1) (by decide) TT hS0 X2 q2.2.1 F q2.2.2.1 j2 ⟨by omega, by rw [l_23]; omega, by rw [l_23]; decide⟩ (by rw [← bh]; exact wd) C2.2.2.2.2.2.2.2.1 fun h3 ws3 e3 r3 x3 p3 m3 => next h3 ws3 e3 r3 x3 p3 (by rw [bh]; exact m3)
  refine b_T_grow_2 ⟨fun z => by omega, fun _ => ?_⟩
  simp (disch := omega) only [ok_35 V.1, cr_35_4 V, w32_id, true_and]
  repeat (refine ⟨by omega, ?_⟩)
  refine b_T_grow_2 ⟨fun z => by omega, fun _ => ?_⟩
  simp (disch := omega) only [ok_35 V.1, cr_35_4 V, w32_id, true_and]
  repeat (refine ⟨by omega, ?_⟩)
  refine b_T_grow_2 ⟨fun z => by omega, fun _ => ?_⟩
  simp (disch := omega) only [ok_35 V.1, cr_35_4 V, w32_id, true_and]
  repeat (refine ⟨by omega, ?_⟩)
  refine b_T_grow_2 ⟨fun _ => ?_, fun z => by omega⟩
  simp (disch := omega) only [ok_35 V.1, cr_35_5 V, w32_id, true_and]
  repeat (refine ⟨by omega, ?_⟩)
  generalize hh : ai_up (ai_up (ai_up (ai_up (ai_up h 37 0 0) 37 (0 + 1) 0) 37 (0 + 1 + 1) 0) 38 0 0) 35 10 1 = h1
  have e1 : EX [37, 38, 41] [(35, 9), (35, 10)] h h1 := by rw [← hh]; exact EX_upp (EX_upc (EX_upc (EX_upc (EX_upc EX_rf (by decide)) (by decide)) (by decide)) (by decide)) (by decide)
  refine sp_T_growHeads V TT hS0 (CX_69 X e1) (CTr_fr C e1 (by decide)) (ws := [0]) ⟨?_, TRr_0 ⟨?_, ?_, ?_⟩ ?_⟩ F (fun x hx => by rw [List.mem_singleton.mp hx]; exact p0) rfl he hH fun h2 ws2 q2 => ?_
  · rw [← hh, up_same]; rfl
  · rw [← hh]; simp (disch := omega) only [up_oth, up_same]
  · rw [← hh]; simp (disch := omega) only [up_oth, up_same]; rfl
  · rw [← hh]; simp (disch := omega) only [up_oth, up_same]; rfl
  · rw [← hh]; simp (disch := omega) only [up_oth, up_same]
  · exact heads h2 ws2 ⟨EX_tr e1 q2.1, q2.2⟩
end
