-- deps: 18 19 20 21 23 24 25 26 27 28 29 22 30 31 32 33 34 35 36 37 38 39 40 67 68 70 73 80
/-! the reference: what comes behind a head is added -/
section
variable {Q : RP} {n : Nat} {hr h : HP} {L : List Nat} {S I : Nat} {t o : Int → Int}
theorem NX_A {h1 : HP} {s : Nat} (X : NX S I t o h) (f : fxA s h h1) : NX S I t o h1 := NX_fr X f.1 (by decide) (by decide)
theorem NP_A {h1 : HP} {s : Nat} (X : NP S I t o h) (f : fxA s h h1) : NP S I t o h1 := NP_fr X f.1 (by decide) (by decide)
theorem sp_N_addsHead {su e u : Nat} (W : NW n hr) (T : TV S I t o) (hS0 : 0 < S) (X : NX S I t o h) (P : NP S I t o h) (hsu : su < 2) (he : e < 3) (hu : wok I u) (hul : wlen u ≤ 9) (R : RW h (2 * e + su) L) (hl : L.length + 5 ≤ 1300) (hA : asc L) (hQ : ∀ h1 L', fxA (2 * e + su) h h1 → RW h1 (2 * e + su) L' → asc L' → (∀ x, x ∈ L' ↔ x ∈ L ∨ ∃ b, b ∈ BHf S I t o su u ∧ x = cat u b) → L'.length ≤ L.length + 5 → Q (9, 0) n hr h1) : f_N_addsHead [(2, 138), (0, ((2 * e + su : Nat) : Int)), (0, (u : Int))] n hr h Q := by
  have TT := T
  obtain ⟨hS, hI, hm, hc, hT⟩ := T
  have okb := BHf_ok (o := o) hS hS0 hI hm hc su u hu
  generalize hts : 2 * e + su = ts at R hQ
  have ht : ts < 6 := by omega
  have wu := wlen_le.mp (show wlen u ≤ 15 by omega)
  have er : i_rem (ts : Int) 2 = (su : Int) := by rw [rem_i (by omega) (by omega) (by omega) (by omega)]; omega
  apply e_N_addsHead
  rw [er]
  refine ⟨by decide, fun z => ?_, fun z => ?_⟩
  · have s1 : su = 1 := by omega
    have d := dS_cl hI (clo_m hI hc) (p := (0 : Int)) (by omega) u hu
    obtain ⟨s, hs⟩ := Int.eq_ofNat_of_zero_le d.1
    have bh : BHf S I t o su u = MKl S I t o s 5 := by unfold BHf; rw [if_neg (by omega), hs]; rfl
    rw [bh] at okb
    have main := lupN (N := 5) (P := fun k => ∀ h1 L1, fxA ts h h1 → RW h1 ts L1 → asc L1 → (∀ x, x ∈ L1 ↔ x ∈ L ∨ ∃ b, b ∈ MKl S I t o s k ∧ x = cat u b) → L1.length ≤ L.length + k → p_N_addsHead_54 (n + 0) (ai_q 0 n Q) 138 (ts : Int) (u : Int) (s : Int) (MK S I t o s k) n hr h1) ?_ ?_
    · have m0 := main h L fxA_rf R hA (fun x => ⟨Or.inl, fun q => q.elim id fun ⟨b, hb, _⟩ => by cases hb⟩) (by omega)
      refine ⟨n0 W, sp_N_lead W (b := 0) (by omega) hm (r24_z X.2.2.1) (r24_z X.2.2.2) (by omega) wu (wok3 hI hu) ?_⟩
      rw [hs]
      refine ⟨n0 W, sp_N_markAbove W TT X P (by omega) ?_⟩
      exact m0
    · intro h1 L1 f1 r1 a1 m1 l1
      have : MK S I t o s 5 = -2 := MK_5 hS (by omega)
      exact b_N_addsHead_54 ⟨fun _ => q_at rfl (hQ h1 L1 f1 r1 a1 (by rw [bh]; exact m1) l1), fun z => (z this).elim⟩
    · intro k hk ih h1 L1 f1 r1 a1 m1 l1
      by_cases y : MK S I t o s k = -2
      · have e5 : MKl S I t o s 5 = MKl S I t o s k := by
          have := MKl_st y (5 - k)
          rwa [show k + (5 - k) = 5 by omega] at this
        exact b_N_addsHead_54 ⟨fun _ => q_at rfl (hQ h1 L1 f1 r1 a1 (by rw [bh, e5]; exact m1) (by omega)), fun z => (z y).elim⟩
      · have ms : MKl S I t o s (k + 1) = MKl S I t o s k ++ [(MK S I t o s k).toNat] := by rw [MKl, if_neg y]
        have nx : MK S I t o s (k + 1) = MAb S I t o s (MK S I t o s k) := if_neg y
        obtain ⟨b, hb⟩ : ∃ b : Nat, MK S I t o s k = (b : Int) := by
          rcases MK_p (S := S) (I := I) (t := t) (o := o) k s with q | ⟨_, q⟩ | ⟨x, w, q1, q2, q3, q4, _⟩
          · exact (y q).elim
          · exact ⟨0, q⟩
          · exact ⟨w, q4⟩
        have bm : b ∈ MKl S I t o s 5 := by
          have sub : ∀ d, b ∈ MKl S I t o s (k + 1 + d) := by
            intro d
            induction d with
            | zero => rw [Nat.add_zero, ms, hb]; exact List.mem_append_right _ (List.mem_singleton.mpr rfl)
            | succ d ihd =>
              show b ∈ MKl S I t o s (k + 1 + d + 1)
              rw [MKl]; split
              · exact ihd
              · exact List.mem_append_left _ ihd
          have := sub (5 - (k + 1))
          rwa [show k + 1 + (5 - (k + 1)) = 5 by omega] at this
        have bo := okb.2.2 b bm
        refine b_N_addsHead_54 ⟨fun z => (y z).elim, fun _ => ?_⟩
        rw [hb]
        refine sp_N_behind (wok3 hI bo.1) (by omega) ?_
        refine ⟨n0 W, sp_N_adds W ht r1 (by omega) a1 fun h2 L2 f2 r2 a2 m2 l2 => ?_⟩
        have F2 := fxA_tr f1 f2
        refine ⟨n0 W, sp_N_markAbove W TT (NX_A X F2) (NP_A P F2) (by omega) ?_⟩
        rw [← hb, ← nx]
        refine ih h2 L2 F2 r2 a2 (fun x => ?_) (by omega)
        rw [m2 x, m1 x, ms, hb]
        constructor
        · rintro ((q | ⟨b', q1, q2⟩) | q)
          · exact Or.inl q
          · exact Or.inr ⟨b', List.mem_append_left _ q1, q2⟩
          · exact Or.inr ⟨b, List.mem_append_right _ (List.mem_singleton.mpr rfl), q⟩
        · rintro (q | ⟨b', q1, q2⟩)
          · exact Or.inl (Or.inl q)
          · rcases List.mem_append.mp q1 with g | g
            · exact Or.inl (Or.inr ⟨b', g, q2⟩)
            · have e : b' = b := List.mem_singleton.mp g
              rw [e] at q2; exact Or.inr q2
  · have s0 : su = 0 := by omega
    have bh : BHf S I t o su u = SPL I S t o := by unfold BHf; rw [if_pos s0]
    rw [bh] at okb
    have main := lupN (N := (SPL I S t o).length) (P := fun k => ∀ h1 L1, fxA ts h h1 → RW h1 ts L1 → asc L1 → (∀ x, x ∈ L1 ↔ x ∈ L ∨ ∃ b, b ∈ (SPL I S t o).take k ∧ x = cat u b) → L1.length ≤ L.length + k → p_N_addsHead_8 (n + 0) (ai_q 0 n Q) 138 (ts : Int) (u : Int) (k : Int) n hr h1) ?_ ?_
    · exact main h L fxA_rf R hA (fun x => ⟨Or.inl, fun q => q.elim id fun ⟨b, hb, _⟩ => by rw [List.take_zero] at hb; cases hb⟩) (by omega)
    · intro h1 L1 f1 r1 a1 m1 l1
      have P1 := NP_A P f1
      rw [List.take_length] at m1
      refine b_N_addsHead_8 ?_
      simp only [n0 W, P1.2.2.2.1, true_and]
      exact ⟨fun _ => q_at rfl (hQ h1 L1 f1 r1 a1 (by rw [bh]; exact m1) (by omega)), fun z => by omega⟩
    · intro k hk ih h1 L1 f1 r1 a1 m1 l1
      have P1 := NP_A P f1
      have hv := List.getElem?_eq_getElem hk
      generalize (SPL I S t o)[k] = b at hv
      have bo := okb.2.2 b (List.mem_of_getElem? hv)
      have eb := P1.2.2.2.2 k b hv
      rw [Int.zero_add] at eb
      refine b_N_addsHead_8 ?_
      simp (disch := omega) only [n0 W, nr_28 W, P1.2.2.2.1, eb, true_and]
      refine ⟨fun z => by omega, fun _ => ?_⟩
      repeat (refine ⟨by omega, ?_⟩)
      refine sp_N_behind (wok3 hI bo.1) (by omega) ?_
      refine ⟨n0 W, sp_N_adds W ht r1 (by omega) a1 fun h2 L2 f2 r2 a2 m2 l2 => ?_⟩
      rw [w32_id (by omega) (by omega)]
      refine ih h2 L2 (fxA_tr f1 f2) r2 a2 (fun x => ?_) (by omega)
      rw [m2 x, m1 x, List.take_add_one, hv]
      constructor
      · rintro ((q | ⟨b', q1, q2⟩) | q)
        · exact Or.inl q
        · exact Or.inr ⟨b', List.mem_append_left _ q1, q2⟩
        · exact Or.inr ⟨b, List.mem_append_right _ (by simp), q⟩
      · rintro (q | ⟨b', q1, q2⟩)
        · exact Or.inl (Or.inl q)
        · rcases List.mem_append.mp q1 with g | g
          · exact Or.inl (Or.inr ⟨b', g, q2⟩)
          · have e : b' = b := by simpa using g
            rw [e] at q2; exact Or.inr q2
end
