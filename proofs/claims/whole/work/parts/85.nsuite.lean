-- deps: 18 19 20 21 23 24 25 26 27 28 29 22 30 31 32 33 34 35 36 37 38 39 40 41 42 43 44 45 46 47 48 49 50 62 63 64 67 68 69 70 71 72 73 74 75 80 81 82 83 84
/-! the reference lays a suite -/
section
variable {Q : RP} {n : Nat} {hr h : HP} {L : List Nat} {S I : Nat} {t o : Int → Int}
noncomputable def LFr (S I : Nat) (t o : Int → Int) (su e : Nat) : List Nat := if S = 0 then [] else LFs S I t o su e
theorem LFr_len (hS : S ≤ 6) (hI : I ≤ 3) (hm : mok t o) (hc : clo S t) {su e : Nat} (he : e < 3) : (LFr S I t o su e).length ≤ 5 * mH e ∧ 5 * mH e ≤ 875 := by
  have m8 : 5 * mH e ≤ 875 := by have := mH_b e; omega
  refine ⟨?_, m8⟩
  unfold LFr
  split
  · exact Nat.zero_le _
  · rename_i z
    have okA := ALs_ok hS (by omega) hI hc
    have okB := BHf_ok (o := o) hS (by omega) hI hm hc su
    unfold LFs srt
    split
    · rename_i ex
      have := nod_len (asc_nod ex.choose_spec.1) fun y hy => WD_L hI okA ((ex.choose_spec.2 y).mp hy).1
      have := WDL_len hI okA okB he
      omega
    · exact Nat.zero_le _
/-- suites that are laid -/
def NSu (S I : Nat) (t o : Int → Int) (h : HP) : Prop := ∀ su e : Nat, su < 2 → e < 3 → h 162 ((2 * e + su : Nat) : Int) < 0 ∨ RW h (2 * e + su) (LFr S I t o su e)
theorem sp_N_laysSuite {su e : Nat} (W : NW n hr) (T : TV S I t o) (X : NX S I t o h) (P : NP S I t o h) (U : NSu S I t o h) (hsu : su < 2) (he : e < 3) (hQ : ∀ h1, EX [161, 162, 163] [] h h1 → NSu S I t o h1 → RW h1 (2 * e + su) (LFr S I t o su e) → Q (9, 0) n hr h1) : f_N_laysSuite [(2, 138), (0, ((2 * e + su : Nat) : Int))] n hr h Q := by
  have TT := T
  obtain ⟨hS, hI, hm, hc, hT⟩ := T
  apply e_N_laysSuite
  simp (disch := omega) only [n0 W, nr_39 W, true_and]
  repeat (refine ⟨by omega, ?_⟩)
  refine ⟨fun z => ?_, fun z => ?_⟩
  · repeat (refine ⟨by omega, ?_⟩)
    generalize hh : ai_up h 162 ((2 * e + su : Nat) : Int) 0 = h0
    have e0 : EX [161, 162, 163] [] h h0 := by rw [← hh]; exact EX_upc EX_rf (by decide)
    have o62 : ∀ j : Int, j ≠ ((2 * e + su : Nat) : Int) → h0 162 j = h 162 j := fun j hj => by rw [← hh, up_oth (by omega)]
    have o61 : h0 161 = h 161 := by funext q; rw [← hh, up_oth (by omega)]
    have R0 : RW h0 (2 * e + su) [] := ⟨by rw [← hh, up_same]; rfl, fun j w hj => by cases hj⟩
    have X0 := NX_fr X e0 (by decide) (by decide)
    have P0 := NP_fr P e0 (by decide) (by decide)
    -- the other rows stay
    have done : ∀ h2, EX [161, 162, 163] [] h0 h2 → (∀ j : Int, (j < 1300 * ((2 * e + su : Nat) : Int) ∨ 1300 * ((2 * e + su : Nat) : Int) + 1300 ≤ j) → h2 161 j = h0 161 j) → (∀ j : Int, j ≠ ((2 * e + su : Nat) : Int) → h2 162 j = h0 162 j) → RW h2 (2 * e + su) (LFr S I t o su e) → Q (9, 0) n hr h2 := by
      intro h2 e2 a2 b2 r2
      refine hQ h2 (EX_tr e0 e2) (fun su' e' h1 h2' => ?_) r2
      by_cases g : su' = su ∧ e' = e
      · obtain ⟨rfl, rfl⟩ := g
        exact Or.inr r2
      · have ne : ((2 * e' + su' : Nat) : Int) ≠ ((2 * e + su : Nat) : Int) := by omega
        have ll := LFr_len (o := o) hS hI hm hc (su := su') h2'
        rcases U su' e' h1 h2' with q | ⟨q1, q2⟩
        · exact Or.inl (by rw [b2 _ ne, o62 _ ne]; exact q)
        · refine Or.inr ⟨by rw [b2 _ ne, o62 _ ne]; exact q1, fun j w hj => ?_⟩
          have jl := (List.getElem?_eq_some_iff.mp hj).1
          rw [a2 _ (by omega), o61]
          exact q2 j w hj
    have drops : ∀ h1 L1, fxA (2 * e + su) h0 h1 → RW h1 (2 * e + su) L1 → asc L1 → L1.length ≤ 875 → (∀ x ∈ L1, x < 1073741824) → FLs L1 (BG L1 L1.length) L1.length = LFr S I t o su e → f_N_drops [(2, 138), (0, ((2 * e + su : Nat) : Int))] n hr h1 fun _ n2 hr2 h2 => ai_q 0 n Q (9, 0) n2 hr2 h2 := by
      intro h1 L1 f1 r1 a1 l1 w1 eq
      refine sp_N_drops W (by omega) r1 (by omega) a1 w1 fun h2 f2 r2 => q_at rfl (done h2 ?_ (fun j hj => ?_) (fun j hj => ?_) (by rw [← eq]; exact r2))
      · exact EX_tr (EX_le f1.1 (by decide) (by decide)) f2.1
      · rw [f2.2.1 j hj, f1.2.1 j hj]
      · rw [f2.2.2 j hj, f1.2.2 j hj]
    by_cases S0 : S = 0
    · refine b_N_laysSuite_19 ⟨n0 W, sp_N_states W ⟨fun _ => ⟨n0 W, ?_⟩, fun z => ?_⟩⟩
      · refine drops h0 [] fxA_rf R0 asc_0 (by simp) (fun x hx => by cases hx) ?_
        unfold LFr; rw [if_pos S0]; rfl
      · dsimp only at z; rw [X0.1] at z; omega
    · have okA := ALs_ok hS (by omega) hI hc
      have okB := BHf_ok (o := o) hS (by omega) hI hm hc su
      refine sp_N_laysFill W TT X0 P0 hsu he (by omega) R0 fun h1 L1 f1 r1 a1 l1 m1 => ?_
      refine drops h1 L1 f1 r1 a1 l1 (fun x hx => ?_) ?_
      · have := wlen_le.mp (Nat.le_trans (WD_ok hI okA okB ((m1 x).mp hx)).2 (show e + 11 ≤ 15 by omega))
        have e15 : (4 : Nat) ^ 15 = 1073741824 := by decide
        omega
      · unfold LFr; rw [if_neg S0]
        refine (srt_of (FLs_asc a1 _ (Nat.le_refl _)) fun x => ?_).symm
        rw [FLs_mem _ (Nat.le_refl _)]
        constructor
        · rintro ⟨j, j1, j2, j3⟩
          exact (LF_BG hI okA okB m1 j3).mpr j2
        · intro q
          obtain ⟨j, hj⟩ := mem_at.mp ((m1 x).mpr q.1)
          exact ⟨j, (List.getElem?_eq_some_iff.mp hj).1, (LF_BG hI okA okB m1 hj).mp q, hj⟩
  · rcases U su e hsu he with q | q
    · omega
    · exact (by first | exact q_at rfl (hQ h EX_rf U q) | exact (hQ h EX_rf U q))
end
