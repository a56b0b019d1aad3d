-- deps: 18 19 20 21 23 24 25 26 27 28 29 22 30 31 32 33 34 35 36 37 38 39 40 47 50 67 68 70 71 72 73 80 81
/-! the reference: all words of a suite -/
section
variable {Q : RP} {n : Nat} {hr h : HP} {L : List Nat} {S I : Nat} {t o : Int → Int}
/-- what is there of the words of the states before s, and of s with tails before w -/
def DN (S I : Nat) (t o : Int → Int) (su e s w : Nat) (L : List Nat) : Prop := ∀ s' u a b : Nat, s' < S → AC I t 0 (s' : Int) = (a : Int) → wok I u → wlen u ≤ e + 1 → (s' < s ∨ (s' = s ∧ u < w)) → b ∈ BHf S I t o su (cat a u) → cat (cat a u) b ∈ L
/-- the row while it is filled -/
def FI (S I : Nat) (t o : Int → Int) (su e : Nat) (h h1 : HP) (L : List Nat) : Prop := fxA (2 * e + su) h h1 ∧ RW h1 (2 * e + su) L ∧ asc L ∧ ∀ x ∈ L, WD I (ALs I t S) (BHf S I t o su) e x
theorem sp_N_laysFill {su e : Nat} (W : NW n hr) (T : TV S I t o) (X : NX S I t o h) (P : NP S I t o h) (hsu : su < 2) (he : e < 3) (hS0 : 0 < S) (R : RW h (2 * e + su) []) (hQ : ∀ h1 L1, fxA (2 * e + su) h h1 → RW h1 (2 * e + su) L1 → asc L1 → L1.length ≤ 875 → (∀ x, x ∈ L1 ↔ WD I (ALs I t S) (BHf S I t o su) e x) → f_N_drops [(2, 138), (0, ((2 * e + su : Nat) : Int))] n hr h1 fun _ n2 hr2 h2 => ai_q 0 n Q (9, 0) n2 hr2 h2) : p_N_laysSuite_19 (n + 0) (ai_q 0 n Q) 138 ((2 * e + su : Nat) : Int) 0 n hr h := by
  have TT := T
  obtain ⟨hS, hI, hm, hc, hT⟩ := T
  have okA := ALs_ok hS hS0 hI hc
  have okB := BHf_ok (o := o) hS hS0 hI hm hc su
  have hts : ((2 * e + su : Nat) : Int) < 6 := by omega
  have few5 : ∀ L1, asc L1 → (∀ x ∈ L1, WD I (ALs I t S) (BHf S I t o su) e x) → L1.length ≤ 875 := fun L1 a b => by
    have := nod_len (asc_nod a) fun y hy => WD_L hI okA (b y hy)
    have := WDL_len hI okA okB he
    have := mH_b e
    omega
  have ediv : i_div ((2 * e + su : Nat) : Int) 2 = (e : Int) := by rw [div_i (by omega) (by omega) (by omega) (by omega)]; omega
  have p4 : (4 : Nat) ^ (e + 1) ≤ 64 := by
    have : (4 : Nat) ^ (e + 1) ≤ 4 ^ 3 := Nat.pow_le_pow_right (by decide) (by omega)
    exact this
  -- one head more
  have one : ∀ (s w a : Nat) h1 L1 (Q' : RP), s < S → AC I t 0 (s : Int) = (a : Int) → wok I w → wlen w ≤ e + 1 → FI S I t o su e h h1 L1 → DN S I t o su e s w L1 → (∀ h2 L2, FI S I t o su e h h2 L2 → (∀ w', (∀ x, x < w' → wok I x → x < w ∨ x = w) → DN S I t o su e s w' L2) → Q' (9, 0) n hr h2) → f_N_addsHead [(2, 138), (0, ((2 * e + su : Nat) : Int)), (0, (cat a w : Int))] n hr h1 Q' := by
    intro s w a h1 L1 Q' hs ha hw hl f d hq
    have am : a ∈ ALs I t S := (ALs_mem S).mpr ⟨s, hs, ha⟩
    have ao := okA.2.2.1 a am
    have co := cat_ok hI ao.1 w hw
    have hd : HD I (ALs I t S) e (cat a w) := ⟨a, w, am, hw, hl, rfl⟩
    refine sp_N_addsHead W TT hS0 (NX_A X f.1) (NP_A P f.1) hsu he co.1 (by omega) f.2.1 (by have := few5 L1 f.2.2.1 f.2.2.2; omega) f.2.2.1 fun h2 L2 f2 r2 a2 m2 l2 => ?_
    refine hq h2 L2 ⟨fxA_tr f.1 f2, r2, a2, fun x hx => ?_⟩ fun w' hw' s' u a' b b1 b2 b3 b4 b5 b6 => ?_
    · rcases (m2 x).mp hx with q | ⟨b, q1, q2⟩
      · exact f.2.2.2 x q
      · exact ⟨cat a w, b, hd, q1, q2⟩
    · rw [m2]
      have old : (s' < s ∨ (s' = s ∧ u < w)) → cat (cat a' u) b ∈ L1 := fun q => d s' u a' b b1 b2 b3 b4 q b6
      rcases b5 with q | ⟨q1, q2⟩
      · exact Or.inl (old (Or.inl q))
      · rcases hw' u q2 b3 with g | g
        · exact Or.inl (old (Or.inr ⟨q1, g⟩))
        · subst q1; subst g
          have : a' = a := by omega
          subst this
          exact Or.inr ⟨b, b6, rfl⟩
  have main := lupN (N := S) (P := fun s => ∀ h1 L1, FI S I t o su e h h1 L1 → DN S I t o su e s 0 L1 → p_N_laysSuite_19 (n + 0) (ai_q 0 n Q) 138 ((2 * e + su : Nat) : Int) (s : Int) n hr h1) ?_ ?_
  · exact main h [] ⟨fxA_rf, R, asc_0, fun x hx => by cases hx⟩ fun s' u a b _ _ _ _ q => by omega
  · intro h1 L1 f d
    have X1 := NX_A X f.1
    refine b_N_laysSuite_19 ⟨n0 W, sp_N_states W ⟨fun _ => ⟨n0 W, ?_⟩, fun z => ?_⟩⟩
    · refine hQ h1 L1 f.1 f.2.1 f.2.2.1 (few5 L1 f.2.2.1 f.2.2.2) fun x => ⟨f.2.2.2 x, ?_⟩
      rintro ⟨hd, b, ⟨a, u, a1, a2, a3, rfl⟩, b1, rfl⟩
      obtain ⟨s', s1, s2⟩ := (ALs_mem S).mp a1
      exact d s' u a b s1 s2 a2 a3 (Or.inl s1) b1
    · dsimp only at z; rw [X1.1] at z; omega
  · intro s hs ih h1 L1 f d
    have X1 := NX_A X f.1
    have P1 := NP_A P f.1
    have ea := P1.1 s hs
    have nexts : ∀ h2 L2, FI S I t o su e h h2 L2 → DN S I t o su e (s + 1) 0 L2 → p_N_laysSuite_19 (n + 0) (ai_q 0 n Q) 138 ((2 * e + su : Nat) : Int) (w32 ((s : Int) + 1)) n hr h2 := by
      intro h2 L2 f2 d2
      rw [w32_id (by omega) (by omega)]
      exact ih h2 L2 f2 d2
    refine b_N_laysSuite_19 ⟨n0 W, sp_N_states W ⟨fun z => ?_, fun _ => ⟨n0 W, ?_⟩⟩⟩
    · dsimp only at z; rw [X1.1] at z; omega
    · refine sp_N_isReached W (by omega) (fun z => ?_) (fun z => ?_)
      · rw [ea] at z
        obtain ⟨a, ha⟩ := Int.eq_ofNat_of_zero_le z
        have am : a ∈ ALs I t S := (ALs_mem S).mpr ⟨s, hs, ha⟩
        have ao := okA.2.2.1 a am
        have alen := wlen_le.mp ao.2
        refine ⟨fun _ => ?_, fun q => absurd q (by decide)⟩
        simp (disch := omega) only [n0 W, nr_22 W, ea, ha, true_and]
        repeat (refine ⟨by omega, ?_⟩)
        have loop : ∀ m w, 64 - w ≤ m → wok I w → 1 ≤ I → ∀ h2 L2, FI S I t o su e h h2 L2 → DN S I t o su e s w L2 → w < 4194304 → p_N_laysSuite_61 (n + 0) (ai_q 0 n Q) 138 ((2 * e + su : Nat) : Int) (s : Int) (w : Int) n hr h2 := by
          have fin : ∀ w, e + 1 < wlen w → ∀ h2 L2, FI S I t o su e h h2 L2 → DN S I t o su e s w L2 → p_N_laysSuite_19 (n + 0) (ai_q 0 n Q) 138 ((2 * e + su : Nat) : Int) (w32 ((s : Int) + 1)) n hr h2 := by
            intro w hw h2 L2 f2 d2
            refine nexts h2 L2 f2 fun s' u a' b b1 b2 b3 b4 b5 b6 => d2 s' u a' b b1 b2 b3 b4 ?_ b6
            have : u < w := Nat.lt_of_not_le fun q => by have := wlen_mono q; omega
            omega
          have far : ∀ w, 64 ≤ w → e + 1 < wlen w := fun w hw => Nat.lt_of_not_le fun q => by
            have := wlen_le.mp q; omega
          intro m
          induction m with
          | zero =>
            intro w hm0 hw hI1 h2 L2 f2 d2 hb
            have := far w (by omega)
            refine b_N_laysSuite_61 (sp_N_long1 (by omega) ⟨by decide, ?_⟩)
            rw [ediv, w32_id (x := (e : Int) + 1) (by omega) (by omega)]
            exact ⟨fun _ => fin w this h2 L2 f2 d2, fun z => by dsimp only at z; omega⟩
          | succ m ihm =>
            intro w hm0 hw hI1 h2 L2 f2 d2 hb
            refine b_N_laysSuite_61 (sp_N_long1 (by omega) ⟨by decide, ?_⟩)
            rw [ediv, w32_id (x := (e : Int) + 1) (by omega) (by omega)]
            refine ⟨fun z => fin w (by dsimp only at z; omega) h2 L2 f2 d2, fun z => ?_⟩
            have lw : wlen w ≤ e + 1 := by dsimp only at z; omega
            have w64 : w < 64 := Nat.lt_of_not_le fun q => by have := far w q; omega
            have P2 := NP_A P f2.1
            have X2 := NX_A X f2.1
            have ea2 := P2.1 s hs
            have co := cat_ok hI ao.1 w hw
            simp (disch := omega) only [n0 W, nr_22 W, ea2, ha, true_and]
            repeat (refine ⟨by omega, ?_⟩)
            refine sp_N_behind (wok3 hI hw) (by omega) ?_
            refine ⟨n0 W, ?_⟩
            refine one s w a h2 L2 _ hs ha hw lw f2 d2 fun h3 L3 f3 d3 => ?_
            refine ⟨n0 W, sp_N_after W (NX_A X f3.1).2.1 hI1 hI hb ?_⟩
            have af := aft_ok hI1 hI w hw
            have ab := aft_b hI1 w
            refine ihm (aft I w) (by omega) af.1 hI1 h3 L3 f3 (d3 _ fun x hx hok => ?_) (by omega)
            rcases Nat.lt_trichotomy x w with g | g | g
            · exact Or.inl g
            · exact Or.inr g
            · exact (af.2.2 x g hx hok).elim
        have := one s 0 a h1 L1 (fun r n2 hr2 h2 => ai_ok n2 138 12 ∧ f_N_inputs [(2, 138)] n2 hr2 h2 fun r3 n3 hr3 h3 => (r3.2 ≠ 0 → p_N_laysSuite_61 (n + 0) (ai_q 0 n Q) 138 ((2 * e + su : Nat) : Int) (s : Int) 1 n3 hr3 h3) ∧ (r3.2 = 0 → p_N_laysSuite_19 (n + 0) (ai_q 0 n Q) 138 ((2 * e + su : Nat) : Int) (w32 ((s : Int) + 1)) n3 hr3 h3)) hs ha (wok_0 I) (by rw [wlen_0]; omega) f d fun h2 L2 f2 d2 => ?_
        · rw [cat_0] at this; exact this
        · refine ⟨n0 W, sp_N_inputs W ⟨fun z => ?_, fun z => ?_⟩⟩
          · dsimp only at z; rw [(NX_A X f2.1).2.1] at z
            refine loop 64 1 (by omega) ((wok_1 hI (i := 0) (by omega)).1) (by omega) h2 L2 f2 (d2 1 fun x hx _ => Or.inr (by omega)) (by omega)
          · dsimp only at z; rw [(NX_A X f2.1).2.1] at z
            have I0 : I = 0 := by omega
            refine nexts h2 L2 f2 fun s' u a' b b1 b2 b3 b4 b5 b6 => d2 (u + 1) (fun x _ hok => Or.inr (by rw [I0] at hok; exact wok_m0 hok)) s' u a' b b1 b2 b3 b4 (by omega) b6
      · refine ⟨fun q => absurd rfl q, fun _ => nexts h1 L1 f fun s' u a b b1 b2 b3 b4 b5 b6 => ?_⟩
        rw [ea] at z
        refine d s' u a b b1 b2 b3 b4 (Or.inl ?_) b6
        rcases b5 with q | ⟨_, q⟩
        · by_cases y : s' = s
          · subst y; omega
          · omega
        · omega
end
