-- deps: 18 19 20 21 23 24 25 26 27 28 29 22 30 31 32 33 34 35 38 39 40 41 42 43 44 45 46 47 48 51 62 91 92 93 94 9N
/-! the class's machines: packed, unpacked, held against another one, places reached -/
section
variable {Q : RP} {n : Nat} {hr h : HP} {S I N : Nat} {t o t' o' : Int → Int}
theorem sp_M_arcsUnlike {m m' : Int} (hm : mrow hr m n) (ho : mrow hr m' n) (hI : I ≤ 3) (hN : N ≤ 8) (e2 : h m 2 = (N : Int)) (e3 : h m 3 = (I : Int)) (r' : TRm m t' o' h) (r : TRm m' t o h) (hQ : Q (0, (dfP I t o t' o' N : Int)) n hr h) : f_M_arcsUnlike [(2, m), (2, m')] n hr h Q := by
  obtain ⟨a1, a2, a3, a4, a5, a6, a7⟩ := hm
  obtain ⟨c1, c2, c3, c4, c5, c6, c7⟩ := ho
  apply e_M_arcsUnlike
  have main := lupN (N := N) (P := fun p => p_M_arcsUnlike_4 (n + 0) (ai_q 0 n Q) m m' (dfP I t o t' o' p : Int) (p : Int) n hr h) ?_ ?_
  · exact main
  · refine b_M_arcsUnlike_4 ⟨a1, ?_⟩
    rw [e2]
    exact ⟨fun _ => q_at rfl hQ, fun z => by omega⟩
  · intro p hp ih
    have bP := dfP_le hI (t := t) (o := o) (t' := t') (o' := o') p
    refine b_M_arcsUnlike_4 ⟨a1, ?_⟩
    rw [e2]
    refine ⟨fun z => by omega, fun _ => ?_⟩
    have inner := lupN (N := I) (P := fun i => p_M_arcsUnlike_15 (n + 0) (ai_q 0 n Q) m m' ((dfP I t o t' o' p + dfA t o t' o' p i : Nat) : Int) (p : Int) (i : Int) n hr h) ?_ ?_
    · exact inner
    · refine b_M_arcsUnlike_15 ⟨a1, ?_⟩
      rw [e3]
      refine ⟨fun _ => ?_, fun z => by omega⟩
      rw [w32_id (by omega) (by omega)]
      exact ih
    · intro i hi ih2
      have bA := dfA_le (t := t) (o := o) (t' := t') (o' := o') (p := p) i
      have hm3 : (p : Int) * 3 = 3 * (p : Int) := Int.mul_comm _ _
      have g1 := r'.1 (3 * (p : Int) + (i : Int)) (by omega) (by omega)
      have g2 := r'.2 (3 * (p : Int) + (i : Int)) (by omega) (by omega)
      have g3 := r.1 (3 * (p : Int) + (i : Int)) (by omega) (by omega)
      have g4 := r.2 (3 * (p : Int) + (i : Int)) (by omega) (by omega)
      have dS : dfA t o t' o' p (i + 1) = dfA t o t' o' p i + if t' (3 * (p : Int) + (i : Int)) ≠ t (3 * (p : Int) + (i : Int)) ∨ o' (3 * (p : Int) + (i : Int)) ≠ o (3 * (p : Int) + (i : Int)) then 1 else 0 := rfl
      rw [dS] at ih2
      refine b_M_arcsUnlike_15 ⟨a1, ?_⟩
      rw [e3]
      refine ⟨fun z => by omega, fun _ => ?_⟩
      simp (disch := omega) only [a1, a2, a3, a4, a5, a6, a7, c1, c2, c3, c4, c5, c6, c7, hm3, w32_id, g1, g2, g3, g4, true_and]
      repeat (refine ⟨by omega, ?_⟩)
      refine ⟨fun z => ?_, fun z => ?_⟩
      · rw [if_pos (Or.inl z)] at ih2
        exact ih2
      · repeat (refine ⟨by omega, ?_⟩)
        refine ⟨fun z2 => ?_, fun z2 => ?_⟩
        · rw [if_neg (fun q => q.elim (fun y => y z) (fun y => y z2))] at ih2
          exact ih2
        · rw [if_pos (Or.inr z2)] at ih2
          exact ih2
theorem sp_M_placesReached {m : Int} (hm : mrow hr m n) (hI : I ≤ 3) (hN : N ≤ 8) (hc : clo N t) (e2 : h m 2 = (N : Int)) (e3 : h m 3 = (I : Int)) (r : TRm m t o h) (hQ : Q (0, (popc (RCH N I t) : Int)) n hr h) : f_M_placesReached [(2, m)] n hr h Q := by
  obtain ⟨a1, a2, a3, a4, a5, a6, a7⟩ := hm
  apply e_M_placesReached
  have main := lupN (N := N) (P := fun k => p_M_placesReached_15 (n + 0) (ai_q 0 n Q) m (rvR N I t (rv0 N) k : Int) (k : Int) n hr h) ?_ ?_
  · refine ⟨a1, ?_⟩
    rw [e2]
    have e0 : rvR N I t (rv0 N) 0 = rv0 N := rfl
    rw [e0] at main
    refine ⟨fun z => ?_, fun z => ?_⟩
    · rw [show rv0 N = 0 from if_neg (by omega)] at main; exact main
    · rw [show rv0 N = 1 from if_pos (by omega)] at main; exact main
  · refine b_M_placesReached_15 ⟨a1, ?_⟩
    rw [e2]
    exact ⟨fun _ => sp_J_bitCount (rvR_256 hN hI hc N) (q_at rfl hQ), fun z => by omega⟩
  · intro k hk ih
    refine b_M_placesReached_15 ⟨a1, ?_⟩
    rw [e2]
    refine ⟨fun z => by omega, fun _ => ?_⟩
    have mid := lupN (N := N) (P := fun p => p_M_placesReached_25 (n + 0) (ai_q 0 n Q) m (rvP I t (rvR N I t (rv0 N) k) p : Int) (k : Int) (p : Int) n hr h) ?_ ?_
    · exact mid
    · refine b_M_placesReached_25 ⟨a1, ?_⟩
      rw [e2, w32_id (by omega) (by omega)]
      exact ⟨fun _ => ih, fun z => by omega⟩
    · intro p hp ih2
      refine b_M_placesReached_25 ⟨a1, ?_⟩
      rw [e2]
      refine ⟨fun z => by omega, fun _ => ?_⟩
      have inner := lupN (N := I) (P := fun i => p_M_placesReached_36 (n + 0) (ai_q 0 n Q) m (rvA t p (rvP I t (rvR N I t (rv0 N) k) p) i : Int) (k : Int) (p : Int) (i : Int) n hr h) ?_ ?_
      · exact inner
      · refine b_M_placesReached_36 ⟨a1, ?_⟩
        rw [e3, w32_id (by omega) (by omega)]
        exact ⟨fun _ => ih2, fun z => by omega⟩
      · intro i hi ih3
        have b := rvA_256 hN hI hc k hp (show i ≤ I by omega)
        have hm3 : (p : Int) * 3 = 3 * (p : Int) := Int.mul_comm _ _
        have cc := hc (p : Int) i (by omega) (by omega) (by omega)
        have g1 := r.1 (3 * (p : Int) + (i : Int)) (by omega) (by omega)
        have eS : rvA t p (rvP I t (rvR N I t (rv0 N) k) p) (i + 1) = if (rvA t p (rvP I t (rvR N I t (rv0 N) k) p) i).testBit p = true then rvA t p (rvP I t (rvR N I t (rv0 N) k) p) i ||| 2 ^ (t (3 * (p : Int) + (i : Int))).toNat else rvA t p (rvP I t (rvR N I t (rv0 N) k) p) i := rfl
        have st := fun q => rvA_st (t := t) (p := p) (x := rvP I t (rvR N I t (rv0 N) k) p) (i := i) q I
        have eI : rvP I t (rvR N I t (rv0 N) k) (p + 1) = rvA t p (rvP I t (rvR N I t (rv0 N) k) p) I := rfl
        rw [eI] at ih2
        generalize rvA t p (rvP I t (rvR N I t (rv0 N) k) p) i = y at *
        rw [eS] at ih3
        obtain ⟨v, hv⟩ := Int.eq_ofNat_of_zero_le cc.1
        rw [hv] at g1 ih3 cc
        rw [Int.toNat_natCast] at ih3
        refine b_M_placesReached_36 ⟨a1, ?_⟩
        rw [e3]
        simp (disch := omega) only [a1, a2, a3, a4, a5, a6, a7, hm3, w32_id, g1, bit_n, or_bit, true_and]
        refine ⟨fun z => by omega, fun _ => ⟨fun z => ?_, fun z => ?_⟩⟩
        · have nb : ¬ y.testBit p = true := fun q => z (if_pos q)
          rw [st nb] at ih2
          exact ih2
        · have nb : y.testBit p = true := Classical.byContradiction fun q => by rw [if_neg q] at z; omega
          rw [if_pos nb] at ih3
          repeat (refine ⟨by omega, ?_⟩)
          exact ih3
/-- a row's 24 places from f on hold a machine's arcs -/
def PKd (x f : Int) (t o : Int → Int) (h : HP) : Prop := ∀ a : Int, 0 ≤ a → a < 24 → h x (f + a) = 16 * t a + o a
theorem PKd_fr {x f : Int} {h1 : HP} (H : PKd x f t o h) (e : h1 x = h x) : PKd x f t o h1 := by unfold PKd; rw [e]; exact H
theorem PKd_ot {x f g : Int} {h1 : HP} (H : PKd x f t o h) (e : ∀ j : Int, (j < g ∨ g + 24 ≤ j) → h1 x j = h x j) (hd : f + 24 ≤ g ∨ g + 24 ≤ f) : PKd x f t o h1 := fun a h1 h2 => by rw [e _ (by omega)]; exact H a h1 h2
theorem sp_M_pack {m x f : Int} (hm : mrow hr m n) (ok : ai_ok n x 50) (hx : x ≠ m + 1 ∧ x ≠ m + 2) (hf : 0 ≤ f ∧ f + 24 ≤ ai_l x) (hl : ai_l x ≤ 1000) (hm' : mok t o) (r : TRm m t o h) (hQ : ∀ h1, EX [x] [] h h1 → (∀ j : Int, (j < f ∨ f + 24 ≤ j) → h1 x j = h x j) → PKd x f t o h1 → Q (9, 0) n hr h1) : f_M_pack [(2, m), (2, x), (0, f)] n hr h Q := by
  obtain ⟨a1, a2, a3, a4, a5, a6, a7⟩ := hm
  apply e_M_pack
  have main := lupN (N := 24) (P := fun k => ∀ h1, EX [x] [] h h1 → (∀ j : Int, (j < f ∨ f + 24 ≤ j) → h1 x j = h x j) → (∀ a : Int, 0 ≤ a → a < (k : Int) → h1 x (f + a) = 16 * t a + o a) → p_M_pack_2 (n + 0) (ai_q 0 n Q) m x f (k : Int) n hr h1) ?_ ?_
  · exact main h EX_rf (fun _ _ => rfl) fun a h1 h2 => by omega
  · intro h1 e1 e2 e3
    refine b_M_pack_2 ⟨fun _ => q_at rfl (hQ h1 e1 e2 e3), fun z => by omega⟩
  · intro k hk ih h1 e1 e2 e3
    have g1 := r.1 (k : Int) (by omega) (by omega)
    have g2 := r.2 (k : Int) (by omega) (by omega)
    have q1 : h1 (m + 1) = h (m + 1) := EX_fn e1 (by simp; omega) (by simp)
    have q2 : h1 (m + 2) = h (m + 2) := EX_fn e1 (by simp; omega) (by simp)
    have b := hm' (k : Int) (by omega) (by omega)
    obtain ⟨v, hv⟩ := Int.eq_ofNat_of_zero_le b.1.1
    obtain ⟨u, hu⟩ := Int.eq_ofNat_of_zero_le b.2.1
    rw [← q1, hv] at g1
    rw [← q2, hu] at g2
    have ev : i_or (i_shl (v : Int) 4) (u : Int) = 16 * (v : Int) + (u : Int) := by
      rw [shl_4 (by omega) (by omega), show (v : Int) * 16 = ((v * 2 ^ 4 : Nat) : Int) by omega, or_add (by omega) (by omega)]; omega
    refine b_M_pack_2 ⟨fun z => by omega, fun _ => ?_⟩
    simp (disch := omega) only [a1, a2, a3, a4, a5, a6, a7, ok, w32_id, g1, g2, ev, true_and]
    refine ⟨fun z => by omega, fun _ => ?_⟩
    repeat (refine ⟨by omega, ?_⟩)
    refine ih _ (EX_upc e1 (by simp)) (fun j hj => ?_) fun a h1 h2 => ?_
    · rw [up_oth (Or.inr (by omega))]; exact e2 j hj
    · by_cases z : a = (k : Int)
      · subst z; rw [up_same, hv, hu]
      · rw [up_oth (Or.inr (by omega))]; exact e3 a h1 (by omega)
theorem sp_M_unpack {m x f : Int} (hm : mrow hr m n) (ok : ai_ok n x 50) (hx : x ≠ m + 1 ∧ x ≠ m + 2) (hf : 0 ≤ f ∧ f + 24 ≤ ai_l x) (hl : ai_l x ≤ 1000) (hm' : mok t o) (r : PKd x f t o h) (hQ : ∀ h1, EX [m + 1, m + 2] [] h h1 → TRm m t o h1 → Q (9, 0) n hr h1) : f_M_unpack [(2, m), (2, x), (0, f)] n hr h Q := by
  obtain ⟨a1, a2, a3, a4, a5, a6, a7⟩ := hm
  apply e_M_unpack
  have main := lupN (N := 24) (P := fun k => ∀ h1, EX [m + 1, m + 2] [] h h1 → (∀ a : Int, 0 ≤ a → a < (k : Int) → h1 (m + 1) a = t a ∧ h1 (m + 2) a = o a) → p_M_unpack_2 (n + 0) (ai_q 0 n Q) m x f (k : Int) n hr h1) ?_ ?_
  · exact main h EX_rf fun a h1 h2 => by omega
  · intro h1 e1 e3
    refine b_M_unpack_2 ⟨fun _ => q_at rfl (hQ h1 e1 ⟨fun a y1 y2 => (e3 a y1 y2).1, fun a y1 y2 => (e3 a y1 y2).2⟩), fun z => by omega⟩
  · intro k hk ih h1 e1 e3
    have b := hm' (k : Int) (by omega) (by omega)
    have g := r (k : Int) (by omega) (by omega)
    have q1 : h1 x = h x := EX_fn e1 (by simp; omega) (by simp)
    rw [← q1] at g
    have ev : i_shr (16 * t (k : Int) + o (k : Int)) 4 = t (k : Int) := by
      rw [shr_4 (by omega) (by omega)]; omega
    have eu : i_and (16 * t (k : Int) + o (k : Int)) 15 = o (k : Int) := by
      rw [and_15 (by omega) (by omega)]; omega
    refine b_M_unpack_2 ⟨fun z => by omega, fun _ => ?_⟩
    simp (disch := omega) only [a1, a2, a3, a4, a5, a6, a7, ok, w32_id, up_oth, g, ev, eu, true_and]
    refine ⟨fun z => by omega, fun _ => ?_⟩
    repeat (refine ⟨by omega, ?_⟩)
    refine ih _ (EX_upc (EX_upc e1 (by simp)) (by simp)) fun a h1 h2 => ?_
    by_cases z : a = (k : Int)
    · subst z
      rw [up_oth (Or.inl (by omega)), up_same, up_same]; exact ⟨rfl, rfl⟩
    · rw [up_oth (Or.inl (by omega)), up_oth (Or.inr (by omega)), up_oth (Or.inr (by omega)), up_oth (Or.inl (by omega))]; exact e3 a h1 (by omega)
end
