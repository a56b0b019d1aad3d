-- deps: 18 19 20 21 22 23 24 25 26 27 28 29 30 31 32 33 34 35 36 37 38 39 40 41 42 43 44 45 46 47 48 49 50 51 52 53 54 55 56 57 58 59 60 61 62 63 64 65 66 67 68 69 70 71 72 73 74 75 76 77 78 79 80 81 82 83 84 85 86 87 88 91 92 93 94 95 96 97 9S 9T 9U 9V 9W 9X 9Y 9Z A0 A1 A2 A3 A4 A5 A6
/-! the reference takes a text -/
section
variable {Q : RP} {n : Nat} {hr h : HP} {T : Int → Int} {s s0 : DS}
/-- a text laid -/
def NLaid (s : DS) (h : HP) : Prop := NX (dM s) (dJ s).length (tM s) (oM s) h ∧ NP (dM s) (dJ s).length (tM s) (oM s) h ∧ NM 24 (tB s) (oB s) h ∧ NF h ∧ h 138 61 = 0 ∧ h 138 67 = 0 ∧ h 138 69 = 0
theorem N_laid (W : NW n hr) (O : dOK s) (D : NTd s h) (hQ : ∀ h1, EX [147, 148, 149, 150, 151, 152, 153, 154, 157, 158, 175, 162, 165, 167, 172] [(138, 23), (138, 29), (138, 31), (138, 61), (138, 67), (138, 69)] h h1 → NTd s h1 → NLaid s h1 → (∀ a : Int, 48 ≤ a → h1 147 a = h 147 a ∧ h1 148 a = h 148 a) → Q (9, 0) n hr h1) : f_N_lays [(2, 138)] n hr h Q := by
  have A := dA_row O D
  have B := dB_row O D
  have tv := TV_s O
  have l := lT_ok O.1.1 A.1 A.2.1 A.2.2.1
  have T1 : TV (dM s) (dJ s).length (lT (dM s) (h 143)) (lO (dM s) (h 143) (h 144)) := ⟨O.1.1, O.1.2.2.2.2, l.1, l.2.1, l.2.2⟩
  refine sp_N_lays W O.1.1 O.1.2.2.2.2 D.1.1 D.1.2.2.1 A.1 A.2.1 A.2.2.1 A.2.2.2.1 fun h1 e1 x1 m1 m2 p1 f1 c1 c2 c3 g1 => ?_
  refine hQ h1 e1 (NTd_fr D fun c a b => EX_fn e1 (by simp; omega) (by simp; omega)) ⟨NX_r24 A.2.2.2.2.1 A.2.2.2.2.2 x1, NP_r24 T1 A.2.2.2.2.1 A.2.2.2.2.2 p1, ⟨r24_tr m1 B.1, r24_tr m2 B.2⟩, f1, c1, c2, c3⟩ g1
theorem sp_N_text {x : Int} {L : Nat} (W : NW n hr) (O0 : dOK s0) (D0 : NTd s0 h) (P : TPn T h) (eL : h 138 2 = (L : Int)) (hL : L ≤ 700) (h0 : ¬ (0 ≤ x ∧ x ≤ (L : Int)) → Q (0, -2) n hr (ai_up h 138 0 0)) (hE : (0 ≤ x ∧ x ≤ (L : Int)) → ∀ f p, pText T x.toNat 701 ds0 0 = .inl (f, p) → ∀ h1, EX [140, 141, 142, 143, 144, 145, 146] ((138, 0) :: (138, 2) :: (138, 18) :: (138, 19) :: NRp) h h1 → NTd s0 h1 → h1 138 2 = 0 → h1 138 18 = (f : Int) → h1 138 19 = (p : Int) → Q (0, -1) n hr h1) (hK : (0 ≤ x ∧ x ≤ (L : Int)) → ∀ s, pText T x.toNat 701 ds0 0 = .inr s → dOK s → ∀ h1, EX [140, 141, 142, 143, 144, 145, 146, 147, 148, 149, 150, 151, 152, 153, 154, 157, 158, 175, 162, 165, 167, 172] ((138, 23) :: (138, 29) :: (138, 31) :: (138, 61) :: (138, 67) :: (138, 69) :: (138, 0) :: (138, 2) :: (138, 18) :: (138, 19) :: NRp) h h1 → NTd s h1 → NLaid s h1 → (∀ a : Int, 48 ≤ a → h1 147 a = h 147 a ∧ h1 148 a = h 148 a) → h1 138 2 = 0 → h1 138 18 = 0 → h1 138 19 = -1 → Q (0, (dL s : Int)) n hr h1) : f_N_text [(2, 138), (0, x)] n hr h Q := by
  have g2 : (ai_up h 138 0 0) 138 2 = (L : Int) := by rw [up_oth (by omega)]; exact eL
  apply e_N_text
  simp only [n0 W, g2, true_and]
  refine ⟨fun q => (by first | exact q_at rfl (h0 (by omega)) | exact (h0 (by omega))), fun q => ⟨fun q2 => ?_, fun q2 => (by first | exact q_at rfl (h0 (by omega)) | exact (h0 (by omega)))⟩⟩
  have e0 : EX [] [(138, 0)] h (ai_up h 138 0 0) := EX_upp EX_rf (by decide)
  obtain ⟨N, rfl⟩ := Int.eq_ofNat_of_zero_le q
  rw [Int.toNat_natCast] at hE hK
  refine sp_N_readText W (TPn_fr P (EX_fn e0 (by decide) (by decide))) (by omega) (fun f p e h1 e1 f1 => ?_) fun s e O h1 e1 d1 z1 => ?_
  · have z := FTn_z f1
    simp (disch := omega) only [n0 W, up_oth, up_same, true_and]
    refine ⟨fun _ => ⟨fun y => absurd y z, fun _ => ?_⟩, fun y => absurd y z⟩
    have D1 := NTd_X O0 e1 (NTd_fr D0 fun c a b => EX_fn e0 (by simp) (by simp; omega))
    refine q_at rfl (hE ⟨q, q2⟩ f p e _ (EX_upp (EX_upp (EX_upp (EX_tr (EX_le e0 (by decide) (by decide)) (EX_le e1.1 (by decide) (by decide))) (by decide)) (by decide)) (by decide)) (NTd_fr D1 fun c a b => by funext j; rw [up_oth (by omega), up_oth (by omega), up_oth (by omega)]) ?_ ?_ ?_)
    · simp (disch := omega) only [up_oth, up_same]
    · simp (disch := omega) only [up_oth, up_same]; exact f1.1
    · simp (disch := omega) only [up_same]; exact f1.2.2
  · simp (disch := omega) only [n0 W, up_oth, up_same, z1, true_and]
    refine ⟨fun y => absurd rfl y, fun _ => ⟨fun _ => ?_, fun y => absurd rfl y⟩⟩
    have E1 : EX [140, 141, 142, 143, 144, 145, 146] ((138, 0) :: (138, 2) :: (138, 18) :: (138, 19) :: NRp) h (ai_up (ai_up (ai_up h1 138 2 0) 138 18 0) 138 19 (-1)) := EX_upp (EX_upp (EX_upp (EX_tr (EX_le e0 (by decide) (by decide)) (EX_le e1.1 (by decide) (by decide))) (by decide)) (by decide)) (by decide)
    have d2 : NDr s (ai_up (ai_up (ai_up h1 138 2 0) 138 18 0) 138 19 (-1)) := ND_fr d1 (fun c a b => by funext j; rw [up_oth (by omega), up_oth (by omega), up_oth (by omega)]) (by rw [up_oth (by omega), up_oth (by omega), up_oth (by omega)])
    have k : (ai_up (ai_up (ai_up h1 138 2 0) 138 18 0) 138 19 (-1)) 138 2 = 0 ∧ (ai_up (ai_up (ai_up h1 138 2 0) 138 18 0) 138 19 (-1)) 138 18 = 0 ∧ (ai_up (ai_up (ai_up h1 138 2 0) 138 18 0) 138 19 (-1)) 138 19 = -1 := by
      simp (disch := omega) only [up_oth, up_same, and_self]
    generalize ai_up (ai_up (ai_up h1 138 2 0) 138 18 0) 138 19 (-1) = h2 at *
    refine sp_N_takeText W O d2 fun h3 e3 t3 => ⟨n0 W, N_laid W O t3 fun h4 e4 t4 l4 g4 => ?_⟩
    have c : ∀ j : Int, j ∉ [23, 29, 31, 61, 67, (69 : Int)] → h4 138 j = h2 138 j := fun j hj => by
      rw [e4 138 j (by decide) (by simp at hj ⊢; omega), e3 138 j (by decide) (by simp)]
    have l10 : h4 138 10 = (dL s : Int) := by rw [c 10 (by decide)]; exact d2.2.1.2.2
    rw [l10]
    refine ⟨n0 W, q_at rfl (hK ⟨q, q2⟩ s e O h4 ?_ t4 l4 (fun a ha => ?_) ?_ ?_ ?_)⟩
    · exact EX_tr (EX_le E1 (by decide) (by decide)) (EX_tr (EX_le e3 (by decide) (by decide)) (EX_le e4 (by decide) (by decide)))
    · rw [(g4 a ha).1, (g4 a ha).2, e3 147 a (by decide) (by simp), e3 148 a (by decide) (by simp), E1 147 a (by decide) (by simp), E1 148 a (by decide) (by simp)]
      exact ⟨rfl, rfl⟩
    · rw [c 2 (by decide)]; exact k.1
    · rw [c 18 (by decide)]; exact k.2.1
    · rw [c 19 (by decide)]; exact k.2.2
end
