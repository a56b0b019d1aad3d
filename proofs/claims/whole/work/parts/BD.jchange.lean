-- deps: 18 19 20 21 22 23 24 25 26 27 28 29 30 31 32 33 34 35 36 37 38 39 40 41 42 43 44 45 46 47 48 49 50 51 52 53 54 55 56 57 58 59 60 61 62 63 64 65 66 67 68 69 70 71 72 73 74 75 76 77 78 79 80 81 82 83 84 85 86 87 88 89 90 91 92 93 94 95 96 97 98 99 9A 9B 9C 9D 9E 9F 9G 9H 9I 9J 9K 9L 9M 9N 9O 9P 9Q 9R 9S 9T 9U 9V 9W 9X 9Y 9Z A0 A1 A2 A3 A4 A5 A6 A7 B0 B1 B2 B3 B4 B5 B6 B7 B8 B9 BA BB BC
/-! both sides: calls that change what is held -/
section
variable {n : Nat} {hr h h1 h2 : HP} {z z1 : ST} {d d1 : Int} {k k1 : Nat} {P : RP} {v : AV}
/-- the class holds the new, the reference too -/
theorem JP_n (w : CW n hr ∧ NW n hr) (x : (d = 3 ∨ d = 8) ∧ hr 0 12 = d ∧ hr 1 1 = 11 - d) (O : zOK z1) (C : CAL z1 d k1 h1) (hk : k1 ≤ k + 1) (e : ∀ c : Int, c < 138 → h2 c = h1 c) (N : NAL z1 h2) : JP v k n v n hr h2 :=
  ⟨rfl, rfl, z1, d, k1, hk, w, x, O, CAL_fr x.1 C fun c _ p => e c p, N⟩
theorem jo_ask {w : Int} (R : REL z d k n hr h) (hP : NXT P k n f_N_ask [(2, 138), (0, w)]) : f_B_ask [(2, 0), (0, w)] n hr h P := by
  obtain ⟨⟨V, W⟩, x, O, C, N⟩ := id R
  have T := TV_s O.2.1
  refine sp_B_ask V x.1 O C (fun q => hP _ _ _ ⟨V, W⟩ (sp_N_ask W T (NB_of R) O.2.2.1.1 N.2.2.2.1.1 N.2.2.2.2.1 O.2.2.2.1 (fun _ => JP_1 R) (fun y _ => absurd y q) (fun y _ => absurd y q))) (fun q q2 => hP _ _ _ ⟨V, W⟩ (sp_N_ask W T (NB_of R) O.2.2.1.1 N.2.2.2.1.1 N.2.2.2.2.1 O.2.2.2.1 (fun y => absurd q y) (fun _ _ => JP_1 R) (fun _ y => absurd y q2))) (fun q q2 h1 e1 C1 => ?_)
  have N1 : NAL z h1 := NAL_fr N fun c a _ => e1 c a
  obtain ⟨a1, a2, a3, a4, a5, a6, a7⟩ := N1
  refine hP _ _ _ ⟨V, W⟩ (sp_N_ask W T a2 O.2.2.1.1 a4.1 a5 O.2.2.2.1 (fun y => absurd q y) (fun _ y => absurd q2 y) (fun _ _ h2 e2 k2 g2 => ?_))
  have w1 := wq15 q.2
  refine JP_n (z1 := zsG z (zG z ++ [(w.toNat, aS (zt z) (zo z) 0 w.toNat)])) ⟨V, W⟩ x (zOK_G O (LGok_add O.2.2.2.1 q2 w1.2.1 (wlen_le.mpr w1.1))) C1 (by omega) (fun c hc => EX_fn e2 (by simp; omega) (by simp; omega)) ⟨N1_fr a1 (e2 _ _ (by decide) (by decide)) (e2 _ _ (by decide) (by decide)) (e2 _ _ (by decide) (by decide)) (fun c p q => EX_fn e2 (by simp; omega) (by simp; omega)), NB_fr a2 e2 (by decide), N3_e a3 e2 (by decide), N4_fr a4 (EX_fn e2 (by decide) (by decide)) (EX_fn e2 (by decide) (by decide)), g2, N6_fr a6 (e2 _ _ (by decide) (by decide)) (EX_fn e2 (by decide) (by decide)), ?_⟩
  refine ⟨by rw [e2 138 69 (by decide) (by decide)]; exact a7.1, fun y => ?_⟩
  obtain ⟨i1, i2, i3⟩ := a7.2 y
  refine ⟨KPd_fr i1 (EX_fn e2 (by decide) (by decide)), by rw [e2 138 68 (by decide) (by decide)]; exact i2, fun j u a hj => ?_⟩
  rw [(k2 (20 + (j : Int)) (by omega)).1, (k2 (20 + (j : Int)) (by omega)).2]
  exact i3 j u a hj
theorem jo_forget (R : REL z d k n hr h) (hP : NXT P k n f_N_forget [(2, 138)]) : f_B_forget [(2, 0)] n hr h P := by
  obtain ⟨⟨V, W⟩, x, O, C, N⟩ := id R
  refine sp_B_forget V x.1 O C (fun h1 e1 C1 => ?_)
  obtain ⟨a1, a2, a3, a4, a5, a6, a7⟩ : NAL z h1 := NAL_fr N fun c a _ => e1 c a
  refine hP _ _ _ ⟨V, W⟩ (sp_N_forget W a5 (fun h2 e2 g2 => ?_))
  have E : ∀ c : Int, c ≠ 138 → h2 c = h1 c := fun c hc => EX_fn e2 (by simp) (by simp; omega)
  exact JP_n (z1 := zsG z []) ⟨V, W⟩ x (zOK_G O ⟨Nat.zero_le _, fun p hp => by cases hp⟩) C1 (by omega) (fun c hc => E c (by omega)) ⟨N1_fr a1 (e2 _ _ (by decide) (by decide)) (e2 _ _ (by decide) (by decide)) (e2 _ _ (by decide) (by decide)) (fun c p q => E c (by omega)), NB_fr a2 e2 (by decide), N3_e a3 e2 (by decide), N4_fr a4 (E _ (by decide)) (E _ (by decide)), g2, N6_fr a6 (e2 _ _ (by decide) (by decide)) (E _ (by decide)), N7_fr a7 (e2 _ _ (by decide) (by decide)) (e2 _ _ (by decide) (by decide)) (E _ (by decide)) (E _ (by decide)) (E _ (by decide))⟩
/-- the machine that is built is another, or what can be undone is -/
theorem NAL_T {t o : Int → Int} {U : ML} (N : NAL z h) (f : fxTw h h1) (M : NM 24 t o h1) (G : NPs U h1) : NAL (zsM z t o U) h1 := by
  obtain ⟨a1, a2, a3, a4, a5, a6, a7⟩ := N
  have e := f.1
  refine ⟨N1_fr a1 (e _ _ (by decide) (by decide)) (e _ _ (by decide) (by decide)) (e _ _ (by decide) (by decide)) (fun c p q => EX_fn e (by simp; omega) (by simp; omega)), NB_T f a2, N3_e a3 e (by decide), ⟨M, ?_⟩, N5_fr a5 (e _ _ (by decide) (by decide)) (EX_fn e (by decide) (by decide)) (EX_fn e (by decide) (by decide)), G, ⟨by rw [e 138 69 (by decide) (by decide)]; exact a7.1, fun y => ?_⟩⟩
  · intro a a1' a2'
    have := a4.2 a a1' a2'
    dsimp only at this ⊢
    rw [(f.2.1 (48 + a) (by omega)).1, (f.2.1 (48 + a) (by omega)).2]
    exact this
  · obtain ⟨i1, i2, i3⟩ := a7.2 y
    refine ⟨fun a a1 a2 => ?_, by rw [e 138 68 (by decide) (by decide)]; exact i2, fun j u a hj => ?_⟩
    · rw [f.2.2 _ (by omega), f.2.2 _ (by omega)]; exact i1 a a1 a2
    · rw [EX_fn e (c := 176) (by decide) (by decide), EX_fn e (c := 177) (by decide) (by decide)]; exact i3 j u a hj
theorem fxTw_c (f : fxTw h h1) : ∀ c : Int, c < 138 → h1 c = h c := fun c hc => EX_fn f.1 (by simp; omega) (by simp; omega)
theorem jo_twist {p i v w : Int} (R : REL z d k n hr h) (hP : NXT P k n f_N_twist [(2, 138), (0, p), (0, i), (0, v), (0, w)]) : f_B_twist [(2, 0), (0, p), (0, i), (0, v), (0, w)] n hr h P := by
  obtain ⟨⟨V, W⟩, x, O, C, N⟩ := id R
  obtain ⟨o1, o2, o3, o4, o5⟩ := O.2.1.1
  have D := N.1.2.2.2.2.1
  refine sp_B_twist V x.1 O C (fun q => hP _ _ _ ⟨V, W⟩ (sp_N_twist W (I := ((dJ (zS z)).length)) (N := (dN (zS z)).length) o5 (by omega) D.2.2.1 D.2.1 N.2.2.2.1.1 N.2.2.2.2.2.1 (fun _ => JP_1 R) (fun y => absurd y q))) (fun q h1 e1 C1 => ?_)
  have N1 : NAL z h1 := NAL_fr N fun c a _ => e1 c a
  have D1 := N1.1.2.2.2.2.1
  refine hP _ _ _ ⟨V, W⟩ (sp_N_twist W (I := ((dJ (zS z)).length)) (N := (dN (zS z)).length) o5 (by omega) D1.2.2.1 D1.2.1 N1.2.2.2.1.1 N1.2.2.2.2.2.1 (fun y => absurd q y) (fun _ h2 f2 m2 p2 => JP_n ⟨V, W⟩ x (zOK_M O (bOK_up O.2.2.1 (by omega) (by omega) (by omega) (by omega) (by omega)) (pshL_ok O.2.2.2.2.1 O.2.2.1)) C1 (by omega) (fxTw_c f2) (NAL_T N1 f2 m2 p2)))
theorem jo_mend {p i : Int} (R : REL z d k n hr h) (hP : NXT P k n f_N_mend [(2, 138), (0, p), (0, i)]) : f_B_mend [(2, 0), (0, p), (0, i)] n hr h P := by
  obtain ⟨⟨V, W⟩, x, O, C, N⟩ := id R
  obtain ⟨o1, o2, o3, o4, o5⟩ := O.2.1.1
  have D := N.1.2.2.2.2.1
  refine sp_B_mend V x.1 O C (fun q => hP _ _ _ ⟨V, W⟩ (sp_N_mend W (I := ((dJ (zS z)).length)) (N := (dN (zS z)).length) o5 (by omega) N.2.1.1 D.2.1 N.2.2.2.1.1 N.2.2.2.2.2.1 (fun _ => JP_1 R) (fun y => absurd y q))) (fun q h1 e1 C1 => ?_)
  have N1 : NAL z h1 := NAL_fr N fun c a _ => e1 c a
  have D1 := N1.1.2.2.2.2.1
  obtain ⟨i, rfl⟩ := Int.eq_ofNat_of_zero_le q.2.2.1
  have cm := clo_M O.2.1 p i q.1 q.2.1 (by omega)
  have mm := (TV_s O.2.1).2.2.1 (3 * p + (i : Int)) (by omega) (by omega)
  refine hP _ _ _ ⟨V, W⟩ (sp_N_mend W (I := ((dJ (zS z)).length)) (N := (dN (zS z)).length) o5 (by omega) N1.2.1.1 D1.2.1 N1.2.2.2.1.1 N1.2.2.2.2.2.1 (fun y => absurd q y) (fun _ h2 f2 m2 p2 => JP_n ⟨V, W⟩ x (zOK_M O (bOK_up O.2.2.1 (by omega) (by omega) (by omega) cm (by omega)) (pshL_ok O.2.2.2.2.1 O.2.2.1)) C1 (by omega) (fxTw_c f2) (NAL_T N1 f2 m2 p2)))
theorem jo_undo (R : REL z d k n hr h) (hP : NXT P k n f_N_undo [(2, 138)]) : f_B_undo [(2, 0)] n hr h P := by
  obtain ⟨⟨V, W⟩, x, O, C, N⟩ := id R
  refine sp_B_undo V x.1 O C (fun q => hP _ _ _ ⟨V, W⟩ (sp_N_undo W N.2.2.2.2.2.1 (fun _ => JP_1 R) (fun L m y => by rw [q] at y; exact absurd y.symm (by simp)))) (fun L m q h1 e1 C1 => ?_)
  have N1 : NAL z h1 := NAL_fr N fun c a _ => e1 c a
  refine hP _ _ _ ⟨V, W⟩ (sp_N_undo W N1.2.2.2.2.2.1 (fun y => by rw [q] at y; exact absurd y (by simp)) (fun L2 m2 y h2 f2 g2 p2 => ?_))
  rw [q] at y
  obtain ⟨rfl, ym⟩ := List.append_inj' y rfl
  cases ym
  have u := O.2.2.2.2.1
  rw [q] at u
  have ul := u.1
  rw [List.length_append] at ul
  exact JP_n ⟨V, W⟩ x (zOK_M O (u.2 m (by simp)) ⟨by omega, fun a ha => u.2 a (by simp [ha])⟩) C1 (by omega) (fxTw_c f2) (NAL_T N1 f2 g2 p2)
end
