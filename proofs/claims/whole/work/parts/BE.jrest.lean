-- deps: 18 19 20 21 22 23 24 25 26 27 28 29 30 31 32 33 34 35 36 37 38 39 40 41 42 43 44 45 46 47 48 49 50 51 52 53 54 55 56 57 58 59 60 61 62 63 64 65 66 67 68 69 70 71 72 73 74 75 76 77 78 79 80 81 82 83 84 85 86 87 88 89 90 91 92 93 94 95 96 97 98 99 9A 9B 9C 9D 9E 9F 9G 9H 9I 9J 9K 9L 9M 9N 9O 9P 9Q 9R 9S 9T 9U 9V 9W 9X 9Y 9Z A0 A1 A2 A3 A4 A5 A6 A7 B0 B1 B2 B3 B4 B5 B6 B7 B8 B9 BA BB BC BD
/-! both sides: the other calls -/
/-- the tape is longer -/
def zsF (z : ST) (a b c d e : Int) : ST := (fdT (zT z) (zL z) (fdA a b c d e), zL z + 20, zF z, zP z, zS z, zt z, zo z, zG z, zU z, zI z, zit z, zio z, ziG z)
section
variable {n : Nat} {hr h h1 h2 : HP} {z z1 : ST} {d d1 : Int} {k k1 : Nat} {P : RP} {v : AV}
theorem jo_mutate {x : Int} (R : REL z d k n hr h) (hP : NXT P k n f_N_mutate [(2, 138), (0, x)]) : f_B_mutate [(2, 0), (0, x)] n hr h P := by
  obtain ⟨⟨V, W⟩, y, O, C, N⟩ := id R
  have T := TV_s O.2.1
  obtain ⟨hS, hI, hm, hc, hT⟩ := id T
  refine sp_B_mutate V y.1 O C (fun q => hP _ _ _ ⟨V, W⟩ (sp_N_mutate W T (NB_of R) N.2.2.2.1.1 N.2.2.2.2.2.1 (fun _ => JP_1 R) (fun y => absurd y q))) (fun q h1 e1 C1 => ?_)
  have N1 : NAL z h1 := NAL_fr N fun c a _ => e1 c a
  obtain ⟨j, rfl⟩ := Int.eq_ofNat_of_zero_le q.1
  have mb := mu_b hm hS hI hc (show j < UN (dM (zS z)) ((dJ (zS z)).length) (tM (zS z)) (oM (zS z)) by omega)
  have mk := mok_Mu hm hS hI hc (show j < UN (dM (zS z)) ((dJ (zS z)).length) (tM (zS z)) (oM (zS z)) by omega)
  have cl := clo_M O.2.1
  have b : bOK (zS z) (tMu (dM (zS z)) ((dJ (zS z)).length) (tM (zS z)) (oM (zS z)) j) (oMu (dM (zS z)) ((dJ (zS z)).length) (tM (zS z)) (oM (zS z)) j) := ⟨mk, fun p i p1 p2 i3 => by
    have := cl p i p1 p2 i3
    have o := O.2.1.1
    unfold tMu up1
    split
    · omega
    · exact this⟩
  exact hP _ _ _ ⟨V, W⟩ (sp_N_mutate W T N1.2.1 N1.2.2.2.1.1 N1.2.2.2.2.2.1 (fun y => absurd q y) (fun _ h2 f2 m2 p2 => JP_n ⟨V, W⟩ y (zOK_M O b (pshL_ok O.2.2.2.2.1 O.2.2.1)) C1 (by omega) (fxTw_c f2) (NAL_T N1 f2 m2 p2)))
theorem jo_keep (R : REL z d k n hr h) (hP : NXT P k n f_N_keep [(2, 138)]) : f_B_keep [(2, 0)] n hr h P := by
  obtain ⟨⟨V, W⟩, x, O, C, N⟩ := id R
  refine sp_B_keep V x.1 O C (fun h1 e1 C1 => ?_)
  obtain ⟨a1, a2, a3, a4, a5, a6, a7⟩ : NAL z h1 := NAL_fr N fun c a _ => e1 c a
  refine hP _ _ _ ⟨V, W⟩ (sp_N_keep W a4.1 a5 O.2.2.2.1.1 (fun h2 e2 j2 g2 i2 m2 => ?_))
  refine JP_n (z1 := zsK z) ⟨V, W⟩ x (zOK_K O) C1 (by omega) (fun c hc => EX_fn e2 (by simp; omega) (by simp; omega)) ⟨N1_fr a1 (e2 _ _ (by decide) (by decide)) (e2 _ _ (by decide) (by decide)) (e2 _ _ (by decide) (by decide)) (fun c p q => EX_fn e2 (by simp; omega) (by simp; omega)), NB_fr a2 e2 (by decide), N3_e a3 e2 (by decide), N4_fr a4 (EX_fn e2 (by decide) (by decide)) (EX_fn e2 (by decide) (by decide)), g2, ?_, ⟨i2, fun _ => m2⟩⟩
  refine ⟨by rw [e2 138 67 (by decide) (by decide)]; exact a6.1, a6.2.1, fun j p hj a a1 a2 => ?_⟩
  have jl : j < (zU z).length := (List.getElem?_eq_some_iff.mp hj).1
  have := a6.2.2 j p hj a a1 a2
  have l20 := a6.2.1
  rw [j2 _ (by omega), j2 _ (by omega)]
  exact this
theorem jo_back (R : REL z d k n hr h) (hP : NXT P k n f_N_back [(2, 138)]) : f_B_back [(2, 0)] n hr h P := by
  obtain ⟨⟨V, W⟩, x, O, C, N⟩ := id R
  have i1 := N.2.2.2.2.2.2.1
  refine sp_B_back V x.1 O C (fun q => hP _ _ _ ⟨V, W⟩ (sp_N_back W (LG := []) (t := zt z) (o := zo z) (Nat.zero_le _) (fun _ => JP_1 R) (fun y => absurd (show h 138 69 = 0 by rw [i1, q]; rfl) y))) (fun q h1 e1 C1 => ?_)
  obtain ⟨a1, a2, a3, a4, a5, a6, a7⟩ : NAL z h1 := NAL_fr N fun c a _ => e1 c a
  have y69 : h1 138 69 ≠ 0 := by rw [a7.1, q]; decide
  have ib := O.2.2.2.2.2
  have lg : (ziG z).length ≤ 20 := by
    rcases ib with y | y
    · omega
    · exact y.2.2.1
  refine hP _ _ _ ⟨V, W⟩ (sp_N_back W (LG := ziG z) (t := zit z) (o := zio z) lg (fun y => absurd y y69) (fun _ => ⟨a7.2 q, fun h2 e2 j2 m2 g2 u2 i2 => ?_⟩))
  refine JP_n (z1 := zsB z) ⟨V, W⟩ x (zOK_B O q) C1 (by omega) (fun c hc => EX_fn e2 (by simp; omega) (by simp; omega)) ⟨N1_fr a1 (e2 _ _ (by decide) (by decide)) (e2 _ _ (by decide) (by decide)) (e2 _ _ (by decide) (by decide)) (fun c p q => EX_fn e2 (by simp; omega) (by simp; omega)), ?_, N3_e a3 e2 (by decide), ⟨m2, ?_⟩, g2, ⟨u2, Nat.zero_le _, fun j p hj => (by cases hj)⟩, ⟨by rw [e2 138 69 (by decide) (by decide)]; exact a7.1, fun _ => i2⟩⟩
  · obtain ⟨b1, b2, b3, b4, b5, b6⟩ := a2
    refine ⟨⟨?_, ?_, fun a p q => ?_, fun a p q => ?_⟩, ?_, ?_, NWy_fr b4 (EX_fn e2 (by decide) (by decide)) (EX_fn e2 (by decide) (by decide)) (EX_fn e2 (by decide) (by decide)), ?_, ?_⟩
    · rw [EX_fn e2 (c := 140) (by decide) (by decide)]; exact b1.1
    · rw [EX_fn e2 (c := 140) (by decide) (by decide)]; exact b1.2.1
    · rw [(j2 a (by omega)).1]; exact b1.2.2.1 a p q
    · rw [(j2 a (by omega)).2]; exact b1.2.2.2 a p q
    · unfold NP; rw [EX_fn e2 (c := 149) (by decide) (by decide), EX_fn e2 (c := 153) (by decide) (by decide), EX_fn e2 (c := 154) (by decide) (by decide), e2 138 23 (by decide) (by decide), e2 138 29 (by decide) (by decide)]; exact b2
    · unfold NSg; rw [EX_fn e2 (c := 155) (by decide) (by decide), e2 138 31 (by decide) (by decide)]; exact b3
    · unfold NSu RW; rw [EX_fn e2 (c := 161) (by decide) (by decide), EX_fn e2 (c := 162) (by decide) (by decide)]; exact b5
    · unfold NEx; rw [EX_fn e2 (c := 140) (by decide) (by decide)]; exact b6
  · intro a p q
    have := a4.2 a p q
    dsimp only at this ⊢
    rw [(j2 (48 + a) (by omega)).1, (j2 (48 + a) (by omega)).2]
    exact this
theorem jo_feed {a b c e f : Int} (R : REL z d k n hr h) (hP : NXT P k n f_N_feed [(2, 138), (0, a), (0, b), (0, c), (0, e), (0, f)]) : f_B_feed [(2, 0), (0, a), (0, b), (0, c), (0, e), (0, f)] n hr h P := by
  obtain ⟨⟨V, W⟩, x, O, C, N⟩ := id R
  have hd := x.1
  refine sp_B_feed V C.1.1 C.1.2.1 O.1 (fun q => hP _ _ _ ⟨V, W⟩ (sp_N_feed W N.1.1 N.1.2.1 O.1 (fun _ => JP_1 R) (fun y => by omega))) (fun q h1 e1 t1 l1 => ?_)
  have E1 : ∀ c : Int, c ≠ 1 → c ≠ 2 → h1 c = h c := fun c p q => EX_fn e1 (by simp [q]) (by simp [p])
  have C1 : CAL (zsF z a b c e f) d k h1 := by
    obtain ⟨a1, a2, a3, a4, a5, a6, a7, a8, a9, a10⟩ := C
    refine ⟨⟨t1, l1, by rw [e1 1 3 (by decide) (by decide)]; exact a1.2.2.1, by rw [e1 1 4 (by decide) (by decide)]; exact a1.2.2.2.1, DFT_fr a1.2.2.2.2 (E1 _ (by omega) (by omega)) (E1 _ (by omega) (by omega)) (E1 _ (by omega) (by omega)) (E1 _ (by omega) (by omega)) (E1 _ (by omega) (by omega))⟩, C2_fr a2 (fun c p q => EX_fn (e1) (by simp <;> omega) (by simp <;> omega)), C3_fr a3 (fun c p q => EX_fn (e1) (by simp <;> omega) (by simp <;> omega)), C4_fr a4 (EX_fn (e1) (by decide) (by decide)) (EX_fn (e1) (by decide) (by decide)) (EX_fn (e1) (by decide) (by decide)) (EX_fn (e1) (by decide) (by decide)) (EX_fn (e1) (by decide) (by decide)) (EX_fn (e1) (by decide) (by decide)), C5_fr a5 ((e1) _ _ (by decide) (by decide)) (fun c p q => EX_fn (e1) (by simp <;> omega) (by simp <;> omega)), C6_fr a6 (fun c p q => EX_fn (e1) (by simp <;> omega) (by simp <;> omega)), C7_fr a7 (fun c p q => EX_fn (e1) (by simp <;> omega) (by simp <;> omega)), C8_fr a8 (EX_fn (e1) (by decide) (by decide)) (EX_fn (e1) (by decide) (by decide)) (EX_fn (e1) (by decide) (by decide)), C9_fr a9 ((e1) _ _ (by decide) (by decide)) ((e1) _ _ (by decide) (by decide)) (EX_fn (e1) (by decide) (by decide)), C10_fr a10 ((e1) _ _ (by decide) (by decide)) (fun c p q => EX_fn (e1) (by simp <;> omega) (by simp <;> omega))⟩
  obtain ⟨a1, a2, a3, a4, a5, a6, a7⟩ : NAL z h1 := NAL_fr N fun c a _ => E1 c (by omega) (by omega)
  refine hP _ _ _ ⟨V, W⟩ (sp_N_feed W a1.1 a1.2.1 O.1 (fun y => by omega) (fun _ h2 e2 t2 l2 => ?_))
  have zl := O.1
  exact JP_n (z1 := zsF z a b c e f) ⟨V, W⟩ x ⟨by show zL z + 20 ≤ 700; omega, O.2⟩ C1 (by omega) (fun c hc => EX_fn e2 (by simp; omega) (by simp; omega)) ⟨⟨t2, l2, by rw [e2 138 18 (by decide) (by decide)]; exact a1.2.2.1, by rw [e2 138 19 (by decide) (by decide)]; exact a1.2.2.2.1, NTd_fr a1.2.2.2.2 fun c p q => EX_fn e2 (by simp; omega) (by simp; omega)⟩, NB_fr a2 e2 (by decide), N3_e a3 e2 (by decide), N4_fr a4 (EX_fn e2 (by decide) (by decide)) (EX_fn e2 (by decide) (by decide)), N5_fr a5 (e2 _ _ (by decide) (by decide)) (EX_fn e2 (by decide) (by decide)) (EX_fn e2 (by decide) (by decide)), N6_fr a6 (e2 _ _ (by decide) (by decide)) (EX_fn e2 (by decide) (by decide)), N7_fr a7 (e2 _ _ (by decide) (by decide)) (e2 _ _ (by decide) (by decide)) (EX_fn e2 (by decide) (by decide)) (EX_fn e2 (by decide) (by decide)) (EX_fn e2 (by decide) (by decide))⟩
theorem sp_N_count {w : Int} {Q : RP} (W : NW n hr) (O : zOK z) (N : NAL z h) (hQ : Q (0, vCo z w) n hr (ai_up h 138 0 0)) : f_N_count [(2, 138), (0, w)] n hr h Q := by
  have T := TV_s O.2.1
  obtain ⟨hS, hI, hm, hc, hT⟩ := id T
  obtain ⟨o1, o2, o3, o4, o5⟩ := O.2.1.1
  have N1 : NAL z (ai_up h 138 0 0) := NAL_G N gNx_1 (NB_1 N.2.1) (N3_e (cs := []) (ps := [(138, 0)]) N.2.2.1 (EX_upp EX_rf (by decide)) (by decide))
  obtain ⟨a1, a2, a3, a4, a5, a6, a7⟩ := N1
  obtain ⟨b1, b2, b3, b4, b5, b6⟩ := a2
  have D := a1.2.2.2.2.1
  unfold vCo at hQ
  apply e_N_count
  generalize ai_up h 138 0 0 = h1 at *
  simp only [n0 W, b2.2.1, b2.2.2.2.1, a5.1, a6.1, true_and]
  refine ⟨fun y => ?_, fun y => ?_⟩
  · rw [if_pos y] at hQ
    refine sp_N_states W ?_
    rw [b1.1]; exact (by first | exact q_at rfl (hQ) | exact (hQ))
  rw [if_neg y] at hQ
  refine ⟨fun y => ?_, fun y => ?_⟩
  · rw [if_pos y] at hQ
    refine sp_N_inputs W ?_
    rw [b1.2.1]; exact (by first | exact q_at rfl (hQ) | exact (hQ))
  rw [if_neg y] at hQ
  refine ⟨fun y => ?_, fun y => ?_⟩
  · rw [if_pos y] at hQ
    refine sp_N_places W ?_
    rw [D.2.1, w32_id (by omega) (by omega)]; exact (by first | exact q_at rfl (hQ) | exact (hQ))
  rw [if_neg y] at hQ
  refine ⟨fun y => ?_, fun y => ?_⟩
  · rw [if_pos y] at hQ
    refine sp_N_extra W ?_
    unfold NEx at b6
    rw [b6]; exact (by first | exact q_at rfl (hQ) | exact (hQ))
  rw [if_neg y] at hQ
  refine ⟨fun y => ?_, fun y => ?_⟩
  · rw [if_pos y] at hQ; exact (by first | exact q_at rfl (hQ) | exact (hQ))
  rw [if_neg y] at hQ
  refine ⟨fun y => ?_, fun y => ?_⟩
  · rw [if_pos y] at hQ
    exact sp_N_kinds W T b1 b2 (by first | exact q_at rfl (hQ) | exact (hQ))
  rw [if_neg y] at hQ
  refine ⟨fun y => ?_, fun y => ?_⟩
  · rw [if_pos y] at hQ
    exact sp_N_top W T b1 (by first | exact q_at rfl (hQ) | exact (hQ))
  rw [if_neg y] at hQ
  refine ⟨fun y => ?_, fun y => ?_⟩
  · rw [if_pos y] at hQ; exact (by first | exact q_at rfl (hQ) | exact (hQ))
  rw [if_neg y] at hQ
  refine ⟨fun y => ?_, fun y => ?_⟩
  · rw [if_pos y] at hQ
    exact sp_N_mutantMany W T b1 b2 (by first | exact q_at rfl (hQ) | exact (hQ))
  rw [if_neg y] at hQ
  refine ⟨fun y => ?_, fun y => ?_⟩
  · rw [if_pos y] at hQ; exact (by first | exact q_at rfl (hQ) | exact (hQ))
  rw [if_neg y] at hQ
  refine ⟨fun y => ?_, fun y => ?_⟩
  · rw [if_pos y] at hQ; exact (by first | exact q_at rfl (hQ) | exact (hQ))
  rw [if_neg y] at hQ
  refine ⟨fun y => ?_, fun y => ?_⟩
  · rw [if_pos y] at hQ
    exact sp_N_twisted (N := (dN (zS z)).length) W hS hI (by omega) b1 D.2.1 a4.1 (by first | exact q_at rfl (hQ) | exact (hQ))
  rw [if_neg y] at hQ
  refine ⟨fun y => ?_, fun y => ?_⟩
  · rw [if_pos y] at hQ
    exact sp_N_builtReached (N := (dN (zS z)).length) W hS hI (by omega) O.2.2.1.2 b1 D.2.1 (by omega) (by omega) a4.1 (by first | exact q_at rfl (hQ) | exact (hQ))
  rw [if_neg y] at hQ
  exact (by first | exact q_at rfl (hQ) | exact (hQ))
theorem jo_count {w : Int} (R : REL z d k n hr h) (hP : NXT P k n f_N_count [(2, 138), (0, w)]) : f_B_count [(2, 0), (0, w)] n hr h P := by
  obtain ⟨⟨V, W⟩, ⟨hd, rt, rd⟩, O, C, N⟩ := id R
  exact sp_B_count V hd rt O C (hP _ _ _ ⟨V, W⟩ (sp_N_count W O N (JP_1 R)))
theorem NEx_of {s : DS} (D : NTd s h) (O : dOK s) : NEx h (sE s) := by
  have oX := O.2.2.2.1
  unfold NEx sE
  rw [D.1.2.2.2.1]
  split
  · omega
  · rw [w32_id (by omega) (by omega)]; omega
theorem NAL_laid {s : DS} (O : dOK s) (T : TPn (zT z) h) (D : NTd s h) (l : NLaid s h) (g : NO h) (a : h 138 2 = 0) (b : h 138 18 = 0) (c : h 138 19 = -1) : NAL (zsT z s) h := by
  obtain ⟨l1, l2, l3, ⟨f1, f2, f3, f4, f5⟩, l5, l6, l7⟩ := l
  exact ⟨⟨T, a, b, c, D⟩, ⟨l1, l2, Or.inl f1, fun wh hw => Or.inl (f2 wh hw).1, fun su e hs he => Or.inl (by rw [f3 (2 * e + su) (by omega)]; decide), NEx_of D O⟩, ⟨fun w hw => Or.inl (f5 w hw), fun su hs => Or.inl (f4 su hs).1, fun k su hk hs => Or.inl (by
      have := (f4 (2 * (k - 1) + su) (by omega)).2
      rw [show 2 * ((k : Int) - 1) + (su : Int) = ((2 * (k - 1) + su : Nat) : Int) by omega]
      exact this), fun su hs => Or.inl (by rw [(f2 su hs).2.2]; decide)⟩, ⟨l3, g⟩, ⟨l5, fun j w a hj => by cases hj⟩, ⟨l6, Nat.zero_le _, fun j p hj => by cases hj⟩, ⟨l7, fun q => absurd (show (0 : Nat) = 1 from q) (by decide)⟩⟩
theorem jo_text {x : Int} (R : REL z d k n hr h) (hP : NXT P k n f_N_text [(2, 138), (0, x)]) : f_B_text [(2, 0), (0, x)] n hr h P := by
  obtain ⟨⟨V, W⟩, ⟨hd, rt, rd⟩, O, C, N⟩ := id R
  refine sp_B_text V hd rt rd O C (fun q => hP _ _ _ ⟨V, W⟩ (sp_N_text W O.2.1 N.1.2.2.2.2 N.1.1 N.1.2.1 O.1 (fun _ => JP_1 R) (fun y => absurd y q) (fun y => absurd y q))) (fun q f p ep h1 e1 C1 => ?_) (fun q s ep o h1 e1 C1 => ?_)
  · obtain ⟨a1, a2, a3, a4, a5, a6, a7⟩ : NAL z h1 := NAL_fr N fun c a _ => e1 c a
    refine hP _ _ _ ⟨V, W⟩ (sp_N_text W O.2.1 a1.2.2.2.2 a1.1 a1.2.1 O.1 (fun y => absurd q y) (fun _ f2 p2 ep2 h2 e2 t2 x2 x3 x4 => ?_) (fun _ s ep2 => by rw [ep] at ep2; cases ep2))
    rw [ep] at ep2
    cases ep2
    refine JP_n (z1 := zsE z f p) ⟨V, W⟩ ⟨hd, rt, rd⟩ (zOK_E O) C1 (by omega) (fun c hc => EX_fn e2 (by simp; omega) (by simp; omega)) ⟨⟨TPn_fr a1.1 (EX_fn e2 (by decide) (by decide)), x2, x3, x4, t2⟩, ?_, N3_e a3 e2 (by decide), N4_fr a4 (EX_fn e2 (by decide) (by decide)) (EX_fn e2 (by decide) (by decide)), N5_fr a5 (e2 _ _ (by decide) (by decide)) (EX_fn e2 (by decide) (by decide)) (EX_fn e2 (by decide) (by decide)), N6_fr a6 (e2 _ _ (by decide) (by decide)) (EX_fn e2 (by decide) (by decide)), N7_fr a7 (e2 _ _ (by decide) (by decide)) (e2 _ _ (by decide) (by decide)) (EX_fn e2 (by decide) (by decide)) (EX_fn e2 (by decide) (by decide)) (EX_fn e2 (by decide) (by decide))⟩
    obtain ⟨b1, b2, b3, b4, b5, b6⟩ := a2
    refine ⟨⟨t2.1.1, t2.1.2.2.1, ?_, ?_⟩, ?_, ?_, NWy_fr b4 (EX_fn e2 (by decide) (by decide)) (EX_fn e2 (by decide) (by decide)) (EX_fn e2 (by decide) (by decide)), ?_, NEx_of t2 O.2.1⟩
    · rw [EX_fn e2 (c := 147) (by decide) (by decide)]; exact b1.2.2.1
    · rw [EX_fn e2 (c := 148) (by decide) (by decide)]; exact b1.2.2.2
    · unfold NP; rw [EX_fn e2 (c := 149) (by decide) (by decide), EX_fn e2 (c := 153) (by decide) (by decide), EX_fn e2 (c := 154) (by decide) (by decide), e2 138 23 (by decide) (by decide), e2 138 29 (by decide) (by decide)]; exact b2
    · unfold NSg; rw [EX_fn e2 (c := 155) (by decide) (by decide), e2 138 31 (by decide) (by decide)]; exact b3
    · unfold NSu RW; rw [EX_fn e2 (c := 161) (by decide) (by decide), EX_fn e2 (c := 162) (by decide) (by decide)]; exact b5
  · obtain ⟨a1, a2, a3, a4, a5, a6, a7⟩ : NAL z h1 := NAL_fr N fun c a _ => e1 c a
    refine hP _ _ _ ⟨CW_sw V, NW_sw W⟩ (sp_N_text (NW_sw W) O.2.1 a1.2.2.2.2 a1.1 a1.2.1 O.1 (fun y => absurd q y) (fun _ f2 p2 ep2 => by rw [ep] at ep2; cases ep2) (fun _ s2 ep2 o2 h2 e2 t2 l2 g2 x2 x3 x4 => ?_))
    rw [ep] at ep2
    cases ep2
    have g : NO h2 := by
      intro a p q
      have := a4.2 a p q
      dsimp only at this ⊢
      rw [(g2 (48 + a) (by omega)).1, (g2 (48 + a) (by omega)).2]
      exact this
    exact JP_n (z1 := zsT z s) (d := 11 - d) ⟨CW_sw V, NW_sw W⟩ ⟨by omega, by unfold hrS; rw [up_oth (by omega), up_same], by unfold hrS; rw [up_same]; omega⟩ (zOK_T o) C1 (by omega) (fun c hc => EX_fn e2 (by simp; omega) (by simp; omega)) (NAL_laid o (TPn_fr a1.1 (EX_fn e2 (by decide) (by decide))) t2 l2 g x2 x3 x4)
end
