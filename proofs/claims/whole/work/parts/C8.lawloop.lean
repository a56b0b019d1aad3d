-- deps: 01 02 02 03 04 05 06 07 08 09 10 11 12 13 14 15 16 17 17 17 17 17 17 17 17 17 18 18 18 18 18 19 20 21 22 23 24 25 26 27 28 29 30 31 32 33 34 35 36 37 38 39 40 41 42 43 44 45 46 47 48 49 50 51 52 53 54 55 56 57 58 59 60 61 62 63 64 65 66 67 68 69 70 71 72 73 74 75 76 77 78 79 80 81 82 83 84 85 86 87 88 89 90 91 92 93 94 95 96 97 98 99 9A 9B 9C 9D 9E 9F 9G 9H 9I 9J 9K 9L 9M 9N 9O 9P 9Q 9R 9S 9T 9U 9V 9W 9X 9Y 9Z A0 A1 A2 A3 A4 A5 A6 A7 B0 B1 B2 B3 B4 B5 B6 B7 B8 B9 BA BB BC BD BE C0 C1 C2 C3 C4 C5 C6 C7
/-! the law's loop over the script -/
abbrev lawL0 : List (Option AV) := [some (4, 0), none, none, none, none, none, none]
theorem cw_138 : ∀ q ∈ cw_tbl, q.1 < 138 := by decide +kernel
theorem nw_181 : ∀ q ∈ nw_tbl, q.1 < 181 := by decide +kernel
theorem REL_up {z : ST} {d : Int} {k n : Nat} {hr h h1 : HP} (R : REL z d k n hr h) (e : ∀ c : Int, c ≤ 180 → h1 c = h c) : REL z d k n hr h1 := ⟨R.1, R.2.1, R.2.2.1, CAL_fr R.2.1.1 R.2.2.2.1 (fun c _ p => e c (by omega)), NAL_fr R.2.2.2.2 fun c _ q => e c q⟩
theorem REL_138 {z : ST} {d v : Int} {k n : Nat} {hr h : HP} (R : REL z d k n hr h) : REL z d k n hr (ai_up h 138 0 v) := ⟨R.1, R.2.1, R.2.2.1, CAL_fr R.2.1.1 R.2.2.2.1 (fun c _ p => gNx_1.1 c (by omega)), NAL_G R.2.2.2.2 gNx_1 (NB_1 R.2.2.2.2.2.1) (N3_e (cs := []) (ps := [(138, 0)]) R.2.2.2.2.2.2.1 (EX_upp EX_rf (by decide)) (by decide))⟩
set_option maxRecDepth 100000 in
theorem law_start {Kw : KP} {Q : RP} {X : XE} (hK : ∀ hr h, REL z0 8 0 182 hr h → Kw 23 (lawL 0) [] 182 hr h) : ai_run o_Q_law 182 X k_Q_law cut_Q_law Q Kw 120 0 lawL0 [] 0 rN zN := by
  have H : 0 < 182 ∧ ai_k ((0 : Nat) : Int) = 11 ∧ ai_ok (0 + 1) ((0 : Nat) : Int) 11 ∧ ((0 + 1 : Nat) : Int) + 137 ≤ ((182 : Nat) : Int) ∧ f_B_init [(2, ((0 : Nat) : Int))] (0 + 1) (ai_cl rN ((0 : Nat) : Int) (-1)) (ai_cl zN ((0 : Nat) : Int) 0) fun r1 n1 hr1 h1 => n1 < 182 ∧ ai_k ((n1 : Nat) : Int) = 12 ∧ ai_ok (n1 + 1) ((n1 : Nat) : Int) 12 ∧ ((n1 + 1 : Nat) : Int) + 42 ≤ ((182 : Nat) : Int) ∧ f_N_init [(2, ((n1 : Nat) : Int))] (n1 + 1) (ai_cl hr1 ((n1 : Nat) : Int) (-1)) (ai_cl h1 ((n1 : Nat) : Int) 0) fun r2 n2 hr2 h2 => n2 < 182 ∧ ai_k ((n2 : Nat) : Int) = 51 ∧ ai_l ((n2 : Nat) : Int) = 1 ∧ Kw 23 [some (4, 0), some (2, ((0 : Nat) : Int)), some (2, ((n1 : Nat) : Int)), some (2, ((n2 : Nat) : Int)), some (0, 0), none, none] [] (n2 + 1) (ai_cl hr2 ((n2 : Nat) : Int) (-1)) (ai_cl h2 ((n2 : Nat) : Int) 0) := by
    refine ⟨by decide, by decide +kernel, ⟨by decide, by decide, by decide +kernel⟩, by decide, ?_⟩
    rw [rN_z, zN_z]
    refine sp_B_init0 fun hr1 h1 V e12 e11 c1 c2 C => ?_
    refine ⟨by decide, by decide +kernel, ⟨by decide, by decide, by decide +kernel⟩, by decide, ?_⟩
    rw [c1 _ (by decide), c2 _ (by decide)]
    refine sp_N_init0 c1 c2 fun hr2 h2 w W y N => ?_
    refine ⟨by decide, by decide +kernel, by decide +kernel, hK _ _ ?_⟩
    have w1 : ∀ (c j : Int), c < 138 → ai_cl hr2 181 (-1) c j = hr1 c j := fun c j q => (cl_oth (by omega)).trans (congrFun (w c q) j)
    refine ⟨⟨⟨by decide, fun q hq => (w1 _ _ (cw_138 q hq)).trans (V.2 q hq)⟩, ⟨by decide, fun q hq => (cl_oth (by have := nw_181 q hq; show q.1 ≠ 181; omega)).trans (W.2 q hq)⟩⟩, ⟨Or.inr rfl, (w1 0 12 (by decide)).trans e12, (w1 1 1 (by decide)).trans e11⟩, zOK_0, ?_, ?_⟩
    · exact CAL_fr (Or.inr rfl) C fun c _ b => funext fun j => (cl_oth (by show c ≠ 181; omega)).trans (congrFun (y c b) j)
    · exact NAL_fr N fun c _ b => funext fun j => cl_oth (by show c ≠ 181; omega)
  exact H
abbrev lawPcs : List Nat := [224, 297, 322, 347, 372, 452, 501, 539, 576, 602, 627, 652, 689, 714, 751, 776, 813, 850, 887, 924, 937, 950, 975, 1012, 1049, 1086, 1135, 1172, 1197, 1222, 1248, 1261, 1286, 1311, 1324, 1361, 1422, 1459, 1484, 1497, 1510, 1523, 1548]
set_option maxRecDepth 100000 in
theorem law_head {Kw : KP} {Q : RP} {xl : Int} {xf : Int → Int} {i : Int} {hr h : HP} (hi : 0 ≤ i) (h0 : 0 ≤ xl) (hx : xl ≤ 3072) (hq : Q (0, 1) 182 hr h) (hk : i + 6 ≤ xl → ∀ c ∈ lawPcs, Kw c (lawL i) [] 182 hr h) : ai_run o_Q_law 182 (some (xl, xf)) k_Q_law cut_Q_law Q Kw 120 23 (lawL i) [] 182 hr h := by
  have H : ((w32 (xl - 6)) < i → ((1 : Int) = 0 ∨ (1 : Int) = 1) ∧ Q (0, 1) 182 hr h) ∧ (i ≤ (w32 (xl - 6)) → 0 ≤ i ∧ i < xl ∧ ((i_and (xf i) 63) = 0 → Kw 224 [some (4, 0), some (2, 0), some (2, 138), some (2, 181), some (0, i), none, none] [] 182 hr h) ∧ ((i_and (xf i) 63) ≠ 0 → ((i_and (xf i) 63) = 1 → Kw 297 [some (4, 0), some (2, 0), some (2, 138), some (2, 181), some (0, i), none, none] [] 182 hr h) ∧ ((i_and (xf i) 63) ≠ 1 → ((i_and (xf i) 63) = 2 → Kw 322 [some (4, 0), some (2, 0), some (2, 138), some (2, 181), some (0, i), none, none] [] 182 hr h) ∧ ((i_and (xf i) 63) ≠ 2 → ((i_and (xf i) 63) = 3 → Kw 347 [some (4, 0), some (2, 0), some (2, 138), some (2, 181), some (0, i), none, none] [] 182 hr h) ∧ ((i_and (xf i) 63) ≠ 3 → ((i_and (xf i) 63) = 4 → Kw 372 [some (4, 0), some (2, 0), some (2, 138), some (2, 181), some (0, i), none, none] [] 182 hr h) ∧ ((i_and (xf i) 63) ≠ 4 → ((i_and (xf i) 63) = 5 → Kw 452 [some (4, 0), some (2, 0), some (2, 138), some (2, 181), some (0, i), none, none] [] 182 hr h) ∧ ((i_and (xf i) 63) ≠ 5 → ((i_and (xf i) 63) = 6 → Kw 501 [some (4, 0), some (2, 0), some (2, 138), some (2, 181), some (0, i), none, none] [] 182 hr h) ∧ ((i_and (xf i) 63) ≠ 6 → ((i_and (xf i) 63) = 7 → Kw 539 [some (4, 0), some (2, 0), some (2, 138), some (2, 181), some (0, i), none, none] [] 182 hr h) ∧ ((i_and (xf i) 63) ≠ 7 → ((i_and (xf i) 63) = 8 → Kw 576 [some (4, 0), some (2, 0), some (2, 138), some (2, 181), some (0, i), none, none] [] 182 hr h) ∧ ((i_and (xf i) 63) ≠ 8 → ((i_and (xf i) 63) = 9 → Kw 602 [some (4, 0), some (2, 0), some (2, 138), some (2, 181), some (0, i), none, none] [] 182 hr h) ∧ ((i_and (xf i) 63) ≠ 9 → ((i_and (xf i) 63) = 10 → Kw 627 [some (4, 0), some (2, 0), some (2, 138), some (2, 181), some (0, i), none, none] [] 182 hr h) ∧ ((i_and (xf i) 63) ≠ 10 → ((i_and (xf i) 63) = 11 → Kw 652 [some (4, 0), some (2, 0), some (2, 138), some (2, 181), some (0, i), none, none] [] 182 hr h) ∧ ((i_and (xf i) 63) ≠ 11 → ((i_and (xf i) 63) = 12 → Kw 689 [some (4, 0), some (2, 0), some (2, 138), some (2, 181), some (0, i), none, none] [] 182 hr h) ∧ ((i_and (xf i) 63) ≠ 12 → ((i_and (xf i) 63) = 13 → Kw 714 [some (4, 0), some (2, 0), some (2, 138), some (2, 181), some (0, i), none, none] [] 182 hr h) ∧ ((i_and (xf i) 63) ≠ 13 → ((i_and (xf i) 63) = 14 → Kw 751 [some (4, 0), some (2, 0), some (2, 138), some (2, 181), some (0, i), none, none] [] 182 hr h) ∧ ((i_and (xf i) 63) ≠ 14 → ((i_and (xf i) 63) = 15 → Kw 776 [some (4, 0), some (2, 0), some (2, 138), some (2, 181), some (0, i), none, none] [] 182 hr h) ∧ ((i_and (xf i) 63) ≠ 15 → ((i_and (xf i) 63) = 16 → Kw 813 [some (4, 0), some (2, 0), some (2, 138), some (2, 181), some (0, i), none, none] [] 182 hr h) ∧ ((i_and (xf i) 63) ≠ 16 → ((i_and (xf i) 63) = 17 → Kw 850 [some (4, 0), some (2, 0), some (2, 138), some (2, 181), some (0, i), none, none] [] 182 hr h) ∧ ((i_and (xf i) 63) ≠ 17 → ((i_and (xf i) 63) = 18 → Kw 887 [some (4, 0), some (2, 0), some (2, 138), some (2, 181), some (0, i), none, none] [] 182 hr h) ∧ ((i_and (xf i) 63) ≠ 18 → ((i_and (xf i) 63) = 19 → Kw 924 [some (4, 0), some (2, 0), some (2, 138), some (2, 181), some (0, i), none, none] [] 182 hr h) ∧ ((i_and (xf i) 63) ≠ 19 → ((i_and (xf i) 63) = 20 → Kw 937 [some (4, 0), some (2, 0), some (2, 138), some (2, 181), some (0, i), none, none] [] 182 hr h) ∧ ((i_and (xf i) 63) ≠ 20 → ((i_and (xf i) 63) = 21 → Kw 950 [some (4, 0), some (2, 0), some (2, 138), some (2, 181), some (0, i), none, none] [] 182 hr h) ∧ ((i_and (xf i) 63) ≠ 21 → ((i_and (xf i) 63) = 22 → Kw 975 [some (4, 0), some (2, 0), some (2, 138), some (2, 181), some (0, i), none, none] [] 182 hr h) ∧ ((i_and (xf i) 63) ≠ 22 → ((i_and (xf i) 63) = 23 → Kw 1012 [some (4, 0), some (2, 0), some (2, 138), some (2, 181), some (0, i), none, none] [] 182 hr h) ∧ ((i_and (xf i) 63) ≠ 23 → ((i_and (xf i) 63) = 24 → Kw 1049 [some (4, 0), some (2, 0), some (2, 138), some (2, 181), some (0, i), none, none] [] 182 hr h) ∧ ((i_and (xf i) 63) ≠ 24 → ((i_and (xf i) 63) = 25 → Kw 1086 [some (4, 0), some (2, 0), some (2, 138), some (2, 181), some (0, i), none, none] [] 182 hr h) ∧ ((i_and (xf i) 63) ≠ 25 → ((i_and (xf i) 63) = 26 → Kw 1135 [some (4, 0), some (2, 0), some (2, 138), some (2, 181), some (0, i), none, none] [] 182 hr h) ∧ ((i_and (xf i) 63) ≠ 26 → ((i_and (xf i) 63) = 27 → Kw 1172 [some (4, 0), some (2, 0), some (2, 138), some (2, 181), some (0, i), none, none] [] 182 hr h) ∧ ((i_and (xf i) 63) ≠ 27 → ((i_and (xf i) 63) = 28 → Kw 1197 [some (4, 0), some (2, 0), some (2, 138), some (2, 181), some (0, i), none, none] [] 182 hr h) ∧ ((i_and (xf i) 63) ≠ 28 → ((i_and (xf i) 63) = 29 → Kw 1222 [some (4, 0), some (2, 0), some (2, 138), some (2, 181), some (0, i), none, none] [] 182 hr h) ∧ ((i_and (xf i) 63) ≠ 29 → ((i_and (xf i) 63) = 30 → Kw 1248 [some (4, 0), some (2, 0), some (2, 138), some (2, 181), some (0, i), none, none] [] 182 hr h) ∧ ((i_and (xf i) 63) ≠ 30 → ((i_and (xf i) 63) = 31 → Kw 1261 [some (4, 0), some (2, 0), some (2, 138), some (2, 181), some (0, i), none, none] [] 182 hr h) ∧ ((i_and (xf i) 63) ≠ 31 → ((i_and (xf i) 63) = 32 → Kw 1286 [some (4, 0), some (2, 0), some (2, 138), some (2, 181), some (0, i), none, none] [] 182 hr h) ∧ ((i_and (xf i) 63) ≠ 32 → ((i_and (xf i) 63) = 33 → Kw 1311 [some (4, 0), some (2, 0), some (2, 138), some (2, 181), some (0, i), none, none] [] 182 hr h) ∧ ((i_and (xf i) 63) ≠ 33 → ((i_and (xf i) 63) = 34 → Kw 1324 [some (4, 0), some (2, 0), some (2, 138), some (2, 181), some (0, i), none, none] [] 182 hr h) ∧ ((i_and (xf i) 63) ≠ 34 → ((i_and (xf i) 63) = 35 → Kw 1361 [some (4, 0), some (2, 0), some (2, 138), some (2, 181), some (0, i), none, none] [] 182 hr h) ∧ ((i_and (xf i) 63) ≠ 35 → ((i_and (xf i) 63) = 36 → Kw 1422 [some (4, 0), some (2, 0), some (2, 138), some (2, 181), some (0, i), none, none] [] 182 hr h) ∧ ((i_and (xf i) 63) ≠ 36 → ((i_and (xf i) 63) = 37 → Kw 1459 [some (4, 0), some (2, 0), some (2, 138), some (2, 181), some (0, i), none, none] [] 182 hr h) ∧ ((i_and (xf i) 63) ≠ 37 → ((i_and (xf i) 63) = 38 → Kw 1484 [some (4, 0), some (2, 0), some (2, 138), some (2, 181), some (0, i), none, none] [] 182 hr h) ∧ ((i_and (xf i) 63) ≠ 38 → ((i_and (xf i) 63) = 39 → Kw 1497 [some (4, 0), some (2, 0), some (2, 138), some (2, 181), some (0, i), none, none] [] 182 hr h) ∧ ((i_and (xf i) 63) ≠ 39 → ((i_and (xf i) 63) = 40 → Kw 1510 [some (4, 0), some (2, 0), some (2, 138), some (2, 181), some (0, i), none, none] [] 182 hr h) ∧ ((i_and (xf i) 63) ≠ 40 → ((i_and (xf i) 63) = 41 → Kw 1523 [some (4, 0), some (2, 0), some (2, 138), some (2, 181), some (0, i), none, none] [] 182 hr h) ∧ ((i_and (xf i) 63) ≠ 41 → Kw 1548 [some (4, 0), some (2, 0), some (2, 138), some (2, 181), some (0, i), none, none] [] 182 hr h))))))))))))))))))))))))))))))))))))))))))) := by
    have e : w32 (xl - 6) = xl - 6 := w32_id (by omega) (by omega)
    rw [e]
    refine ⟨fun q => ⟨Or.inr rfl, hq⟩, fun q => ⟨hi, by omega, ?_⟩⟩
    have K := hk (by omega)
    exact ⟨fun _ => K 224 (by decide), fun _ => ⟨fun _ => K 297 (by decide), fun _ => ⟨fun _ => K 322 (by decide), fun _ => ⟨fun _ => K 347 (by decide), fun _ => ⟨fun _ => K 372 (by decide), fun _ => ⟨fun _ => K 452 (by decide), fun _ => ⟨fun _ => K 501 (by decide), fun _ => ⟨fun _ => K 539 (by decide), fun _ => ⟨fun _ => K 576 (by decide), fun _ => ⟨fun _ => K 602 (by decide), fun _ => ⟨fun _ => K 627 (by decide), fun _ => ⟨fun _ => K 652 (by decide), fun _ => ⟨fun _ => K 689 (by decide), fun _ => ⟨fun _ => K 714 (by decide), fun _ => ⟨fun _ => K 751 (by decide), fun _ => ⟨fun _ => K 776 (by decide), fun _ => ⟨fun _ => K 813 (by decide), fun _ => ⟨fun _ => K 850 (by decide), fun _ => ⟨fun _ => K 887 (by decide), fun _ => ⟨fun _ => K 924 (by decide), fun _ => ⟨fun _ => K 937 (by decide), fun _ => ⟨fun _ => K 950 (by decide), fun _ => ⟨fun _ => K 975 (by decide), fun _ => ⟨fun _ => K 1012 (by decide), fun _ => ⟨fun _ => K 1049 (by decide), fun _ => ⟨fun _ => K 1086 (by decide), fun _ => ⟨fun _ => K 1135 (by decide), fun _ => ⟨fun _ => K 1172 (by decide), fun _ => ⟨fun _ => K 1197 (by decide), fun _ => ⟨fun _ => K 1222 (by decide), fun _ => ⟨fun _ => K 1248 (by decide), fun _ => ⟨fun _ => K 1261 (by decide), fun _ => ⟨fun _ => K 1286 (by decide), fun _ => ⟨fun _ => K 1311 (by decide), fun _ => ⟨fun _ => K 1324 (by decide), fun _ => ⟨fun _ => K 1361 (by decide), fun _ => ⟨fun _ => K 1422 (by decide), fun _ => ⟨fun _ => K 1459 (by decide), fun _ => ⟨fun _ => K 1484 (by decide), fun _ => ⟨fun _ => K 1497 (by decide), fun _ => ⟨fun _ => K 1510 (by decide), fun _ => ⟨fun _ => K 1523 (by decide), fun _ => K 1548 (by decide)⟩⟩⟩⟩⟩⟩⟩⟩⟩⟩⟩⟩⟩⟩⟩⟩⟩⟩⟩⟩⟩⟩⟩⟩⟩⟩⟩⟩⟩⟩⟩⟩⟩⟩⟩⟩⟩⟩⟩⟩⟩⟩
  exact H
set_option maxRecDepth 100000 in
theorem law_372 {Kw : KP} {Q : RP} {xl : Int} {xf : Int → Int} {i : Int} {hr h : HP} (hi : 0 ≤ i) (hl : i + 6 ≤ xl) (hx : xl ≤ 3072) (hK : Kw 392 (lawL i) [(2, 181), (0, xf (i + 3)), (0, xf (i + 2)), (0, xf (i + 1)), (2, 0)] 182 hr h) : ai_run o_Q_law 182 (some (xl, xf)) k_Q_law cut_Q_law Q Kw 120 372 (lawL i) [] 182 hr h := by
  have H : 0 ≤ (w32 (i + 1)) ∧ (w32 (i + 1)) < xl ∧ 0 ≤ (w32 (i + 2)) ∧ (w32 (i + 2)) < xl ∧ 0 ≤ (w32 (i + 3)) ∧ (w32 (i + 3)) < xl ∧ Kw 392 [some (4, 0), some (2, 0), some (2, 138), some (2, 181), some (0, i), none, none] [(2, 181), (0, xf (w32 (i + 3))), (0, xf (w32 (i + 2))), (0, xf (w32 (i + 1))), (2, 0)] 182 hr h := by
    have z1_0 : 0 ≤ i + 1 := by omega
    have z1_1 : i + 1 < xl := by omega
    have z2_0 : 0 ≤ i + 2 := by omega
    have z2_1 : i + 2 < xl := by omega
    have z3_0 : 0 ≤ i + 3 := by omega
    have z3_1 : i + 3 < xl := by omega
    simp only [law_w 1 hi hl hx (by decide) (by decide), law_w 2 hi hl hx (by decide) (by decide), law_w 3 hi hl hx (by decide) (by decide), z1_0, z1_1, z2_0, z2_1, z3_0, z3_1, true_and]
    exact hK
  exact H
theorem law_1548 {Kw : KP} {Q : RP} {xl : Int} {xf : Int → Int} {i : Int} {hr h : HP} (hi : 0 ≤ i) (hl : i + 6 ≤ xl) (hx : xl ≤ 3072) (hK : Kw 23 (lawL (i + 6)) [] 182 hr h) : ai_run o_Q_law 182 (some (xl, xf)) k_Q_law cut_Q_law Q Kw 120 1548 (lawL i) [] 182 hr h := by
  have H : Kw 23 [some (4, 0), some (2, 0), some (2, 138), some (2, 181), some (0, w32 (i + 6)), none, none] [] 182 hr h := by
    rw [w32_id (x := i + 6) (by omega) (by omega)]
    exact hK
  exact H
set_option maxRecDepth 100000 in
theorem law_395 {Kw : KP} {Q : RP} {xl : Int} {xf : Int → Int} {i r : Int} {z : ST} {d : Int} {k : Nat} {hr h : HP} (R : REL z d k 182 hr h) (hi : 0 ≤ i) (hl : i + 6 ≤ xl) (hx : xl ≤ 3072) (hr1 : ¬ lgl (dM (zS z)) (dJ (zS z)).length (xf (i + 1)) (xf (i + 2)) → r = 1) (hr2 : lgl (dM (zS z)) (dJ (zS z)).length (xf (i + 1)) (xf (i + 2)) → ¬ (xf (i + 3) = 0 ∨ xf (i + 3) = 1) → r = 2) (hr0 : lgl (dM (zS z)) (dJ (zS z)).length (xf (i + 1)) (xf (i + 2)) → (xf (i + 3) = 0 ∨ xf (i + 3) = 1) → r = 0 ∧ h 181 0 = arcV (tM (zS z)) (oM (zS z)) (xf (i + 1)) (xf (i + 2)) (xf (i + 3))) (hK : ∀ (z1 : ST) (d1 : Int) (k1 : Nat) (hr1 h1 : HP), k1 ≤ k + 1 → REL z1 d1 k1 182 hr1 h1 → Kw 1548 (lawL i) [] 182 hr1 h1) : ai_run o_Q_law 182 (some (xl, xf)) k_Q_law cut_Q_law Q Kw 120 395 (lawL i) [(0, r)] 182 hr h := by
  have H : 0 ≤ (w32 (i + 1)) ∧ (w32 (i + 1)) < xl ∧ 0 ≤ (w32 (i + 2)) ∧ (w32 (i + 2)) < xl ∧ 0 ≤ (w32 (i + 3)) ∧ (w32 (i + 3)) < xl ∧ ai_ok 182 138 12 ∧ f_N_arc [(2, 138), (0, xf (w32 (i + 1))), (0, xf (w32 (i + 2))), (0, xf (w32 (i + 3)))] 182 hr h fun r1 n1 hr1 h1 => ai_ok n1 138 12 ∧ f_N_thrown [(2, 138)] n1 hr1 h1 fun r2 n2 hr2 h2 => ((r2.2) = r → (r ≠ 0 → Kw 1548 [some (4, 0), some (2, 0), some (2, 138), some (2, 181), some (0, i), none, none] [] n2 hr2 h2) ∧ (r = 0 → ai_ok n2 181 51 ∧ 0 ≤ (0 : Int) ∧ 0 < ai_l 181 ∧ ((l_cmp (h2 181 0) (r1.2)) = 0 → Kw 1548 [some (4, 0), some (2, 0), some (2, 138), some (2, 181), some (0, i), none, none] [] n2 hr2 h2) ∧ ((l_cmp (h2 181 0) (r1.2)) ≠ 0 → ((0 : Int) = 0 ∨ (0 : Int) = 1) ∧ Q (0, 0) n2 hr2 h2))) ∧ ((r2.2) ≠ r → ((0 : Int) = 0 ∨ (0 : Int) = 1) ∧ Q (0, 0) n2 hr2 h2) := by
    have z1_0 : 0 ≤ i + 1 := by omega
    have z1_1 : i + 1 < xl := by omega
    have z2_0 : 0 ≤ i + 2 := by omega
    have z2_1 : i + 2 < xl := by omega
    have z3_0 : 0 ≤ i + 3 := by omega
    have z3_1 : i + 3 < xl := by omega
    obtain ⟨⟨V, W⟩, -, O, C, N⟩ := id R
    simp only [law_w 1 hi hl hx (by decide) (by decide), law_w 2 hi hl hx (by decide) (by decide), law_w 3 hi hl hx (by decide) (by decide), z1_0, z1_1, z2_0, z2_1, z3_0, z3_1, law_o1, true_and]
    refine sp_N_arc W (TV_s O.2.1) N.2.1.1 (fun y => ?_) (fun y y2 => ?_) fun y y2 => ?_
    · have e := hr1 y
      subst e
      refine ⟨law_o1, sp_N_thrown W ?_⟩
      rw [up_same]
      exact ⟨fun _ => ⟨fun _ => hK z d k _ _ (by omega) (REL_138 (REL_138 R)), fun e => absurd e (by decide)⟩, fun e => absurd rfl e⟩
    · have e := hr2 y y2
      subst e
      refine ⟨law_o1, sp_N_thrown W ?_⟩
      rw [up_same]
      exact ⟨fun _ => ⟨fun _ => hK z d k _ _ (by omega) (REL_138 (REL_138 R)), fun e => absurd e (by decide)⟩, fun e => absurd rfl e⟩
    · obtain ⟨e, e2⟩ := hr0 y y2
      subst e
      refine ⟨law_o1, sp_N_thrown W ?_⟩
      rw [up_same, up_oth (c := 181) (Or.inl (by decide)), e2]
      refine ⟨fun _ => ⟨fun e => absurd rfl e, fun _ => ⟨⟨by decide, by decide, by decide +kernel⟩, by decide, by decide +kernel, fun _ => hK z d k _ _ (by omega) (REL_138 R), fun e => absurd law_cmp e⟩⟩, fun e => absurd rfl e⟩
  exact H
theorem jd_L_392 : decode code 392 = .ok (.invokestatic 39, 3) := by decide +kernel
section
variable {p : Program} {l : Launch} {e : Env} {s : State} {m : MethodId} {args : Array Value} {below : List Frame} {meth : Method} {c : Code} {D : va_G} {cid : Nat → ClassId} {B : Nat} {xa ad0 : Nat → Nat} {Qf : State → Prop}
abbrev lawPS (p : Program) (l : Launch) (e : Env) (s : State) (m : MethodId) (args : Array Value) (below : List Frame) (meth : Method) (c : Code) (D : va_G) (cid : Nat → ClassId) (B : Nat) (xa ad0 : Nat → Nat) (Qf : State → Prop) (gx gy : Nat) : KP := ai_PS p l e room_1 s m args below meth c D cid B xa 7 0 182 ad0 gx gy Qf
abbrev lawRH (p : Program) (l : Launch) (e : Env) (s : State) (m : MethodId) (args : Array Value) (below : List Frame) (meth : Method) (c : Code) (D : va_G) (cid : Nat → ClassId) (B : Nat) (xa ad0 : Nat → Nat) (Qf : State → Prop) (gx gy : Nat) : Prop := ai_RH p l e room_1 s m args below meth c D cid B xa 0 182 ad0 gx gy Qf code (some .boolean) (fun r _ _ _ => r = (0, 1))
theorem cs_182 : ai_cs 182 ≤ 200000 := by decide +kernel
theorem law_arc (F : ai_F p s m args meth c code 7 "SuiteBenchLaw" false D cid B xa (sxE B) kc_Q_law) (hfl : l.flags = flags0) {gx gy : Nat} (hgx : gx ≤ 600) (hgy : gy ≤ 6000) {z : ST} {d : Int} {k : Nat} {hr h : HP} (R : REL z d k 182 hr h) {p0 p1 p2 i : Int} (i0 : i32 p0) (i1 : i32 p1) (i2 : i32 p2) (hK : ∀ (r : Int32) (h1 : HP), arcP (dM (zS z)) (dJ (zS z)).length (tM (zS z)) (oM (zS z)) p0 p1 p2 h r h1 → lawPS p l e s m args below meth c D cid B xa ad0 Qf (gx + 1) (gy + 6) 395 (lawL i) [(0, r.toInt)] 182 hr h1) : lawPS p l e s m args below meth c D cid B xa ad0 Qf gx gy 392 (lawL i) [(2, 181), (0, p2), (0, p1), (0, p0), (2, 0)] 182 hr h := by
  intro ad' H locs ls h1 h2 h3 h4 h5 h6 h7 h8 h9
  have T := TV_s R.2.2.1.2.1
  have hg := F.2.2.2.2.1
  have iv : lgl (dM (zS z)) (dJ (zS z)).length p0 p1 → i32 (arcV (tM (zS z)) (oM (zS z)) p0 p1 p2) := fun lg => by
    obtain ⟨hS, hI, hm, -, -⟩ := T
    obtain ⟨⟨a1, a2⟩, a3, a4⟩ := lg
    have := hm (3 * p0 + p1) (by omega) (by omega)
    unfold arcV i32
    split <;> omega
  have eb := c_Q_arc (xa := xa) (ad := ad') (B := B) (D := D) (cid := cid) hfl R.1.1 T.1 T.2.1 R.2.2.2.1.2.1.1 h5 i0 i1 i2 iv
  have hcs := cs_182
  have hrun := vx_runSW (l := l) (e := e) (R := room_1) (below := below) (meth := meth) (H := H) (locs := locs) (cells := 182 - 0 + gx) (slots := ai_cs 182 - ai_cs 0 + gy) (index := 39) (As := (arcB p0 p1 p2).map (ai_cv ad' xa)) (g := F0 m 392 ls (([(2, 181), (0, p2), (0, p1), (0, p0), (2, 0)] : List AV).map (ai_cv ad' xa))) (rest := []) ⟨F.1, F.2.1, F.2.2.1, F.2.2.2.1, F.2.2.2.2.1⟩ eb ⟨⟨rfl, rfl, by decide, by decide, fun w hw a' U hW => (List.mem_cons.mp hw).elim (fun e => by subst e; exact gw_warm (tk_mem (l := [((Jvm.Cond.codeWith ({ cls := "SuiteBenchLaw", name := "arc", desc := "(LSuiteBench;III[J)I" } : Jvm.MethodName) method_3_code (6 : Nat) (Option.some Jvm.ClassFile.FieldType.int) [((0 : Nat), (12 : Nat), (15 : Nat), (13 : Nat)), ((0 : Nat), (12 : Nat), (19 : Nat), (15 : Nat))]), 6, 185)]) (by decide +kernel) _ (List.mem_singleton.mpr rfl)) hW (hg _ (tk_mem (l := [((Jvm.Cond.codeWith ({ cls := "SuiteBenchLaw", name := "arc", desc := "(LSuiteBench;III[J)I" } : Jvm.MethodName) method_3_code (6 : Nat) (Option.some Jvm.ClassFile.FieldType.int) [((0 : Nat), (12 : Nat), (15 : Nat), (13 : Nat)), ((0 : Nat), (12 : Nat), (19 : Nat), (15 : Nat))]), 6, 185)]) (by decide +kernel) _ (List.mem_singleton.mpr rfl)))) fun e => gw_warm e hW (hg _ e), List.mem_cons_self⟩, hg _ (tk_mem (l := [((Jvm.Cond.codeWith ({ cls := "SuiteBenchLaw", name := "arc", desc := "(LSuiteBench;III[J)I" } : Jvm.MethodName) method_3_code (6 : Nat) (Option.some Jvm.ClassFile.FieldType.int) [((0 : Nat), (12 : Nat), (15 : Nat), (13 : Nat)), ((0 : Nat), (12 : Nat), (19 : Nat), (15 : Nat))]), 6, 185)]) (by decide +kernel) _ (List.mem_singleton.mpr rfl)), hg _ (tk_mem (l := [((Jvm.Cond.initialized "SuiteBenchLaw"), 1, 0)]) (by decide +kernel) _ (List.mem_singleton.mpr rfl)), ⟨by decide, by decide⟩, na_of (by show _ = some 5; decide +kernel), hg _ (tk_mem (l := [((Jvm.Cond.methodLink "SuiteBenchLaw" (39 : Nat) ({ cls := "SuiteBenchLaw", name := "arc", desc := "(LSuiteBench;III[J)I" } : Jvm.MethodName)), 6, 183)]) (by decide +kernel) _ (List.mem_singleton.mpr rfl)), hg _ (tk_mem (l := [((Jvm.Cond.static ({ cls := "SuiteBenchLaw", name := "arc", desc := "(LSuiteBench;III[J)I" } : Jvm.MethodName)), 6, 184)]) (by decide +kernel) _ (List.mem_singleton.mpr rfl))⟩ ⟨pc_blind (sxE_ok B), fun U hU hW => ⟨rfl, pw_of F h4 h9 hU hW⟩⟩ rfl rfl h6.2.1 rfl (lv_room (Nat.le_of_ble_eq_true rfl)) jd_L_392 ⟨by show 182 - 0 + gx + 1 ≤ 601024; omega, by show ai_cs 182 - ai_cs 0 + gy + 6 ≤ 7293034; omega⟩
  refine va_calli hrun h9 (fun q _ hq => hq) (fun q hq => hq) (fun r u t9 H1 locs1 hH1 hal hp hB hz hk hS1 => ?_)
  obtain ⟨b1, b2, b3⟩ := hB
  rw [hH1] at b3
  have key := hK r u.1 hp u.2 H1 locs1 ls h1 h2 (fun q hq => absurd hq (Nat.not_lt_zero q)) b3 b2 (LR_ext h6 h7 b1) h7 (SI_cons.mpr ⟨i32_of r, fun v hv => by cases hv⟩) hS1
  have er : ai_cv u.2 xa (0, r.toInt) = .int r := by
    show Value.int (Int32.ofInt r.toInt) = .int r
    rw [Int32.ofInt_toInt]
  simp only [← Nat.add_assoc, List.map, er] at key ⊢
  exact key
theorem law_rm {gx gy : Nat} (hgx : gx ≤ 600) (hgy : gy ≤ 6000) : ai_RM room_1 15 425 0 182 gx gy := by
  have := cs_182
  exact ⟨by decide, by decide, by show 182 - 0 + gx ≤ 601024; omega, by show ai_cs 182 - ai_cs 0 + gy ≤ 7293034; omega⟩
theorem law_loop (F : ai_F p s m args meth c code 7 "SuiteBenchLaw" false D cid B xa (sxE B) kc_Q_law) (hfl : l.flags = flags0) {xl : Int} {xf : Int → Int} (hX : ai_XS (some (xl, xf)) B xa s) (h0 : 0 ≤ xl) (hx : xl ≤ 3072) (hf : ∀ j, i32 (xf j)) (hQ : ∀ gx gy, gx ≤ 600 → gy ≤ 6000 → lawRH p l e s m args below meth c D cid B xa ad0 Qf gx gy) : ∀ (f cN : Nat) (i : Int) (gx gy : Nat) (z : ST) (d : Int) (k : Nat) (hr h : HP), i = 6 * (cN : Int) → i ≤ 3072 → xl - i < (f : Int) → gx ≤ cN → gy ≤ 6 * cN → k ≤ cN → REL z d k 182 hr h → lawPS p l e s m args below meth c D cid B xa ad0 Qf gx gy 23 (lawL i) [] 182 hr h
  | 0, cN, i, gx, gy, z, d, k, hr, h, hi, hi2, hf0, hgx, hgy, hk, R => by
    exact sn_run F hX (law_rm (by omega) (by omega)) (cs_Q_law (c_XH B)) hfl (hQ gx gy (by omega) (by omega)) mo_Q_law a_Q_law 120 23 _ _ _ _ _ (law_head (by omega) h0 hx rfl fun q => absurd q (by omega))
  | f + 1, cN, i, gx, gy, z, d, k, hr, h, hi, hi2, hf0, hgx, hgy, hk, R => by
    have i0 : 0 ≤ i := by omega
    refine sn_run F hX (law_rm (by omega) (by omega)) (cs_Q_law (c_XH B)) hfl (hQ gx gy (by omega) (by omega)) mo_Q_law a_Q_law 120 23 _ _ _ _ _ (law_head i0 h0 hx rfl fun hl pc hc => ?_)
    have K1548 : ∀ (gx1 gy1 : Nat) (z1 : ST) (d1 : Int) (k1 : Nat) (hr1 h1 : HP), gx1 ≤ gx + 1 → gy1 ≤ gy + 6 → k1 ≤ k + 1 → REL z1 d1 k1 182 hr1 h1 → lawPS p l e s m args below meth c D cid B xa ad0 Qf gx1 gy1 1548 (lawL i) [] 182 hr1 h1 := fun gx1 gy1 z1 d1 k1 hr1 h1 b1 b2 b3 R1 =>
      sn_run F hX (law_rm (by omega) (by omega)) (cs_Q_law (c_XH B)) hfl (hQ gx1 gy1 (by omega) (by omega)) mo_Q_law a_Q_law 120 1548 _ _ _ _ _ (law_1548 i0 hl hx (law_loop F hfl hX h0 hx hf hQ f (cN + 1) (i + 6) gx1 gy1 z1 d1 k1 hr1 h1 (by omega) (by omega) (by omega) (by omega) (by omega) (by omega) R1))
    have hcs : pc ∈ lawCases ∨ pc = 372 ∨ pc = 1548 := by
      have : ∀ q ∈ lawPcs, q ∈ lawCases ∨ q = 372 ∨ q = 1548 := by decide +kernel
      exact this pc hc
    rcases hcs with hcs | rfl | rfl
    · exact sn_run F hX (law_rm (by omega) (by omega)) (cs_Q_law (c_XH B)) hfl (hQ gx gy (by omega) (by omega)) mo_Q_law a_Q_law 120 pc _ _ _ _ _ (law_all pc hcs R (by omega) i0 hl hx (fun j => (hf j).2) fun z1 d1 k1 hr1 h1 b R1 => K1548 gx gy z1 d1 k1 hr1 h1 (by omega) (by omega) b R1)
    · refine sn_run F hX (law_rm (by omega) (by omega)) (cs_Q_law (c_XH B)) hfl (hQ gx gy (by omega) (by omega)) mo_Q_law a_Q_law 120 372 _ _ _ _ _ (law_372 i0 hl hx ?_)
      refine law_arc F hfl (by omega) (by omega) R (hf _) (hf _) (hf _) fun r h1 P => ?_
      refine sn_run F hX (law_rm (by omega) (by omega)) (cs_Q_law (c_XH B)) hfl (hQ (gx + 1) (gy + 6) (by omega) (by omega)) mo_Q_law a_Q_law (cut := cut_Q_law) 120 395 _ _ _ _ _ ?_
      have e1 : ∀ q : Int, q ≤ 180 → h1 q = h q := fun q hq => by
        by_cases lg : lgl (dM (zS z)) (dJ (zS z)).length (xf (i + 1)) (xf (i + 2))
        · by_cases ok : xf (i + 3) = 0 ∨ xf (i + 3) = 1
          · rw [(P.2.2 lg ok).2]; funext j; exact up_oth (Or.inl (by omega))
          · rw [(P.2.1 lg ok).2]
        · rw [(P.1 lg).2]
      refine law_395 (REL_up R e1) i0 hl hx (fun lg => by rw [(P.1 lg).1]; rfl) (fun lg ok => by rw [(P.2.1 lg ok).1]; rfl) (fun lg ok => ⟨by rw [(P.2.2 lg ok).1]; rfl, by rw [(P.2.2 lg ok).2]; exact up_same⟩) fun z1 d1 k1 hr1 h1 b R1 => K1548 (gx + 1) (gy + 6) z1 d1 k1 hr1 h1 (by omega) (by omega) b R1
    · exact K1548 gx gy z d k hr h (by omega) (by omega) (by omega) R
end
