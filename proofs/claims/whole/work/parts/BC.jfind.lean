-- deps: 18 19 20 21 22 23 24 25 26 27 28 29 30 31 32 33 34 35 36 37 38 39 40 41 42 43 44 45 46 47 48 49 50 51 52 53 54 55 56 57 58 59 60 61 62 63 64 65 66 67 68 69 70 71 72 73 74 75 76 77 78 79 80 81 82 83 84 85 86 87 88 89 90 91 92 93 94 95 96 97 98 99 9A 9B 9C 9D 9E 9F 9G 9H 9I 9J 9K 9L 9M 9N 9O 9P 9Q 9R 9S 9T 9U 9V 9W 9X 9Y 9Z A0 A1 A2 A3 A4 A5 A6 A7 B0 B1 B2 B3 B4 B5 B6 B7 B8 B9 BA BB
/-! both sides: calls that find out -/
section
variable {n : Nat} {hr h h1 : HP} {z z1 : ST} {d d1 : Int} {k k1 : Nat} {P : RP} {v : AV}
theorem NB_of (R : REL z d k n hr h) : NB (dM (zS z)) ((dJ (zS z)).length) (tM (zS z)) (oM (zS z)) (sE (zS z)) h := R.2.2.2.2.2.1
theorem N3_of (R : REL z d k n hr h) : N3 (zS z) h := R.2.2.2.2.2.2.1
theorem jo_sign {s : Int} (R : REL z d k n hr h) (hP : NXT P k n f_N_sign [(2, 138), (0, s)]) : f_B_sign [(2, 0), (0, s)] n hr h P := by
  obtain ⟨⟨V, W⟩, ⟨hd, -⟩, O, C, N⟩ := id R
  have T := TV_s O.2.1
  refine sp_B_sign V hd O C (fun q h1 e1 C1 => ?_) (fun q => hP _ _ _ ⟨V, W⟩ (sp_N_sign W T N.2.1.1 N.2.1.2.1 N.2.1.2.2.1 (fun y => absurd y q) (fun _ => JP_1 R)))
  have R1 := REL_c2 R e1 C1
  obtain ⟨b1, b2, b3, b4, b5, b6⟩ := NB_of R1
  refine hP _ _ _ ⟨V, W⟩ (sp_N_sign W T b1 b2 b3 (fun _ h2 e2 g2 => JP_q R1 (by omega) (gNx_e e2 (by decide) (by decide)) ⟨NX_fr b1 e2 (by decide) (by decide), NP_fr b2 e2 (by decide) (by decide), g2, NWy_fr b4 (EX_fn e2 (by decide) (by decide)) (EX_fn e2 (by decide) (by decide)) (EX_fn e2 (by decide) (by decide)), ?_, ?_⟩ (N3_e (N3_of R1) e2 (by decide))) (fun y => absurd q y))
  · unfold NSu RW; rw [EX_fn e2 (c := 161) (by decide) (by decide), EX_fn e2 (c := 162) (by decide) (by decide)]; exact b5
  · unfold NEx; rw [EX_fn e2 (c := 140) (by decide) (by decide)]; exact b6
theorem jo_suite {su w : Int} (R : REL z d k n hr h) (hP : NXT P k n f_N_suite [(2, 138), (0, su), (0, w)]) : f_B_suite [(2, 0), (0, su), (0, w)] n hr h P := by
  obtain ⟨⟨V, W⟩, ⟨hd, -⟩, O, C, N⟩ := id R
  have T := TV_s O.2.1
  have e3 := (sE_3 O.2.1).1
  refine sp_B_suite V hd O C (fun q => hP _ _ _ ⟨V, W⟩ (sp_N_suite W T (NB_of R) e3 (fun _ => JP_1 R) (fun y y2 => absurd ⟨y, y2⟩ q))) (fun q q2 h1 e1 C1 => ?_)
  have R1 := REL_c2 R e1 C1
  exact hP _ _ _ ⟨V, W⟩ (sp_N_suite W T (NB_of R1) e3 (fun y => absurd ⟨q, q2⟩ y) (fun _ _ h2 f2 b2 => JP_q R1 (by omega) (gNx_S f2) b2 (N3_e (N3_of R1) f2 (by decide))))
theorem jo_test {su w : Int} (R : REL z d k n hr h) (hw : w ≤ 2147483647) (hP : NXT P k n f_N_test [(2, 138), (0, su), (0, w)]) : f_B_test [(2, 0), (0, su), (0, w)] n hr h P := by
  obtain ⟨⟨V, W⟩, ⟨hd, -⟩, O, C, N⟩ := id R
  have T := TV_s O.2.1
  have e3 := (sE_3 O.2.1).1
  obtain ⟨a1, a2, a3, a4, a5, a6⟩ := NB_of R
  refine sp_B_test V hd O C (fun q => hP _ _ _ ⟨V, W⟩ (sp_N_test W T a1 a2 a5 a6 e3 hw (fun _ => JP_1 R) (fun y y2 => absurd ⟨y, y2⟩ q))) (fun q q2 h1 e1 C1 => ?_)
  have R1 := REL_c2 R e1 C1
  obtain ⟨b1, b2, b3, b4, b5, b6⟩ := NB_of R1
  refine hP _ _ _ ⟨V, W⟩ (sp_N_test W T b1 b2 b5 b6 e3 hw (fun y => absurd ⟨q, q2⟩ y) (fun _ _ h2 e2 u2 => JP_q R1 (by omega) (gNx_e e2 (by decide) (by decide)) ⟨NX_fr b1 e2 (by decide) (by decide), NP_fr b2 e2 (by decide) (by decide), ?_, NWy_fr b4 (EX_fn e2 (by decide) (by decide)) (EX_fn e2 (by decide) (by decide)) (EX_fn e2 (by decide) (by decide)), u2, ?_⟩ (N3_e (N3_of R1) e2 (by decide))))
  · unfold NSg; rw [EX_fn e2 (c := 155) (by decide) (by decide), e2 138 31 (by decide) (by decide)]; exact b3
  · unfold NEx; rw [EX_fn e2 (c := 140) (by decide) (by decide)]; exact b6
theorem jo_way {wh w : Int} (R : REL z d k n hr h) (hP : NXT P k n f_N_way [(2, 138), (0, wh), (0, w)]) : f_B_way [(2, 0), (0, wh), (0, w)] n hr h P := by
  obtain ⟨⟨V, W⟩, ⟨hd, -⟩, O, C, N⟩ := id R
  have T := TV_s O.2.1
  obtain ⟨a1, a2, a3, a4, a5, a6⟩ := NB_of R
  refine sp_B_way V hd O C (fun q => hP _ _ _ ⟨V, W⟩ (sp_N_way W T a1 a2 a3 a4 (fun _ => JP_1 R) (fun y => absurd y q))) (fun q h1 e1 C1 => ?_)
  have R1 := REL_c2 R e1 C1
  obtain ⟨b1, b2, b3, b4, b5, b6⟩ := NB_of R1
  refine hP _ _ _ ⟨V, W⟩ (sp_N_way W T b1 b2 b3 b4 (fun y => absurd q y) (fun _ h2 e2 g2 y2 => JP_q R1 (by omega) (gNx_e e2 (by decide) (by decide)) ⟨NX_fr b1 e2 (by decide) (by decide), NP_fr b2 e2 (by decide) (by decide), g2, y2, ?_, ?_⟩ (N3_e (N3_of R1) e2 (by decide))))
  · unfold NSu RW; rw [EX_fn e2 (c := 161) (by decide) (by decide), EX_fn e2 (c := 162) (by decide) (by decide)]; exact b5
  · unfold NEx; rw [EX_fn e2 (c := 140) (by decide) (by decide)]; exact b6
theorem jo_verdict {su w : Int} (R : REL z d k n hr h) (hP : NXT P k n f_N_verdict [(2, 138), (0, su), (0, w)]) : f_B_verdict [(2, 0), (0, su), (0, w)] n hr h P := by
  obtain ⟨⟨V, W⟩, ⟨hd, -⟩, O, C, N⟩ := id R
  have T := TV_s O.2.1
  have e3 := (sE_3 O.2.1).1
  refine sp_B_verdict V hd O C (fun q => hP _ _ _ ⟨V, W⟩ (sp_N_verdict W T (NB_of R) O.2.2.1.1 N.2.2.2.1.1 e3 (fun _ => JP_1 R) (fun y y2 => absurd ⟨y, y2⟩ q))) (fun q q2 h1 e1 C1 => ?_)
  have R1 := REL_c2 R e1 C1
  exact hP _ _ _ ⟨V, W⟩ (sp_N_verdict W T (NB_of R1) O.2.2.1.1 R1.2.2.2.2.2.2.2.1.1 e3 (fun y => absurd ⟨q, q2⟩ y) (fun _ _ h2 f2 b2 => JP_q R1 (by omega) (gNx_S f2) b2 (N3_e (N3_of R1) f2 (by decide))))
theorem jo_isEqual (R : REL z d k n hr h) (hP : NXT P k n f_N_isEqual [(2, 138)]) : f_B_isEqual [(2, 0)] n hr h P := by
  obtain ⟨⟨V, W⟩, ⟨hd, -⟩, O, C, N⟩ := id R
  refine sp_B_isEqual V hd O C (fun h1 e1 C1 => ?_)
  have R1 := REL_c2 R e1 C1
  exact hP _ _ _ ⟨V, W⟩ (sp_N_isEqual W (TV_s O.2.1) (NB_of R1) O.2.2.1.1 R1.2.2.2.2.2.2.2.1.1 (fun h2 f2 b2 => JP_q R1 (by omega) (gNx_U f2) b2 (N3_e (N3_of R1) f2 (by decide))))
theorem jo_witness (R : REL z d k n hr h) (hP : NXT P k n f_N_witness [(2, 138)]) : f_B_witness [(2, 0)] n hr h P := by
  obtain ⟨⟨V, W⟩, ⟨hd, -⟩, O, C, N⟩ := id R
  refine sp_B_witness V hd O C (fun h1 e1 C1 => ?_)
  have R1 := REL_c2 R e1 C1
  exact hP _ _ _ ⟨V, W⟩ (sp_N_witness W (TV_s O.2.1) (NB_of R1) O.2.2.1.1 R1.2.2.2.2.2.2.2.1.1 (fun h2 f2 b2 => JP_q R1 (by omega) (gNx_U f2) b2 (N3_e (N3_of R1) f2 (by decide))))
theorem jo_enough {su : Int} (R : REL z d k n hr h) (hP : NXT P k n f_N_enough [(2, 138), (0, su)]) : f_B_enough [(2, 0), (0, su)] n hr h P := by
  obtain ⟨⟨V, W⟩, ⟨hd, -⟩, O, C, N⟩ := id R
  have T := TV_s O.2.1
  refine sp_B_enough V hd O C (fun q => hP _ _ _ ⟨V, W⟩ (sp_N_enough W T (NB_of R) O.2.2.1.1 N.2.2.2.1.1 (fun _ => JP_1 R) (fun y => absurd y q))) (fun q h1 e1 C1 => ?_)
  have R1 := REL_c2 R e1 C1
  exact hP _ _ _ ⟨V, W⟩ (sp_N_enough W T (NB_of R1) O.2.2.1.1 R1.2.2.2.2.2.2.2.1.1 (fun y => absurd q y) (fun _ h2 f2 b2 => JP_q R1 (by omega) (gNx_S f2) b2 (N3_e (N3_of R1) f2 (by decide))))
theorem jo_mutants {su w : Int} (R : REL z d k n hr h) (hP : NXT P k n f_N_mutants [(2, 138), (0, su), (0, w)]) : f_B_mutants [(2, 0), (0, su), (0, w)] n hr h P := by
  obtain ⟨⟨V, W⟩, ⟨hd, -⟩, O, C, N⟩ := id R
  have T := TV_s O.2.1
  have e3 := (sE_3 O.2.1).1
  refine sp_B_mutants V hd O C (fun q => hP _ _ _ ⟨V, W⟩ (sp_N_mutants W T (NB_of R) (N3_of R).2.1 e3 (fun _ => JP_1 R) (fun y y2 => absurd ⟨y, y2⟩ q))) (fun q q2 h1 e1 C1 => ?_)
  have R1 := REL_c8 R e1 C1
  obtain ⟨c1, c2, c3, c4⟩ := N3_of R1
  refine hP _ _ _ ⟨V, W⟩ (sp_N_mutants W T (NB_of R1) c2 e3 (fun y => absurd ⟨q, q2⟩ y) (fun _ _ h2 f2 b2 m2 => JP_q R1 (by omega) (gNx_Q f2) b2 ⟨?_, m2, ?_, ?_⟩))
  · unfold NFa; rw [EX_fn f2.1 (c := 172) (by decide) (by decide), EX_fn f2.1 (c := 171) (by decide) (by decide)]; exact c1
  · unfold NSm LSm; rw [EX_fn f2.1 (c := 166) (by decide) (by decide), EX_fn f2.1 (c := 167) (by decide) (by decide)]; exact c3
  · unfold NCv; rw [EX_fn f2.1 (c := 175) (by decide) (by decide)]; exact c4
theorem jo_mutant {x w : Int} (R : REL z d k n hr h) (hP : NXT P k n f_N_mutant [(2, 138), (0, x), (0, w)]) : f_B_mutant [(2, 0), (0, x), (0, w)] n hr h P := by
  obtain ⟨⟨V, W⟩, ⟨hd, -⟩, O, C, N⟩ := id R
  have T := TV_s O.2.1
  refine sp_B_mutant V O C (fun q q2 => hP _ _ _ ⟨V, W⟩ (sp_N_mutant W T (NB_of R) (fun _ _ h2 f2 b2 => JP_q R (by omega) (gNx_Q f2) b2 (N3_e (N3_of R) f2.1 (by decide))) (fun y => absurd ⟨q, q2⟩ y))) (fun q => hP _ _ _ ⟨V, W⟩ (sp_N_mutant W T (NB_of R) (fun y y2 => absurd ⟨y, y2⟩ q) (fun _ => JP_1 R)))
theorem jo_parts {a b : Int} (R : REL z d k n hr h) (hP : NXT P k n f_N_parts [(2, 138), (0, a), (0, b)]) : f_B_parts [(2, 0), (0, a), (0, b)] n hr h P := by
  obtain ⟨⟨V, W⟩, ⟨hd, -⟩, O, C, N⟩ := id R
  have T := TV_s O.2.1
  refine sp_B_parts V hd O C (fun q q2 h1 e1 C1 => ?_) (fun q => hP _ _ _ ⟨V, W⟩ (sp_N_parts W T (NB_of R) (fun y y2 => absurd ⟨y, y2⟩ q) (fun _ => JP_1 R)))
  have R1 := REL_c8 R e1 C1
  exact hP _ _ _ ⟨V, W⟩ (sp_N_parts W T (NB_of R1) (fun _ _ h2 f2 b2 => JP_q R1 (by omega) (gNx_Q f2) b2 (N3_e (N3_of R1) f2.1 (by decide))) (fun y => absurd ⟨q, q2⟩ y))
theorem jo_small {x su w : Int} (R : REL z d k n hr h) (hP : NXT P k n f_N_small [(2, 138), (0, x), (0, su), (0, w)]) : f_B_small [(2, 0), (0, x), (0, su), (0, w)] n hr h P := by
  obtain ⟨⟨V, W⟩, ⟨hd, -⟩, O, C, N⟩ := id R
  have T := TV_s O.2.1
  have e3 := (sE_3 O.2.1).1
  refine sp_B_small V hd O C (fun q => hP _ _ _ ⟨V, W⟩ (sp_N_small W T (NB_of R) N.2.2.2.1.2 (N3_of R).2.2.1 e3 (fun _ => JP_1 R) (fun y y2 y3 y4 => absurd ⟨y, y2, y3, y4⟩ q))) (fun q q2 q3 q4 h1 e1 C1 => ?_)
  have R1 := REL_c8 R e1 C1
  obtain ⟨c1, c2, c3, c4⟩ := N3_of R1
  refine hP _ _ _ ⟨V, W⟩ (sp_N_small W T (NB_of R1) R1.2.2.2.2.2.2.2.1.2 c3 e3 (fun y => absurd ⟨q, q2, q3, q4⟩ y) (fun _ _ _ _ h2 f2 b2 m2 => JP_q R1 (by omega) (gNx_Q f2) b2 ⟨?_, ?_, m2, ?_⟩))
  · unfold NFa; rw [EX_fn f2.1 (c := 172) (by decide) (by decide), EX_fn f2.1 (c := 171) (by decide) (by decide)]; exact c1
  · unfold NMu LMu; rw [EX_fn f2.1 (c := 164) (by decide) (by decide), EX_fn f2.1 (c := 165) (by decide) (by decide)]; exact c2
  · unfold NCv; rw [EX_fn f2.1 (c := 175) (by decide) (by decide)]; exact c4
theorem jo_covered {su : Int} (R : REL z d k n hr h) (hP : NXT P k n f_N_covered [(2, 138), (0, su)]) : f_B_covered [(2, 0), (0, su)] n hr h P := by
  obtain ⟨⟨V, W⟩, ⟨hd, -⟩, O, C, N⟩ := id R
  have T := TV_s O.2.1
  have e3 := (sE_3 O.2.1).1
  refine sp_B_covered V hd O C (fun q => hP _ _ _ ⟨V, W⟩ (sp_N_covered W T (NB_of R) (N3_of R).2.2.2 e3 (fun _ => JP_1 R) (fun y => absurd y q))) (fun q h1 e1 C1 => ?_)
  have R1 := REL_c8 R e1 C1
  obtain ⟨c1, c2, c3, c4⟩ := N3_of R1
  refine hP _ _ _ ⟨V, W⟩ (sp_N_covered W T (NB_of R1) c4 e3 (fun y => absurd q y) (fun _ h2 f2 b2 m2 => JP_q R1 (by omega) (gNx_Q f2) b2 ⟨?_, ?_, ?_, m2⟩))
  · unfold NFa; rw [EX_fn f2.1 (c := 172) (by decide) (by decide), EX_fn f2.1 (c := 171) (by decide) (by decide)]; exact c1
  · unfold NMu LMu; rw [EX_fn f2.1 (c := 164) (by decide) (by decide), EX_fn f2.1 (c := 165) (by decide) (by decide)]; exact c2
  · unfold NSm LSm; rw [EX_fn f2.1 (c := 166) (by decide) (by decide), EX_fn f2.1 (c := 167) (by decide) (by decide)]; exact c3
theorem jo_tree {x w : Int} (R : REL z d k n hr h) (hP : NXT P k n f_N_tree [(2, 138), (0, x), (0, w)]) : f_B_tree [(2, 0), (0, x), (0, w)] n hr h P := by
  obtain ⟨⟨V, W⟩, ⟨hd, -⟩, O, C, N⟩ := id R
  have T := TV_s O.2.1
  refine sp_B_tree V hd O C (fun q h1 e1 C1 => ?_) (fun q => hP _ _ _ ⟨V, W⟩ (sp_N_tree W T N.2.1.1 (fun y => absurd y q) (fun _ => JP_1 R)))
  have R1 := REL_c2 R e1 C1
  exact hP _ _ _ ⟨V, W⟩ (sp_N_tree W T (NB_of R1).1 (fun _ h2 e2 => JP_q R1 (by omega) (gNx_e e2 (by decide) (by decide)) (NB_fr (NB_of R1) e2 (by decide)) (N3_e (N3_of R1) e2 (by decide))) (fun y => absurd q y))
theorem jo_word {w : Int} (R : REL z d k n hr h) (hP : NXT P k n f_N_word [(2, 138), (0, w)]) : f_B_word [(2, 0), (0, w)] n hr h P := by
  obtain ⟨⟨V, W⟩, ⟨hd, -⟩, O, C, N⟩ := id R
  have T := TV_s O.2.1
  refine sp_B_word V hd O C (fun q h1 e1 C1 => ?_) (fun q => hP _ _ _ ⟨V, W⟩ (sp_N_word W T N.2.1.1 N.2.1.2.1 (N3_of R).1 (fun y => absurd y q) (fun _ => JP_1 R)))
  have R1 := REL_c2 R e1 C1
  obtain ⟨c1, c2, c3, c4⟩ := N3_of R1
  refine hP _ _ _ ⟨V, W⟩ (sp_N_word W T (NB_of R1).1 (NB_of R1).2.1 c1 (fun _ h2 e2 g2 => JP_q R1 (by omega) (gNx_e e2 (by decide) (by decide)) (NB_fr (NB_of R1) e2 (by decide)) ⟨g2, ?_, ?_, ?_⟩) (fun y => absurd q y))
  · unfold NMu LMu; rw [EX_fn e2 (c := 164) (by decide) (by decide), EX_fn e2 (c := 165) (by decide) (by decide)]; exact c2
  · unfold NSm LSm; rw [EX_fn e2 (c := 166) (by decide) (by decide), EX_fn e2 (c := 167) (by decide) (by decide)]; exact c3
  · unfold NCv; rw [EX_fn e2 (c := 175) (by decide) (by decide)]; exact c4
theorem jo_suspects {w : Int} (R : REL z d k n hr h) (hP : NXT P k n f_N_suspects [(2, 138), (0, w)]) : f_B_suspects [(2, 0), (0, w)] n hr h P := by
  obtain ⟨⟨V, W⟩, ⟨hd, -⟩, O, C, N⟩ := id R
  have T := TV_s O.2.1
  refine sp_B_suspects V hd O C (fun q => hP _ _ _ ⟨V, W⟩ (sp_N_suspects W T (NB_of R) N.2.2.2.2.1 O.2.2.2.1 (fun _ => JP_1 R) (fun y => absurd y q))) (fun q h1 e1 C1 => ?_)
  have R1 := REL_c R e1 C1
  exact hP _ _ _ ⟨V, W⟩ (sp_N_suspects W T (NB_of R1) R1.2.2.2.2.2.2.2.2.1 O.2.2.2.1 (fun y => absurd q y) (fun _ h2 f2 b2 => JP_q R1 (by omega) (gNx_Z f2) b2 (N3_e (N3_of R1) f2.1 (by decide))))
theorem jo_suspect {w : Int} (R : REL z d k n hr h) (hP : NXT P k n f_N_suspect [(2, 138), (0, w)]) : f_B_suspect [(2, 0), (0, w)] n hr h P := by
  obtain ⟨⟨V, W⟩, ⟨hd, -⟩, O, C, N⟩ := id R
  have T := TV_s O.2.1
  refine sp_B_suspect V hd O C (fun q => hP _ _ _ ⟨V, W⟩ (sp_N_suspect W T (NB_of R) N.2.2.2.2.1 O.2.2.2.1 (fun _ => JP_1 R) (fun y => by omega))) (fun q h1 e1 C1 => ?_)
  have R1 := REL_c R e1 C1
  exact hP _ _ _ ⟨V, W⟩ (sp_N_suspect W T (NB_of R1) R1.2.2.2.2.2.2.2.2.1 O.2.2.2.1 (fun y => by omega) (fun _ h2 f2 b2 => JP_q R1 (by omega) (gNx_Z f2) b2 (N3_e (N3_of R1) f2.1 (by decide))))
theorem jo_next (R : REL z d k n hr h) (hk : k ≤ 100000) (hP : NXT P k n f_N_next [(2, 138)]) : f_B_next [(2, 0)] n hr h P := by
  obtain ⟨⟨V, W⟩, ⟨hd, -⟩, O, C, N⟩ := id R
  have T := TV_s O.2.1
  have e3 := (sE_3 O.2.1).1
  refine sp_B_next V hd O C hk (fun q h1 e1 C1 => ?_) (fun q h1 e1 C1 => ?_)
  · have R1 := REL_c R e1 C1
    exact hP _ _ _ ⟨V, W⟩ (sp_N_next W T (NB_of R1) R1.2.2.2.2.2.2.2.2.1 O.2.2.2.1 e3 (fun _ h2 f2 b2 => JP_q R1 (by omega) (gNx_Z f2) b2 (N3_e (N3_of R1) f2.1 (by decide))) (fun y => by omega))
  · have R1 := REL_c R e1 C1
    exact hP _ _ _ ⟨V, W⟩ (sp_N_next W T (NB_of R1) R1.2.2.2.2.2.2.2.2.1 O.2.2.2.1 e3 (fun y => by omega) (fun _ h2 f2 b2 => JP_q R1 (by omega) (gNx_Z f2) b2 (N3_e (N3_of R1) f2.1 (by decide))))
theorem jo_chance {x m : Int} (R : REL z d k n hr h) (hP : NXT P k n f_N_chance [(2, 138), (0, x), (0, m)]) : f_B_chance [(2, 0), (0, x), (0, m)] n hr h P := by
  obtain ⟨⟨V, W⟩, ⟨hd, rt, -⟩, O, C, N⟩ := id R
  have T := TV_s O.2.1
  have D4 := N.1.2.2.2.2.1.2.2.2.2
  have oD := O.2.1.2.2.2.2.1
  refine sp_B_chance V hd rt O C (fun q => hP _ _ _ ⟨V, W⟩ (sp_N_chance W T (NB_of R) O.2.2.1.1 N.2.2.2.1.1 (by rw [D4]; exact oD) (fun _ => JP_1 R) (fun y => absurd y q))) (fun q => hP _ _ _ ⟨V, W⟩ (sp_N_chance W T (NB_of R) O.2.2.1.1 N.2.2.2.1.1 (by rw [D4]; exact oD) (fun y => absurd q y) (fun _ h2 e2 => ?_)))
  rw [D4]
  exact JP_q R (by omega) (gNx_e e2 (by decide) (by decide)) (NB_fr (NB_of R) e2 (by decide)) (N3_e (N3_of R) e2 (by decide))
end
