-- deps: 18 19 20 21 22 23 24 25 26 27 28 29 30 31 32 33 34 35 36 37 38 39 40 41 42 43 44 45 46 47 48 49 50 51 52 53 54 55 56 57 58 59 60 61 62 63 64 65 66 67 68 69 70 71 72 73 74 75 76 77 78 79 80 81 82 83 84 85 86 87 88 89 90 91 92 93 94 95 96 97 98 99 9A 9B 9C 9D 9E 9F 9G 9H 9I 9J 9K 9L 9M 9N 9O 9P 9Q 9R 9S 9T 9U 9V 9W 9X 9Y 9Z A0 A1 A2 A3 A4 A5 A6 A7
/-! all that the class holds, all that the reference holds -/
abbrev LGT := List (Nat × Int)
/-- what is known at a time: the tape, how long it is, the fault, its place, the text, the machine that is built, the log, what can be undone, whether there is an image, its machine, its log -/
abbrev ST := (Int → Int) × Nat × Int × Int × DS × (Int → Int) × (Int → Int) × LGT × ML × Nat × (Int → Int) × (Int → Int) × LGT
def zT (z : ST) : Int → Int := z.1
def zL (z : ST) : Nat := z.2.1
def zF (z : ST) : Int := z.2.2.1
def zP (z : ST) : Int := z.2.2.2.1
def zS (z : ST) : DS := z.2.2.2.2.1
def zt (z : ST) : Int → Int := z.2.2.2.2.2.1
def zo (z : ST) : Int → Int := z.2.2.2.2.2.2.1
def zG (z : ST) : LGT := z.2.2.2.2.2.2.2.1
def zU (z : ST) : ML := z.2.2.2.2.2.2.2.2.1
def zI (z : ST) : Nat := z.2.2.2.2.2.2.2.2.2.1
def zit (z : ST) : Int → Int := z.2.2.2.2.2.2.2.2.2.2.1
def zio (z : ST) : Int → Int := z.2.2.2.2.2.2.2.2.2.2.2.1
def ziG (z : ST) : LGT := z.2.2.2.2.2.2.2.2.2.2.2.2
/-- a machine that may be built -/
def bOK (s : DS) (t o : Int → Int) : Prop := mok t o ∧ clo (dN s).length t
/-- bounds -/
def zOK (z : ST) : Prop := zL z ≤ 700 ∧ dOK (zS z) ∧ bOK (zS z) (zt z) (zo z) ∧ LGok (dJ (zS z)).length (zG z) ∧ ((zU z).length ≤ 20 ∧ ∀ m ∈ zU z, bOK (zS z) m.1 m.2) ∧ (zI z = 0 ∨ (zI z = 1 ∧ bOK (zS z) (zit z) (zio z) ∧ LGok (dJ (zS z)).length (ziG z)))
section
variable {h h1 : HP}
/-! the class, by groups of cells -/
def C1 (T : Int → Int) (L : Nat) (f p : Int) (d : Int) (s : DS) (h : HP) : Prop := TPc T h ∧ h 1 2 = (L : Int) ∧ h 1 3 = f ∧ h 1 4 = p ∧ DFT d s h
theorem C1_fr {T : Int → Int} {L : Nat} {f p d : Int} {s : DS} (hd : d = 3 ∨ d = 8) (H : C1 T L f p d s h) (e : ∀ c : Int, 1 ≤ c → c ≤ 12 → h1 c = h c) : C1 T L f p d s h1 := by
  obtain ⟨a, b, c, g, k⟩ := H
  refine ⟨TPc_fr a (e _ (by decide) (by decide)), ?_, ?_, ?_, DFT_fr k (e _ (by omega) (by omega)) (e _ (by omega) (by omega)) (e _ (by omega) (by omega)) (e _ (by omega) (by omega)) (e _ (by omega) (by omega))⟩
  · rw [e 1 (by decide) (by decide)]; exact b
  · rw [e 1 (by decide) (by decide)]; exact c
  · rw [e 1 (by decide) (by decide)]; exact g
def C2 (s : DS) (t o : Int → Int) (h : HP) : Prop := CX (dM s) (dJ s).length (tM s) (oM s) h ∧ h 16 2 = ((dN s).length : Int) ∧ h 16 3 = ((dJ s).length : Int) ∧ TRm 16 t o h
theorem C2_fr {s : DS} {t o : Int → Int} (H : C2 s t o h) (e : ∀ c : Int, 13 ≤ c → c ≤ 18 → h1 c = h c) : C2 s t o h1 := by
  unfold C2 CX TRm
  rw [e 13 (by decide) (by decide), e 14 (by decide) (by decide), e 15 (by decide) (by decide), e 16 (by decide) (by decide), e (16 + 1) (by decide) (by decide), e (16 + 2) (by decide) (by decide)]
  exact H
def C3 (s : DS) (h : HP) : Prop := CTr (dM s) (dJ s).length (tM s) (oM s) h
theorem C3_fr {s : DS} (H : C3 s h) (e : ∀ c : Int, 19 ≤ c → c ≤ 25 → h1 c = h c) : C3 s h1 := by
  unfold C3 CTr MR
  rw [e 19 (by decide) (by decide), e 20 (by decide) (by decide), e 21 (by decide) (by decide), e 22 (by decide) (by decide), e 23 (by decide) (by decide), e 24 (by decide) (by decide), e 25 (by decide) (by decide)]
  exact H
def C4 (s : DS) (h : HP) : Prop := SC h ∧ CSg (dM s) (dJ s).length (tM s) (oM s) h ∧ CFa (dM s) (dJ s).length (tM s) (oM s) h ∧ CTt (dM s) (dJ s).length (tM s) (oM s) h
theorem C4_fr {s : DS} (H : C4 s h) (a : h1 27 = h 27) (b : h1 30 = h 30) (c : h1 31 = h 31) (d : h1 32 = h 32) (e : h1 33 = h 33) (f : h1 34 = h 34) : C4 s h1 := by
  unfold C4 SC CSg CFa CTt
  rw [a, b, c, d, e, f]
  exact H
def C5 (s : DS) (h : HP) : Prop := h 35 11 = (sE s : Int) ∧ (∀ su e : Nat, su < 2 → e < 3 → TSu (dM s) (dJ s).length (tM s) (oM s) h su e) ∧ ∀ wh : Nat, wh < 2 → TWy (dM s) (dJ s).length (tM s) (oM s) h wh
theorem TSu_fr {S I : Nat} {t o : Int → Int} {su e : Nat} (H : TSu S I t o h su e) (k : ∀ c : Int, tc su e ≤ c → c ≤ tc su e + 6 → h1 c = h c) : TSu S I t o h1 su e := by
  unfold TSu TKn TXo TXl TXw
  rw [k (tc su e) (by omega) (by omega), k (tc su e + 1) (by omega) (by omega), k (tc su e + 2) (by omega) (by omega), k (tc su e + 3) (by omega) (by omega), k (tc su e + 4) (by omega) (by omega), k (tc su e + 5) (by omega) (by omega), k (tc su e + 6) (by omega) (by omega)]
  exact H
theorem TWy_fr {S I : Nat} {t o : Int → Int} {wh : Nat} (H : TWy S I t o h wh) (k : ∀ c : Int, tw wh ≤ c → c ≤ tw wh + 6 → h1 c = h c) : TWy S I t o h1 wh := by
  unfold TWy TWn TXo TXl
  rw [k (tw wh) (by omega) (by omega), k (tw wh + 1) (by omega) (by omega), k (tw wh + 2) (by omega) (by omega), k (tw wh + 3) (by omega) (by omega), k (tw wh + 4) (by omega) (by omega), k (tw wh + 6) (by omega) (by omega)]
  exact H
theorem C5_fr {s : DS} (H : C5 s h) (a : h1 35 11 = h 35 11) (e : ∀ c : Int, 46 ≤ c → c ≤ 101 → h1 c = h c) : C5 s h1 := by
  refine ⟨by rw [a]; exact H.1, fun su k hs hk => TSu_fr (H.2.1 su k hs hk) fun c c1 c2 => e c ?_ ?_, fun wh hw => TWy_fr (H.2.2 wh hw) fun c c1 c2 => e c ?_ ?_⟩
  · unfold tc at c1; omega
  · unfold tc at c2; omega
  · unfold tw at c1; omega
  · unfold tw at c2; omega
def C6 (s : DS) (h : HP) : Prop := CMp (dM s) (dJ s).length (tM s) (oM s) h (UN (dM s) (dJ s).length (tM s) (oM s)) ∧ CEq (dM s) (dJ s).length (tM s) (oM s) h ∧ CNo (dM s) (dJ s).length (tM s) (oM s) (sE s) h ∧ CSm (dM s) (dJ s).length (tM s) (oM s) (sE s) h ∧ CCv (dM s) (dJ s).length (tM s) (oM s) (sE s) h ∧ CTl h
theorem C6_fr {s : DS} (H : C6 s h) (e : ∀ c : Int, 102 ≤ c → c ≤ 115 → h1 c = h c) : C6 s h1 := by
  unfold C6 CMp CEq EQk CNo CSm CCv CTl
  rw [e 102 (by decide) (by decide), e 104 (by decide) (by decide), e 105 (by decide) (by decide), e 109 (by decide) (by decide), e 110 (by decide) (by decide), e 111 (by decide) (by decide), e 112 (by decide) (by decide), e 113 (by decide) (by decide), e 114 (by decide) (by decide), e 115 (by decide) (by decide)]
  exact H
def C7 (G : LGT) (h : HP) : Prop := LGr h 118 G
theorem C7_fr {G : LGT} (H : C7 G h) (e : ∀ c : Int, 118 ≤ c → c ≤ 120 → h1 c = h c) : C7 G h1 := by
  unfold C7 LGr
  rw [e 118 (by decide) (by decide), e (118 + 1) (by decide) (by decide), e (118 + 2) (by decide) (by decide)]
  exact H
def C8 (s : DS) (G : LGT) (k : Nat) (h : HP) : Prop := XK (dM s) (dJ s).length (tM s) (oM s) G h ∧ XNx (dM s) (dJ s).length (tM s) (oM s) (sE s) G h ∧ STB h ∧ h 121 12 ≤ 13125 * (k : Int)
theorem C8_fr {s : DS} {G : LGT} {k : Nat} (H : C8 s G k h) (a : h1 121 = h 121) (b : h1 125 = h 125) (c : h1 131 = h 131) : C8 s G k h1 := by
  unfold C8 XK XKn XNx STB
  rw [a, b, c]
  exact H
def C9 (U : ML) (h : HP) : Prop := (0 ≤ h 0 13 ∧ h 0 13 < 20) ∧ h 0 14 = (U.length : Int) ∧ ∀ (k : Nat) p, U[k]? = some p → PKd 133 (24 * ((h 0 13 + (k : Int)) % 20)) p.1 p.2 h
theorem C9_fr {U : ML} (H : C9 U h) (a : h1 0 13 = h 0 13) (b : h1 0 14 = h 0 14) (c : h1 133 = h 133) : C9 U h1 := by
  unfold C9 PKd
  rw [a, b, c]
  exact H
def C10 (i : Nat) (t o : Int → Int) (G : LGT) (h : HP) : Prop := h 0 15 = (i : Int) ∧ (i = 1 → PKd 134 0 t o h ∧ LGr h 135 G)
theorem C10_fr {i : Nat} {t o : Int → Int} {G : LGT} (H : C10 i t o G h) (a : h1 0 15 = h 0 15) (e : ∀ c : Int, 134 ≤ c → c ≤ 137 → h1 c = h c) : C10 i t o G h1 := by
  unfold C10 PKd LGr
  rw [a, e 134 (by decide) (by decide), e 135 (by decide) (by decide), e (135 + 1) (by decide) (by decide), e (135 + 2) (by decide) (by decide)]
  exact H
/-- the class; k is how many questions what to ask next there were at most -/
def CAL (z : ST) (d : Int) (k : Nat) (h : HP) : Prop := C1 (zT z) (zL z) (zF z) (zP z) d (zS z) h ∧ C2 (zS z) (zt z) (zo z) h ∧ C3 (zS z) h ∧ C4 (zS z) h ∧ C5 (zS z) h ∧ C6 (zS z) h ∧ C7 (zG z) h ∧ C8 (zS z) (zG z) k h ∧ C9 (zU z) h ∧ C10 (zI z) (zit z) (zio z) (ziG z) h
theorem CAL_fr {z : ST} {d : Int} {k : Nat} (hd : d = 3 ∨ d = 8) (H : CAL z d k h) (e : ∀ c : Int, 0 ≤ c → c < 138 → h1 c = h c) : CAL z d k h1 := by
  obtain ⟨a1, a2, a3, a4, a5, a6, a7, a8, a9, a10⟩ := H
  refine ⟨C1_fr hd a1 fun c p q => e c (by omega) (by omega), C2_fr a2 fun c p q => e c (by omega) (by omega), C3_fr a3 fun c p q => e c (by omega) (by omega), C4_fr a4 (e _ (by decide) (by decide)) (e _ (by decide) (by decide)) (e _ (by decide) (by decide)) (e _ (by decide) (by decide)) (e _ (by decide) (by decide)) (e _ (by decide) (by decide)), C5_fr a5 (by rw [e 35 (by decide) (by decide)]) fun c p q => e c (by omega) (by omega), C6_fr a6 fun c p q => e c (by omega) (by omega), C7_fr a7 fun c p q => e c (by omega) (by omega), C8_fr a8 (e _ (by decide) (by decide)) (e _ (by decide) (by decide)) (e _ (by decide) (by decide)), C9_fr a9 (by rw [e 0 (by decide) (by decide)]) (by rw [e 0 (by decide) (by decide)]) (e _ (by decide) (by decide)), C10_fr a10 (by rw [e 0 (by decide) (by decide)]) fun c p q => e c (by omega) (by omega)⟩
/-! the reference, by groups of cells -/
def N1 (T : Int → Int) (L : Nat) (f p : Int) (s : DS) (h : HP) : Prop := TPn T h ∧ h 138 2 = (L : Int) ∧ h 138 18 = f ∧ h 138 19 = p ∧ NTd s h
theorem N1_fr {T : Int → Int} {L : Nat} {f p : Int} {s : DS} (H : N1 T L f p s h) (a : h1 138 2 = h 138 2) (b : h1 138 18 = h 138 18) (c : h1 138 19 = h 138 19) (e : ∀ c : Int, 139 ≤ c → c ≤ 146 → h1 c = h c) : N1 T L f p s h1 := ⟨TPn_fr H.1 (e _ (by decide) (by decide)), by rw [a]; exact H.2.1, by rw [b]; exact H.2.2.1, by rw [c]; exact H.2.2.2.1, NTd_fr H.2.2.2.2 fun c p q => e c (by omega) q⟩
def N2 (s : DS) (h : HP) : Prop := NB (dM s) (dJ s).length (tM s) (oM s) (sE s) h
def N3 (s : DS) (h : HP) : Prop := NFa (dM s) (dJ s).length (tM s) (oM s) h ∧ NMu (dM s) (dJ s).length (tM s) (oM s) (sE s) h ∧ NSm (dM s) (dJ s).length (tM s) (oM s) (sE s) h ∧ NCv (dM s) (dJ s).length (tM s) (oM s) (sE s) h
theorem N3_fr {s : DS} (H : N3 s h) (a : h1 171 = h 171) (b : h1 172 = h 172) (c : h1 164 = h 164) (d : h1 165 = h 165) (e : h1 166 = h 166) (f : h1 167 = h 167) (g : h1 175 = h 175) : N3 s h1 := by
  unfold N3 NFa NMu LMu NSm LSm NCv
  rw [a, b, c, d, e, f, g]
  exact H
def N4 (t o : Int → Int) (h : HP) : Prop := NM 24 t o h ∧ NO h
theorem N4_fr {t o : Int → Int} (H : N4 t o h) (a : h1 147 = h 147) (b : h1 148 = h 148) : N4 t o h1 := ⟨NM_fr H.1 a b, by unfold NO; rw [a, b]; exact H.2⟩
def N5 (G : LGT) (h : HP) : Prop := LGn h G
theorem N5_fr {G : LGT} (H : N5 G h) (a : h1 138 61 = h 138 61) (b : h1 176 = h 176) (c : h1 177 = h 177) : N5 G h1 := by
  unfold N5 LGn; rw [a, b, c]; exact H
def N6 (U : ML) (h : HP) : Prop := NPs U h
theorem N6_fr {U : ML} (H : N6 U h) (a : h1 138 67 = h 138 67) (b : h1 180 = h 180) : N6 U h1 := NPs_fr H a b
def N7 (i : Nat) (t o : Int → Int) (G : LGT) (h : HP) : Prop := h 138 69 = (i : Int) ∧ (i = 1 → NIm t o G h)
theorem N7_fr {i : Nat} {t o : Int → Int} {G : LGT} (H : N7 i t o G h) (a : h1 138 69 = h 138 69) (b : h1 138 68 = h 138 68) (c : h1 176 = h 176) (d : h1 177 = h 177) (e : h1 180 = h 180) : N7 i t o G h1 := by
  unfold N7 NIm KPd; rw [a, b, c, d, e]; exact H
def NAL (z : ST) (h : HP) : Prop := N1 (zT z) (zL z) (zF z) (zP z) (zS z) h ∧ N2 (zS z) h ∧ N3 (zS z) h ∧ N4 (zt z) (zo z) h ∧ N5 (zG z) h ∧ N6 (zU z) h ∧ N7 (zI z) (zit z) (zio z) (ziG z) h
theorem N2_fr {s : DS} (H : N2 s h) (e : ∀ c ∈ NBc, h1 c = h c) (a : h1 138 23 = h 138 23) (b : h1 138 29 = h 138 29) (c : h1 138 31 = h 138 31) : N2 s h1 := by
  obtain ⟨b1, b2, b3, b4, b5, b6⟩ := H
  refine ⟨?_, ?_, ?_, ?_, ?_, ?_⟩
  · unfold NX; rw [e 140 (by decide), e 147 (by decide), e 148 (by decide)]; exact b1
  · unfold NP; rw [e 149 (by decide), e 153 (by decide), e 154 (by decide), a, b]; exact b2
  · unfold NSg; rw [e 155 (by decide), c]; exact b3
  · exact NWy_fr b4 (e 156 (by decide)) (e 157 (by decide)) (e 158 (by decide))
  · unfold NSu RW; rw [e 161 (by decide), e 162 (by decide)]; exact b5
  · unfold NEx; rw [e 140 (by decide)]; exact b6
theorem NAL_fr {z : ST} (H : NAL z h) (e : ∀ c : Int, 138 ≤ c → c ≤ 180 → h1 c = h c) : NAL z h1 := by
  obtain ⟨a1, a2, a3, a4, a5, a6, a7⟩ := H
  have e8 := e 138 (by decide) (by decide)
  refine ⟨N1_fr a1 (by rw [e8]) (by rw [e8]) (by rw [e8]) fun c p q => e c (by omega) (by omega), N2_fr a2 (fun c hc => e c (by revert c; decide) (by revert c; decide)) (by rw [e8]) (by rw [e8]) (by rw [e8]), N3_fr a3 (e _ (by decide) (by decide)) (e _ (by decide) (by decide)) (e _ (by decide) (by decide)) (e _ (by decide) (by decide)) (e _ (by decide) (by decide)) (e _ (by decide) (by decide)) (e _ (by decide) (by decide)), N4_fr a4 (e _ (by decide) (by decide)) (e _ (by decide) (by decide)), N5_fr a5 (by rw [e8]) (e _ (by decide) (by decide)) (e _ (by decide) (by decide)), N6_fr a6 (by rw [e8]) (e _ (by decide) (by decide)), N7_fr a7 (by rw [e8]) (by rw [e8]) (e _ (by decide) (by decide)) (e _ (by decide) (by decide)) (e _ (by decide) (by decide))⟩
end
