/-! the steps, an instruction each: copies, calls -/
section SND7
variable {p : Program} {l : Launch} {e : Env} {R : Room} {s : State} {m : MethodId} {args : Array Value} {below : List Frame} {meth : Method} {c : Code} {D : va_G} {cid : Nat → ClassId} {B0 : Nat} {xa : Nat → Nat} {nL n0 lim : Nat} {ad0 : Nat → Nat} {gx gy : Nat} {Qf : State → Prop} {cc : ByteArray} {own : String} {isInit : Bool} {E2 : (Nat → Nat) → State → Heap → Prop} {Kc : List Jvm.Cond} {cal : List ai_I} {fr lo : Nat} {rt : Option FieldType} {orc : Nat → SP} {X : XE} {Q : RP} {pc len a b d t n : Nat} {z : Int} {tl : List (Int × Nat)} {L : List (Option AV)} {S : List AV} {hr h : HP}
theorem cp_ne {h : HP} {s0 sp d0 dp len : Int} {c : Int} (hc : c ≠ d0) (j : Int) : ai_cp h s0 sp d0 dp len c j = h c j := by
  unfold ai_cp; rw [if_neg (fun q => hc q.1)]
theorem IH_cp {n : Nat} {hr h : HP} {s0 sp d0 dp len : Int} {t : Nat} (hI : ai_IH n hr h) (hs : 0 ≤ s0 ∧ s0 < (n : Int)) (hks : ai_k s0 = 50 + t) (hkd : ai_k d0 = 50 + t) (ht : t = 0 ∨ t = 1) : ai_IH n hr (ai_cp h s0 sp d0 dp len) := by
  intro c j h1 h2
  by_cases hq : c = d0 ∧ dp ≤ j ∧ j < dp + len
  · unfold ai_cp
    rw [if_pos hq]
    have hv := hI s0 (sp + (j - dp)) hs.1 hs.2
    rw [tg_arr hks] at hv
    rw [hq.1, tg_arr hkd]
    rcases ht with rfl | rfl <;> exact hv
  · unfold ai_cp
    rw [if_neg hq]
    exact hI c j h1 h2
theorem pop_inv {k : List AV → List AV → Prop} : ∀ (b : Nat) (A S : List AV), ai_pop b A S k → ∃ As R, As.length = b ∧ S = As.reverse ++ R ∧ k (As ++ A) R
  | 0, A, S, q => ⟨[], S, rfl, rfl, q⟩
  | b + 1, A, [], q => q.elim
  | b + 1, A, v :: S, q => by
    obtain ⟨As, R, h1, h2, h3⟩ := pop_inv b (v :: A) S q
    exact ⟨As ++ [v], R, by simp [h1], by simp [h2], by simpa using h3⟩
theorem bd_inv {z : Int} {n lim : Nat} {k : Prop} (q : ai_bd z n lim k) (hn : n ≤ lim) : (n : Int) + z ≤ (lim : Int) ∧ k := by
  unfold ai_bd at q
  split at q
  · exact ⟨by omega, q⟩
  · exact q
theorem k_ne98 (c : Int) : ai_k c ≠ 98 := by
  have key : ai_shl.all (fun q => decide (q.1 ≠ 98)) = true := by decide +kernel
  unfold ai_k
  cases hq : ai_nth ai_shl c.toNat with
  | none => simp
  | some q =>
    rw [nth_eq] at hq
    have := List.all_eq_true.mp key q (List.mem_of_getElem? hq)
    simpa using this
theorem rc_inv {d0 : Nat} {A : List AV} (q : ai_rc d0 n A) : (∃ x As', A = (2, x) :: As' ∧ ai_ok n x d0) ∨ ∃ x As', A = (5, x) :: As' ∧ d0 = 98 := by
  unfold ai_rc at q
  split at q
  · exact Or.inl ⟨_, _, rfl, q⟩
  · exact Or.inr ⟨_, _, rfl, q⟩
  · exact q.elim
theorem SI_app {A B : List AV} : ai_SI n (A ++ B) ↔ ai_SI n A ∧ ai_SI n B := by
  unfold ai_SI
  simp only [List.mem_append]
  exact ⟨fun h => ⟨fun v hv => h v (Or.inl hv), fun v hv => h v (Or.inr hv)⟩, fun h v hv => hv.elim (h.1 v) (h.2 v)⟩
theorem SI_rev {A : List AV} : ai_SI n A.reverse ↔ ai_SI n A := by
  unfold ai_SI; simp
/-- the callee's start, from the caller's state -/
theorem pw_of (F : ai_F p s m args meth c cc nL own isInit D cid B0 xa E2 Kc) {ad : Nat → Nat} {H : Heap} {locs : List Loc} (h4 : ai_W D cid B0 ad n hr h H) (h9 : va_S (fun q : Nat => B0 ≤ q) s.heap H locs) {U : State} (hU : U.heap = H) (hW : s.WarmedH U.vm) : ai_Pw E2 D cid B0 xa ad n hr h U := by
  have kept : ∀ q : Nat, q < s.heap.size → ¬ B0 ≤ q → H[q]? = s.heap[q]? := h9.2.1
  refine ⟨?_, by rw [hU]; exact h4, va_K.moved hW.alike F.2.2.2.2.2.2.1, ?_⟩
  · rw [hU]; exact Nat.le_trans F.2.2.2.2.2.2.2.1 h9.1
  · rw [hU]
    obtain ⟨e1, e2, e3⟩ := F.2.2.2.2.2.2.2.2.1
    exact ⟨(e1.kept kept).moved hW.alike, (e2.kept kept).moved hW.alike, F.2.2.2.2.2.2.2.2.2.1.1 xa s U H hW (F.2.2.2.2.2.2.2.2.2.1.2.1 xa s s.heap H kept e3)⟩
theorem pc_blind (hE : ai_E2ok B0 E2) {ad : Nat → Nat} {av : List Value} : FrameBlind (va_Pc av (ai_Pw E2 D cid B0 xa ad n hr h)) := by
  intro a U g mk hq
  obtain ⟨q0, q1, q2, q3, q4, q5, q6⟩ := hq
  exact ⟨q0, q1, q2, va_K.moved (u := U) (U := U.calling g mk a) (Vm.Alike.refl U.vm) q3, va_Z.moved (u := U) (U := U.calling g mk a) (Vm.Alike.refl U.vm) q4, va_T.moved (u := U) (U := U.calling g mk a) (Vm.Alike.refl U.vm) q5, hE.2.2.1 xa U U.heap g mk a q6⟩
/-- behind a call -/
theorem sn_back {tag al : Nat} {A R' : List AV} {ad : Nat → Nat} {H : Heap} {locs : List Loc} {ls : Array Slot} {st0 : List Value} {pc' : Nat} (hpc : pc' = pc + 3)
    (hr0 : va_Run p l e R s m args below meth c H locs (n - n0 + gx) (ai_cs n - ai_cs n0 + gy) al (ai_cs (n + al) - ai_cs n) (F0 m pc ls st0) (R'.map (ai_cv ad xa)) (ai_Qc tag D cid B0 ad n al (fun r n' hr' h' => ai_PS p l e R s m args below meth c D cid B0 xa nL n0 lim ad0 gx gy Qf pc' L (ai_push t r R') n' hr' h') (A.map (ai_cv ad xa)).toArray) (fun q : Nat => B0 ≤ q))
    (ht : t = (if tag = 3 then 0 else tag)) (htag : tag = 0 ∨ tag = 1 ∨ tag = 2 ∨ tag = 3 ∨ tag = 9) (h1 : n0 ≤ n) (hlim : n + al ≤ lim) (h3 : ∀ q, q < n0 → ad q = ad0 q) (h6 : ai_LR ad xa ls nL L) (h7 : ai_LI n L) (h8 : ai_SI n R') (h9 : va_S (fun q : Nat => B0 ≤ q) s.heap H locs) :
    W p l e R s m args below meth c H locs (n - n0 + gx) (ai_cs n - ai_cs n0 + gy) Qf (F0 m pc ls st0) := by
  subst hpc
  have e1 : n - n0 + gx + al = n + al - n0 + gx := by omega
  have e2 : ai_cs n - ai_cs n0 + gy + (ai_cs (n + al) - ai_cs n) = ai_cs (n + al) - ai_cs n0 + gy := by
    have := cs_mono h1
    have := cs_mono (show n ≤ n + al by omega)
    omega
  -- what the callee's end gives
  have go : ∀ (u : ai_U) (tt : State) (H1 : Heap) (locs1 : List Loc) (r : AV), tt.heap = H1 → ai_Bw D cid B0 ad n al u tt → va_S (fun q : Nat => B0 ≤ q) s.heap H1 locs1 → ai_PS p l e R s m args below meth c D cid B0 xa nL n0 lim ad0 gx gy Qf (pc + 3) L (ai_push t r R') u.1 u.2.1 u.2.2.1 → (ai_SI u.1 R' → ai_SI u.1 (ai_push t r R')) →
      W p l e R s m args below meth c H1 locs1 (n + al - n0 + gx) (ai_cs (n + al) - ai_cs n0 + gy) Qf (F0 m (pc + 3) ls ((ai_push t r R').map (ai_cv u.2.2.2 xa))) := by
    intro u tt H1 locs1 r hH1 hB hS1 hk hSI
    obtain ⟨b1, b2, b3, b4⟩ := hB
    rw [← b1]
    subst hH1
    exact hk u.2.2.2 tt.heap locs1 ls (by omega) (by omega) (fun q hq => (b2 q (by omega)).trans (h3 q hq)) b4 b3 (LR_ext h6 h7 b2) (LI_le h7 (by omega)) (hSI (SI_le h8 (by omega))) hS1
  rcases htag with rfl | rfl | rfl | rfl | rfl
  · refine va_calli (a := (A.map (ai_cv ad xa)).toArray) hr0 h9 (fun q _ hq => hq) (fun q hq => hq) fun r u tt H1 locs1 hH1 hal hp hB hz hk hS1 => ?_
    have := go u tt H1 locs1 (0, r.toInt) hH1 hB hS1 hp (fun hS => by subst ht; exact SI_cons.mpr ⟨i32_of r, hS⟩)
    rw [e1, e2]
    subst ht
    simp only [if_neg (show ¬ (0 = 3) by decide)] at this
    rw [show (ai_push 0 (0, r.toInt) R') = (0, r.toInt) :: R' from rfl, List.map_cons, map_ext h8 hB.2.1, show ai_cv u.2.2.2 xa (0, r.toInt) = .int (Int32.ofInt r.toInt) from rfl, Int32.ofInt_toInt] at this
    exact this
  · refine va_calll (a := (A.map (ai_cv ad xa)).toArray) hr0 h9 (fun q _ hq => hq) (fun q hq => hq) fun r u tt H1 locs1 hH1 hal hp hB hz hk hS1 => ?_
    have := go u tt H1 locs1 (1, r.toInt) hH1 hB hS1 hp (fun hS => by subst ht; exact SI_cons.mpr ⟨i64_of r, hS⟩)
    rw [e1, e2]
    subst ht
    simp only [if_neg (show ¬ (1 = 3) by decide)] at this
    rw [show (ai_push 1 (1, r.toInt) R') = (1, r.toInt) :: R' from rfl, List.map_cons, map_ext h8 hB.2.1, show ai_cv u.2.2.2 xa (1, r.toInt) = .long (Int64.ofInt r.toInt) from rfl, Int64.ofInt_toInt] at this
    exact this
  · refine va_callq (a := (A.map (ai_cv ad xa)).toArray) hr0 h9 (fun q _ hq => hq) (fun q hq => hq) fun r u tt H1 locs1 hH1 hal hp hB hz hk hS1 => ?_
    obtain ⟨x, x1, x2, x3, hp⟩ := hp
    have := go u tt H1 locs1 (2, x) hH1 hB hS1 hp (fun hS => by subst ht; exact SI_cons.mpr ⟨⟨x1, x2⟩, hS⟩)
    rw [e1, e2]
    subst ht
    simp only [if_neg (show ¬ (2 = 3) by decide)] at this
    rw [show (ai_push 2 (2, x) R') = (2, x) :: R' from rfl, List.map_cons, map_ext h8 hB.2.1, show ai_cv u.2.2.2 xa (2, x) = va_rf (ai_ro u.2.2.2 x) from rfl, ← x3] at this
    exact this
  · refine va_calli (a := (A.map (ai_cv ad xa)).toArray) hr0 h9 (fun q _ hq => hq) (fun q hq => hq) fun r u tt H1 locs1 hH1 hal hp hB hz hk hS1 => ?_
    have := go u tt H1 locs1 (0, r.toInt) hH1 hB hS1 hp (fun hS => by subst ht; exact SI_cons.mpr ⟨i32_of r, hS⟩)
    rw [e1, e2]
    subst ht
    rw [show (if (3 : Nat) = 3 then 0 else 3) = 0 from rfl] at this
    rw [show (ai_push 0 (0, r.toInt) R') = (0, r.toInt) :: R' from rfl, List.map_cons, map_ext h8 hB.2.1, show ai_cv u.2.2.2 xa (0, r.toInt) = .int (Int32.ofInt r.toInt) from rfl, Int32.ofInt_toInt] at this
    exact this
  · refine va_callv (a := (A.map (ai_cv ad xa)).toArray) hr0 h9 (fun q _ hq => hq) (fun q hq => hq) fun u tt H1 locs1 hH1 hal hp hB hz hk hS1 => ?_
    have := go u tt H1 locs1 (9, 0) hH1 hB hS1 hp (fun hS => by subst ht; exact hS)
    rw [e1, e2]
    subst ht
    simp only [if_neg (show ¬ (9 = 3) by decide)] at this
    rw [show (ai_push 9 (9, 0) R') = R' from rfl, map_ext h8 hB.2.1] at this
    exact this

/-- what is known of a call that was looked at -/
theorem ct_inv {kind idx : Nat} (hcal : ∀ (a : Nat) (i : ai_I), ai_nth cal a = some i → ai_S E2 i (orc a) ∧ ai_CW i) (hg : ai_ct own Kc cal fr lo kind idx a b d t z tl = true) : ∃ (y : MethodName) (c2 : ByteArray) (mL : Nat) (ret : Option FieldType) (tag f2 l2 al na cls : Nat), ai_S E2 (y, c2, mL, ret, tag, f2, l2, al, na, kind, cls) (orc a) ∧ ai_CW (y, c2, mL, ret, tag, f2, l2, al, na, kind, cls) ∧ ai_wm own Kc d idx y = true ∧ f2 + 1 ≤ fr ∧ 8 + (mL + 11) + l2 ≤ lo ∧ z = (al : Int) ∧ b = (if kind = 1 then na else na + 1) ∧ t = (if tag = 3 then 0 else tag) ∧ tag = ai_rtag ret ∧ tag ≠ 8 ∧ ai_tl tl = cls := by
  unfold ai_ct at hg
  split at hg
  · rename_i y c2 mL ret tag f2 l2 al na k2 cls hq
    simp only [Bool.and_eq_true, decide_eq_true_eq] at hg
    obtain ⟨⟨⟨⟨⟨⟨⟨⟨⟨g0, g1⟩, g2⟩, g3⟩, g4⟩, g5⟩, g6⟩, g7⟩, g8⟩, g9⟩ := hg
    subst g5
    obtain ⟨c1, c3⟩ := hcal a _ hq
    exact ⟨y, c2, mL, ret, tag, f2, l2, al, na, cls, c1, c3, g1, g2, g3, g4, g6, g7, g8, g9, g0⟩
  · cases hg
theorem rtag_in {ret : Option FieldType} {tag : Nat} (h : tag = ai_rtag ret) (h8 : tag ≠ 8) : tag = 0 ∨ tag = 1 ∨ tag = 2 ∨ tag = 3 ∨ tag = 9 := by
  subst h
  unfold ai_rtag at h8 ⊢
  split <;> simp_all
theorem wm_inv {idx : Nat} {y : MethodName} (F : ai_F p s m args meth c cc nL own isInit D cid B0 xa E2 Kc) (h : ai_wm own Kc d idx y = true) : (Jvm.Cond.methodLink own idx y).before args s = true ∨ (Jvm.Cond.methodLinkNest own idx y "SuiteBench").before args s = true := by
  unfold ai_wm at h
  split at h
  · rename_i w hw
    simp only [Bool.or_eq_true, decide_eq_true_eq] at h
    rcases h with h | h
    · subst h; exact Or.inl (kc_word F hw)
    · subst h; exact Or.inr (kc_word F hw)
  · cases h
/-- the words that a callee wants stand at its start -/
theorem ws_warm {y : MethodName} {c2 : ByteArray} {mL : Nat} {ret : Option FieldType} (F : ai_F p s m args meth c cc nL own isInit D cid B0 xa E2 Kc) (h : Jvm.Cond.code y c2 mL ret ∈ ai_gw) : ∀ w ∈ (Jvm.Cond.code y c2 mL ret :: ai_gw), ∀ (a' : Array Value) (U : State), s.WarmedH U.vm → w.before a' U = true := fun w hw a' U hW => (List.mem_cons.mp hw).elim (fun e => by subst e; exact gw_warm h hW (F.2.2.2.2.1 _ h)) fun e => gw_warm e hW (F.2.2.2.2.1 _ e)
theorem na_of {y : MethodName} {na : Nat} (h : (parseMethodDescriptor y.desc).map (fun d => d.parameters.length) = some na) : ∀ sig, parseMethodDescriptor y.desc = some sig → na = sig.parameters.length := fun sig h2 => by
  rw [h2] at h
  exact (Option.some.inj h).symm
theorem s_invokevirtual {idx : Nat} (F : ai_F p s m args meth c cc nL own isInit D cid B0 xa E2 Kc) (hR : ai_RM R fr lo n0 lim gx gy) (hcal : ∀ (a : Nat) (i : ai_I), ai_nth cal a = some i → ai_S E2 i (orc a) ∧ ai_CW i) (hfl : l.flags = flags0) (g : ai_chk own cc nL Kc cal fr lo isInit rt (pc, .invokevirtual idx, len, a, b, d, t, z, tl) = true) (q : ai_st orc lim X (pc, .invokevirtual idx, len, a, b, d, t, z, tl) (ai_PS p l e R s m args below meth c D cid B0 xa nL n0 lim ad0 gx gy Qf) L S n hr h Q) : ai_PS p l e R s m args below meth c D cid B0 xa nL n0 lim ad0 gx gy Qf pc L S n hr h := by
  simp only [ai_chk, Bool.and_eq_true, decide_eq_true_eq, Bool.or_eq_true] at g
  simp only [ai_st] at q
  obtain ⟨hd, rfl, g⟩ := g
  obtain ⟨y, c2, mL, ret, tag, f2, l2, al, na, cls, hS2, hCW, hwm, hf2, hl2, hz, hb, ht, htag, ht8, htl⟩ := ct_inv hcal g
  obtain ⟨w1, w2, w3, w4⟩ := hCW
  simp only at w4
  obtain ⟨As, R', hAs, rfl, hrc, hq⟩ := pop_inv b [] S q
  simp only [List.append_nil] at hrc hq
  intro ad H locs ls h1 h2 h3 h4 h5 h6 h7 h8 h9
  obtain ⟨hlim, hq⟩ := bd_inv hq h2
  obtain ⟨hcat, hq⟩ := k8_cat (ad := ad) (xa := xa) hq
  obtain ⟨hSA, hSR⟩ := SI_app.mp h8
  rw [SI_rev] at hSA
  obtain ⟨i1, i2, w4⟩ := w4
  -- the receiver, of whichever kind
  obtain ⟨v0, As', q0, rfl, hcv, hrecv⟩ : ∃ (v0 : AV) (As' : List AV) (q0 : Nat), As = v0 :: As' ∧ ai_cv ad xa v0 = .ref q0 ∧ ∃ cell : Cell, H[q0]? = some cell ∧ cell.vm.isStatics = false ∧ s.vm.findClass y.cls = some cell.cls := by
    rcases rc_inv hrc with ⟨x, As', rfl, hrc⟩ | ⟨x, As', rfl, hrc⟩
    · obtain ⟨q0, rfl, hq0, hk0⟩ := ok_nat hrc
      rw [htl] at hk0
      rcases w4 with ⟨T, N, hC⟩ | ⟨w4, -⟩
      · have hcls : cls < 13 := by
          have := (List.getElem?_eq_some_iff.mp hC).1
          simpa [vwCl] using this
        have hget : (ai_ws cid ad n hr h)[q0]? = some (ad q0, .inr (cls, ai_fs ad cls hr h (q0 : Int))) := by rw [ws_get hq0, ce_obj hk0 (by omega)]
        exact ⟨_, _, ad q0, rfl, cv_ref _ _ _, va_recv F.2.2.2.2.2.2.1 h4.1 hC hget⟩
      · exact absurd (hk0.trans w4) (k_ne98 _)
    · rcases w4 with ⟨T, N, hC⟩ | ⟨-, w4⟩
      · have hcls : cls < 13 := by
          have := (List.getElem?_eq_some_iff.mp hC).1
          simpa [vwCl] using this
        omega
      · rw [w4]
        obtain ⟨cell, e1, e2, e3⟩ := (F.2.2.2.2.2.2.2.2.2.1.2.2.2 xa s s.heap F.2.2.2.2.2.2.2.2.1.2.2).2
        have hlt := (Array.getElem?_eq_some_iff.mp e1).1
        have hE2 := F.2.2.2.2.2.2.2.2.2.1.2.1 xa s s.heap H h9.2.1 F.2.2.2.2.2.2.2.2.1.2.2
        exact ⟨_, _, xa 2, rfl, rfl, (F.2.2.2.2.2.2.2.2.2.1.2.2.2 xa s H hE2).2⟩
  have hM := hS2 l D cid B0 xa ad _ n hr h _ hfl F.2.2.2.2.2.2.2.2.2.1 hq hSA h5
  have hna : (As'.map (ai_cv ad xa)).length = na := by
    simp only [List.length_map]
    simp only [List.length_cons] at hAs
    rw [hb] at hAs
    simp at hAs
    exact hAs
  have hpre : PreV s H y.cls q0 (va_Pc ((v0 :: As').map (ai_cv ad xa)) (ai_Pw E2 D cid B0 xa ad n hr h)) (As'.map (ai_cv ad xa)) :=
    ⟨pc_blind F.2.2.2.2.2.2.2.2.2.1, hrecv, fun U hU hW => ⟨by rw [List.map_cons, hcv], pw_of F h4 h9 hU hW⟩⟩
  have hrooms : n - n0 + gx + al ≤ R.cells ∧ ai_cs n - ai_cs n0 + gy + (ai_cs (n + al) - ai_cs n) ≤ R.slots := by
    have k1 := cs_mono h1
    have k2 := cs_mono (show n ≤ n + al by omega)
    have k3 := cs_mono (show n + al ≤ lim by omega)
    obtain ⟨r1, r2, r3, r4⟩ := hR
    constructor <;> omega
  have hst : ((v0 :: As').reverse ++ R').map (ai_cv ad xa) = (As'.map (ai_cv ad xa)).reverse ++ .ref q0 :: R'.map (ai_cv ad xa) := by
    simp [hcv]
  rw [hst]
  have hsz : (F0 m pc ls ((As'.map (ai_cv ad xa)).reverse ++ .ref q0 :: R'.map (ai_cv ad xa))).locals.size = nL := h6.2.1
  have hAt : ((Value.ref q0) :: As'.map (ai_cv ad xa)) = (v0 :: As').map (ai_cv ad xa) := by rw [List.map_cons, hcv]
  rcases wm_inv F hwm with hl | hl
  · have hrun := va_runV (l := l) (e := e) (R := R) (below := below) (meth := meth) (H := H) (locs := locs) (cells := n - n0 + gx) (slots := ai_cs n - ai_cs n0 + gy) (index := idx) (g := F0 m pc ls ((As'.map (ai_cv ad xa)).reverse ++ .ref q0 :: R'.map (ai_cv ad xa))) (rest := R'.map (ai_cv ad xa)) ⟨F.1, F.2.1, F.2.2.1, F.2.2.2.1, F.2.2.2.2.1⟩ hM ⟨⟨rfl, rfl, Nat.le_trans hf2 hR.1, Nat.le_trans hl2 hR.2.1, ws_warm F w1, List.mem_cons_self, F.2.2.2.2.1 _ w1, F.2.2.2.2.1 _ w2, ⟨w3.1, w3.2.1⟩, na_of w3.2.2, hl⟩, F.2.2.2.2.1 _ i1, F.2.2.2.2.1 _ i2⟩ hpre rfl hna hsz rfl (lv_room hcat) hd hrooms
    rw [hAt] at hrun
    exact sn_back (al := al) (n := n) rfl hrun ht (rtag_in htag ht8) h1 (by omega) h3 h6 h7 hSR h9
  · have hrun := va_runVN (l := l) (e := e) (R := R) (below := below) (meth := meth) (H := H) (locs := locs) (cells := n - n0 + gx) (slots := ai_cs n - ai_cs n0 + gy) (index := idx) (g := F0 m pc ls ((As'.map (ai_cv ad xa)).reverse ++ .ref q0 :: R'.map (ai_cv ad xa))) (rest := R'.map (ai_cv ad xa)) ⟨F.1, F.2.1, F.2.2.1, F.2.2.2.1, F.2.2.2.2.1⟩ hM ⟨⟨⟨rfl, rfl, Nat.le_trans hf2 hR.1, Nat.le_trans hl2 hR.2.1, ws_warm F w1, List.mem_cons_self⟩, F.2.2.2.2.1 _ w1, F.2.2.2.2.1 _ w2, ⟨w3.1, w3.2.1⟩, na_of w3.2.2, hl⟩, F.2.2.2.2.1 _ i1, F.2.2.2.2.1 _ i2⟩ hpre rfl hna hsz rfl (lv_room hcat) hd hrooms
    rw [hAt] at hrun
    exact sn_back (al := al) (n := n) rfl hrun ht (rtag_in htag ht8) h1 (by omega) h3 h6 h7 hSR h9

theorem s_invokestatic {idx : Nat} (F : ai_F p s m args meth c cc nL own isInit D cid B0 xa E2 Kc) (hR : ai_RM R fr lo n0 lim gx gy) (hcal : ∀ (a : Nat) (i : ai_I), ai_nth cal a = some i → ai_S E2 i (orc a) ∧ ai_CW i) (hfl : l.flags = flags0) (g : ai_chk own cc nL Kc cal fr lo isInit rt (pc, .invokestatic idx, len, a, b, d, t, z, tl) = true) (q : ai_st orc lim X (pc, .invokestatic idx, len, a, b, d, t, z, tl) (ai_PS p l e R s m args below meth c D cid B0 xa nL n0 lim ad0 gx gy Qf) L S n hr h Q) : ai_PS p l e R s m args below meth c D cid B0 xa nL n0 lim ad0 gx gy Qf pc L S n hr h := by
  simp only [ai_chk, Bool.and_eq_true, decide_eq_true_eq, Bool.or_eq_true] at g
  simp only [ai_st] at q
  obtain ⟨hd, rfl, g⟩ := g
  split at g
  · simp only [Bool.and_eq_true, decide_eq_true_eq] at g
    obtain ⟨⟨g1, g2⟩, g3⟩ := g
    obtain ⟨s0, sp, d0, dp, ln, R', rfl, hok, hok2, k1, k2, k3, k4, k5, hq⟩ := inv_cpy q
    obtain ⟨q0, rfl, hq0, hk0⟩ := ok_nat hok
    obtain ⟨q1, rfl, hq1, hk1⟩ := ok_nat hok2
    intro ad H locs ls h1 h2 h3 h4 h5 h6 h7 h8 h9
    obtain ⟨hcat, hq⟩ := k8_cat (ad := ad) (xa := xa) hq
    have v1 : i32 ln := (SI_cons.mp h8).1
    have v2 : i32 dp := (SI_cons.mp (SI_cons.mp h8).2).1
    have v3 : i32 sp := (SI_cons.mp (SI_cons.mp (SI_cons.mp (SI_cons.mp h8).2).2).2).1
    have hSI := (SI_cons.mp (SI_cons.mp (SI_cons.mp (SI_cons.mp (SI_cons.mp h8).2).2).2).2).2
    have hget0 : (ai_ws cid ad n hr h)[q0]? = some (ad q0, .inl (cid 0, (ai_l (q0 : Int)).toNat, ai_ar ad 0 hr h (q0 : Int))) := by rw [ws_get hq0, ce_arr (t := 0) hk0]
    have hget1 : (ai_ws cid ad n hr h)[q1]? = some (ad q1, .inl (cid 0, (ai_l (q1 : Int)).toNat, ai_ar ad 0 hr h (q1 : Int))) := by rw [ws_get hq1, ce_arr (t := 0) hk1]
    have nz : ∀ {x : Int}, i32 x → 0 ≤ x → ¬ Int32.ofInt x < 0 := fun hx hx0 z => by
      have := (e_lt hx (show i32 0 from ⟨by decide, by decide⟩)).mp z
      omega
    simp only [List.map_cons]
    rw [cv_ref, cv_ref]
    refine va_copyi F.1 F.2.1 (F.2.2.1.trans h6.2.1.symm) F.2.2.2.1 (kc_word F g1) (F.2.2.2.2.1 _ gw_cp.1) (F.2.2.2.2.1 _ gw_cp.2.1) (F.2.2.2.2.1 _ gw_cp.2.2) F.2.2.2.2.2.2.1 h4.1 h4.2 h9 q0 q1 0 0 hget0 hget1 rfl rfl rfl (nz v3 k1) (nz v2 k2) (nz v1 k3) (by rw [e_cl v3, e_cl v1]; omega) (by rw [e_cl v2, e_cl v1]; omega) (fun _ _ => rfl) (by have := hR.1; omega) (by have := hR.2.1; omega) hd fun H1 locs1 hP1 hD1 hS1 => ?_
    rw [e_cl v3, e_cl v2, e_cl v1] at hP1 hD1
    refine hq ad H1 locs1 ls h1 h2 h3 (W_set hP1 hD1 (fun _ => ?_) fun k _ hkq => ce_same (fun _ => rfl) fun j => cp_ne (by omega) j) (IH_cp (t := 0) h5 ⟨by omega, by omega⟩ hk0 hk1 (by decide)) h6 h7 hSI hS1
    rw [ce_arr (t := 0) hk1]
    congr 3
    show Sum.inl _ = Sum.inl _
    congr 1
    funext j
    unfold ai_cp va_cpy
    by_cases hj : dp.toNat ≤ j ∧ j < dp.toNat + ln.toNat
    · rw [if_pos ⟨rfl, by omega, by omega⟩, if_pos hj]
      congr 2
      omega
    · rw [if_neg (fun z => hj (by omega)), if_neg hj]
  · simp only [Bool.and_eq_true, decide_eq_true_eq] at g
    obtain ⟨⟨g1, g2⟩, g3⟩ := g
    obtain ⟨s0, sp, d0, dp, ln, R', rfl, hok, hok2, k1, k2, k3, k4, k5, hq⟩ := inv_cpy q
    obtain ⟨q0, rfl, hq0, hk0⟩ := ok_nat hok
    obtain ⟨q1, rfl, hq1, hk1⟩ := ok_nat hok2
    intro ad H locs ls h1 h2 h3 h4 h5 h6 h7 h8 h9
    obtain ⟨hcat, hq⟩ := k8_cat (ad := ad) (xa := xa) hq
    have v1 : i32 ln := (SI_cons.mp h8).1
    have v2 : i32 dp := (SI_cons.mp (SI_cons.mp h8).2).1
    have v3 : i32 sp := (SI_cons.mp (SI_cons.mp (SI_cons.mp (SI_cons.mp h8).2).2).2).1
    have hSI := (SI_cons.mp (SI_cons.mp (SI_cons.mp (SI_cons.mp (SI_cons.mp h8).2).2).2).2).2
    have hget0 : (ai_ws cid ad n hr h)[q0]? = some (ad q0, .inl (cid 1, (ai_l (q0 : Int)).toNat, ai_ar ad 1 hr h (q0 : Int))) := by rw [ws_get hq0, ce_arr (t := 1) hk0]
    have hget1 : (ai_ws cid ad n hr h)[q1]? = some (ad q1, .inl (cid 1, (ai_l (q1 : Int)).toNat, ai_ar ad 1 hr h (q1 : Int))) := by rw [ws_get hq1, ce_arr (t := 1) hk1]
    have nz : ∀ {x : Int}, i32 x → 0 ≤ x → ¬ Int32.ofInt x < 0 := fun hx hx0 z => by
      have := (e_lt hx (show i32 0 from ⟨by decide, by decide⟩)).mp z
      omega
    simp only [List.map_cons]
    rw [cv_ref, cv_ref]
    refine va_copyl F.1 F.2.1 (F.2.2.1.trans h6.2.1.symm) F.2.2.2.1 (kc_word F g1) (F.2.2.2.2.1 _ gw_cp.1) (F.2.2.2.2.1 _ gw_cp.2.1) (F.2.2.2.2.1 _ gw_cp.2.2) F.2.2.2.2.2.2.1 h4.1 h4.2 h9 q0 q1 1 1 hget0 hget1 rfl rfl rfl (nz v3 k1) (nz v2 k2) (nz v1 k3) (by rw [e_cl v3, e_cl v1]; omega) (by rw [e_cl v2, e_cl v1]; omega) (fun _ _ => rfl) (by have := hR.1; omega) (by have := hR.2.1; omega) hd fun H1 locs1 hP1 hD1 hS1 => ?_
    rw [e_cl v3, e_cl v2, e_cl v1] at hP1 hD1
    refine hq ad H1 locs1 ls h1 h2 h3 (W_set hP1 hD1 (fun _ => ?_) fun k _ hkq => ce_same (fun _ => rfl) fun j => cp_ne (by omega) j) (IH_cp (t := 1) h5 ⟨by omega, by omega⟩ hk0 hk1 (by decide)) h6 h7 hSI hS1
    rw [ce_arr (t := 1) hk1]
    congr 3
    show Sum.inr (Sum.inl _) = Sum.inr (Sum.inl _)
    congr 2
    funext j
    unfold ai_cp va_cpy
    by_cases hj : dp.toNat ≤ j ∧ j < dp.toNat + ln.toNat
    · rw [if_pos ⟨rfl, by omega, by omega⟩, if_pos hj]
      congr 2
      omega
    · rw [if_neg (fun z => hj (by omega)), if_neg hj]
  · simp only [Bool.and_eq_true, decide_eq_true_eq] at g
    obtain ⟨⟨g1, g2⟩, g3⟩ := g
    obtain ⟨x, y, R', rfl, hq⟩ := inv_i2 q
    intro ad H locs ls h1 h2 h3 h4 h5 h6 h7 h8 h9
    obtain ⟨hcat, hq⟩ := k8_cat (ad := ad) (xa := xa) hq
    have hy : i32 y := (SI_cons.mp h8).1
    have hx : i32 x := (SI_cons.mp (SI_cons.mp h8).2).1
    have hSI := (SI_cons.mp (SI_cons.mp h8).2).2
    have k1 := cs_mono h1
    have k3 := cs_mono h2
    refine va_mmax F.1 F.2.1 (F.2.2.1.trans h6.2.1.symm) F.2.2.2.1 (kc_word F g1) (F.2.2.2.2.1 _ gw_mx.1) (F.2.2.2.2.1 _ gw_mx.2.1) (F.2.2.2.2.1 _ gw_mx.2.2) (by have := hR.1; omega) (by have := hR.2.1; omega) (by have := hR.2.2.1; omega) (by have := hR.2.2.2; omega) hd ?_
    rw [e_max hx hy]
    exact hq ad H locs ls h1 h2 h3 h4 h5 h6 h7 (SI_cons.mpr ⟨(show i32 (i_max x y) by unfold i_max; split <;> assumption), hSI⟩) h9
  · simp only [Bool.and_eq_true, decide_eq_true_eq] at g
    obtain ⟨⟨g1, g2⟩, g3⟩ := g
    obtain ⟨x, y, R', rfl, hq⟩ := inv_i2 q
    intro ad H locs ls h1 h2 h3 h4 h5 h6 h7 h8 h9
    obtain ⟨hcat, hq⟩ := k8_cat (ad := ad) (xa := xa) hq
    have hy : i32 y := (SI_cons.mp h8).1
    have hx : i32 x := (SI_cons.mp (SI_cons.mp h8).2).1
    have hSI := (SI_cons.mp (SI_cons.mp h8).2).2
    have k1 := cs_mono h1
    have k3 := cs_mono h2
    refine va_mmin F.1 F.2.1 (F.2.2.1.trans h6.2.1.symm) F.2.2.2.1 (kc_word F g1) (F.2.2.2.2.1 _ gw_mn.1) (F.2.2.2.2.1 _ gw_mx.2.1) (F.2.2.2.2.1 _ gw_mn.2) (by have := hR.1; omega) (by have := hR.2.1; omega) (by have := hR.2.2.1; omega) (by have := hR.2.2.2; omega) hd ?_
    rw [e_min hx hy]
    exact hq ad H locs ls h1 h2 h3 h4 h5 h6 h7 (SI_cons.mpr ⟨(show i32 (i_min x y) by unfold i_min; split <;> assumption), hSI⟩) h9
  · rename_i ht20 ht21 ht22 ht23
    simp only at q
    obtain ⟨y, c2, mL, ret, tag, f2, l2, al, na, cls, hS2, hCW, hwm, hf2, hl2, hz, hb, ht, htag, ht8, htl⟩ := ct_inv hcal g
    obtain ⟨w1, w2, w3, w4⟩ := hCW
    simp only at w4
    obtain ⟨As, R', hAs, rfl, hq⟩ := pop_inv b [] S q
    simp only [List.append_nil] at hq
    intro ad H locs ls h1 h2 h3 h4 h5 h6 h7 h8 h9
    obtain ⟨hlim, hq⟩ := bd_inv hq h2
    obtain ⟨hcat, hq⟩ := k8_cat (ad := ad) (xa := xa) hq
    obtain ⟨hSA, hSR⟩ := SI_app.mp h8
    rw [SI_rev] at hSA
    have hM := hS2 l D cid B0 xa ad _ n hr h _ hfl F.2.2.2.2.2.2.2.2.2.1 hq hSA h5
    have hna : (As.map (ai_cv ad xa)).length = na := by
      simp only [List.length_map]
      rw [hAs, hb]; simp
    have hpre : PreS s H (va_Pc (As.map (ai_cv ad xa)) (ai_Pw E2 D cid B0 xa ad n hr h)) (As.map (ai_cv ad xa)) :=
      ⟨pc_blind F.2.2.2.2.2.2.2.2.2.1, fun U hU hW => ⟨rfl, pw_of F h4 h9 hU hW⟩⟩
    have hrooms : n - n0 + gx + al ≤ R.cells ∧ ai_cs n - ai_cs n0 + gy + (ai_cs (n + al) - ai_cs n) ≤ R.slots := by
      have k1 := cs_mono h1
      have k2 := cs_mono (show n ≤ n + al by omega)
      have k3 := cs_mono (show n + al ≤ lim by omega)
      obtain ⟨r1, r2, r3, r4⟩ := hR
      constructor <;> omega
    have hst : (As.reverse ++ R').map (ai_cv ad xa) = (As.map (ai_cv ad xa)).reverse ++ R'.map (ai_cv ad xa) := by simp
    rw [hst]
    have hsz : (F0 m pc ls ((As.map (ai_cv ad xa)).reverse ++ R'.map (ai_cv ad xa))).locals.size = nL := h6.2.1
    rcases wm_inv F hwm with hl | hl
    · have hrun := va_runS (l := l) (e := e) (R := R) (below := below) (meth := meth) (H := H) (locs := locs) (cells := n - n0 + gx) (slots := ai_cs n - ai_cs n0 + gy) (index := idx) (g := F0 m pc ls ((As.map (ai_cv ad xa)).reverse ++ R'.map (ai_cv ad xa))) (rest := R'.map (ai_cv ad xa)) ⟨F.1, F.2.1, F.2.2.1, F.2.2.2.1, F.2.2.2.2.1⟩ hM ⟨⟨rfl, rfl, Nat.le_trans hf2 hR.1, Nat.le_trans hl2 hR.2.1, ws_warm F w1, List.mem_cons_self, F.2.2.2.2.1 _ w1, F.2.2.2.2.1 _ w2, ⟨w3.1, w3.2.1⟩, na_of w3.2.2, hl⟩, F.2.2.2.2.1 _ w4⟩ hpre rfl hna hsz rfl (lv_room hcat) hd hrooms
      exact sn_back (al := al) (n := n) rfl hrun ht (rtag_in htag ht8) h1 (by omega) h3 h6 h7 hSR h9
    · have hrun := va_runSN (l := l) (e := e) (R := R) (below := below) (meth := meth) (H := H) (locs := locs) (cells := n - n0 + gx) (slots := ai_cs n - ai_cs n0 + gy) (index := idx) (g := F0 m pc ls ((As.map (ai_cv ad xa)).reverse ++ R'.map (ai_cv ad xa))) (rest := R'.map (ai_cv ad xa)) ⟨F.1, F.2.1, F.2.2.1, F.2.2.2.1, F.2.2.2.2.1⟩ hM ⟨⟨⟨rfl, rfl, Nat.le_trans hf2 hR.1, Nat.le_trans hl2 hR.2.1, ws_warm F w1, List.mem_cons_self⟩, F.2.2.2.2.1 _ w1, F.2.2.2.2.1 _ w2, ⟨w3.1, w3.2.1⟩, na_of w3.2.2, hl⟩, F.2.2.2.2.1 _ w4, trivial⟩ hpre rfl hna hsz rfl (lv_room hcat) hd hrooms
      exact sn_back (al := al) (n := n) rfl hrun ht (rtag_in htag ht8) h1 (by omega) h3 h6 h7 hSR h9

theorem s_invokespecial {idx : Nat} (F : ai_F p s m args meth c cc nL own isInit D cid B0 xa E2 Kc) (hR : ai_RM R fr lo n0 lim gx gy) (hcal : ∀ (a : Nat) (i : ai_I), ai_nth cal a = some i → ai_S E2 i (orc a) ∧ ai_CW i) (hfl : l.flags = flags0) (g : ai_chk own cc nL Kc cal fr lo isInit rt (pc, .invokespecial idx, len, a, b, d, t, z, tl) = true) (q : ai_st orc lim X (pc, .invokespecial idx, len, a, b, d, t, z, tl) (ai_PS p l e R s m args below meth c D cid B0 xa nL n0 lim ad0 gx gy Qf) L S n hr h Q) : ai_PS p l e R s m args below meth c D cid B0 xa nL n0 lim ad0 gx gy Qf pc L S n hr h := by
  simp only [ai_chk, Bool.and_eq_true, decide_eq_true_eq, Bool.or_eq_true] at g
  simp only [ai_st] at q
  obtain ⟨hd, rfl, g⟩ := g
  split at g
  · simp only [Bool.and_eq_true, decide_eq_true_eq] at g
    obtain ⟨⟨g1, g2⟩, g3⟩ := g
    obtain ⟨x, R', rfl, hx0, hq⟩ := inv_r1 q
    intro ad H locs ls h1 h2 h3 h4 h5 h6 h7 h8 h9
    obtain ⟨hcat, hq⟩ := k8_cat (ad := ad) (xa := xa) hq
    obtain ⟨q0, rfl⟩ : ∃ q0 : Nat, x = (q0 : Int) := ⟨x.toNat, (Int.toNat_of_nonneg hx0).symm⟩
    simp only [List.map_cons]
    rw [cv_ref]
    exact W.objInit F.1 F.2.1 F.2.2.2.1 (kc_word F g1) (F.2.2.2.2.1 _ gw_oi.1) (F.2.2.2.2.1 _ gw_oi.2) rfl (h6.2.1.trans F.2.2.1.symm) rfl hd (by have := hR.1; omega) (by have := hR.2.1; have := lv_room (pc := pc) (m := m) (ls := ls) (rest := (Value.ref (ad q0) :: R'.map (ai_cv ad xa))) hcat; omega) (hq ad H locs ls h1 h2 h3 h4 h5 h6 h7 (SI_cons.mp h8).2 h9)
  · rename_i ht30
    obtain ⟨y, c2, mL, ret, tag, f2, l2, al, na, cls, hS2, hCW, hwm, hf2, hl2, hz, hb, ht, htag, ht8, htl⟩ := ct_inv hcal g
    obtain ⟨w1, w2, w3, w4⟩ := hCW
    simp only at w4
    split at q
    · exact (ht30 rfl).elim
    obtain ⟨As, R', hAs, rfl, hrc, hq⟩ := pop_inv b [] S q
    simp only [List.append_nil] at hrc hq
    intro ad H locs ls h1 h2 h3 h4 h5 h6 h7 h8 h9
    obtain ⟨hlim, hq⟩ := bd_inv hq h2
    obtain ⟨hcat, hq⟩ := k8_cat (ad := ad) (xa := xa) hq
    obtain ⟨hSA, hSR⟩ := SI_app.mp h8
    rw [SI_rev] at hSA
    obtain ⟨i1, i2, i3⟩ := w4
    obtain ⟨v0, As', q0, rfl, hcv⟩ : ∃ (v0 : AV) (As' : List AV) (q0 : Nat), As = v0 :: As' ∧ ai_cv ad xa v0 = .ref q0 := by
      rcases rc_inv hrc with ⟨x, As', rfl, hrc⟩ | ⟨x, As', rfl, hrc⟩
      · obtain ⟨q0, rfl, hq0, hk0⟩ := ok_nat hrc
        exact ⟨_, _, ad q0, rfl, cv_ref _ _ _⟩
      · exact ⟨_, _, xa 2, rfl, rfl⟩
    subst i3
    have hM := hS2 l D cid B0 xa ad _ n hr h _ hfl F.2.2.2.2.2.2.2.2.2.1 hq hSA h5
    have hna : (As'.map (ai_cv ad xa)).length = na := by
      simp only [List.length_map]
      simp only [List.length_cons] at hAs
      rw [hb] at hAs
      simp at hAs
      exact hAs
    have hAt : ((Value.ref q0) :: As'.map (ai_cv ad xa)) = (v0 :: As').map (ai_cv ad xa) := by rw [List.map_cons, hcv]
    have hpre : PreS s H (va_Pc ((v0 :: As').map (ai_cv ad xa)) (ai_Pw E2 D cid B0 xa ad n hr h)) (.ref q0 :: As'.map (ai_cv ad xa)) :=
      ⟨pc_blind F.2.2.2.2.2.2.2.2.2.1, fun U hU hW => ⟨by rw [hAt], pw_of F h4 h9 hU hW⟩⟩
    have hrooms : n - n0 + gx + al ≤ R.cells ∧ ai_cs n - ai_cs n0 + gy + (ai_cs (n + al) - ai_cs n) ≤ R.slots := by
      have k1 := cs_mono h1
      have k2 := cs_mono (show n ≤ n + al by omega)
      have k3 := cs_mono (show n + al ≤ lim by omega)
      obtain ⟨r1, r2, r3, r4⟩ := hR
      constructor <;> omega
    have hst : ((v0 :: As').reverse ++ R').map (ai_cv ad xa) = (As'.map (ai_cv ad xa)).reverse ++ .ref q0 :: R'.map (ai_cv ad xa) := by
      simp [hcv]
    rw [hst]
    have hsz : (F0 m pc ls ((As'.map (ai_cv ad xa)).reverse ++ .ref q0 :: R'.map (ai_cv ad xa))).locals.size = nL := h6.2.1
    rcases wm_inv F hwm with hl | hl
    · have hrun := va_runI (l := l) (e := e) (R := R) (below := below) (meth := meth) (H := H) (locs := locs) (cells := n - n0 + gx) (slots := ai_cs n - ai_cs n0 + gy) (index := idx) (g := F0 m pc ls ((As'.map (ai_cv ad xa)).reverse ++ .ref q0 :: R'.map (ai_cv ad xa))) (rest := R'.map (ai_cv ad xa)) ⟨F.1, F.2.1, F.2.2.1, F.2.2.2.1, F.2.2.2.2.1⟩ hM ⟨⟨rfl, rfl, Nat.le_trans hf2 hR.1, Nat.le_trans hl2 hR.2.1, ws_warm F w1, List.mem_cons_self, F.2.2.2.2.1 _ w1, F.2.2.2.2.1 _ w2, ⟨w3.1, w3.2.1⟩, na_of w3.2.2, hl⟩, i2, F.2.2.2.2.1 _ i1⟩ hpre rfl hna hsz rfl (lv_room hcat) hd hrooms
      rw [hAt] at hrun
      exact sn_back (al := al) (n := n) rfl hrun ht (rtag_in htag ht8) h1 (by omega) h3 h6 h7 hSR h9
    · have hrun := va_runIN (l := l) (e := e) (R := R) (below := below) (meth := meth) (H := H) (locs := locs) (cells := n - n0 + gx) (slots := ai_cs n - ai_cs n0 + gy) (index := idx) (g := F0 m pc ls ((As'.map (ai_cv ad xa)).reverse ++ .ref q0 :: R'.map (ai_cv ad xa))) (rest := R'.map (ai_cv ad xa)) ⟨F.1, F.2.1, F.2.2.1, F.2.2.2.1, F.2.2.2.2.1⟩ hM ⟨⟨⟨rfl, rfl, Nat.le_trans hf2 hR.1, Nat.le_trans hl2 hR.2.1, ws_warm F w1, List.mem_cons_self⟩, F.2.2.2.2.1 _ w1, F.2.2.2.2.1 _ w2, ⟨w3.1, w3.2.1⟩, na_of w3.2.2, hl⟩, i2, F.2.2.2.2.1 _ i1⟩ hpre rfl hna hsz rfl (lv_room hcat) hd hrooms
      rw [hAt] at hrun
      exact sn_back (al := al) (n := n) rfl hrun ht (rtag_in htag ht8) h1 (by omega) h3 h6 h7 hSR h9
end SND7
