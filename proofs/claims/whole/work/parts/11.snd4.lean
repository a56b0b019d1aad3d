/-! the steps, an instruction each: cells -/
theorem W_set {D : va_G} {cid : Nat → ClassId} {B0 : Nat} {ad : Nat → Nat} {n : Nat} {hr h hr' h' : HP} {H1 : Heap} {q : Nat} {e0 : va_E} (hP : va_P D vwCl ((ai_ws cid ad n hr h).set q (ad q, e0)) H1) (hD : va_D (fun q : Nat => B0 ≤ q) ((ai_ws cid ad n hr h).set q (ad q, e0))) (he : q < n → ai_ce cid ad hr' h' (q : Int) = e0) (ho : ∀ k : Nat, k < n → k ≠ q → ai_ce cid ad hr' h' (k : Int) = ai_ce cid ad hr h (k : Int)) : ai_W D cid B0 ad n hr' h' H1 := by
  rw [ws_set he ho] at hP hD
  exact ⟨hP, hD⟩
theorem up_ne {h : HP} {x i v : Int} {c : Int} (hc : c ≠ x) (j : Int) : ai_up h x i v c j = h c j := by
  unfold ai_up; rw [if_neg (fun q => hc q.1)]
theorem up_ne2 {h : HP} {x i v : Int} {c j : Int} (hc : j ≠ i) : ai_up h x i v c j = h c j := by
  unfold ai_up; rw [if_neg (fun q => hc q.2)]
theorem up_eq {h : HP} {x i v : Int} : ai_up h x i v x i = v := by
  unfold ai_up; rw [if_pos ⟨rfl, rfl⟩]
theorem IH_up {n : Nat} {hr h : HP} {x i v : Int} (hI : ai_IH n hr h) (hv : ai_vt n (ai_tg x i) v (hr x i)) : ai_IH n hr (ai_up h x i v) := by
  intro c j h1 h2
  by_cases hq : c = x ∧ j = i
  · obtain ⟨rfl, rfl⟩ := hq
    rw [up_eq]; exact hv
  · unfold ai_up
    rw [if_neg hq]
    exact hI c j h1 h2
theorem IH_upr {n : Nat} {hr h : HP} {x i v : Int} (hI : ai_IH n hr h) (hv : ai_vt n (ai_tg x i) (h x i) v) : ai_IH n (ai_up hr x i v) h := by
  intro c j h1 h2
  by_cases hq : c = x ∧ j = i
  · obtain ⟨rfl, rfl⟩ := hq
    rw [up_eq]; exact hv
  · unfold ai_up
    rw [if_neg hq]
    exact hI c j h1 h2
theorem ar_up {ad : Nat → Nat} {t : Nat} {hr h : HP} {x i v : Int} (ht : t = 0 ∨ t = 2 ∨ t = 3) (hi : 0 ≤ i) : ai_ar ad t hr (ai_up h x i v) x = .inl (upd (fun j => Int32.ofInt (h x (j : Int))) i.toNat (Int32.ofInt v)) := by
  have key : (fun j : Nat => Int32.ofInt (ai_up h x i v x (j : Int))) = upd (fun j => Int32.ofInt (h x (j : Int))) i.toNat (Int32.ofInt v) := by
    funext j
    unfold ai_up upd
    by_cases hj : j = i.toNat
    · rw [if_pos ⟨rfl, by omega⟩, if_pos hj]
    · rw [if_neg (fun q => hj (by omega)), if_neg hj]
  rcases ht with rfl | rfl | rfl <;> (show Sum.inl _ = Sum.inl _; rw [key])
theorem ar_int {ad : Nat → Nat} {t : Nat} {hr h : HP} {x : Int} (ht : t = 0 ∨ t = 2 ∨ t = 3) : ai_ar ad t hr h x = .inl (fun j => Int32.ofInt (h x (j : Int))) := by
  rcases ht with rfl | rfl | rfl <;> rfl
theorem ar_upl {ad : Nat → Nat} {hr h : HP} {x i v : Int} (hi : 0 ≤ i) : ai_ar ad 1 hr (ai_up h x i v) x = .inr (.inl (vp_updL (fun j => Int64.ofInt (h x (j : Int))) i.toNat (Int64.ofInt v))) := by
  have key : (fun j : Nat => Int64.ofInt (ai_up h x i v x (j : Int))) = vp_updL (fun j => Int64.ofInt (h x (j : Int))) i.toNat (Int64.ofInt v) := by
    funext j
    unfold ai_up vp_updL
    by_cases hj : j = i.toNat
    · rw [if_pos ⟨rfl, by omega⟩, if_pos hj]
    · rw [if_neg (fun q => hj (by omega)), if_neg hj]
  show Sum.inr (Sum.inl _) = Sum.inr (Sum.inl _)
  rw [key]
theorem ar_upq {ad : Nat → Nat} {hr h : HP} {x i : Int} {v : Nat} (hi : 0 ≤ i) : ai_ar ad 4 (ai_up hr x i (v : Int)) h x = .inr (.inr (.inr (.inr (va_up (fun j => ai_ro ad (hr x (j : Int))) i.toNat (some (ad v)))))) := by
  have key : (fun j : Nat => ai_ro ad (ai_up hr x i (v : Int) x (j : Int))) = va_up (fun j => ai_ro ad (hr x (j : Int))) i.toNat (some (ad v)) := by
    funext j
    unfold ai_up va_up
    by_cases hj : j = i.toNat
    · rw [if_pos ⟨rfl, by omega⟩, if_pos hj, ro_nat]
    · rw [if_neg (fun q => hj (by omega)), if_neg hj]
  show Sum.inr (Sum.inr (Sum.inr (Sum.inr _))) = _
  rw [key]
def ai_att (t : Nat) : Nat := match t with
  | 0 => 0
  | 1 => 1
  | 2 => 3
  | 3 => 4
  | _ => 2
theorem tg_arr {x i : Int} {t : Nat} (hk : ai_k x = 50 + t) : ai_tg x i = ai_att t := by
  unfold ai_tg
  rw [if_neg (by omega), show ai_k x - 50 = t by omega]
  rfl
theorem get_vr {n t : Nat} {h hr : HP} {x b : Int} (ht : t ≠ 4) (hv : ai_vt n t (h x b) (hr x b)) : ai_vr n (ai_get t h hr x b) := by
  match t, ht, hv with
  | 0, _, hv => exact hv
  | 1, _, hv => exact hv
  | 2, _, hv => exact hv
  | 3, _, hv => rcases hv with z | z <;> (show i32 (h x b); rw [z]; exact ⟨by decide, by decide⟩)
  | 4, ht, _ => exact (ht rfl).elim
  | t + 5, _, hv => exact hv
theorem nar_b {v : Int} (hv : v = 0 ∨ v = 1) : vp_nar .boolean (Int32.ofInt v) = Int32.ofInt v := by
  rcases hv with rfl | rfl <;> rfl
theorem nar_8 {v : Int} : vp_nar .byte (Int32.ofInt v) = Int32.ofInt (i_b8 v) := by
  rw [vp_nar_byte]; exact (Int32.ofInt_toInt _).symm
theorem b8_in (v : Int) : -128 ≤ i_b8 v ∧ i_b8 v ≤ 127 := by
  unfold i_b8
  rw [Int8.toInt_toInt32]
  exact ⟨Int8.le_toInt _, by have := Int8.toInt_lt (Int32.ofInt v).toInt8; omega⟩
theorem e_vr {n : Nat} {hr h : HP} (hI : ai_IH n hr h) {x i : Int} {t : Nat} (ht : ai_tg x i = t) (h0 : 0 ≤ x) (hn : x < (n : Int)) (_ : 0 ≤ i) (_ : i < ai_l x) : ai_vt n t (h x i) (hr x i) := ht ▸ hI x i h0 hn
theorem ft_ne4 (a b : Nat) : ai_ft a b ≠ 4 := by
  unfold ai_ft ai_tt
  split <;> decide
section SND4
variable {p : Program} {l : Launch} {e : Env} {R : Room} {s : State} {m : MethodId} {args : Array Value} {below : List Frame} {meth : Method} {c : Code} {D : va_G} {cid : Nat → ClassId} {B0 : Nat} {xa : Nat → Nat} {nL n0 lim : Nat} {ad0 : Nat → Nat} {gx gy : Nat} {Qf : State → Prop} {cc : ByteArray} {own : String} {isInit : Bool} {E2 : (Nat → Nat) → State → Heap → Prop} {Kc : List Jvm.Cond} {cal : List ai_I} {fr lo : Nat} {rt : Option FieldType} {orc : Nat → SP} {X : XE} {Q : RP} {pc len a b d t n : Nat} {z : Int} {tl : List (Int × Nat)} {L : List (Option AV)} {S : List AV} {hr h : HP}
theorem inv_ald {kd n S k} (q : ai_ald kd n S k) : ∃ x i R, S = (0, i) :: (2, x) :: R ∧ ai_ok n x kd ∧ 0 ≤ i ∧ i < ai_l x ∧ k x i R := by
  unfold ai_ald at q; split at q <;> first | exact ⟨_, _, _, rfl, q⟩ | exact q.elim
theorem inv_ast {kd n S k} (q : ai_ast kd n S k) : ∃ x i v R, S = (0, v) :: (0, i) :: (2, x) :: R ∧ ai_ok n x kd ∧ 0 ≤ i ∧ i < ai_l x ∧ k x i v R := by
  unfold ai_ast at q; split at q <;> first | exact ⟨_, _, _, _, rfl, q⟩ | exact q.elim
theorem inv_lsa {n S k} (q : ai_lsa n S k) : ∃ x i v R, S = (1, v) :: (0, i) :: (2, x) :: R ∧ ai_ok n x 51 ∧ 0 ≤ i ∧ i < ai_l x ∧ k x i v R := by
  unfold ai_lsa at q; split at q <;> first | exact ⟨_, _, _, _, rfl, q⟩ | exact q.elim
theorem inv_asa {n S k} (q : ai_asa n S k) : ∃ x i v R, S = (2, v) :: (0, i) :: (2, x) :: R ∧ ai_ok n x 54 ∧ ai_ok n v 8 ∧ 0 ≤ i ∧ i < ai_l x ∧ k x i v R := by
  unfold ai_asa at q; split at q <;> first | exact ⟨_, _, _, _, rfl, q⟩ | exact q.elim
theorem sw_in {x : Int} {K : Nat → Prop} {Dd : Prop} : ∀ (tl : List (Int × Nat)) (i : Nat) (v : Int) (t : Nat), ai_sw x tl K Dd → tl[i]? = some (v, t) → (∀ j v' t', j < i → tl[j]? = some (v', t') → v' ≠ x) → x = v → K t
  | [], i, v, t, _, hi, _, _ => by simp at hi
  | (v0, t0) :: tl, 0, v, t, q, hi, _, hx => by
    simp at hi
    obtain ⟨rfl, rfl⟩ := hi
    exact q.1 hx
  | (v0, t0) :: tl, i + 1, v, t, q, hi, hj, hx => by
    refine sw_in tl i v t (q.2 fun z => hj 0 v0 t0 (by omega) rfl z.symm) (by simpa using hi) (fun j v' t' h1 h2 => hj (j + 1) v' t' (by omega) (by simpa using h2)) hx
theorem sw_out {x : Int} {K : Nat → Prop} {Dd : Prop} : ∀ (tl : List (Int × Nat)), ai_sw x tl K Dd → (∀ q ∈ tl, q.1 ≠ x) → Dd
  | [], q, _ => q
  | (v0, t0) :: tl, q, hj => sw_out tl (q.2 fun z => hj (v0, t0) List.mem_cons_self z.symm) fun w hw => hj w (List.mem_cons_of_mem _ hw)

theorem s_tsw {dflt lw hi : Int} {offs : Array Int} (F : ai_F p s m args meth c cc nL own isInit D cid B0 xa E2 Kc) (g : ai_chk own cc nL Kc cal fr lo isInit rt (pc, .tableswitch dflt lw hi offs, len, a, b, d, t, z, tl) = true) (q : ai_st orc lim X (pc, .tableswitch dflt lw hi offs, len, a, b, d, t, z, tl) (ai_PS p l e R s m args below meth c D cid B0 xa nL n0 lim ad0 gx gy Qf) L S n hr h Q) : ai_PS p l e R s m args below meth c D cid B0 xa nL n0 lim ad0 gx gy Qf pc L S n hr h := by
  simp only [ai_chk, Bool.and_eq_true, decide_eq_true_eq, Bool.or_eq_true] at g
  simp only [ai_st] at q
  obtain ⟨hd, ⟨⟨ht, hhi⟩, htl⟩, hall⟩ := g
  obtain ⟨x, R', rfl, k⟩ := inv_i1 q
  intro ad H locs ls h1 h2 h3 h4 h5 h6 h7 h8 h9
  have hx : i32 x := (SI_cons.mp h8).1
  have hR := (SI_cons.mp h8).2
  have hxi : (Int32.ofInt x).toInt = x := of_i32 hx
  by_cases hin : x < lw ∨ hi < x
  · refine lv_tableOut F.1 F.2.1 hd (by rw [hxi]; exact hin) ht ?_
    refine sw_out tl k (fun w hw => ?_) ad H locs ls h1 h2 h3 h4 h5 h6 h7 hR h9
    rw [htl] at hw
    obtain ⟨u, hu, rfl⟩ := List.mem_map.mp hw
    have hu2 := List.snd_lt_of_mem_zipIdx hu
    simp only [Array.length_toList, Nat.zero_add] at hu2
    show lw + (u.2 : Int) ≠ x
    omega
  · have hlt : (x - lw).toNat < offs.size := by omega
    have hget : offs[(x - lw).toNat]? = some offs[(x - lw).toNat] := Array.getElem?_eq_getElem hlt
    have hnn : 0 ≤ (pc : Int) + offs[(x - lw).toNat] := by
      have := List.all_eq_true.mp hall offs[(x - lw).toNat] (by simp [Array.mem_toList_iff])
      simpa using this
    refine lv_tableIn F.1 F.2.1 hd (by rw [hxi]; omega) (by rw [hxi]; omega) (by rw [hxi]; exact hget) (Int.toNat_of_nonneg hnn).symm ?_
    refine sw_in tl (x - lw).toNat x _ k ?_ (fun j v' t' hj hv' => ?_) rfl ad H locs ls h1 h2 h3 h4 h5 h6 h7 hR h9
    · rw [htl, List.getElem?_map, List.getElem?_zipIdx, Array.getElem?_toList, hget]
      simp only [Option.map_some]
      congr 2
      omega
    · rw [htl, List.getElem?_map, List.getElem?_zipIdx] at hv'
      cases hq : offs.toList[j]? with
      | none => rw [hq] at hv'; simp at hv'
      | some o =>
        rw [hq] at hv'
        simp only [Option.map_some, Option.some.injEq, Prod.mk.injEq] at hv'
        omega

theorem s_lsw {dflt : Int} {ps : Array (Int × Int)} (F : ai_F p s m args meth c cc nL own isInit D cid B0 xa E2 Kc) (g : ai_chk own cc nL Kc cal fr lo isInit rt (pc, .lookupswitch dflt ps, len, a, b, d, t, z, tl) = true) (q : ai_st orc lim X (pc, .lookupswitch dflt ps, len, a, b, d, t, z, tl) (ai_PS p l e R s m args below meth c D cid B0 xa nL n0 lim ad0 gx gy Qf) L S n hr h Q) : ai_PS p l e R s m args below meth c D cid B0 xa nL n0 lim ad0 gx gy Qf pc L S n hr h := by
  simp only [ai_chk, Bool.and_eq_true, decide_eq_true_eq, Bool.or_eq_true] at g
  simp only [ai_st] at q
  obtain ⟨hd, ⟨⟨ht, hsort⟩, htl⟩, hall⟩ := g
  obtain ⟨x, R', rfl, k⟩ := inv_i1 q
  intro ad H locs ls h1 h2 h3 h4 h5 h6 h7 h8 h9
  have hx : i32 x := (SI_cons.mp h8).1
  have hR := (SI_cons.mp h8).2
  have hxi : (Int32.ofInt x).toInt = x := of_i32 hx
  have key : ∀ (qs : List (Int × Int)), qs.all (fun q => decide (0 ≤ (pc : Int) + q.2)) = true → ai_sw x (qs.map fun q => (q.1, ((pc : Int) + q.2).toNat)) (fun q => ai_PS p l e R s m args below meth c D cid B0 xa nL n0 lim ad0 gx gy Qf q L R' n hr h) (ai_PS p l e R s m args below meth c D cid B0 xa nL n0 lim ad0 gx gy Qf a L R' n hr h) → ∃ tgt : Nat, (pc : Int) + Op.lookupswitch.offset qs dflt x = (tgt : Int) ∧ ai_PS p l e R s m args below meth c D cid B0 xa nL n0 lim ad0 gx gy Qf tgt L R' n hr h := by
    intro qs
    induction qs with
    | nil => exact fun _ w => ⟨a, ht, w⟩
    | cons u qs ih =>
      intro hq w
      simp only [List.all_cons, Bool.and_eq_true, decide_eq_true_eq] at hq
      by_cases hu : x = u.1
      · refine ⟨((pc : Int) + u.2).toNat, ?_, w.1 hu⟩
        rw [Int.toNat_of_nonneg hq.1]
        simp [Op.lookupswitch.offset, hu]
      · obtain ⟨tgt, e1, e2⟩ := ih hq.2 (w.2 hu)
        refine ⟨tgt, ?_, e2⟩
        rw [← e1]
        have hu2 : ¬ u.1 = x := fun z => hu z.symm
        simp [Op.lookupswitch.offset, List.find?_cons, hu2]
  rw [htl] at k
  obtain ⟨tgt, e1, e2⟩ := key ps.toList hall k
  exact lv_lookup F.1 F.2.1 hd hsort rfl (by rw [hxi]; exact e1) (e2 ad H locs ls h1 h2 h3 h4 h5 h6 h7 hR h9)

theorem s_getfield {idx : Nat} (F : ai_F p s m args meth c cc nL own isInit D cid B0 xa E2 Kc) (g : ai_chk own cc nL Kc cal fr lo isInit rt (pc, .getfield idx, len, a, b, d, t, z, tl) = true) (q : ai_st orc lim X (pc, .getfield idx, len, a, b, d, t, z, tl) (ai_PS p l e R s m args below meth c D cid B0 xa nL n0 lim ad0 gx gy Qf) L S n hr h Q) : ai_PS p l e R s m args below meth c D cid B0 xa nL n0 lim ad0 gx gy Qf pc L S n hr h := by
  simp only [ai_chk, Bool.and_eq_true, decide_eq_true_eq, Bool.or_eq_true] at g
  simp only [ai_st] at q
  obtain ⟨hd, ⟨⟨⟨rfl, hw⟩, rfl⟩, rfl⟩, ha⟩ := g
  obtain ⟨x, R', rfl, hok, k⟩ := inv_r1 q
  obtain ⟨q0, rfl, hq0, hk0⟩ := ok_nat hok
  intro ad H locs ls h1 h2 h3 h4 h5 h6 h7 h8 h9
  unfold ai_wf at hw
  split at hw
  · rename_i C T N w hC hW
    rw [nth_eq] at hC hW
    obtain ⟨f1, f2, f3, f4⟩ := cl_ok a (C, T, N) hC
    simp only at f1 f2 f3 f4
    simp only [Bool.and_eq_true, decide_eq_true_eq, Bool.or_eq_true] at hw
    obtain ⟨hbN, hw⟩ := hw
    have hN : ai_nf a = N := by unfold ai_nf; rw [nth_eq, hC]
    have hce := ce_obj (cid := cid) (ad := ad) (hr := hr) (h := h) hk0 (by omega)
    have hget : (ai_ws cid ad n hr h)[q0]? = some (ad q0, .inr (a, ai_fs ad a hr h (q0 : Int))) := by rw [ws_get hq0, hce]
    have hv : (ai_fs ad a hr h (q0 : Int))[b]? = some (ai_fv ad (ai_ft a b) hr h (q0 : Int) (b : Int)) := fs_get (by omega)
    have hword := F.2.2.2.2.1 _ (F.2.2.2.2.2.2.2.2.2.2 _ (List.mem_of_getElem? hW))
    have hvt : ai_vt n (ai_ft a b) (h (q0 : Int) (b : Int)) (hr (q0 : Int) (b : Int)) := e_vr h5 (by unfold ai_tg; rw [hk0, if_pos (by omega)]; simp) (by omega) (by omega) (by omega) (by rw [sh_ok _ (by omega), hk0, hN]; omega)
    have hSI : ai_SI n (ai_get (ai_ft a b) h hr (q0 : Int) (b : Int) :: R') := SI_cons.mpr ⟨get_vr (ft_ne4 a b) hvt, (SI_cons.mp h8).2⟩
    have hgo := k ad H locs ls h1 h2 h3 h4 h5 h6 h7 hSI h9
    rw [List.map_cons, ← fv_get] at hgo
    rw [List.map_cons, cv_ref]
    rcases hw with hw | hw
    · subst hw
      exact va_get F.1 F.2.1 (fun w hw => F.2.2.2.2.1 w hw) f3 F.2.2.2.1 F.2.2.2.2.2.2.1 h4.1 q0 hget hC b hbN hword (fun x hx => by rw [f4 b hbN] at hx; exact hx) hv hd hgo
    · subst hw
      exact va_getN F.1 F.2.1 (fun w hw => F.2.2.2.2.1 w hw) f3 F.2.2.2.1 F.2.2.2.2.2.2.1 h4.1 q0 hget hC b hbN hword (fun x hx => by rw [f4 b hbN] at hx; exact hx) hv hd hgo
  · cases hw
end SND4
