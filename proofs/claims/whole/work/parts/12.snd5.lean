/-! the steps, an instruction each: cells written, rows -/
theorem vt_of {t n : Nat} {v r : Int} (ht : t = 2 ∨ 5 ≤ t) (h : -1 ≤ r ∧ r < (n : Int)) : ai_vt n t v r := by
  match t, ht with
  | 2, _ => exact h
  | t + 5, _ => exact h
  | 0, ht => omega
  | 1, ht => omega
  | 3, ht => omega
  | 4, ht => omega
theorem ft_lt (a b : Nat) : ai_ft a b ≤ 3 := by
  unfold ai_ft ai_tt
  split <;> decide
theorem ty_ft {a b : Nat} {v : AV} {ad xa : Nat → Nat} (h : (ai_ft a b = 0 ∧ v.1 = 0) ∨ (ai_ft a b = 1 ∧ v.1 = 1) ∨ (ai_ft a b = 3 ∧ v.1 = 0 ∧ (v.2 = 0 ∨ v.2 = 1)) ∨ (ai_ft a b = 2 ∧ v.1 = 2 ∧ ∃ C, ai_tyc a b = .object C ∨ ∃ C, ai_tyc a b = .array C)) : narrow (ai_tyc a b) (ai_cv ad xa v) = ai_cv ad xa v ∧ fits (ai_tyc a b) (ai_cv ad xa v) = true := by
  obtain ⟨tg, x⟩ := v
  unfold ai_ft at h
  generalize ai_tyc a b = ty at h
  rcases h with ⟨h1, h2⟩ | ⟨h1, h2⟩ | ⟨h1, h2, h3⟩ | ⟨h1, h2, C, h3⟩
  · simp only at h2; subst h2
    cases ty <;> simp [ai_tt] at h1
    exact ⟨rfl, rfl⟩
  · simp only at h2; subst h2
    cases ty <;> simp [ai_tt] at h1
    exact ⟨rfl, rfl⟩
  · simp only at h2 h3; subst h2
    cases ty <;> simp [ai_tt] at h1
    rcases h3 with rfl | rfl <;> exact ⟨rfl, rfl⟩
  · simp only at h2; subst h2
    show narrow ty (va_rf (ai_ro ad x)) = va_rf (ai_ro ad x) ∧ fits ty (va_rf (ai_ro ad x)) = true
    rcases h3 with rfl | ⟨C2, rfl⟩ <;> cases ai_ro ad x <;> exact ⟨rfl, rfl⟩
theorem ty_ref : ∀ a, a < 13 → ∀ b, b < ai_nf a → ai_ft a b = 2 → ∃ C, ai_tyc a b = .object C ∨ ∃ C, ai_tyc a b = .array C := by
  intro a ha b hb h
  have key : (List.range 13).all (fun a => (List.range (ai_nf a)).all fun b => (match ai_tyc a b with
    | .object _ => true
    | .array _ => true
    | t => decide (ai_tt t ≠ 2))) = true := by decide +kernel
  have h1 := List.all_eq_true.mp (List.all_eq_true.mp key a (List.mem_range.mpr ha)) b (List.mem_range.mpr hb)
  unfold ai_ft at h
  split at h1
  · rename_i C hC; exact ⟨C, Or.inl hC⟩
  · rename_i C hC; exact ⟨"", Or.inr ⟨C, hC⟩⟩
  · simp only [decide_eq_true_eq] at h1; exact (h1 h).elim
section SND5
variable {p : Program} {l : Launch} {e : Env} {R : Room} {s : State} {m : MethodId} {args : Array Value} {below : List Frame} {meth : Method} {c : Code} {D : va_G} {cid : Nat → ClassId} {B0 : Nat} {xa : Nat → Nat} {nL n0 lim : Nat} {ad0 : Nat → Nat} {gx gy : Nat} {Qf : State → Prop} {cc : ByteArray} {own : String} {isInit : Bool} {E2 : (Nat → Nat) → State → Heap → Prop} {Kc : List Jvm.Cond} {cal : List ai_I} {fr lo : Nat} {rt : Option FieldType} {orc : Nat → SP} {X : XE} {Q : RP} {pc len a b d t n : Nat} {z : Int} {tl : List (Int × Nat)} {L : List (Option AV)} {S : List AV} {hr h : HP}
theorem inv_put {t n h hr b cls S k} (q : ai_put t n h hr b cls S k) : ∃ v x R, S = v :: (2, x) :: R ∧ ai_ok n x cls ∧ ((t = 0 ∧ v.1 = 0 ∧ k R hr (ai_up h x b v.2)) ∨ (t = 1 ∧ v.1 = 1 ∧ k R hr (ai_up h x b v.2)) ∨ (t = 3 ∧ v.1 = 0 ∧ (v.2 = 0 ∨ v.2 = 1) ∧ k R hr (ai_up h x b v.2)) ∨ (t = 2 ∧ v.1 = 2 ∧ k R (ai_up hr x b v.2) h)) := by
  unfold ai_put at q
  split at q
  · exact ⟨_, _, _, rfl, q.1, Or.inl ⟨rfl, rfl, q.2⟩⟩
  · exact ⟨_, _, _, rfl, q.1, Or.inr (Or.inl ⟨rfl, rfl, q.2⟩)⟩
  · exact ⟨_, _, _, rfl, q.1, Or.inr (Or.inr (Or.inr ⟨rfl, rfl, q.2⟩))⟩
  · exact ⟨_, _, _, rfl, q.1, Or.inr (Or.inr (Or.inl ⟨rfl, rfl, q.2⟩))⟩
  · exact q.elim

theorem s_putfield {idx : Nat} (F : ai_F p s m args meth c cc nL own isInit D cid B0 xa E2 Kc) (g : ai_chk own cc nL Kc cal fr lo isInit rt (pc, .putfield idx, len, a, b, d, t, z, tl) = true) (q : ai_st orc lim X (pc, .putfield idx, len, a, b, d, t, z, tl) (ai_PS p l e R s m args below meth c D cid B0 xa nL n0 lim ad0 gx gy Qf) L S n hr h Q) : ai_PS p l e R s m args below meth c D cid B0 xa nL n0 lim ad0 gx gy Qf pc L S n hr h := by
  simp only [ai_chk, Bool.and_eq_true, decide_eq_true_eq, Bool.or_eq_true] at g
  simp only [ai_st] at q
  obtain ⟨hd, ⟨⟨⟨rfl, hw⟩, rfl⟩, rfl⟩, ha⟩ := g
  obtain ⟨v, x, R', rfl, hok, k⟩ := inv_put q
  obtain ⟨q0, rfl, hq0, hk0⟩ := ok_nat hok
  intro ad H locs ls h1 h2 h3 h4 h5 h6 h7 h8 h9
  unfold ai_wp2 at hw
  split at hw
  · rename_i C T N w hC hW
    rw [nth_eq] at hC hW
    obtain ⟨f1, f2, f3, f4⟩ := cl_ok a (C, T, N) hC
    simp only at f1 f2 f3 f4
    simp only [Bool.and_eq_true, decide_eq_true_eq, Bool.or_eq_true, Bool.not_eq_true'] at hw
    obtain ⟨hbN, hw⟩ := hw
    have hN : ai_nf a = N := by unfold ai_nf; rw [nth_eq, hC]
    have hce := ce_obj (cid := cid) (ad := ad) (hr := hr) (h := h) hk0 (by omega)
    have hget : (ai_ws cid ad n hr h)[q0]? = some (ad q0, .inr (a, ai_fs ad a hr h (q0 : Int))) := by rw [ws_get hq0, hce]
    have hword := F.2.2.2.2.1 _ (F.2.2.2.2.2.2.2.2.2.2 _ (List.mem_of_getElem? hW))
    have hv := (SI_cons.mp h8).1
    have hSI := (SI_cons.mp (SI_cons.mp h8).2).2
    have htg : ai_tg (q0 : Int) (b : Int) = ai_ft a b := by unfold ai_tg; rw [hk0, if_pos (by omega)]; simp
    have htf : narrow (ai_tyc a b) (ai_cv ad xa v) = ai_cv ad xa v ∧ fits (ai_tyc a b) (ai_cv ad xa v) = true := by
      refine ty_ft ?_
      rcases k with k | k | k | k
      · exact Or.inl ⟨k.1, k.2.1⟩
      · exact Or.inr (Or.inl ⟨k.1, k.2.1⟩)
      · exact Or.inr (Or.inr (Or.inl ⟨k.1, k.2.1, k.2.2.1⟩))
      · exact Or.inr (Or.inr (Or.inr ⟨k.1, k.2.1, ty_ref a ha b (by omega) k.1⟩))
    -- what the world is then
    have go : ∀ (H1 : Heap) (locs1 : List Loc), va_P D vwCl ((ai_ws cid ad n hr h).set q0 (ad q0, .inr (a, (ai_fs ad a hr h (q0 : Int)).set b (ai_cv ad xa v)))) H1 → va_D (fun q : Nat => B0 ≤ q) ((ai_ws cid ad n hr h).set q0 (ad q0, .inr (a, (ai_fs ad a hr h (q0 : Int)).set b (ai_cv ad xa v)))) → va_S (fun q : Nat => B0 ≤ q) s.heap H1 locs1 → W p l e R s m args below meth c H1 locs1 (n - n0 + gx) (ai_cs n - ai_cs n0 + gy) Qf (F0 m (pc + 3) ls (R'.map (ai_cv ad xa))) := by
      intro H1 locs1 hP1 hD1 hS1
      obtain ⟨tg, vv⟩ := v
      rcases k with ⟨k1, k2, k⟩ | ⟨k1, k2, k⟩ | ⟨k1, k2, k3, k⟩ | ⟨k1, k2, k⟩
      · simp only at k2 k; subst k2
        refine k ad H1 locs1 ls h1 h2 h3 (W_set hP1 hD1 (fun _ => ?_) fun k _ hkq => ce_same (fun _ => rfl) fun j => up_ne (by omega) j) (IH_up h5 (by rw [htg, k1]; exact hv)) h6 h7 hSI hS1
        rw [ce_obj hk0 (by omega), fs_set (v := ai_cv ad xa (0, vv)) (b := b)]
        · rw [fv_get ad xa, k1]; show ai_cv ad xa (0, ai_up h _ _ _ _ _) = _; rw [up_eq]
        · exact fun i hi => ⟨rfl, up_ne2 (by omega)⟩
      · simp only at k2 k; subst k2
        refine k ad H1 locs1 ls h1 h2 h3 (W_set hP1 hD1 (fun _ => ?_) fun k _ hkq => ce_same (fun _ => rfl) fun j => up_ne (by omega) j) (IH_up h5 (by rw [htg, k1]; exact hv)) h6 h7 hSI hS1
        rw [ce_obj hk0 (by omega), fs_set (v := ai_cv ad xa (1, vv)) (b := b)]
        · rw [fv_get ad xa, k1]; show ai_cv ad xa (1, ai_up h _ _ _ _ _) = _; rw [up_eq]
        · exact fun i hi => ⟨rfl, up_ne2 (by omega)⟩
      · simp only at k2 k3 k; subst k2
        refine k ad H1 locs1 ls h1 h2 h3 (W_set hP1 hD1 (fun _ => ?_) fun k _ hkq => ce_same (fun _ => rfl) fun j => up_ne (by omega) j) (IH_up h5 (by rw [htg, k1]; exact k3)) h6 h7 hSI hS1
        rw [ce_obj hk0 (by omega), fs_set (v := ai_cv ad xa (0, vv)) (b := b)]
        · rw [fv_get ad xa, k1]; show ai_cv ad xa (0, ai_up h _ _ _ _ _) = _; rw [up_eq]
        · exact fun i hi => ⟨rfl, up_ne2 (by omega)⟩
      · simp only at k2 k; subst k2
        refine k ad H1 locs1 ls h1 h2 h3 (W_set hP1 hD1 (fun _ => ?_) fun k _ hkq => ce_same (fun j => up_ne (by omega) j) fun _ => rfl) (IH_upr h5 (by rw [htg, k1]; exact hv)) h6 h7 hSI hS1
        rw [ce_obj hk0 (by omega), fs_set (v := ai_cv ad xa (2, vv)) (b := b)]
        · rw [fv_get ad xa, k1]; show ai_cv ad xa (2, ai_up hr _ _ _ _ _) = _; rw [up_eq]
        · exact fun i hi => ⟨up_ne2 (by omega), rfl⟩
    simp only [List.map_cons]
    rw [cv_ref]
    have hlen : b < (ai_fs ad a hr h (q0 : Int)).length := by rw [fs_len]; omega
    rcases hw with ⟨hfin, hw⟩ | ⟨⟨⟨hfin, hini⟩, hown⟩, hw⟩
    · rcases hw with hw | hw
      · subst hw
        exact va_put F.1 F.2.1 (fun w hw => F.2.2.2.2.1 w hw) f3 (ai_tyc a) f1 f2 F.2.2.2.1 F.2.2.2.2.2.2.1 h4.1 h4.2 h9 q0 hget hC b hbN hword (fun x hx => by rw [f4 b hbN] at hx; exact hx) hfin (f1 b hbN) htf.1 htf.2 hlen hd go
      · subst hw
        exact va_putN F.1 F.2.1 (fun w hw => F.2.2.2.2.1 w hw) f3 (ai_tyc a) f1 f2 F.2.2.2.1 F.2.2.2.2.2.2.1 h4.1 h4.2 h9 q0 hget hC b hbN hword (fun x hx => by rw [f4 b hbN] at hx; exact hx) hfin (f1 b hbN) htf.1 htf.2 hlen hd go
    · subst hw
      exact va_putF F.1 F.2.1 (fun w hw => F.2.2.2.2.1 w hw) f3 (ai_tyc a) f1 f2 F.2.2.2.1 F.2.2.2.2.2.2.1 h4.1 h4.2 h9 q0 hget hC b hbN hword (fun x hx => by rw [f4 b hbN] at hx; exact hx) hfin (F.2.2.2.2.2.1 hini) ((f4 b hbN).trans hown) (f1 b hbN) htf.1 htf.2 hlen hd go
  · cases hw

theorem s_laload (F : ai_F p s m args meth c cc nL own isInit D cid B0 xa E2 Kc) (g : ai_chk own cc nL Kc cal fr lo isInit rt (pc, .laload, len, a, b, d, t, z, tl) = true) (q : ai_st orc lim X (pc, .laload, len, a, b, d, t, z, tl) (ai_PS p l e R s m args below meth c D cid B0 xa nL n0 lim ad0 gx gy Qf) L S n hr h Q) : ai_PS p l e R s m args below meth c D cid B0 xa nL n0 lim ad0 gx gy Qf pc L S n hr h := by
  simp only [ai_chk, Bool.and_eq_true, decide_eq_true_eq, Bool.or_eq_true] at g
  simp only [ai_st] at q
  obtain ⟨hd, rfl⟩ := g
  obtain ⟨x, i, R', rfl, hok, hi0, hil, k⟩ := inv_ald q
  obtain ⟨q0, rfl, hq0, hk0⟩ := ok_nat hok
  intro ad H locs ls h1 h2 h3 h4 h5 h6 h7 h8 h9
  have hi : i32 i := (SI_cons.mp h8).1
  have hce := ce_arr (cid := cid) (ad := ad) (hr := hr) (h := h) (t := 1) hk0
  have hget : (ai_ws cid ad n hr h)[q0]? = some (ad q0, .inl (cid 1, (ai_l (q0 : Int)).toNat, ai_ar ad 1 hr h (q0 : Int))) := by rw [ws_get hq0, hce]
  have hvt := e_vr h5 (tg_arr (i := i) (t := 1) hk0) (by omega) (by omega) hi0 hil
  have hgo := k ad H locs ls h1 h2 h3 h4 h5 h6 h7 (SI_cons.mpr ⟨hvt, (SI_cons.mp (SI_cons.mp h8).2).2⟩) h9
  simp only [List.map_cons]
  rw [cv_ref]
  refine va_lald F.1 F.2.1 F.2.2.2.2.2.2.1 h4.1 q0 1 hget rfl (e_in hi0 hil hi) hd ?_
  rw [e_cl hi, Int.toNat_of_nonneg hi0]
  exact hgo

theorem s_baload (F : ai_F p s m args meth c cc nL own isInit D cid B0 xa E2 Kc) (g : ai_chk own cc nL Kc cal fr lo isInit rt (pc, .baload, len, a, b, d, t, z, tl) = true) (q : ai_st orc lim X (pc, .baload, len, a, b, d, t, z, tl) (ai_PS p l e R s m args below meth c D cid B0 xa nL n0 lim ad0 gx gy Qf) L S n hr h Q) : ai_PS p l e R s m args below meth c D cid B0 xa nL n0 lim ad0 gx gy Qf pc L S n hr h := by
  simp only [ai_chk, Bool.and_eq_true, decide_eq_true_eq, Bool.or_eq_true] at g
  simp only [ai_st] at q
  obtain ⟨hd, rfl, rfl | rfl⟩ := g
  · obtain ⟨x, i, R', rfl, hok, hi0, hil, k⟩ := inv_ald q
    obtain ⟨q0, rfl, hq0, hk0⟩ := ok_nat hok
    intro ad H locs ls h1 h2 h3 h4 h5 h6 h7 h8 h9
    have hi : i32 i := (SI_cons.mp h8).1
    have hce := ce_arr (cid := cid) (ad := ad) (hr := hr) (h := h) (t := 2) hk0
    have hget : (ai_ws cid ad n hr h)[q0]? = some (ad q0, .inl (cid 2, (ai_l (q0 : Int)).toNat, ai_ar ad 2 hr h (q0 : Int))) := by rw [ws_get hq0, hce]
    have hvt := e_vr h5 (tg_arr (i := i) (t := 2) hk0) (by omega) (by omega) hi0 hil
    have hgo := k ad H locs ls h1 h2 h3 h4 h5 h6 h7 (SI_cons.mpr ⟨(show i32 _ by rcases hvt with z | z <;> (rw [z]; exact ⟨by decide, by decide⟩)), (SI_cons.mp (SI_cons.mp h8).2).2⟩) h9
    simp only [List.map_cons]
    rw [cv_ref]
    refine va_zald F.1 F.2.1 F.2.2.2.2.2.2.1 h4.1 q0 2 hget rfl (e_in hi0 hil hi) hd ?_
    rw [e_cl hi, Int.toNat_of_nonneg hi0]
    exact hgo
  · obtain ⟨x, i, R', rfl, hok, hi0, hil, k⟩ := inv_ald q
    obtain ⟨q0, rfl, hq0, hk0⟩ := ok_nat hok
    intro ad H locs ls h1 h2 h3 h4 h5 h6 h7 h8 h9
    have hi : i32 i := (SI_cons.mp h8).1
    have hce := ce_arr (cid := cid) (ad := ad) (hr := hr) (h := h) (t := 3) hk0
    have hget : (ai_ws cid ad n hr h)[q0]? = some (ad q0, .inl (cid 3, (ai_l (q0 : Int)).toNat, ai_ar ad 3 hr h (q0 : Int))) := by rw [ws_get hq0, hce]
    have hvt := e_vr h5 (tg_arr (i := i) (t := 3) hk0) (by omega) (by omega) hi0 hil
    have hgo := k ad H locs ls h1 h2 h3 h4 h5 h6 h7 (SI_cons.mpr ⟨(show i32 _ from ⟨by have := hvt.1; omega, by have := hvt.2; omega⟩), (SI_cons.mp (SI_cons.mp h8).2).2⟩) h9
    simp only [List.map_cons]
    rw [cv_ref]
    refine va_bald F.1 F.2.1 F.2.2.2.2.2.2.1 h4.1 q0 3 hget rfl (e_in hi0 hil hi) hd ?_
    rw [e_cl hi, Int.toNat_of_nonneg hi0]
    exact hgo

theorem s_aaload (F : ai_F p s m args meth c cc nL own isInit D cid B0 xa E2 Kc) (g : ai_chk own cc nL Kc cal fr lo isInit rt (pc, .aaload, len, a, b, d, t, z, tl) = true) (q : ai_st orc lim X (pc, .aaload, len, a, b, d, t, z, tl) (ai_PS p l e R s m args below meth c D cid B0 xa nL n0 lim ad0 gx gy Qf) L S n hr h Q) : ai_PS p l e R s m args below meth c D cid B0 xa nL n0 lim ad0 gx gy Qf pc L S n hr h := by
  simp only [ai_chk, Bool.and_eq_true, decide_eq_true_eq, Bool.or_eq_true] at g
  simp only [ai_st] at q
  obtain ⟨hd, rfl⟩ := g
  obtain ⟨x, i, R', rfl, hok, hi0, hil, k⟩ := inv_ald q
  obtain ⟨q0, rfl, hq0, hk0⟩ := ok_nat hok
  intro ad H locs ls h1 h2 h3 h4 h5 h6 h7 h8 h9
  have hi : i32 i := (SI_cons.mp h8).1
  have hce := ce_arr (cid := cid) (ad := ad) (hr := hr) (h := h) (t := 4) hk0
  have hget : (ai_ws cid ad n hr h)[q0]? = some (ad q0, .inl (cid 4, (ai_l (q0 : Int)).toNat, ai_ar ad 4 hr h (q0 : Int))) := by rw [ws_get hq0, hce]
  have hvt := e_vr h5 (tg_arr (i := i) (t := 4) hk0) (by omega) (by omega) hi0 hil
  have hgo := k ad H locs ls h1 h2 h3 h4 h5 h6 h7 (SI_cons.mpr ⟨hvt, (SI_cons.mp (SI_cons.mp h8).2).2⟩) h9
  simp only [List.map_cons]
  rw [cv_ref]
  refine va_aldq F.1 F.2.1 F.2.2.2.2.2.2.1 h4.1 q0 4 hget rfl (e_in hi0 hil hi) hd ?_
  rw [e_cl hi, Int.toNat_of_nonneg hi0]
  exact hgo

theorem s_iastore (F : ai_F p s m args meth c cc nL own isInit D cid B0 xa E2 Kc) (g : ai_chk own cc nL Kc cal fr lo isInit rt (pc, .iastore, len, a, b, d, t, z, tl) = true) (q : ai_st orc lim X (pc, .iastore, len, a, b, d, t, z, tl) (ai_PS p l e R s m args below meth c D cid B0 xa nL n0 lim ad0 gx gy Qf) L S n hr h Q) : ai_PS p l e R s m args below meth c D cid B0 xa nL n0 lim ad0 gx gy Qf pc L S n hr h := by
  simp only [ai_chk, Bool.and_eq_true, decide_eq_true_eq, Bool.or_eq_true] at g
  simp only [ai_st] at q
  obtain ⟨hd, rfl⟩ := g
  obtain ⟨x, i, v, R', rfl, hok, hi0, hil, k⟩ := inv_ast q
  obtain ⟨q0, rfl, hq0, hk0⟩ := ok_nat hok
  intro ad H locs ls h1 h2 h3 h4 h5 h6 h7 h8 h9
  have hv := (SI_cons.mp h8).1
  have hi : i32 i := (SI_cons.mp (SI_cons.mp h8).2).1
  have hSI := (SI_cons.mp (SI_cons.mp (SI_cons.mp h8).2).2).2
  have hce := ce_arr (cid := cid) (ad := ad) (hr := hr) (h := h) (t := 0) hk0
  have hget : (ai_ws cid ad n hr h)[q0]? = some (ad q0, .inl (cid 0, (ai_l (q0 : Int)).toNat, ai_ar ad 0 hr h (q0 : Int))) := by rw [ws_get hq0, hce]
  simp only [List.map_cons]
  rw [cv_ref]
  refine va_iast F.1 F.2.1 F.2.2.2.2.2.2.1 h4.1 h4.2 h9 q0 0 hget rfl (e_in hi0 hil hi) hd fun H1 locs1 hP1 hD1 hS1 => ?_
  rw [e_cl hi] at hP1 hD1
  refine k ad H1 locs1 ls h1 h2 h3 (W_set hP1 hD1 (fun _ => ?_) fun k _ hkq => ce_same (fun _ => rfl) fun j => up_ne (by omega) j) (IH_up h5 (by rw [tg_arr (t := 0) hk0]; exact hv)) h6 h7 hSI hS1
  rw [ce_arr (t := 0) hk0, ar_up (Or.inl rfl) hi0]

theorem s_lastore (F : ai_F p s m args meth c cc nL own isInit D cid B0 xa E2 Kc) (g : ai_chk own cc nL Kc cal fr lo isInit rt (pc, .lastore, len, a, b, d, t, z, tl) = true) (q : ai_st orc lim X (pc, .lastore, len, a, b, d, t, z, tl) (ai_PS p l e R s m args below meth c D cid B0 xa nL n0 lim ad0 gx gy Qf) L S n hr h Q) : ai_PS p l e R s m args below meth c D cid B0 xa nL n0 lim ad0 gx gy Qf pc L S n hr h := by
  simp only [ai_chk, Bool.and_eq_true, decide_eq_true_eq, Bool.or_eq_true] at g
  simp only [ai_st] at q
  obtain ⟨hd, rfl⟩ := g
  obtain ⟨x, i, v, R', rfl, hok, hi0, hil, k⟩ := inv_lsa q
  obtain ⟨q0, rfl, hq0, hk0⟩ := ok_nat hok
  intro ad H locs ls h1 h2 h3 h4 h5 h6 h7 h8 h9
  have hv := (SI_cons.mp h8).1
  have hi : i32 i := (SI_cons.mp (SI_cons.mp h8).2).1
  have hSI := (SI_cons.mp (SI_cons.mp (SI_cons.mp h8).2).2).2
  have hce := ce_arr (cid := cid) (ad := ad) (hr := hr) (h := h) (t := 1) hk0
  have hget : (ai_ws cid ad n hr h)[q0]? = some (ad q0, .inl (cid 1, (ai_l (q0 : Int)).toNat, ai_ar ad 1 hr h (q0 : Int))) := by rw [ws_get hq0, hce]
  simp only [List.map_cons]
  rw [cv_ref]
  refine va_last F.1 F.2.1 F.2.2.2.2.2.2.1 h4.1 h4.2 h9 q0 1 hget rfl (e_in hi0 hil hi) hd fun H1 locs1 hP1 hD1 hS1 => ?_
  rw [e_cl hi] at hP1 hD1
  refine k ad H1 locs1 ls h1 h2 h3 (W_set hP1 hD1 (fun _ => ?_) fun k _ hkq => ce_same (fun _ => rfl) fun j => up_ne (by omega) j) (IH_up h5 (by rw [tg_arr (t := 1) hk0]; exact hv)) h6 h7 hSI hS1
  rw [ce_arr (t := 1) hk0, ar_upl hi0]

theorem s_bastore (F : ai_F p s m args meth c cc nL own isInit D cid B0 xa E2 Kc) (g : ai_chk own cc nL Kc cal fr lo isInit rt (pc, .bastore, len, a, b, d, t, z, tl) = true) (q : ai_st orc lim X (pc, .bastore, len, a, b, d, t, z, tl) (ai_PS p l e R s m args below meth c D cid B0 xa nL n0 lim ad0 gx gy Qf) L S n hr h Q) : ai_PS p l e R s m args below meth c D cid B0 xa nL n0 lim ad0 gx gy Qf pc L S n hr h := by
  simp only [ai_chk, Bool.and_eq_true, decide_eq_true_eq, Bool.or_eq_true] at g
  simp only [ai_st] at q
  obtain ⟨hd, rfl, rfl | rfl⟩ := g
  · obtain ⟨x, i, v, R', rfl, hok, hi0, hil, hb, k⟩ := inv_ast q
    obtain ⟨q0, rfl, hq0, hk0⟩ := ok_nat hok
    intro ad H locs ls h1 h2 h3 h4 h5 h6 h7 h8 h9
    have hv := (SI_cons.mp h8).1
    have hi : i32 i := (SI_cons.mp (SI_cons.mp h8).2).1
    have hSI := (SI_cons.mp (SI_cons.mp (SI_cons.mp h8).2).2).2
    have hce := ce_arr (cid := cid) (ad := ad) (hr := hr) (h := h) (t := 2) hk0
    have hget : (ai_ws cid ad n hr h)[q0]? = some (ad q0, .inl (cid 2, (ai_l (q0 : Int)).toNat, ai_ar ad 2 hr h (q0 : Int))) := by rw [ws_get hq0, hce]
    simp only [List.map_cons]
    rw [cv_ref]
    refine va_zast F.1 F.2.1 F.2.2.2.2.2.2.1 h4.1 h4.2 h9 q0 2 hget rfl (e_in hi0 hil hi) hd fun H1 locs1 hP1 hD1 hS1 => ?_
    rw [e_cl hi] at hP1 hD1
    refine k ad H1 locs1 ls h1 h2 h3 (W_set hP1 hD1 (fun _ => ?_) fun k _ hkq => ce_same (fun _ => rfl) fun j => up_ne (by omega) j) (IH_up h5 (by rw [tg_arr (t := 2) hk0]; exact hb)) h6 h7 hSI hS1
    rw [ce_arr (t := 2) hk0, ar_up (Or.inr (Or.inl rfl)) hi0, nar_b hb]
  · obtain ⟨x, i, v, R', rfl, hok, hi0, hil, k⟩ := inv_ast q
    obtain ⟨q0, rfl, hq0, hk0⟩ := ok_nat hok
    intro ad H locs ls h1 h2 h3 h4 h5 h6 h7 h8 h9
    have hv := (SI_cons.mp h8).1
    have hi : i32 i := (SI_cons.mp (SI_cons.mp h8).2).1
    have hSI := (SI_cons.mp (SI_cons.mp (SI_cons.mp h8).2).2).2
    have hce := ce_arr (cid := cid) (ad := ad) (hr := hr) (h := h) (t := 3) hk0
    have hget : (ai_ws cid ad n hr h)[q0]? = some (ad q0, .inl (cid 3, (ai_l (q0 : Int)).toNat, ai_ar ad 3 hr h (q0 : Int))) := by rw [ws_get hq0, hce]
    simp only [List.map_cons]
    rw [cv_ref]
    refine va_bast F.1 F.2.1 F.2.2.2.2.2.2.1 h4.1 h4.2 h9 q0 3 hget rfl (e_in hi0 hil hi) hd fun H1 locs1 hP1 hD1 hS1 => ?_
    rw [e_cl hi] at hP1 hD1
    refine k ad H1 locs1 ls h1 h2 h3 (W_set hP1 hD1 (fun _ => ?_) fun k _ hkq => ce_same (fun _ => rfl) fun j => up_ne (by omega) j) (IH_up h5 (by rw [tg_arr (t := 3) hk0]; exact b8_in v)) h6 h7 hSI hS1
    rw [ce_arr (t := 3) hk0, ar_up (Or.inr (Or.inr rfl)) hi0, nar_8]

theorem s_aastore (F : ai_F p s m args meth c cc nL own isInit D cid B0 xa E2 Kc) (g : ai_chk own cc nL Kc cal fr lo isInit rt (pc, .aastore, len, a, b, d, t, z, tl) = true) (q : ai_st orc lim X (pc, .aastore, len, a, b, d, t, z, tl) (ai_PS p l e R s m args below meth c D cid B0 xa nL n0 lim ad0 gx gy Qf) L S n hr h Q) : ai_PS p l e R s m args below meth c D cid B0 xa nL n0 lim ad0 gx gy Qf pc L S n hr h := by
  simp only [ai_chk, Bool.and_eq_true, decide_eq_true_eq, Bool.or_eq_true] at g
  simp only [ai_st] at q
  obtain ⟨hd, rfl⟩ := g
  obtain ⟨x, i, v, R', rfl, hok, hov, hi0, hil, k⟩ := inv_asa q
  obtain ⟨q0, rfl, hq0, hk0⟩ := ok_nat hok
  obtain ⟨q1, rfl, hq1, hk1⟩ := ok_nat hov
  intro ad H locs ls h1 h2 h3 h4 h5 h6 h7 h8 h9
  have hv := (SI_cons.mp h8).1
  have hi : i32 i := (SI_cons.mp (SI_cons.mp h8).2).1
  have hSI := (SI_cons.mp (SI_cons.mp (SI_cons.mp h8).2).2).2
  have hce := ce_arr (cid := cid) (ad := ad) (hr := hr) (h := h) (t := 4) hk0
  have hget : (ai_ws cid ad n hr h)[q0]? = some (ad q0, .inl (cid 4, (ai_l (q0 : Int)).toNat, ai_ar ad 4 hr h (q0 : Int))) := by rw [ws_get hq0, hce]
  have hget1 : (ai_ws cid ad n hr h)[q1]? = some (ad q1, .inr (8, ai_fs ad 8 hr h (q1 : Int))) := by rw [ws_get hq1, ce_obj hk1 (by omega)]
  simp only [List.map_cons]
  rw [cv_ref, cv_ref]
  refine va_astq F.1 F.2.1 F.2.2.2.2.2.2.1 h4.1 h4.2 h9 q0 4 q1 8 (r := (RX8, TX8, 10)) hget rfl hget1 rfl (e_in hi0 hil hi) hd fun H1 locs1 hP1 hD1 hS1 => ?_
  rw [e_cl hi] at hP1 hD1
  refine k ad H1 locs1 ls h1 h2 h3 (W_set hP1 hD1 (fun _ => ?_) fun k _ hkq => ce_same (fun j => up_ne (by omega) j) fun _ => rfl) (IH_upr h5 (by rw [tg_arr (t := 4) hk0]; exact hv)) h6 h7 hSI hS1
  rw [ce_arr (t := 4) hk0, ar_upq hi0]
end SND5
