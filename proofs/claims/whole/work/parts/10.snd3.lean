/-! the steps, an instruction each: values alone -/
section SND3
variable {p : Program} {l : Launch} {e : Env} {R : Room} {s : State} {m : MethodId} {args : Array Value} {below : List Frame} {meth : Method} {c : Code} {D : va_G} {cid : Nat → ClassId} {B0 : Nat} {xa : Nat → Nat} {nL n0 lim : Nat} {ad0 : Nat → Nat} {gx gy : Nat} {Qf : State → Prop} {cc : ByteArray} {own : String} {isInit : Bool} {E2 : (Nat → Nat) → State → Heap → Prop} {Kc : List Jvm.Cond} {cal : List ai_I} {fr lo : Nat} {rt : Option FieldType} {orc : Nat → SP} {X : XE} {Q : RP} {pc len a b d t n : Nat} {z : Int} {tl : List (Int × Nat)} {L : List (Option AV)} {S : List AV} {hr h : HP}
theorem inv_d1 {S : List AV} {k : AV → List AV → Prop} (h : ai_d1 S k) : ∃ v R, S = v :: R ∧ ai_cat1 v ∧ k v R := by
  unfold ai_d1 at h
  split at h
  · exact ⟨_, _, rfl, c1_iff.mp h⟩
  · exact h.elim
theorem inv_d2 {S : List AV} {k : AV → AV → List AV → Prop} (h : ai_d2 S k) : ∃ v u R, S = v :: u :: R ∧ ai_cat1 v ∧ ai_cat1 u ∧ k v u R := by
  unfold ai_d2 at h
  split at h
  · obtain ⟨h1, h2⟩ := c1_iff.mp h
    obtain ⟨h3, h4⟩ := c1_iff.mp h2
    exact ⟨_, _, _, rfl, h1, h3, h4⟩
  · exact h.elim
theorem cat1_cv {ad xa : Nat → Nat} {v : AV} (h : ai_cat1 v) : (ai_cv ad xa v).category = 1 := by
  unfold ai_cat1 at h
  split at h
  · rfl
  · rename_i x
    show (va_rf (ai_ro ad x)).category = 1
    cases ai_ro ad x <;> rfl
  · exact h.elim
theorem s_iload {i : Nat} (F : ai_F p s m args meth c cc nL own isInit D cid B0 xa E2 Kc) (g : ai_chk own cc nL Kc cal fr lo isInit rt (pc, .iload i, len, a, b, d, t, z, tl) = true) (q : ai_st orc lim X (pc, .iload i, len, a, b, d, t, z, tl) (ai_PS p l e R s m args below meth c D cid B0 xa nL n0 lim ad0 gx gy Qf) L S n hr h Q) : ai_PS p l e R s m args below meth c D cid B0 xa nL n0 lim ad0 gx gy Qf pc L S n hr h := by
  simp only [ai_chk, Bool.and_eq_true, decide_eq_true_eq, Bool.or_eq_true] at g
  simp only [ai_st] at q
  obtain ⟨hd, rfl, rfl⟩ := g
  obtain ⟨x, hx, k⟩ := inv_lint q
  exact sn_pure k (fun hL hS => SI_cons.mpr ⟨hL _ _ hx, hS⟩) fun ad H locs ls hL _ w => lv_iload F.1 F.2.1 hd (hL.2.2.2 _ _ hx) w

theorem s_iload_n {i : Fin 4} (F : ai_F p s m args meth c cc nL own isInit D cid B0 xa E2 Kc) (g : ai_chk own cc nL Kc cal fr lo isInit rt (pc, .iload_n i, len, a, b, d, t, z, tl) = true) (q : ai_st orc lim X (pc, .iload_n i, len, a, b, d, t, z, tl) (ai_PS p l e R s m args below meth c D cid B0 xa nL n0 lim ad0 gx gy Qf) L S n hr h Q) : ai_PS p l e R s m args below meth c D cid B0 xa nL n0 lim ad0 gx gy Qf pc L S n hr h := by
  simp only [ai_chk, Bool.and_eq_true, decide_eq_true_eq, Bool.or_eq_true] at g
  simp only [ai_st] at q
  obtain ⟨hd, rfl, rfl⟩ := g
  obtain ⟨x, hx, k⟩ := inv_lint q
  exact sn_pure k (fun hL hS => SI_cons.mpr ⟨hL _ _ hx, hS⟩) fun ad H locs ls hL _ w => lv_iload_n F.1 F.2.1 hd rfl (hL.2.2.2 _ _ hx) w

theorem s_lload {i : Nat} (F : ai_F p s m args meth c cc nL own isInit D cid B0 xa E2 Kc) (g : ai_chk own cc nL Kc cal fr lo isInit rt (pc, .lload i, len, a, b, d, t, z, tl) = true) (q : ai_st orc lim X (pc, .lload i, len, a, b, d, t, z, tl) (ai_PS p l e R s m args below meth c D cid B0 xa nL n0 lim ad0 gx gy Qf) L S n hr h Q) : ai_PS p l e R s m args below meth c D cid B0 xa nL n0 lim ad0 gx gy Qf pc L S n hr h := by
  simp only [ai_chk, Bool.and_eq_true, decide_eq_true_eq, Bool.or_eq_true] at g
  simp only [ai_st] at q
  obtain ⟨hd, rfl, rfl⟩ := g
  obtain ⟨x, hx, k⟩ := inv_llong q
  exact sn_pure k (fun hL hS => SI_cons.mpr ⟨hL _ _ hx, hS⟩) fun ad H locs ls hL _ w => lv_lload F.1 F.2.1 hd (hL.2.2.2 _ _ hx) w

theorem s_lload_n {i : Fin 4} (F : ai_F p s m args meth c cc nL own isInit D cid B0 xa E2 Kc) (g : ai_chk own cc nL Kc cal fr lo isInit rt (pc, .lload_n i, len, a, b, d, t, z, tl) = true) (q : ai_st orc lim X (pc, .lload_n i, len, a, b, d, t, z, tl) (ai_PS p l e R s m args below meth c D cid B0 xa nL n0 lim ad0 gx gy Qf) L S n hr h Q) : ai_PS p l e R s m args below meth c D cid B0 xa nL n0 lim ad0 gx gy Qf pc L S n hr h := by
  simp only [ai_chk, Bool.and_eq_true, decide_eq_true_eq, Bool.or_eq_true] at g
  simp only [ai_st] at q
  obtain ⟨hd, rfl, rfl⟩ := g
  obtain ⟨x, hx, k⟩ := inv_llong q
  exact sn_pure k (fun hL hS => SI_cons.mpr ⟨hL _ _ hx, hS⟩) fun ad H locs ls hL _ w => lv_lload_n F.1 F.2.1 hd rfl (hL.2.2.2 _ _ hx) w

theorem s_aload {i : Nat} (F : ai_F p s m args meth c cc nL own isInit D cid B0 xa E2 Kc) (g : ai_chk own cc nL Kc cal fr lo isInit rt (pc, .aload i, len, a, b, d, t, z, tl) = true) (q : ai_st orc lim X (pc, .aload i, len, a, b, d, t, z, tl) (ai_PS p l e R s m args below meth c D cid B0 xa nL n0 lim ad0 gx gy Qf) L S n hr h Q) : ai_PS p l e R s m args below meth c D cid B0 xa nL n0 lim ad0 gx gy Qf pc L S n hr h := by
  simp only [ai_chk, Bool.and_eq_true, decide_eq_true_eq, Bool.or_eq_true] at g
  simp only [ai_st] at q
  obtain ⟨hd, rfl, rfl⟩ := g
  rcases inv_lref q with ⟨x, hx, k⟩ | ⟨x, hx, k⟩
  · refine sn_pure k (fun hL hS => SI_cons.mpr ⟨hL _ _ hx, hS⟩) fun ad H locs ls hL _ w => ?_
    have hv := hL.2.2.2 _ _ hx
    have hw : W p l e R s m args below meth c H locs (n - n0 + gx) (ai_cs n - ai_cs n0 + gy) Qf (F0 m _ ls (ai_cv ad xa (2, x) :: S.map (ai_cv ad xa))) := w
    rw [show ai_cv ad xa (2, x) = va_rf (ai_ro ad x) from rfl] at hv hw
    cases hq : ai_ro ad x with
    | none =>
      rw [hq] at hv hw
      exact lv_aloadN F.1 F.2.1 hd hv hw
    | some y =>
      rw [hq] at hv hw
      exact lv_aload F.1 F.2.1 hd hv hw
  · exact sn_pure k (fun hL hS => SI_cons.mpr ⟨hL _ _ hx, hS⟩) fun ad H locs ls hL _ w => lv_aload F.1 F.2.1 hd (hL.2.2.2 _ _ hx) w

theorem s_aload_n {i : Fin 4} (F : ai_F p s m args meth c cc nL own isInit D cid B0 xa E2 Kc) (g : ai_chk own cc nL Kc cal fr lo isInit rt (pc, .aload_n i, len, a, b, d, t, z, tl) = true) (q : ai_st orc lim X (pc, .aload_n i, len, a, b, d, t, z, tl) (ai_PS p l e R s m args below meth c D cid B0 xa nL n0 lim ad0 gx gy Qf) L S n hr h Q) : ai_PS p l e R s m args below meth c D cid B0 xa nL n0 lim ad0 gx gy Qf pc L S n hr h := by
  simp only [ai_chk, Bool.and_eq_true, decide_eq_true_eq, Bool.or_eq_true] at g
  simp only [ai_st] at q
  obtain ⟨hd, rfl, rfl⟩ := g
  rcases inv_lref q with ⟨x, hx, k⟩ | ⟨x, hx, k⟩
  · refine sn_pure k (fun hL hS => SI_cons.mpr ⟨hL _ _ hx, hS⟩) fun ad H locs ls hL _ w => ?_
    have hv := hL.2.2.2 _ _ hx
    have hw : W p l e R s m args below meth c H locs (n - n0 + gx) (ai_cs n - ai_cs n0 + gy) Qf (F0 m _ ls (ai_cv ad xa (2, x) :: S.map (ai_cv ad xa))) := w
    rw [show ai_cv ad xa (2, x) = va_rf (ai_ro ad x) from rfl] at hv hw
    cases hq : ai_ro ad x with
    | none =>
      rw [hq] at hv hw
      exact lv_aload_nN F.1 F.2.1 hd rfl hv hw
    | some y =>
      rw [hq] at hv hw
      exact lv_aload_n F.1 F.2.1 hd rfl hv hw
  · exact sn_pure k (fun hL hS => SI_cons.mpr ⟨hL _ _ hx, hS⟩) fun ad H locs ls hL _ w => lv_aload_n F.1 F.2.1 hd rfl (hL.2.2.2 _ _ hx) w

theorem s_istore {i : Nat} (F : ai_F p s m args meth c cc nL own isInit D cid B0 xa E2 Kc) (g : ai_chk own cc nL Kc cal fr lo isInit rt (pc, .istore i, len, a, b, d, t, z, tl) = true) (q : ai_st orc lim X (pc, .istore i, len, a, b, d, t, z, tl) (ai_PS p l e R s m args below meth c D cid B0 xa nL n0 lim ad0 gx gy Qf) L S n hr h Q) : ai_PS p l e R s m args below meth c D cid B0 xa nL n0 lim ad0 gx gy Qf pc L S n hr h := by
  simp only [ai_chk, Bool.and_eq_true, decide_eq_true_eq, Bool.or_eq_true] at g
  simp only [ai_st] at q
  obtain ⟨hd, ⟨rfl, rfl⟩, hi⟩ := g
  obtain ⟨x, R', rfl, k⟩ := inv_i1 q
  exact sn_istore k (by simp) (fun _ hS => ⟨(SI_cons.mp hS).2, (SI_cons.mp hS).1⟩) fun ad H locs ls hL hLI hS w => lv_istore F.1 F.2.1 hd (LR_has hL) hi rfl w

theorem s_istore_n {i : Fin 4} (F : ai_F p s m args meth c cc nL own isInit D cid B0 xa E2 Kc) (g : ai_chk own cc nL Kc cal fr lo isInit rt (pc, .istore_n i, len, a, b, d, t, z, tl) = true) (q : ai_st orc lim X (pc, .istore_n i, len, a, b, d, t, z, tl) (ai_PS p l e R s m args below meth c D cid B0 xa nL n0 lim ad0 gx gy Qf) L S n hr h Q) : ai_PS p l e R s m args below meth c D cid B0 xa nL n0 lim ad0 gx gy Qf pc L S n hr h := by
  simp only [ai_chk, Bool.and_eq_true, decide_eq_true_eq, Bool.or_eq_true] at g
  simp only [ai_st] at q
  obtain ⟨hd, ⟨rfl, rfl⟩, hi⟩ := g
  obtain ⟨x, R', rfl, k⟩ := inv_i1 q
  exact sn_istore k (by simp) (fun _ hS => ⟨(SI_cons.mp hS).2, (SI_cons.mp hS).1⟩) fun ad H locs ls hL hLI hS w => lv_istore_n F.1 F.2.1 hd rfl (LR_has hL) hi rfl w

theorem s_lstore {i : Nat} (F : ai_F p s m args meth c cc nL own isInit D cid B0 xa E2 Kc) (g : ai_chk own cc nL Kc cal fr lo isInit rt (pc, .lstore i, len, a, b, d, t, z, tl) = true) (q : ai_st orc lim X (pc, .lstore i, len, a, b, d, t, z, tl) (ai_PS p l e R s m args below meth c D cid B0 xa nL n0 lim ad0 gx gy Qf) L S n hr h Q) : ai_PS p l e R s m args below meth c D cid B0 xa nL n0 lim ad0 gx gy Qf pc L S n hr h := by
  simp only [ai_chk, Bool.and_eq_true, decide_eq_true_eq, Bool.or_eq_true] at g
  simp only [ai_st] at q
  obtain ⟨hd, ⟨rfl, rfl⟩, hi⟩ := g
  obtain ⟨x, R', rfl, k⟩ := inv_l1 q
  exact sn_lstore k hi (fun hS => ⟨(SI_cons.mp hS).2, (SI_cons.mp hS).1⟩) fun ad H locs ls hL w => lv_lstore F.1 F.2.1 hd (LR_has hL) hi rfl w

theorem s_lstore_n {i : Fin 4} (F : ai_F p s m args meth c cc nL own isInit D cid B0 xa E2 Kc) (g : ai_chk own cc nL Kc cal fr lo isInit rt (pc, .lstore_n i, len, a, b, d, t, z, tl) = true) (q : ai_st orc lim X (pc, .lstore_n i, len, a, b, d, t, z, tl) (ai_PS p l e R s m args below meth c D cid B0 xa nL n0 lim ad0 gx gy Qf) L S n hr h Q) : ai_PS p l e R s m args below meth c D cid B0 xa nL n0 lim ad0 gx gy Qf pc L S n hr h := by
  simp only [ai_chk, Bool.and_eq_true, decide_eq_true_eq, Bool.or_eq_true] at g
  simp only [ai_st] at q
  obtain ⟨hd, ⟨rfl, rfl⟩, hi⟩ := g
  obtain ⟨x, R', rfl, k⟩ := inv_l1 q
  exact sn_lstore k hi (fun hS => ⟨(SI_cons.mp hS).2, (SI_cons.mp hS).1⟩) fun ad H locs ls hL w => lv_lstore_n F.1 F.2.1 hd rfl (LR_has hL) hi rfl w

theorem s_astore {i : Nat} (F : ai_F p s m args meth c cc nL own isInit D cid B0 xa E2 Kc) (g : ai_chk own cc nL Kc cal fr lo isInit rt (pc, .astore i, len, a, b, d, t, z, tl) = true) (q : ai_st orc lim X (pc, .astore i, len, a, b, d, t, z, tl) (ai_PS p l e R s m args below meth c D cid B0 xa nL n0 lim ad0 gx gy Qf) L S n hr h Q) : ai_PS p l e R s m args below meth c D cid B0 xa nL n0 lim ad0 gx gy Qf pc L S n hr h := by
  simp only [ai_chk, Bool.and_eq_true, decide_eq_true_eq, Bool.or_eq_true] at g
  simp only [ai_st] at q
  obtain ⟨hd, ⟨rfl, rfl⟩, hi⟩ := g
  obtain ⟨x, R', rfl, k⟩ := inv_r1 q
  refine sn_istore k (by simp) (fun _ hS => ⟨(SI_cons.mp hS).2, (SI_cons.mp hS).1⟩) fun ad H locs ls hL hLI hS w => ?_
  have hw := w
  simp only [List.map_cons]
  rw [show ai_cv ad xa (2, x) = va_rf (ai_ro ad x) from rfl] at hw ⊢
  cases hq : ai_ro ad x with
  | none =>
    rw [hq] at hw
    exact lv_astoreN F.1 F.2.1 hd (LR_has hL) hi rfl hw
  | some y =>
    rw [hq] at hw
    exact lv_astore F.1 F.2.1 hd (LR_has hL) hi rfl hw

theorem s_astore_n {i : Fin 4} (F : ai_F p s m args meth c cc nL own isInit D cid B0 xa E2 Kc) (g : ai_chk own cc nL Kc cal fr lo isInit rt (pc, .astore_n i, len, a, b, d, t, z, tl) = true) (q : ai_st orc lim X (pc, .astore_n i, len, a, b, d, t, z, tl) (ai_PS p l e R s m args below meth c D cid B0 xa nL n0 lim ad0 gx gy Qf) L S n hr h Q) : ai_PS p l e R s m args below meth c D cid B0 xa nL n0 lim ad0 gx gy Qf pc L S n hr h := by
  simp only [ai_chk, Bool.and_eq_true, decide_eq_true_eq, Bool.or_eq_true] at g
  simp only [ai_st] at q
  obtain ⟨hd, ⟨rfl, rfl⟩, hi⟩ := g
  obtain ⟨x, R', rfl, k⟩ := inv_r1 q
  refine sn_istore k (by simp) (fun _ hS => ⟨(SI_cons.mp hS).2, (SI_cons.mp hS).1⟩) fun ad H locs ls hL hLI hS w => ?_
  have hw := w
  simp only [List.map_cons]
  rw [show ai_cv ad xa (2, x) = va_rf (ai_ro ad x) from rfl] at hw ⊢
  cases hq : ai_ro ad x with
  | none =>
    rw [hq] at hw
    exact lv_astore_nN F.1 F.2.1 hd rfl (LR_has hL) hi rfl hw
  | some y =>
    rw [hq] at hw
    exact lv_astore_n F.1 F.2.1 hd rfl (LR_has hL) hi rfl hw

theorem s_iinc {i : Nat} {v : Int} (F : ai_F p s m args meth c cc nL own isInit D cid B0 xa E2 Kc) (g : ai_chk own cc nL Kc cal fr lo isInit rt (pc, .iinc i v, len, a, b, d, t, z, tl) = true) (q : ai_st orc lim X (pc, .iinc i v, len, a, b, d, t, z, tl) (ai_PS p l e R s m args below meth c D cid B0 xa nL n0 lim ad0 gx gy Qf) L S n hr h Q) : ai_PS p l e R s m args below meth c D cid B0 xa nL n0 lim ad0 gx gy Qf pc L S n hr h := by
  simp only [ai_chk, Bool.and_eq_true, decide_eq_true_eq, Bool.or_eq_true] at g
  simp only [ai_st] at q
  obtain ⟨hd, ⟨rfl, rfl⟩, rfl⟩ := g
  obtain ⟨x, hx, k⟩ := inv_lint q
  refine sn_istore k (by simp) (fun _ hS => ⟨hS, i32_of _⟩) fun ad H locs ls hL hLI hS w => ?_
  obtain ⟨k0, hk0⟩ := List.getElem?_of_mem ((ll_mem (ad := ad) (xa := xa) L 0 (0 + a, ai_cv ad xa (0, x))).mpr ⟨a, (0, x), hx, rfl⟩)
  rw [Nat.zero_add] at hk0
  exact lv_iinc F.1 F.2.1 hd (LR_has hL) hk0 (by rw [w32_of, Int32.ofInt_add]) (LR_len hL hx) rfl w

theorem s_iconst {v : Int} (F : ai_F p s m args meth c cc nL own isInit D cid B0 xa E2 Kc) (g : ai_chk own cc nL Kc cal fr lo isInit rt (pc, .iconst v, len, a, b, d, t, z, tl) = true) (q : ai_st orc lim X (pc, .iconst v, len, a, b, d, t, z, tl) (ai_PS p l e R s m args below meth c D cid B0 xa nL n0 lim ad0 gx gy Qf) L S n hr h Q) : ai_PS p l e R s m args below meth c D cid B0 xa nL n0 lim ad0 gx gy Qf pc L S n hr h := by
  simp only [ai_chk, Bool.and_eq_true, decide_eq_true_eq, Bool.or_eq_true] at g
  simp only [ai_st] at q
  obtain ⟨hd, ⟨⟨rfl, rfl⟩, h1⟩, h2⟩ := g
  exact sn_pure q (fun hL hS => SI_cons.mpr ⟨⟨by omega, by omega⟩, hS⟩) fun ad H locs ls hL _ w => lv_iconst F.1 F.2.1 hd rfl w

theorem s_bipush {v : Int} (F : ai_F p s m args meth c cc nL own isInit D cid B0 xa E2 Kc) (g : ai_chk own cc nL Kc cal fr lo isInit rt (pc, .bipush v, len, a, b, d, t, z, tl) = true) (q : ai_st orc lim X (pc, .bipush v, len, a, b, d, t, z, tl) (ai_PS p l e R s m args below meth c D cid B0 xa nL n0 lim ad0 gx gy Qf) L S n hr h Q) : ai_PS p l e R s m args below meth c D cid B0 xa nL n0 lim ad0 gx gy Qf pc L S n hr h := by
  simp only [ai_chk, Bool.and_eq_true, decide_eq_true_eq, Bool.or_eq_true] at g
  simp only [ai_st] at q
  obtain ⟨hd, ⟨⟨hv, rfl⟩, h1⟩, h2⟩ := g
  exact sn_pure q (fun hL hS => SI_cons.mpr ⟨⟨by omega, by omega⟩, hS⟩) fun ad H locs ls hL _ w => lv_bipush F.1 F.2.1 hd hv w

theorem s_sipush {v : Int} (F : ai_F p s m args meth c cc nL own isInit D cid B0 xa E2 Kc) (g : ai_chk own cc nL Kc cal fr lo isInit rt (pc, .sipush v, len, a, b, d, t, z, tl) = true) (q : ai_st orc lim X (pc, .sipush v, len, a, b, d, t, z, tl) (ai_PS p l e R s m args below meth c D cid B0 xa nL n0 lim ad0 gx gy Qf) L S n hr h Q) : ai_PS p l e R s m args below meth c D cid B0 xa nL n0 lim ad0 gx gy Qf pc L S n hr h := by
  simp only [ai_chk, Bool.and_eq_true, decide_eq_true_eq, Bool.or_eq_true] at g
  simp only [ai_st] at q
  obtain ⟨hd, ⟨⟨hv, rfl⟩, h1⟩, h2⟩ := g
  exact sn_pure q (fun hL hS => SI_cons.mpr ⟨⟨by omega, by omega⟩, hS⟩) fun ad H locs ls hL _ w => lv_sipush F.1 F.2.1 hd hv w

theorem s_ldc {i : Nat} (F : ai_F p s m args meth c cc nL own isInit D cid B0 xa E2 Kc) (g : ai_chk own cc nL Kc cal fr lo isInit rt (pc, .ldc i, len, a, b, d, t, z, tl) = true) (q : ai_st orc lim X (pc, .ldc i, len, a, b, d, t, z, tl) (ai_PS p l e R s m args below meth c D cid B0 xa nL n0 lim ad0 gx gy Qf) L S n hr h Q) : ai_PS p l e R s m args below meth c D cid B0 xa nL n0 lim ad0 gx gy Qf pc L S n hr h := by
  simp only [ai_chk, Bool.and_eq_true, decide_eq_true_eq, Bool.or_eq_true] at g
  simp only [ai_st] at q
  obtain ⟨hd, ⟨⟨⟨⟨rfl, hk⟩, rfl⟩, h1⟩, h2⟩ | ⟨⟨⟨rfl, ho⟩, rfl⟩, rfl⟩⟩ := g
  · exact sn_pure q (fun hL hS => SI_cons.mpr ⟨⟨h1, h2⟩, hS⟩) fun ad H locs ls hL _ w => lv_ldc F.1 F.2.1 F.2.2.2.1 (F.2.2.2.2.1 _ (F.2.2.2.2.2.2.2.2.2.2 _ (by rw [nth_eq] at hk; exact List.mem_of_getElem? hk))) hd w
  · subst ho
    intro ad H locs ls h1 h2 h3 h4 h5 h6 h7 h8 h9
    exact va_ldcS F.1 F.2.1 F.2.2.2.1 (F.2.2.2.2.2.2.2.2.2.1.2.2.2 xa s s.heap F.2.2.2.2.2.2.2.2.1.2.2).1 hd (q ad H locs ls h1 h2 h3 h4 h5 h6 h7 (SI_cons.mpr ⟨trivial, h8⟩) h9)

theorem s_ldc_w {i : Nat} (F : ai_F p s m args meth c cc nL own isInit D cid B0 xa E2 Kc) (g : ai_chk own cc nL Kc cal fr lo isInit rt (pc, .ldc_w i, len, a, b, d, t, z, tl) = true) (q : ai_st orc lim X (pc, .ldc_w i, len, a, b, d, t, z, tl) (ai_PS p l e R s m args below meth c D cid B0 xa nL n0 lim ad0 gx gy Qf) L S n hr h Q) : ai_PS p l e R s m args below meth c D cid B0 xa nL n0 lim ad0 gx gy Qf pc L S n hr h := by
  simp only [ai_chk, Bool.and_eq_true, decide_eq_true_eq, Bool.or_eq_true] at g
  simp only [ai_st] at q
  obtain ⟨hd, ⟨⟨hk, rfl⟩, h1⟩, h2⟩ := g
  exact sn_pure q (fun hL hS => SI_cons.mpr ⟨⟨h1, h2⟩, hS⟩) fun ad H locs ls hL _ w => lv_ldcw F.1 F.2.1 F.2.2.2.1 (F.2.2.2.2.1 _ (F.2.2.2.2.2.2.2.2.2.2 _ (by rw [nth_eq] at hk; exact List.mem_of_getElem? hk))) hd w

theorem s_ldc2 {i : Nat} (F : ai_F p s m args meth c cc nL own isInit D cid B0 xa E2 Kc) (g : ai_chk own cc nL Kc cal fr lo isInit rt (pc, .ldc2_w i, len, a, b, d, t, z, tl) = true) (q : ai_st orc lim X (pc, .ldc2_w i, len, a, b, d, t, z, tl) (ai_PS p l e R s m args below meth c D cid B0 xa nL n0 lim ad0 gx gy Qf) L S n hr h Q) : ai_PS p l e R s m args below meth c D cid B0 xa nL n0 lim ad0 gx gy Qf pc L S n hr h := by
  simp only [ai_chk, Bool.and_eq_true, decide_eq_true_eq, Bool.or_eq_true] at g
  simp only [ai_st] at q
  obtain ⟨hd, ⟨⟨hk, rfl⟩, h1⟩, h2⟩ := g
  exact sn_pure q (fun hL hS => SI_cons.mpr ⟨⟨h1, h2⟩, hS⟩) fun ad H locs ls hL _ w => lv_ldc2 F.1 F.2.1 F.2.2.2.1 (F.2.2.2.2.1 _ (F.2.2.2.2.2.2.2.2.2.2 _ (by rw [nth_eq] at hk; exact List.mem_of_getElem? hk))) hd w

theorem s_lconst {i : Fin 2} (F : ai_F p s m args meth c cc nL own isInit D cid B0 xa E2 Kc) (g : ai_chk own cc nL Kc cal fr lo isInit rt (pc, .lconst i, len, a, b, d, t, z, tl) = true) (q : ai_st orc lim X (pc, .lconst i, len, a, b, d, t, z, tl) (ai_PS p l e R s m args below meth c D cid B0 xa nL n0 lim ad0 gx gy Qf) L S n hr h Q) : ai_PS p l e R s m args below meth c D cid B0 xa nL n0 lim ad0 gx gy Qf pc L S n hr h := by
  simp only [ai_chk, Bool.and_eq_true, decide_eq_true_eq, Bool.or_eq_true] at g
  simp only [ai_st] at q
  obtain ⟨hd, ⟨⟨hk, rfl⟩, h1⟩, h2⟩ := g
  exact sn_pure q (fun hL hS => SI_cons.mpr ⟨⟨by omega, by omega⟩, hS⟩) fun ad H locs ls hL _ w => lv_lconst F.1 F.2.1 hd hk w

theorem s_iadd (F : ai_F p s m args meth c cc nL own isInit D cid B0 xa E2 Kc) (g : ai_chk own cc nL Kc cal fr lo isInit rt (pc, .iadd, len, a, b, d, t, z, tl) = true) (q : ai_st orc lim X (pc, .iadd, len, a, b, d, t, z, tl) (ai_PS p l e R s m args below meth c D cid B0 xa nL n0 lim ad0 gx gy Qf) L S n hr h Q) : ai_PS p l e R s m args below meth c D cid B0 xa nL n0 lim ad0 gx gy Qf pc L S n hr h := by
  simp only [ai_chk, Bool.and_eq_true, decide_eq_true_eq, Bool.or_eq_true] at g
  simp only [ai_st] at q
  obtain ⟨hd, rfl⟩ := g
  obtain ⟨x, y, R', rfl, k⟩ := inv_i2 q
  refine sn_pure k (fun _ hS => SI_cons.mpr ⟨i32_of _, (SI_cons.mp (SI_cons.mp hS).2).2⟩) fun ad H locs ls _ _ w => lv_iadd F.1 F.2.1 hd ?_
  rw [e_add]; exact w

theorem s_isub (F : ai_F p s m args meth c cc nL own isInit D cid B0 xa E2 Kc) (g : ai_chk own cc nL Kc cal fr lo isInit rt (pc, .isub, len, a, b, d, t, z, tl) = true) (q : ai_st orc lim X (pc, .isub, len, a, b, d, t, z, tl) (ai_PS p l e R s m args below meth c D cid B0 xa nL n0 lim ad0 gx gy Qf) L S n hr h Q) : ai_PS p l e R s m args below meth c D cid B0 xa nL n0 lim ad0 gx gy Qf pc L S n hr h := by
  simp only [ai_chk, Bool.and_eq_true, decide_eq_true_eq, Bool.or_eq_true] at g
  simp only [ai_st] at q
  obtain ⟨hd, rfl⟩ := g
  obtain ⟨x, y, R', rfl, k⟩ := inv_i2 q
  refine sn_pure k (fun _ hS => SI_cons.mpr ⟨i32_of _, (SI_cons.mp (SI_cons.mp hS).2).2⟩) fun ad H locs ls _ _ w => lv_isub F.1 F.2.1 hd ?_
  rw [e_sub]; exact w

theorem s_imul (F : ai_F p s m args meth c cc nL own isInit D cid B0 xa E2 Kc) (g : ai_chk own cc nL Kc cal fr lo isInit rt (pc, .imul, len, a, b, d, t, z, tl) = true) (q : ai_st orc lim X (pc, .imul, len, a, b, d, t, z, tl) (ai_PS p l e R s m args below meth c D cid B0 xa nL n0 lim ad0 gx gy Qf) L S n hr h Q) : ai_PS p l e R s m args below meth c D cid B0 xa nL n0 lim ad0 gx gy Qf pc L S n hr h := by
  simp only [ai_chk, Bool.and_eq_true, decide_eq_true_eq, Bool.or_eq_true] at g
  simp only [ai_st] at q
  obtain ⟨hd, rfl⟩ := g
  obtain ⟨x, y, R', rfl, k⟩ := inv_i2 q
  refine sn_pure k (fun _ hS => SI_cons.mpr ⟨i32_of _, (SI_cons.mp (SI_cons.mp hS).2).2⟩) fun ad H locs ls _ _ w => lv_imul F.1 F.2.1 hd ?_
  rw [e_mul]; exact w

theorem s_ladd (F : ai_F p s m args meth c cc nL own isInit D cid B0 xa E2 Kc) (g : ai_chk own cc nL Kc cal fr lo isInit rt (pc, .ladd, len, a, b, d, t, z, tl) = true) (q : ai_st orc lim X (pc, .ladd, len, a, b, d, t, z, tl) (ai_PS p l e R s m args below meth c D cid B0 xa nL n0 lim ad0 gx gy Qf) L S n hr h Q) : ai_PS p l e R s m args below meth c D cid B0 xa nL n0 lim ad0 gx gy Qf pc L S n hr h := by
  simp only [ai_chk, Bool.and_eq_true, decide_eq_true_eq, Bool.or_eq_true] at g
  simp only [ai_st] at q
  obtain ⟨hd, rfl⟩ := g
  obtain ⟨x, y, R', rfl, k⟩ := inv_l2 q
  refine sn_pure k (fun _ hS => SI_cons.mpr ⟨i64_of _, (SI_cons.mp (SI_cons.mp hS).2).2⟩) fun ad H locs ls _ _ w => lv_ladd F.1 F.2.1 hd ?_
  rw [f_add]; exact w

theorem s_lsub (F : ai_F p s m args meth c cc nL own isInit D cid B0 xa E2 Kc) (g : ai_chk own cc nL Kc cal fr lo isInit rt (pc, .lsub, len, a, b, d, t, z, tl) = true) (q : ai_st orc lim X (pc, .lsub, len, a, b, d, t, z, tl) (ai_PS p l e R s m args below meth c D cid B0 xa nL n0 lim ad0 gx gy Qf) L S n hr h Q) : ai_PS p l e R s m args below meth c D cid B0 xa nL n0 lim ad0 gx gy Qf pc L S n hr h := by
  simp only [ai_chk, Bool.and_eq_true, decide_eq_true_eq, Bool.or_eq_true] at g
  simp only [ai_st] at q
  obtain ⟨hd, rfl⟩ := g
  obtain ⟨x, y, R', rfl, k⟩ := inv_l2 q
  refine sn_pure k (fun _ hS => SI_cons.mpr ⟨i64_of _, (SI_cons.mp (SI_cons.mp hS).2).2⟩) fun ad H locs ls _ _ w => lv_lsub F.1 F.2.1 hd ?_
  rw [f_sub]; exact w

theorem s_lmul (F : ai_F p s m args meth c cc nL own isInit D cid B0 xa E2 Kc) (g : ai_chk own cc nL Kc cal fr lo isInit rt (pc, .lmul, len, a, b, d, t, z, tl) = true) (q : ai_st orc lim X (pc, .lmul, len, a, b, d, t, z, tl) (ai_PS p l e R s m args below meth c D cid B0 xa nL n0 lim ad0 gx gy Qf) L S n hr h Q) : ai_PS p l e R s m args below meth c D cid B0 xa nL n0 lim ad0 gx gy Qf pc L S n hr h := by
  simp only [ai_chk, Bool.and_eq_true, decide_eq_true_eq, Bool.or_eq_true] at g
  simp only [ai_st] at q
  obtain ⟨hd, rfl⟩ := g
  obtain ⟨x, y, R', rfl, k⟩ := inv_l2 q
  refine sn_pure k (fun _ hS => SI_cons.mpr ⟨i64_of _, (SI_cons.mp (SI_cons.mp hS).2).2⟩) fun ad H locs ls _ _ w => lv_lmul F.1 F.2.1 hd ?_
  rw [f_mul]; exact w

theorem s_iand (F : ai_F p s m args meth c cc nL own isInit D cid B0 xa E2 Kc) (g : ai_chk own cc nL Kc cal fr lo isInit rt (pc, .iand, len, a, b, d, t, z, tl) = true) (q : ai_st orc lim X (pc, .iand, len, a, b, d, t, z, tl) (ai_PS p l e R s m args below meth c D cid B0 xa nL n0 lim ad0 gx gy Qf) L S n hr h Q) : ai_PS p l e R s m args below meth c D cid B0 xa nL n0 lim ad0 gx gy Qf pc L S n hr h := by
  simp only [ai_chk, Bool.and_eq_true, decide_eq_true_eq, Bool.or_eq_true] at g
  simp only [ai_st] at q
  obtain ⟨hd, rfl⟩ := g
  obtain ⟨x, y, R', rfl, k⟩ := inv_i2 q
  refine sn_pure k (fun _ hS => SI_cons.mpr ⟨i32_of _, (SI_cons.mp (SI_cons.mp hS).2).2⟩) fun ad H locs ls _ _ w => lv_iand F.1 F.2.1 hd ?_
  rw [← Int32.ofInt_toInt (Int32.ofInt x &&& Int32.ofInt y)]; exact w

theorem s_ior (F : ai_F p s m args meth c cc nL own isInit D cid B0 xa E2 Kc) (g : ai_chk own cc nL Kc cal fr lo isInit rt (pc, .ior, len, a, b, d, t, z, tl) = true) (q : ai_st orc lim X (pc, .ior, len, a, b, d, t, z, tl) (ai_PS p l e R s m args below meth c D cid B0 xa nL n0 lim ad0 gx gy Qf) L S n hr h Q) : ai_PS p l e R s m args below meth c D cid B0 xa nL n0 lim ad0 gx gy Qf pc L S n hr h := by
  simp only [ai_chk, Bool.and_eq_true, decide_eq_true_eq, Bool.or_eq_true] at g
  simp only [ai_st] at q
  obtain ⟨hd, rfl⟩ := g
  obtain ⟨x, y, R', rfl, k⟩ := inv_i2 q
  refine sn_pure k (fun _ hS => SI_cons.mpr ⟨i32_of _, (SI_cons.mp (SI_cons.mp hS).2).2⟩) fun ad H locs ls _ _ w => lv_ior F.1 F.2.1 hd ?_
  rw [← Int32.ofInt_toInt (Int32.ofInt x ||| Int32.ofInt y)]; exact w

theorem s_ixor (F : ai_F p s m args meth c cc nL own isInit D cid B0 xa E2 Kc) (g : ai_chk own cc nL Kc cal fr lo isInit rt (pc, .ixor, len, a, b, d, t, z, tl) = true) (q : ai_st orc lim X (pc, .ixor, len, a, b, d, t, z, tl) (ai_PS p l e R s m args below meth c D cid B0 xa nL n0 lim ad0 gx gy Qf) L S n hr h Q) : ai_PS p l e R s m args below meth c D cid B0 xa nL n0 lim ad0 gx gy Qf pc L S n hr h := by
  simp only [ai_chk, Bool.and_eq_true, decide_eq_true_eq, Bool.or_eq_true] at g
  simp only [ai_st] at q
  obtain ⟨hd, rfl⟩ := g
  obtain ⟨x, y, R', rfl, k⟩ := inv_i2 q
  refine sn_pure k (fun _ hS => SI_cons.mpr ⟨i32_of _, (SI_cons.mp (SI_cons.mp hS).2).2⟩) fun ad H locs ls _ _ w => lv_ixor F.1 F.2.1 hd ?_
  rw [← Int32.ofInt_toInt (Int32.ofInt x ^^^ Int32.ofInt y)]; exact w

theorem s_ishl (F : ai_F p s m args meth c cc nL own isInit D cid B0 xa E2 Kc) (g : ai_chk own cc nL Kc cal fr lo isInit rt (pc, .ishl, len, a, b, d, t, z, tl) = true) (q : ai_st orc lim X (pc, .ishl, len, a, b, d, t, z, tl) (ai_PS p l e R s m args below meth c D cid B0 xa nL n0 lim ad0 gx gy Qf) L S n hr h Q) : ai_PS p l e R s m args below meth c D cid B0 xa nL n0 lim ad0 gx gy Qf pc L S n hr h := by
  simp only [ai_chk, Bool.and_eq_true, decide_eq_true_eq, Bool.or_eq_true] at g
  simp only [ai_st] at q
  obtain ⟨hd, rfl⟩ := g
  obtain ⟨x, y, R', rfl, k⟩ := inv_i2 q
  refine sn_pure k (fun _ hS => SI_cons.mpr ⟨i32_of _, (SI_cons.mp (SI_cons.mp hS).2).2⟩) fun ad H locs ls _ _ w => lv_ishl F.1 F.2.1 hd ?_
  rw [← Int32.ofInt_toInt (Int32.ofInt x <<< (Int32.ofInt y &&& 31))]; exact w

theorem s_ishr (F : ai_F p s m args meth c cc nL own isInit D cid B0 xa E2 Kc) (g : ai_chk own cc nL Kc cal fr lo isInit rt (pc, .ishr, len, a, b, d, t, z, tl) = true) (q : ai_st orc lim X (pc, .ishr, len, a, b, d, t, z, tl) (ai_PS p l e R s m args below meth c D cid B0 xa nL n0 lim ad0 gx gy Qf) L S n hr h Q) : ai_PS p l e R s m args below meth c D cid B0 xa nL n0 lim ad0 gx gy Qf pc L S n hr h := by
  simp only [ai_chk, Bool.and_eq_true, decide_eq_true_eq, Bool.or_eq_true] at g
  simp only [ai_st] at q
  obtain ⟨hd, rfl⟩ := g
  obtain ⟨x, y, R', rfl, k⟩ := inv_i2 q
  refine sn_pure k (fun _ hS => SI_cons.mpr ⟨i32_of _, (SI_cons.mp (SI_cons.mp hS).2).2⟩) fun ad H locs ls _ _ w => lv_ishr F.1 F.2.1 hd ?_
  rw [← Int32.ofInt_toInt (Int32.ofInt x >>> (Int32.ofInt y &&& 31))]; exact w

theorem s_land (F : ai_F p s m args meth c cc nL own isInit D cid B0 xa E2 Kc) (g : ai_chk own cc nL Kc cal fr lo isInit rt (pc, .land, len, a, b, d, t, z, tl) = true) (q : ai_st orc lim X (pc, .land, len, a, b, d, t, z, tl) (ai_PS p l e R s m args below meth c D cid B0 xa nL n0 lim ad0 gx gy Qf) L S n hr h Q) : ai_PS p l e R s m args below meth c D cid B0 xa nL n0 lim ad0 gx gy Qf pc L S n hr h := by
  simp only [ai_chk, Bool.and_eq_true, decide_eq_true_eq, Bool.or_eq_true] at g
  simp only [ai_st] at q
  obtain ⟨hd, rfl⟩ := g
  obtain ⟨x, y, R', rfl, k⟩ := inv_l2 q
  refine sn_pure k (fun _ hS => SI_cons.mpr ⟨i64_of _, (SI_cons.mp (SI_cons.mp hS).2).2⟩) fun ad H locs ls _ _ w => lv_land F.1 F.2.1 hd ?_
  rw [← Int64.ofInt_toInt (Int64.ofInt x &&& Int64.ofInt y)]; exact w

theorem s_lor (F : ai_F p s m args meth c cc nL own isInit D cid B0 xa E2 Kc) (g : ai_chk own cc nL Kc cal fr lo isInit rt (pc, .lor, len, a, b, d, t, z, tl) = true) (q : ai_st orc lim X (pc, .lor, len, a, b, d, t, z, tl) (ai_PS p l e R s m args below meth c D cid B0 xa nL n0 lim ad0 gx gy Qf) L S n hr h Q) : ai_PS p l e R s m args below meth c D cid B0 xa nL n0 lim ad0 gx gy Qf pc L S n hr h := by
  simp only [ai_chk, Bool.and_eq_true, decide_eq_true_eq, Bool.or_eq_true] at g
  simp only [ai_st] at q
  obtain ⟨hd, rfl⟩ := g
  obtain ⟨x, y, R', rfl, k⟩ := inv_l2 q
  refine sn_pure k (fun _ hS => SI_cons.mpr ⟨i64_of _, (SI_cons.mp (SI_cons.mp hS).2).2⟩) fun ad H locs ls _ _ w => lv_lor F.1 F.2.1 hd ?_
  rw [← Int64.ofInt_toInt (Int64.ofInt x ||| Int64.ofInt y)]; exact w

theorem s_lxor (F : ai_F p s m args meth c cc nL own isInit D cid B0 xa E2 Kc) (g : ai_chk own cc nL Kc cal fr lo isInit rt (pc, .lxor, len, a, b, d, t, z, tl) = true) (q : ai_st orc lim X (pc, .lxor, len, a, b, d, t, z, tl) (ai_PS p l e R s m args below meth c D cid B0 xa nL n0 lim ad0 gx gy Qf) L S n hr h Q) : ai_PS p l e R s m args below meth c D cid B0 xa nL n0 lim ad0 gx gy Qf pc L S n hr h := by
  simp only [ai_chk, Bool.and_eq_true, decide_eq_true_eq, Bool.or_eq_true] at g
  simp only [ai_st] at q
  obtain ⟨hd, rfl⟩ := g
  obtain ⟨x, y, R', rfl, k⟩ := inv_l2 q
  refine sn_pure k (fun _ hS => SI_cons.mpr ⟨i64_of _, (SI_cons.mp (SI_cons.mp hS).2).2⟩) fun ad H locs ls _ _ w => lv_lxor F.1 F.2.1 hd ?_
  rw [← Int64.ofInt_toInt (Int64.ofInt x ^^^ Int64.ofInt y)]; exact w

theorem s_iushr (F : ai_F p s m args meth c cc nL own isInit D cid B0 xa E2 Kc) (g : ai_chk own cc nL Kc cal fr lo isInit rt (pc, .iushr, len, a, b, d, t, z, tl) = true) (q : ai_st orc lim X (pc, .iushr, len, a, b, d, t, z, tl) (ai_PS p l e R s m args below meth c D cid B0 xa nL n0 lim ad0 gx gy Qf) L S n hr h Q) : ai_PS p l e R s m args below meth c D cid B0 xa nL n0 lim ad0 gx gy Qf pc L S n hr h := by
  simp only [ai_chk, Bool.and_eq_true, decide_eq_true_eq, Bool.or_eq_true] at g
  simp only [ai_st] at q
  obtain ⟨hd, rfl⟩ := g
  obtain ⟨x, y, R', rfl, k⟩ := inv_i2 q
  exact sn_pure k (fun _ hS => SI_cons.mpr ⟨i32_of _, (SI_cons.mp (SI_cons.mp hS).2).2⟩) fun ad H locs ls _ _ w => lv_iushr F.1 F.2.1 hd (Int32.ofInt_toInt _).symm w

theorem s_lshl (F : ai_F p s m args meth c cc nL own isInit D cid B0 xa E2 Kc) (g : ai_chk own cc nL Kc cal fr lo isInit rt (pc, .lshl, len, a, b, d, t, z, tl) = true) (q : ai_st orc lim X (pc, .lshl, len, a, b, d, t, z, tl) (ai_PS p l e R s m args below meth c D cid B0 xa nL n0 lim ad0 gx gy Qf) L S n hr h Q) : ai_PS p l e R s m args below meth c D cid B0 xa nL n0 lim ad0 gx gy Qf pc L S n hr h := by
  simp only [ai_chk, Bool.and_eq_true, decide_eq_true_eq, Bool.or_eq_true] at g
  simp only [ai_st] at q
  obtain ⟨hd, rfl⟩ := g
  obtain ⟨y, R1, rfl, k⟩ := inv_i1 q
  obtain ⟨x, R', rfl, k⟩ := inv_l1 k
  exact sn_pure k (fun _ hS => SI_cons.mpr ⟨i64_of _, (SI_cons.mp (SI_cons.mp hS).2).2⟩) fun ad H locs ls _ _ w => lv_lshl F.1 F.2.1 hd (Int64.ofInt_toInt _).symm w

theorem s_i2b (F : ai_F p s m args meth c cc nL own isInit D cid B0 xa E2 Kc) (g : ai_chk own cc nL Kc cal fr lo isInit rt (pc, .i2b, len, a, b, d, t, z, tl) = true) (q : ai_st orc lim X (pc, .i2b, len, a, b, d, t, z, tl) (ai_PS p l e R s m args below meth c D cid B0 xa nL n0 lim ad0 gx gy Qf) L S n hr h Q) : ai_PS p l e R s m args below meth c D cid B0 xa nL n0 lim ad0 gx gy Qf pc L S n hr h := by
  simp only [ai_chk, Bool.and_eq_true, decide_eq_true_eq, Bool.or_eq_true] at g
  simp only [ai_st] at q
  obtain ⟨hd, rfl⟩ := g
  obtain ⟨x, R', rfl, k⟩ := inv_i1 q
  exact sn_pure k (fun _ hS => SI_cons.mpr ⟨i32_of _, (SI_cons.mp hS).2⟩) fun ad H locs ls _ _ w => lv_i2b F.1 F.2.1 hd (Int32.ofInt_toInt _).symm w

theorem s_i2l (F : ai_F p s m args meth c cc nL own isInit D cid B0 xa E2 Kc) (g : ai_chk own cc nL Kc cal fr lo isInit rt (pc, .i2l, len, a, b, d, t, z, tl) = true) (q : ai_st orc lim X (pc, .i2l, len, a, b, d, t, z, tl) (ai_PS p l e R s m args below meth c D cid B0 xa nL n0 lim ad0 gx gy Qf) L S n hr h Q) : ai_PS p l e R s m args below meth c D cid B0 xa nL n0 lim ad0 gx gy Qf pc L S n hr h := by
  simp only [ai_chk, Bool.and_eq_true, decide_eq_true_eq, Bool.or_eq_true] at g
  simp only [ai_st] at q
  obtain ⟨hd, rfl⟩ := g
  obtain ⟨x, R', rfl, k⟩ := inv_i1 q
  exact sn_pure k (fun _ hS => SI_cons.mpr ⟨(show i64 x from ⟨by have := (show i32 x from (SI_cons.mp hS).1).1; omega, by have := (show i32 x from (SI_cons.mp hS).1).2; omega⟩), (SI_cons.mp hS).2⟩) fun ad H locs ls _ hS w => lv_i2l F.1 F.2.1 hd (f_i2l (SI_cons.mp hS).1) w

theorem s_lcmp (F : ai_F p s m args meth c cc nL own isInit D cid B0 xa E2 Kc) (g : ai_chk own cc nL Kc cal fr lo isInit rt (pc, .lcmp, len, a, b, d, t, z, tl) = true) (q : ai_st orc lim X (pc, .lcmp, len, a, b, d, t, z, tl) (ai_PS p l e R s m args below meth c D cid B0 xa nL n0 lim ad0 gx gy Qf) L S n hr h Q) : ai_PS p l e R s m args below meth c D cid B0 xa nL n0 lim ad0 gx gy Qf pc L S n hr h := by
  simp only [ai_chk, Bool.and_eq_true, decide_eq_true_eq, Bool.or_eq_true] at g
  simp only [ai_st] at q
  obtain ⟨hd, rfl⟩ := g
  obtain ⟨x, y, R', rfl, k⟩ := inv_l2 q
  refine sn_pure k (fun _ hS => SI_cons.mpr ⟨?_, (SI_cons.mp (SI_cons.mp hS).2).2⟩) fun ad H locs ls _ hS w => W.lcmp F.1 F.2.1 hd ?_
  · show i32 (l_cmp x y)
    unfold l_cmp
    split
    · exact ⟨by omega, by omega⟩
    · split <;> exact ⟨by omega, by omega⟩
  · rw [f_cmp (SI_cons.mp (SI_cons.mp hS).2).1 (SI_cons.mp hS).1]; exact w

theorem s_idiv (F : ai_F p s m args meth c cc nL own isInit D cid B0 xa E2 Kc) (g : ai_chk own cc nL Kc cal fr lo isInit rt (pc, .idiv, len, a, b, d, t, z, tl) = true) (q : ai_st orc lim X (pc, .idiv, len, a, b, d, t, z, tl) (ai_PS p l e R s m args below meth c D cid B0 xa nL n0 lim ad0 gx gy Qf) L S n hr h Q) : ai_PS p l e R s m args below meth c D cid B0 xa nL n0 lim ad0 gx gy Qf pc L S n hr h := by
  simp only [ai_chk, Bool.and_eq_true, decide_eq_true_eq, Bool.or_eq_true] at g
  simp only [ai_st] at q
  obtain ⟨hd, rfl⟩ := g
  obtain ⟨x, y, R', rfl, hy, k⟩ := inv_i2 q
  refine sn_pure k (fun _ hS => SI_cons.mpr ⟨i32_of _, (SI_cons.mp (SI_cons.mp hS).2).2⟩) fun ad H locs ls _ hS w => lv_idiv F.1 F.2.1 hd (fun z => hy ((e_zero (SI_cons.mp hS).1).mp z)) ?_
  rw [← Int32.ofInt_toInt (Int32.ofInt x / Int32.ofInt y)]; exact w

theorem s_irem (F : ai_F p s m args meth c cc nL own isInit D cid B0 xa E2 Kc) (g : ai_chk own cc nL Kc cal fr lo isInit rt (pc, .irem, len, a, b, d, t, z, tl) = true) (q : ai_st orc lim X (pc, .irem, len, a, b, d, t, z, tl) (ai_PS p l e R s m args below meth c D cid B0 xa nL n0 lim ad0 gx gy Qf) L S n hr h Q) : ai_PS p l e R s m args below meth c D cid B0 xa nL n0 lim ad0 gx gy Qf pc L S n hr h := by
  simp only [ai_chk, Bool.and_eq_true, decide_eq_true_eq, Bool.or_eq_true] at g
  simp only [ai_st] at q
  obtain ⟨hd, rfl⟩ := g
  obtain ⟨x, y, R', rfl, hy, k⟩ := inv_i2 q
  refine sn_pure k (fun _ hS => SI_cons.mpr ⟨i32_of _, (SI_cons.mp (SI_cons.mp hS).2).2⟩) fun ad H locs ls _ hS w => lv_irem F.1 F.2.1 hd (fun z => hy ((e_zero (SI_cons.mp hS).1).mp z)) ?_
  rw [← Int32.ofInt_toInt (Int32.ofInt x - Int32.ofInt x / Int32.ofInt y * Int32.ofInt y)]; exact w

theorem s_if_icmp {cnd : Jvm.ClassFile.Cond} {off : Int} (F : ai_F p s m args meth c cc nL own isInit D cid B0 xa E2 Kc) (g : ai_chk own cc nL Kc cal fr lo isInit rt (pc, .if_icmp cnd off, len, a, b, d, t, z, tl) = true) (q : ai_st orc lim X (pc, .if_icmp cnd off, len, a, b, d, t, z, tl) (ai_PS p l e R s m args below meth c D cid B0 xa nL n0 lim ad0 gx gy Qf) L S n hr h Q) : ai_PS p l e R s m args below meth c D cid B0 xa nL n0 lim ad0 gx gy Qf pc L S n hr h := by
  simp only [ai_chk, Bool.and_eq_true, decide_eq_true_eq, Bool.or_eq_true] at g
  simp only [ai_st] at q
  obtain ⟨hd, ht, rfl⟩ := g
  obtain ⟨x, y, R', rfl, k⟩ := inv_i2 q
  intro ad H locs ls h1 h2 h3 h4 h5 h6 h7 h8 h9
  have hy : i32 y := (SI_cons.mp h8).1
  have hx : i32 x := (SI_cons.mp (SI_cons.mp h8).2).1
  have hR := (SI_cons.mp (SI_cons.mp h8).2).2
  cases cnd with
  | eq => exact lv_icmp_eq F.1 F.2.1 hd ht (fun w => k.1 ((e_eq hx hy).mp w) ad H locs ls h1 h2 h3 h4 h5 h6 h7 hR h9) (fun w => k.2 (fun v => w ((e_eq hx hy).mpr v)) ad H locs ls h1 h2 h3 h4 h5 h6 h7 hR h9)
  | ne => exact lv_icmp_ne F.1 F.2.1 hd ht (fun w => k.1 (fun v => w ((e_eq hx hy).mpr v)) ad H locs ls h1 h2 h3 h4 h5 h6 h7 hR h9) (fun w => k.2 ((e_eq hx hy).mp w) ad H locs ls h1 h2 h3 h4 h5 h6 h7 hR h9)
  | lt => exact lv_icmp_lt F.1 F.2.1 hd ht (fun w => k.1 ((e_lt hx hy).mp w) ad H locs ls h1 h2 h3 h4 h5 h6 h7 hR h9) (fun w => k.2 (Int.not_lt.mp fun v => w ((e_lt hx hy).mpr v)) ad H locs ls h1 h2 h3 h4 h5 h6 h7 hR h9)
  | ge => exact lv_icmp_ge F.1 F.2.1 hd ht (fun w => k.1 ((e_le hy hx).mp w) ad H locs ls h1 h2 h3 h4 h5 h6 h7 hR h9) (fun w => k.2 (Int.not_le.mp fun v => w ((e_le hy hx).mpr v)) ad H locs ls h1 h2 h3 h4 h5 h6 h7 hR h9)
  | gt => exact lv_icmp_gt F.1 F.2.1 hd ht (fun w => k.1 ((e_lt hy hx).mp w) ad H locs ls h1 h2 h3 h4 h5 h6 h7 hR h9) (fun w => k.2 (Int.not_lt.mp fun v => w ((e_lt hy hx).mpr v)) ad H locs ls h1 h2 h3 h4 h5 h6 h7 hR h9)
  | le => exact lv_icmp_le F.1 F.2.1 hd ht (fun w => k.1 ((e_le hx hy).mp w) ad H locs ls h1 h2 h3 h4 h5 h6 h7 hR h9) (fun w => k.2 (Int.not_le.mp fun v => w ((e_le hx hy).mpr v)) ad H locs ls h1 h2 h3 h4 h5 h6 h7 hR h9)

theorem s_ifCond {cnd : Jvm.ClassFile.Cond} {off : Int} (F : ai_F p s m args meth c cc nL own isInit D cid B0 xa E2 Kc) (g : ai_chk own cc nL Kc cal fr lo isInit rt (pc, .ifCond cnd off, len, a, b, d, t, z, tl) = true) (q : ai_st orc lim X (pc, .ifCond cnd off, len, a, b, d, t, z, tl) (ai_PS p l e R s m args below meth c D cid B0 xa nL n0 lim ad0 gx gy Qf) L S n hr h Q) : ai_PS p l e R s m args below meth c D cid B0 xa nL n0 lim ad0 gx gy Qf pc L S n hr h := by
  simp only [ai_chk, Bool.and_eq_true, decide_eq_true_eq, Bool.or_eq_true] at g
  simp only [ai_st] at q
  obtain ⟨hd, ht, rfl⟩ := g
  obtain ⟨x, R', rfl, k⟩ := inv_i1 q
  intro ad H locs ls h1 h2 h3 h4 h5 h6 h7 h8 h9
  have hx : i32 x := (SI_cons.mp h8).1
  have hy : i32 0 := ⟨by decide, by decide⟩
  have hR := (SI_cons.mp h8).2
  cases cnd with
  | eq => exact lv_if_eq F.1 F.2.1 hd ht (fun w => k.1 ((e_eq hx hy).mp w) ad H locs ls h1 h2 h3 h4 h5 h6 h7 hR h9) (fun w => k.2 (fun v => w ((e_eq hx hy).mpr v)) ad H locs ls h1 h2 h3 h4 h5 h6 h7 hR h9)
  | ne => exact lv_if_ne F.1 F.2.1 hd ht (fun w => k.1 (fun v => w ((e_eq hx hy).mpr v)) ad H locs ls h1 h2 h3 h4 h5 h6 h7 hR h9) (fun w => k.2 ((e_eq hx hy).mp w) ad H locs ls h1 h2 h3 h4 h5 h6 h7 hR h9)
  | lt => exact lv_if_lt F.1 F.2.1 hd ht (fun w => k.1 ((e_lt hx hy).mp w) ad H locs ls h1 h2 h3 h4 h5 h6 h7 hR h9) (fun w => k.2 (Int.not_lt.mp fun v => w ((e_lt hx hy).mpr v)) ad H locs ls h1 h2 h3 h4 h5 h6 h7 hR h9)
  | ge => exact lv_if_ge F.1 F.2.1 hd ht (fun w => k.1 ((e_le hy hx).mp w) ad H locs ls h1 h2 h3 h4 h5 h6 h7 hR h9) (fun w => k.2 (Int.not_le.mp fun v => w ((e_le hy hx).mpr v)) ad H locs ls h1 h2 h3 h4 h5 h6 h7 hR h9)
  | gt => exact lv_if_gt F.1 F.2.1 hd ht (fun w => k.1 ((e_lt hy hx).mp w) ad H locs ls h1 h2 h3 h4 h5 h6 h7 hR h9) (fun w => k.2 (Int.not_lt.mp fun v => w ((e_lt hy hx).mpr v)) ad H locs ls h1 h2 h3 h4 h5 h6 h7 hR h9)
  | le => exact lv_if_le F.1 F.2.1 hd ht (fun w => k.1 ((e_le hx hy).mp w) ad H locs ls h1 h2 h3 h4 h5 h6 h7 hR h9) (fun w => k.2 (Int.not_le.mp fun v => w ((e_le hx hy).mpr v)) ad H locs ls h1 h2 h3 h4 h5 h6 h7 hR h9)

theorem s_goto {off : Int} (F : ai_F p s m args meth c cc nL own isInit D cid B0 xa E2 Kc) (g : ai_chk own cc nL Kc cal fr lo isInit rt (pc, .goto off, len, a, b, d, t, z, tl) = true) (q : ai_st orc lim X (pc, .goto off, len, a, b, d, t, z, tl) (ai_PS p l e R s m args below meth c D cid B0 xa nL n0 lim ad0 gx gy Qf) L S n hr h Q) : ai_PS p l e R s m args below meth c D cid B0 xa nL n0 lim ad0 gx gy Qf pc L S n hr h := by
  simp only [ai_chk, Bool.and_eq_true, decide_eq_true_eq, Bool.or_eq_true] at g
  simp only [ai_st] at q
  obtain ⟨hd, ht, rfl⟩ := g
  exact sn_pure q (fun _ hS => hS) fun ad H locs ls _ _ w => lv_goto F.1 F.2.1 hd ht w

theorem s_dup (F : ai_F p s m args meth c cc nL own isInit D cid B0 xa E2 Kc) (g : ai_chk own cc nL Kc cal fr lo isInit rt (pc, .dup, len, a, b, d, t, z, tl) = true) (q : ai_st orc lim X (pc, .dup, len, a, b, d, t, z, tl) (ai_PS p l e R s m args below meth c D cid B0 xa nL n0 lim ad0 gx gy Qf) L S n hr h Q) : ai_PS p l e R s m args below meth c D cid B0 xa nL n0 lim ad0 gx gy Qf pc L S n hr h := by
  simp only [ai_chk, Bool.and_eq_true, decide_eq_true_eq, Bool.or_eq_true] at g
  simp only [ai_st] at q
  obtain ⟨hd, rfl⟩ := g
  obtain ⟨v, R', rfl, hc, k⟩ := inv_d1 q
  exact sn_pure k (fun _ hS => SI_cons.mpr ⟨(SI_cons.mp hS).1, hS⟩) fun ad H locs ls _ _ w => lv_dup F.1 F.2.1 hd (cat1_cv hc) w

theorem s_pop (F : ai_F p s m args meth c cc nL own isInit D cid B0 xa E2 Kc) (g : ai_chk own cc nL Kc cal fr lo isInit rt (pc, .pop, len, a, b, d, t, z, tl) = true) (q : ai_st orc lim X (pc, .pop, len, a, b, d, t, z, tl) (ai_PS p l e R s m args below meth c D cid B0 xa nL n0 lim ad0 gx gy Qf) L S n hr h Q) : ai_PS p l e R s m args below meth c D cid B0 xa nL n0 lim ad0 gx gy Qf pc L S n hr h := by
  simp only [ai_chk, Bool.and_eq_true, decide_eq_true_eq, Bool.or_eq_true] at g
  simp only [ai_st] at q
  obtain ⟨hd, rfl⟩ := g
  obtain ⟨v, R', rfl, hc, k⟩ := inv_d1 q
  exact sn_pure k (fun _ hS => (SI_cons.mp hS).2) fun ad H locs ls _ _ w => lv_pop F.1 F.2.1 hd (cat1_cv hc) w

theorem s_dup2 (F : ai_F p s m args meth c cc nL own isInit D cid B0 xa E2 Kc) (g : ai_chk own cc nL Kc cal fr lo isInit rt (pc, .dup2, len, a, b, d, t, z, tl) = true) (q : ai_st orc lim X (pc, .dup2, len, a, b, d, t, z, tl) (ai_PS p l e R s m args below meth c D cid B0 xa nL n0 lim ad0 gx gy Qf) L S n hr h Q) : ai_PS p l e R s m args below meth c D cid B0 xa nL n0 lim ad0 gx gy Qf pc L S n hr h := by
  simp only [ai_chk, Bool.and_eq_true, decide_eq_true_eq, Bool.or_eq_true] at g
  simp only [ai_st] at q
  obtain ⟨hd, rfl⟩ := g
  obtain ⟨v, u, R', rfl, hc, hc2, k⟩ := inv_d2 q
  exact sn_pure k (fun _ hS => SI_cons.mpr ⟨(SI_cons.mp hS).1, SI_cons.mpr ⟨(SI_cons.mp (SI_cons.mp hS).2).1, hS⟩⟩) fun ad H locs ls _ _ w => lv_dup2_11 F.1 F.2.1 hd (cat1_cv hc) (cat1_cv hc2) w
end SND3
