/-! the steps, an instruction each: cells made, rows from outside, copies -/
theorem cs_mono {a b : Nat} (h : a ≤ b) : ai_cs a ≤ ai_cs b := by
  induction b with
  | zero => have : a = 0 := by omega
            subst this; exact Nat.le_refl _
  | succ b ih =>
    by_cases q : a = b + 1
    · subst q; exact Nat.le_refl _
    · exact Nat.le_trans (ih (by omega)) (Nat.le_add_right _ _)
theorem l_le (c : Int) : 0 ≤ ai_l c ∧ ai_l c ≤ 13650 := by
  have key : ai_shl.all (fun q => decide (q.2 ≤ 13650)) = true := by decide +kernel
  unfold ai_l
  cases hq : ai_nth ai_shl c.toNat with
  | none => simp
  | some q =>
    rw [nth_eq] at hq
    have := List.all_eq_true.mp key q (List.mem_of_getElem? hq)
    simp only [decide_eq_true_eq] at this
    simp only [Option.getD_some]
    omega
theorem ro_ext {ad ad' : Nat → Nat} {n : Nat} (he : ∀ c, c < n → ad' c = ad c) {x : Int} (hx : x < (n : Int)) : ai_ro ad' x = ai_ro ad x := by
  unfold ai_ro
  by_cases h : x < 0
  · simp [h]
  · rw [if_neg h, if_neg h, he x.toNat (by omega)]
theorem ce_ext {cid : Nat → ClassId} {ad ad' : Nat → Nat} {n : Nat} {hr h : HP} (he : ∀ c, c < n → ad' c = ad c) (hI : ai_IH n hr h) {c : Nat} (hc : c < n) : ai_ce cid ad' hr h (c : Int) = ai_ce cid ad hr h (c : Int) := by
  unfold ai_ce
  by_cases hk : ai_k (c : Int) < 50
  · rw [if_pos hk, if_pos hk]
    congr 2
    unfold ai_fs
    refine List.map_congr_left fun i hi => ?_
    have hv := hI (c : Int) (i : Int) (by omega) (by omega)
    unfold ai_tg at hv
    rw [if_pos hk, Int.toNat_natCast] at hv
    have h4 := ft_ne4 (ai_k (c : Int)) i
    revert hv h4
    generalize ai_ft (ai_k (c : Int)) i = t
    intro hv h4
    match t, hv, h4 with
    | 0, _, _ => rfl
    | 1, _, _ => rfl
    | 3, _, _ => rfl
    | 4, _, h4 => exact (h4 rfl).elim
    | 2, hv, _ => show va_rf _ = va_rf _; rw [ro_ext he hv.2]
    | t + 5, hv, _ => show va_rf _ = va_rf _; rw [ro_ext he hv.2]
  · rw [if_neg hk, if_neg hk]
    congr 3
    unfold ai_ar
    split
    · rfl
    · rename_i h4
      congr 4
      funext j
      have hv := hI (c : Int) (j : Int) (by omega) (by omega)
      rw [tg_arr (t := 4) (by omega)] at hv
      exact ro_ext he hv.2
    · rfl
/-- one cell more -/
theorem W_push {D : va_G} {cid : Nat → ClassId} {B0 : Nat} {ad : Nat → Nat} {n q : Nat} {hr h : HP} {H1 : Heap} {e0 : va_E} (hI : ai_IH n hr h) (hP : va_P D vwCl (ai_ws cid ad n hr h ++ [(q, e0)]) H1) (hD : va_D (fun q : Nat => B0 ≤ q) (ai_ws cid ad n hr h ++ [(q, e0)])) (he : ai_ce cid (fun k => if k = n then q else ad k) (ai_cl hr n (-1)) (ai_cl h n 0) (n : Int) = e0) : ai_W D cid B0 (fun k => if k = n then q else ad k) (n + 1) (ai_cl hr n (-1)) (ai_cl h n 0) H1 := by
  have key : ai_ws cid (fun k => if k = n then q else ad k) (n + 1) (ai_cl hr n (-1)) (ai_cl h n 0) = ai_ws cid ad n hr h ++ [(q, e0)] := by
    unfold ai_ws
    rw [List.range_succ, List.map_append]
    congr 1
    · refine List.map_congr_left fun k hk => ?_
      have hk := List.mem_range.mp hk
      rw [show (fun k => if k = n then q else ad k) k = ad k from if_neg (by omega)]
      congr 1
      rw [ce_ext (n := n) (hr := ai_cl hr n (-1)) (h := ai_cl h n 0) (ad := ad) (fun z hz => if_neg (by omega)) (fun z i h1 h2 => by unfold ai_cl; rw [if_neg (by omega), if_neg (by omega)]; exact hI z i h1 h2) hk]
      exact ce_same (fun j => by unfold ai_cl; rw [if_neg (by omega)]) fun j => by unfold ai_cl; rw [if_neg (by omega)]
    · simp [he]
  unfold ai_W
  rw [key]
  exact ⟨hP, hD⟩
theorem IH_push {n : Nat} {hr h : HP} (hI : ai_IH n hr h) : ai_IH (n + 1) (ai_cl hr n (-1)) (ai_cl h n 0) := by
  intro c i h1 h2
  unfold ai_cl
  by_cases hc : c = (n : Int)
  · rw [if_pos hc, if_pos hc]
    unfold ai_vt
    split
    · exact ⟨by decide, by decide⟩
    · exact ⟨by decide, by decide⟩
    · exact Or.inl rfl
    · exact ⟨by decide, by decide⟩
    · exact ⟨by omega, by omega⟩
  · rw [if_neg hc, if_neg hc]
    have := hI c i h1 (by omega)
    revert this
    unfold ai_vt
    split
    · exact id
    · exact id
    · exact id
    · exact id
    · intro z; exact ⟨z.1, by omega⟩
theorem fs_new {a : Nat} (ha : a < 13) {ad : Nat → Nat} {hr h : HP} {n : Int} : ∀ j, j < ai_nf a → defaultValue (ai_tyc a j) = vp_V (ai_fs ad a (ai_cl hr n (-1)) (ai_cl h n 0) n) j := by
  intro j hj
  unfold vp_V
  rw [List.getD_eq_getElem?_getD, fs_get hj, Option.getD_some]
  have h2 := ty_ref a ha j hj
  unfold ai_fv ai_cl
  simp only [if_pos rfl]
  unfold ai_ft at h2 ⊢
  revert h2
  generalize ai_tyc a j = ty
  intro h2
  cases ty <;> simp [ai_tt] at h2 <;> rfl
theorem k8_cat {ad xa : Nat → Nat} {R : List AV} {k : Prop} (h : ai_k8 R k) : ((R.map (ai_cv ad xa)).map fun v => v.category).sum ≤ 8 ∧ k := by
  have cat : ∀ v : AV, (ai_cv ad xa v).category ≤ 2 := fun v => by rcases lv_cat (ai_cv ad xa v) with q | q <;> omega
  unfold ai_k8 at h
  split at h
  · exact ⟨by simp, h⟩
  · rename_i x1
    have := cat x1
    exact ⟨by simp; omega, h⟩
  · rename_i x1 x2
    have := cat x1; have := cat x2
    exact ⟨by simp; omega, h⟩
  · rename_i x1 x2 x3
    have := cat x1; have := cat x2; have := cat x3
    exact ⟨by simp; omega, h⟩
  · rename_i x1 x2 x3 x4
    have := cat x1; have := cat x2; have := cat x3; have := cat x4
    exact ⟨by simp; omega, h⟩
  · exact h.elim
theorem gw_cp : Jvm.Cond.native arraycopyName ∈ ai_gw ∧ Jvm.Cond.static arraycopyName ∈ ai_gw ∧ Jvm.Cond.initialized "java/lang/System" ∈ ai_gw := by decide +kernel
theorem gw_mx : Jvm.Cond.static Lib.Math.max.name ∈ ai_gw ∧ Jvm.Cond.initialized "java/lang/Math" ∈ ai_gw ∧ Jvm.Cond.code Lib.Math.max.name Lib.Math.max.code 2 (some .int) ∈ ai_gw := by decide +kernel
theorem gw_mn : Jvm.Cond.static Lib.Math.min.name ∈ ai_gw ∧ Jvm.Cond.code Lib.Math.min.name Lib.Math.min.code 2 (some .int) ∈ ai_gw := by decide +kernel
theorem e_max {x y : Int} (hx : i32 x) (hy : i32 y) : (if Int32.ofInt x < Int32.ofInt y then Int32.ofInt y else Int32.ofInt x) = Int32.ofInt (i_max x y) := by
  unfold i_max
  by_cases h : x < y
  · rw [if_pos h, if_pos ((e_lt hx hy).mpr h)]
  · rw [if_neg h, if_neg (fun z => h ((e_lt hx hy).mp z))]
theorem e_min {x y : Int} (hx : i32 x) (hy : i32 y) : (if Int32.ofInt y < Int32.ofInt x then Int32.ofInt y else Int32.ofInt x) = Int32.ofInt (i_min x y) := by
  unfold i_min
  by_cases h : y < x
  · rw [if_pos h, if_pos ((e_lt hy hx).mpr h)]
  · rw [if_neg h, if_neg (fun z => h ((e_lt hy hx).mp z))]
theorem gw_oi : Jvm.Cond.instanceMethod Lib.objectInit ∈ ai_gw ∧ Jvm.Cond.code Lib.objectInit ⟨#[0xb1]⟩ 1 none ∈ ai_gw := by decide +kernel
theorem hd_i32 (i : Int) : i32 (ai_hd i) := by
  unfold ai_hd
  repeat' split
  all_goals exact ⟨by decide, by decide⟩
theorem inv_ild {X n h S k} (q : ai_ild X n h S k) : (∃ x i R, S = (0, i) :: (2, x) :: R ∧ ai_ok n x 50 ∧ 0 ≤ i ∧ i < ai_l x ∧ k (h x i) R) ∨ (∃ i R len f, S = (0, i) :: (4, 0) :: R ∧ X = some (len, f) ∧ 0 ≤ i ∧ i < len ∧ k (f i) R) ∨ ∃ i R, S = (0, i) :: (4, 1) :: R ∧ 0 ≤ i ∧ i < 3 ∧ k (ai_hd i) R := by
  unfold ai_ild at q
  split at q
  · exact Or.inl ⟨_, _, _, rfl, q⟩
  · split at q
    · exact Or.inr (Or.inl ⟨_, _, _, _, rfl, rfl, q⟩)
    · exact q.elim
  · exact Or.inr (Or.inr ⟨_, _, rfl, q⟩)
  · exact q.elim
theorem inv_aln {X n kd S k} (q : ai_aln X n kd S k) : (∃ x R, S = (2, x) :: R ∧ ai_ok n x kd ∧ k (ai_l x) R) ∨ (∃ R len f, S = (4, 0) :: R ∧ X = some (len, f) ∧ k len R) := by
  unfold ai_aln at q
  split at q
  · exact Or.inl ⟨_, _, rfl, q⟩
  · split at q
    · exact Or.inr ⟨_, _, _, rfl, rfl, q⟩
    · exact q.elim
  · exact q.elim
theorem inv_cpy {kd n S k} (q : ai_cpy kd n S k) : ∃ s sp d dp len R, S = (0, len) :: (0, dp) :: (2, d) :: (0, sp) :: (2, s) :: R ∧ ai_ok n s kd ∧ ai_ok n d kd ∧ 0 ≤ sp ∧ 0 ≤ dp ∧ 0 ≤ len ∧ sp + len ≤ ai_l s ∧ dp + len ≤ ai_l d ∧ k s sp d dp len R := by
  unfold ai_cpy at q; split at q <;> first | exact ⟨_, _, _, _, _, _, rfl, q⟩ | exact q.elim
theorem of_nat (n : Nat) : Int32.ofInt (n : Int) = Int32.ofNat n := Int32.ofInt_eq_ofNat
section SND6
variable {p : Program} {l : Launch} {e : Env} {R : Room} {s : State} {m : MethodId} {args : Array Value} {below : List Frame} {meth : Method} {c : Code} {D : va_G} {cid : Nat → ClassId} {B0 : Nat} {xa : Nat → Nat} {nL n0 lim : Nat} {ad0 : Nat → Nat} {gx gy : Nat} {Qf : State → Prop} {cc : ByteArray} {own : String} {isInit : Bool} {E2 : (Nat → Nat) → State → Heap → Prop} {Kc : List Jvm.Cond} {cal : List ai_I} {fr lo : Nat} {rt : Option FieldType} {orc : Nat → SP} {X : XE} {Q : RP} {pc len a b d t n : Nat} {z : Int} {tl : List (Int × Nat)} {L : List (Option AV)} {S : List AV} {hr h : HP}
theorem kc_word {w : Jvm.Cond} (F : ai_F p s m args meth c cc nL own isInit D cid B0 xa E2 Kc) (h : ai_nth Kc d = some w) : w.before args s = true := by
  rw [nth_eq] at h
  exact F.2.2.2.2.1 _ (F.2.2.2.2.2.2.2.2.2.2 _ (List.mem_of_getElem? h))
theorem cA_eq {ty : FieldType} {cA : ClassId} {k : Nat} (F : ai_F p s m args meth c cc nL own isInit D cid B0 xa E2 Kc) (hk : k < 5) (ht : (ai_tys cid)[k]? = some (cid k, ty)) (h : va_K D vwCl (ai_tys cid ++ [(cA, ty)]) s) : cA = cid k := by
  have h1 := (F.2.2.2.2.2.2.1.2 k _ ht).2
  have h2 := (h.2 5 (cA, ty) (by simp [ai_tys])).2
  cases ty with
  | object C =>
    obtain ⟨k1, c1, -, -, -, e1⟩ := h1
    obtain ⟨k2, c2, -, -, -, e2⟩ := h2
    exact (Option.some.inj (e1.symm.trans e2)).symm
  | _ => exact (Option.some.inj (Eq.trans (Eq.symm h1) h2)).symm
/-- room for one cell more -/
def ai_RM (R : Room) (fr lo n0 lim gx gy : Nat) : Prop := fr ≤ R.frames ∧ lo ≤ R.locals ∧ lim - n0 + gx ≤ R.cells ∧ ai_cs lim - ai_cs n0 + gy ≤ R.slots
theorem rm_push {n : Nat} (hR : ai_RM R fr lo n0 lim gx gy) (h1 : n0 ≤ n) (h2 : n < lim) : n - n0 + gx + 1 ≤ R.cells ∧ ai_cs n - ai_cs n0 + gy + (ai_l (n : Int)).toNat ≤ R.slots ∧ n - n0 + gx + 1 = n + 1 - n0 + gx ∧ ai_cs n - ai_cs n0 + gy + (ai_l (n : Int)).toNat = ai_cs (n + 1) - ai_cs n0 + gy := by
  have e1 := cs_mono h1
  have e2 := cs_mono (show n + 1 ≤ lim by omega)
  have e3 : ai_cs (n + 1) = ai_cs n + (ai_l (n : Int)).toNat := rfl
  obtain ⟨r1, r2, r3, r4⟩ := hR
  refine ⟨?_, ?_, ?_, ?_⟩ <;> omega

theorem s_iaload (F : ai_F p s m args meth c cc nL own isInit D cid B0 xa E2 Kc) (hX : ai_XS X B0 xa s) (g : ai_chk own cc nL Kc cal fr lo isInit rt (pc, .iaload, len, a, b, d, t, z, tl) = true) (q : ai_st orc lim X (pc, .iaload, len, a, b, d, t, z, tl) (ai_PS p l e R s m args below meth c D cid B0 xa nL n0 lim ad0 gx gy Qf) L S n hr h Q) : ai_PS p l e R s m args below meth c D cid B0 xa nL n0 lim ad0 gx gy Qf pc L S n hr h := by
  simp only [ai_chk, Bool.and_eq_true, decide_eq_true_eq, Bool.or_eq_true] at g
  simp only [ai_st] at q
  obtain ⟨hd, rfl⟩ := g
  intro ad H locs ls h1 h2 h3 h4 h5 h6 h7 h8 h9
  rcases inv_ild q with ⟨x, i, R', rfl, hok, hi0, hil, k⟩ | ⟨i, R', ln, f, rfl, rfl, hi0, hil, k⟩ | ⟨i, R', rfl, hi0, hil, k⟩
  · obtain ⟨q0, rfl, hq0, hk0⟩ := ok_nat hok
    have hi : i32 i := (SI_cons.mp h8).1
    have hce := ce_arr (cid := cid) (ad := ad) (hr := hr) (h := h) (t := 0) hk0
    have hget : (ai_ws cid ad n hr h)[q0]? = some (ad q0, .inl (cid 0, (ai_l (q0 : Int)).toNat, ai_ar ad 0 hr h (q0 : Int))) := by rw [ws_get hq0, hce]
    have hvt := e_vr h5 (tg_arr (i := i) (t := 0) hk0) (by omega) (by omega) hi0 hil
    have hgo := k ad H locs ls h1 h2 h3 h4 h5 h6 h7 (SI_cons.mpr ⟨hvt, (SI_cons.mp (SI_cons.mp h8).2).2⟩) h9
    simp only [List.map_cons]
    rw [cv_ref]
    refine va_iald F.1 F.2.1 F.2.2.2.2.2.2.1 h4.1 q0 0 hget rfl (e_in hi0 hil hi) hd ?_
    rw [e_cl hi, Int.toNat_of_nonneg hi0]
    exact hgo
  · obtain ⟨L0, xs, hlen, hL31, hXX, hbl, hbA, hf⟩ := hX
    subst hlen
    have hi : i32 i := (SI_cons.mp h8).1
    have hfi : f i = (xs i.toNat).toInt := by have := hf i.toNat (by omega); rwa [Int.toNat_of_nonneg hi0] at this
    have hgo := k ad H locs ls h1 h2 h3 h4 h5 h6 h7 (SI_cons.mpr ⟨(show i32 (f i) by rw [hfi]; exact i32_of _), (SI_cons.mp (SI_cons.mp h8).2).2⟩) h9
    simp only [List.map_cons] at hgo ⊢
    rw [hfi, show ai_cv ad xa (0, (xs i.toNat).toInt) = .int (Int32.ofInt (xs i.toNat).toInt) from rfl, Int32.ofInt_toInt] at hgo
    have hin : vp_in (Int32.ofInt i) L0 := by have := e_in hi0 hil hi; rwa [Int.toNat_natCast] at this
    refine va_sld F.1 F.2.1 hXX hbl hbA h9 hin hd ?_
    rw [e_cl hi]
    exact hgo
  · have hi : i32 i := (SI_cons.mp h8).1
    have hgo := k ad H locs ls h1 h2 h3 h4 h5 h6 h7 (SI_cons.mpr ⟨(hd_i32 i), (SI_cons.mp (SI_cons.mp h8).2).2⟩) h9
    simp only [List.map_cons] at hgo ⊢
    refine va_ti F.1 F.2.1 F.2.2.2.2.2.2.2.2.1.2.1 h9 (e_in hi0 hil hi) ?_ hd hgo
    rw [e_cl hi]
    show Value.int (Int32.ofInt (ai_hd ((i.toNat : Nat) : Int))) = _
    rw [Int.toNat_of_nonneg hi0]; rfl

theorem s_arraylength (F : ai_F p s m args meth c cc nL own isInit D cid B0 xa E2 Kc) (hX : ai_XS X B0 xa s) (g : ai_chk own cc nL Kc cal fr lo isInit rt (pc, .arraylength, len, a, b, d, t, z, tl) = true) (q : ai_st orc lim X (pc, .arraylength, len, a, b, d, t, z, tl) (ai_PS p l e R s m args below meth c D cid B0 xa nL n0 lim ad0 gx gy Qf) L S n hr h Q) : ai_PS p l e R s m args below meth c D cid B0 xa nL n0 lim ad0 gx gy Qf pc L S n hr h := by
  simp only [ai_chk, Bool.and_eq_true, decide_eq_true_eq, Bool.or_eq_true] at g
  simp only [ai_st] at q
  obtain ⟨hd, ⟨rfl, ht0⟩, ht1⟩ := g
  intro ad H locs ls h1 h2 h3 h4 h5 h6 h7 h8 h9
  rcases inv_aln q with ⟨x, R', rfl, hok, k⟩ | ⟨R', ln, f, rfl, rfl, k⟩
  · obtain ⟨q0, rfl, hq0, hk0⟩ := ok_nat hok
    have hl := l_le (q0 : Int)
    have hgo := k ad H locs ls h1 h2 h3 h4 h5 h6 h7 (SI_cons.mpr ⟨(show i32 (ai_l (q0 : Int)) from ⟨by omega, by omega⟩), (SI_cons.mp h8).2⟩) h9
    have hce := ce_arr (cid := cid) (ad := ad) (hr := hr) (h := h) (c := (q0 : Int)) (t := t - 50) (by omega)
    have hget : (ai_ws cid ad n hr h)[q0]? = some (ad q0, .inl (cid (t - 50), (ai_l (q0 : Int)).toNat, ai_ar ad (t - 50) hr h (q0 : Int))) := by rw [ws_get hq0, hce]
    simp only [List.map_cons] at hgo ⊢
    rw [cv_ref]
    have hv : Int32.ofNat (ai_l (q0 : Int)).toNat = Int32.ofInt (ai_l (q0 : Int)) := by rw [← of_nat, Int.toNat_of_nonneg hl.1]
    obtain ⟨ty, hty⟩ : ∃ ty, (ai_tys cid)[t - 50]? = some (cid (t - 50), ty) := by
      have ht5 : t - 50 < 5 := by omega
      generalize t - 50 = u at ht5
      match u, ht5 with
      | 0, _ => exact ⟨_, rfl⟩
      | 1, _ => exact ⟨_, rfl⟩
      | 2, _ => exact ⟨_, rfl⟩
      | 3, _ => exact ⟨_, rfl⟩
      | 4, _ => exact ⟨_, rfl⟩
    exact va_alen F.1 F.2.1 F.2.2.2.2.2.2.1 h4.1 q0 (t - 50) hget hty hv hd hgo
  · obtain ⟨L0, xs, hlen, hL31, hXX, hbl, hbA, hf⟩ := hX
    subst hlen
    have hgo := k ad H locs ls h1 h2 h3 h4 h5 h6 h7 (SI_cons.mpr ⟨(show i32 (L0 : Int) from ⟨by omega, by omega⟩), (SI_cons.mp h8).2⟩) h9
    simp only [List.map_cons] at hgo ⊢
    refine va_slen F.1 F.2.1 hXX hbl hbA h9 hd ?_
    rw [← of_nat]
    exact hgo

theorem s_new {idx : Nat} (F : ai_F p s m args meth c cc nL own isInit D cid B0 xa E2 Kc) (hR : ai_RM R fr lo n0 lim gx gy) (g : ai_chk own cc nL Kc cal fr lo isInit rt (pc, .new idx, len, a, b, d, t, z, tl) = true) (q : ai_st orc lim X (pc, .new idx, len, a, b, d, t, z, tl) (ai_PS p l e R s m args below meth c D cid B0 xa nL n0 lim ad0 gx gy Qf) L S n hr h Q) : ai_PS p l e R s m args below meth c D cid B0 xa nL n0 lim ad0 gx gy Qf pc L S n hr h := by
  simp only [ai_chk, Bool.and_eq_true, decide_eq_true_eq, Bool.or_eq_true] at g
  simp only [ai_st] at q
  obtain ⟨hd, rfl, g⟩ := g
  obtain ⟨hlt, hk0, k⟩ := q
  intro ad H locs ls h1 h2 h3 h4 h5 h6 h7 h8 h9
  split at g
  · rename_i C T N hC
    rw [nth_eq] at hC
    simp only [Bool.and_eq_true, decide_eq_true_eq] at g
    obtain ⟨⟨⟨g1, g2⟩, g3⟩, ha⟩ := g
    obtain ⟨f1, f2, f3, f4⟩ := cl_ok a (C, T, N) hC
    simp only at f1 f2 f3 f4
    have hN : ai_nf a = N := by unfold ai_nf; rw [nth_eq, hC]
    have hl : (ai_l (n : Int)).toNat = N := by rw [sh_ok _ (by omega), hk0, hN]; simp
    obtain ⟨m1, m2, m3, m4⟩ := rm_push hR h1 hlt
    rw [hl] at m2 m4
    have hA : ∀ q : Nat, s.heap.size ≤ q → B0 ≤ q := fun q hq => Nat.le_trans F.2.2.2.2.2.2.2.1 hq
    refine va_new (ci := a) (fs := ai_fs ad a (ai_cl hr n (-1)) (ai_cl h n 0) (n : Int)) F.1 F.2.1 (fun w hw => F.2.2.2.2.1 w hw) f3 (ai_tyc a) f1 F.2.2.2.1 (kc_word F g1) (kc_word F g2) (kc_word F g3) F.2.2.2.2.2.2.1 h4.1 h4.2 h9 hA hC (by rw [← hN]; exact fs_new ha) m1 m2 hd fun qa H1 hP1 hD1 hS1 => ?_
    rw [m3, m4]
    have hagree : ∀ z, z < n → (fun k => if k = n then qa else ad k) z = ad z := fun z hz => if_neg (by omega)
    have hW := W_push h5 hP1 hD1 (by
      rw [ce_obj hk0 (by omega)]
      congr 2
      unfold ai_fs
      refine List.map_congr_left fun i _ => ?_
      unfold ai_fv ai_cl
      simp only [if_pos]
      split <;> rfl)
    have hgo := k _ H1 locs ls (by omega) (by omega) (fun z hz => (hagree z (by omega)).trans (h3 z hz)) hW (IH_push h5) (LR_ext h6 h7 hagree) (LI_le h7 (by omega)) (SI_cons.mpr ⟨(show -1 ≤ (n : Int) ∧ (n : Int) < ((n + 1 : Nat) : Int) from ⟨by omega, by omega⟩), SI_le h8 (by omega)⟩) hS1
    rw [List.map_cons, cv_ref, map_ext h8 hagree, if_pos rfl] at hgo
    exact hgo
  · cases g

theorem s_newarray {ty : ArrayType} (F : ai_F p s m args meth c cc nL own isInit D cid B0 xa E2 Kc) (hR : ai_RM R fr lo n0 lim gx gy) (g : ai_chk own cc nL Kc cal fr lo isInit rt (pc, .newarray ty, len, a, b, d, t, z, tl) = true) (q : ai_st orc lim X (pc, .newarray ty, len, a, b, d, t, z, tl) (ai_PS p l e R s m args below meth c D cid B0 xa nL n0 lim ad0 gx gy Qf) L S n hr h Q) : ai_PS p l e R s m args below meth c D cid B0 xa nL n0 lim ad0 gx gy Qf pc L S n hr h := by
  simp only [ai_chk, Bool.and_eq_true, decide_eq_true_eq, Bool.or_eq_true] at g
  simp only [ai_st] at q
  obtain ⟨hd, rfl, g⟩ := g
  obtain ⟨v, R', rfl, hlt, hk0, hl, k⟩ := inv_i1 q
  intro ad H locs ls h1 h2 h3 h4 h5 h6 h7 h8 h9
  have hlb := l_le (n : Int)
  have hv : i32 v := (SI_cons.mp h8).1
  have hSI := (SI_cons.mp h8).2
  obtain ⟨m1, m2, m3, m4⟩ := rm_push hR h1 hlt
  have hA : ∀ q : Nat, s.heap.size ≤ q → B0 ≤ q := fun q hq => Nat.le_trans F.2.2.2.2.2.2.2.1 hq
  have hneg : ¬ Int32.ofInt v < 0 := fun z => by
    have := (e_lt hv (show i32 0 from ⟨by decide, by decide⟩)).mp z
    omega
  have hNat : (Int32.ofInt v).toNatClampNeg = (ai_l (n : Int)).toNat := by rw [e_cl hv, hl]
  simp only [List.map_cons]
  split at g
  · simp only [Bool.and_eq_true, decide_eq_true_eq] at g
    obtain ⟨g1, g2⟩ := g
    have hcell : ∀ cA : ClassId, vp_cell cA ((ai_l (n : Int)).toNat, ai_ar ad 0 (ai_cl hr n (-1)) (ai_cl h n 0) (n : Int)) = arrV cA (ai_l (n : Int)).toNat (fun _ => defaultValue .int) := fun cA => by
      simp only [ai_ar, ai_cl, if_pos]
      rfl
    refine va_newa (atype := ty) (a0 := ((ai_l (n : Int)).toNat, ai_ar ad 0 (ai_cl hr n (-1)) (ai_cl h n 0) (n : Int))) F.1 F.2.1 (by rw [g1]; exact kc_word F g2) g1 F.2.2.2.2.2.2.1 h4.1 h4.2 h9 hA hcell hneg hNat (by simp only [componentBytes]; omega) m1 m2 hd fun qa cA H1 hK1 hP1 hD1 hS1 => ?_
    have hcA := cA_eq (k := 0) F (by decide) rfl hK1
    subst hcA
    rw [m3, m4]
    have hagree : ∀ z, z < n → (fun k => if k = n then qa else ad k) z = ad z := fun z hz => if_neg (by omega)
    have hW := W_push h5 hP1 hD1 (by
      rw [ce_arr (t := 0) hk0]
      rfl)
    have hgo := k _ H1 locs ls (by omega) (by omega) (fun z hz => (hagree z (by omega)).trans (h3 z hz)) hW (IH_push h5) (LR_ext h6 h7 hagree) (LI_le h7 (by omega)) (SI_cons.mpr ⟨(show -1 ≤ (n : Int) ∧ (n : Int) < ((n + 1 : Nat) : Int) from ⟨by omega, by omega⟩), SI_le hSI (by omega)⟩) hS1
    rw [List.map_cons, cv_ref, map_ext hSI hagree, if_pos rfl] at hgo
    exact hgo
  · simp only [Bool.and_eq_true, decide_eq_true_eq] at g
    obtain ⟨g1, g2⟩ := g
    have hcell : ∀ cA : ClassId, vp_cell cA ((ai_l (n : Int)).toNat, ai_ar ad 1 (ai_cl hr n (-1)) (ai_cl h n 0) (n : Int)) = arrV cA (ai_l (n : Int)).toNat (fun _ => defaultValue .long) := fun cA => by
      simp only [ai_ar, ai_cl, if_pos]
      rfl
    refine va_newa (atype := ty) (a0 := ((ai_l (n : Int)).toNat, ai_ar ad 1 (ai_cl hr n (-1)) (ai_cl h n 0) (n : Int))) F.1 F.2.1 (by rw [g1]; exact kc_word F g2) g1 F.2.2.2.2.2.2.1 h4.1 h4.2 h9 hA hcell hneg hNat (by simp only [componentBytes]; omega) m1 m2 hd fun qa cA H1 hK1 hP1 hD1 hS1 => ?_
    have hcA := cA_eq (k := 1) F (by decide) rfl hK1
    subst hcA
    rw [m3, m4]
    have hagree : ∀ z, z < n → (fun k => if k = n then qa else ad k) z = ad z := fun z hz => if_neg (by omega)
    have hW := W_push h5 hP1 hD1 (by
      rw [ce_arr (t := 1) hk0]
      rfl)
    have hgo := k _ H1 locs ls (by omega) (by omega) (fun z hz => (hagree z (by omega)).trans (h3 z hz)) hW (IH_push h5) (LR_ext h6 h7 hagree) (LI_le h7 (by omega)) (SI_cons.mpr ⟨(show -1 ≤ (n : Int) ∧ (n : Int) < ((n + 1 : Nat) : Int) from ⟨by omega, by omega⟩), SI_le hSI (by omega)⟩) hS1
    rw [List.map_cons, cv_ref, map_ext hSI hagree, if_pos rfl] at hgo
    exact hgo
  · simp only [Bool.and_eq_true, decide_eq_true_eq] at g
    obtain ⟨g1, g2⟩ := g
    have hcell : ∀ cA : ClassId, vp_cell cA ((ai_l (n : Int)).toNat, ai_ar ad 2 (ai_cl hr n (-1)) (ai_cl h n 0) (n : Int)) = arrV cA (ai_l (n : Int)).toNat (fun _ => defaultValue .boolean) := fun cA => by
      simp only [ai_ar, ai_cl, if_pos]
      rfl
    refine va_newa (atype := ty) (a0 := ((ai_l (n : Int)).toNat, ai_ar ad 2 (ai_cl hr n (-1)) (ai_cl h n 0) (n : Int))) F.1 F.2.1 (by rw [g1]; exact kc_word F g2) g1 F.2.2.2.2.2.2.1 h4.1 h4.2 h9 hA hcell hneg hNat (by simp only [componentBytes]; omega) m1 m2 hd fun qa cA H1 hK1 hP1 hD1 hS1 => ?_
    have hcA := cA_eq (k := 2) F (by decide) rfl hK1
    subst hcA
    rw [m3, m4]
    have hagree : ∀ z, z < n → (fun k => if k = n then qa else ad k) z = ad z := fun z hz => if_neg (by omega)
    have hW := W_push h5 hP1 hD1 (by
      rw [ce_arr (t := 2) hk0]
      rfl)
    have hgo := k _ H1 locs ls (by omega) (by omega) (fun z hz => (hagree z (by omega)).trans (h3 z hz)) hW (IH_push h5) (LR_ext h6 h7 hagree) (LI_le h7 (by omega)) (SI_cons.mpr ⟨(show -1 ≤ (n : Int) ∧ (n : Int) < ((n + 1 : Nat) : Int) from ⟨by omega, by omega⟩), SI_le hSI (by omega)⟩) hS1
    rw [List.map_cons, cv_ref, map_ext hSI hagree, if_pos rfl] at hgo
    exact hgo
  · simp only [Bool.and_eq_true, decide_eq_true_eq] at g
    obtain ⟨g1, g2⟩ := g
    have hcell : ∀ cA : ClassId, vp_cell cA ((ai_l (n : Int)).toNat, ai_ar ad 3 (ai_cl hr n (-1)) (ai_cl h n 0) (n : Int)) = arrV cA (ai_l (n : Int)).toNat (fun _ => defaultValue .byte) := fun cA => by
      simp only [ai_ar, ai_cl, if_pos]
      rfl
    refine va_newa (atype := ty) (a0 := ((ai_l (n : Int)).toNat, ai_ar ad 3 (ai_cl hr n (-1)) (ai_cl h n 0) (n : Int))) F.1 F.2.1 (by rw [g1]; exact kc_word F g2) g1 F.2.2.2.2.2.2.1 h4.1 h4.2 h9 hA hcell hneg hNat (by simp only [componentBytes]; omega) m1 m2 hd fun qa cA H1 hK1 hP1 hD1 hS1 => ?_
    have hcA := cA_eq (k := 3) F (by decide) rfl hK1
    subst hcA
    rw [m3, m4]
    have hagree : ∀ z, z < n → (fun k => if k = n then qa else ad k) z = ad z := fun z hz => if_neg (by omega)
    have hW := W_push h5 hP1 hD1 (by
      rw [ce_arr (t := 3) hk0]
      rfl)
    have hgo := k _ H1 locs ls (by omega) (by omega) (fun z hz => (hagree z (by omega)).trans (h3 z hz)) hW (IH_push h5) (LR_ext h6 h7 hagree) (LI_le h7 (by omega)) (SI_cons.mpr ⟨(show -1 ≤ (n : Int) ∧ (n : Int) < ((n + 1 : Nat) : Int) from ⟨by omega, by omega⟩), SI_le hSI (by omega)⟩) hS1
    rw [List.map_cons, cv_ref, map_ext hSI hagree, if_pos rfl] at hgo
    exact hgo
  · cases g

theorem s_anewarray {idx : Nat} (F : ai_F p s m args meth c cc nL own isInit D cid B0 xa E2 Kc) (hR : ai_RM R fr lo n0 lim gx gy) (g : ai_chk own cc nL Kc cal fr lo isInit rt (pc, .anewarray idx, len, a, b, d, t, z, tl) = true) (q : ai_st orc lim X (pc, .anewarray idx, len, a, b, d, t, z, tl) (ai_PS p l e R s m args below meth c D cid B0 xa nL n0 lim ad0 gx gy Qf) L S n hr h Q) : ai_PS p l e R s m args below meth c D cid B0 xa nL n0 lim ad0 gx gy Qf pc L S n hr h := by
  simp only [ai_chk, Bool.and_eq_true, decide_eq_true_eq, Bool.or_eq_true] at g
  simp only [ai_st] at q
  obtain ⟨hd, ⟨rfl, g1⟩, g2⟩ := g
  obtain ⟨v, R', rfl, hlt, hk0, hl, k⟩ := inv_i1 q
  intro ad H locs ls h1 h2 h3 h4 h5 h6 h7 h8 h9
  have hlb := l_le (n : Int)
  have hv : i32 v := (SI_cons.mp h8).1
  have hSI := (SI_cons.mp h8).2
  obtain ⟨m1, m2, m3, m4⟩ := rm_push hR h1 hlt
  have hA : ∀ q : Nat, s.heap.size ≤ q → B0 ≤ q := fun q hq => Nat.le_trans F.2.2.2.2.2.2.2.1 hq
  have hneg : ¬ Int32.ofInt v < 0 := fun z => by
    have := (e_lt hv (show i32 0 from ⟨by decide, by decide⟩)).mp z
    omega
  have hNat : (Int32.ofInt v).toNatClampNeg = (ai_l (n : Int)).toNat := by rw [e_cl hv, hl]
  simp only [List.map_cons]
  refine va_newq F.1 F.2.1 F.2.2.2.1 (kc_word F g1) (va_AO.of (kc_word F g2)) F.2.2.2.2.2.2.1 h4.1 h4.2 h9 hA hneg hNat (by omega) m1 m2 hd fun qa cA H1 hK1 hP1 hD1 hS1 => ?_
  have hcA := cA_eq (k := 4) F (by decide) rfl hK1
  subst hcA
  rw [m3, m4]
  have hagree : ∀ z, z < n → (fun k => if k = n then qa else ad k) z = ad z := fun z hz => if_neg (by omega)
  have hW := W_push h5 hP1 hD1 (by
    rw [ce_arr (t := 4) hk0]
    simp only [ai_ar, ai_cl, if_pos]
    rfl)
  have hgo := k _ H1 locs ls (by omega) (by omega) (fun z hz => (hagree z (by omega)).trans (h3 z hz)) hW (IH_push h5) (LR_ext h6 h7 hagree) (LI_le h7 (by omega)) (SI_cons.mpr ⟨(show -1 ≤ (n : Int) ∧ (n : Int) < ((n + 1 : Nat) : Int) from ⟨by omega, by omega⟩), SI_le hSI (by omega)⟩) hS1
  rw [List.map_cons, cv_ref, map_ext hSI hagree, if_pos rfl] at hgo
  exact hgo

theorem s_getstatic {idx : Nat} (F : ai_F p s m args meth c cc nL own isInit D cid B0 xa E2 Kc) (g : ai_chk own cc nL Kc cal fr lo isInit rt (pc, .getstatic idx, len, a, b, d, t, z, tl) = true) (q : ai_st orc lim X (pc, .getstatic idx, len, a, b, d, t, z, tl) (ai_PS p l e R s m args below meth c D cid B0 xa nL n0 lim ad0 gx gy Qf) L S n hr h Q) : ai_PS p l e R s m args below meth c D cid B0 xa nL n0 lim ad0 gx gy Qf pc L S n hr h := by
  simp only [ai_chk, Bool.and_eq_true, decide_eq_true_eq, Bool.or_eq_true] at g
  simp only [ai_st] at q
  obtain ⟨hd, rfl, g1⟩ := g
  intro ad H locs ls h1 h2 h3 h4 h5 h6 h7 h8 h9
  exact va_gets F.1 F.2.1 F.2.2.2.2.2.2.2.2.1.1 h9 F.2.2.2.1 (kc_word F g1) (fun x hx => hx) hd (q ad H locs ls h1 h2 h3 h4 h5 h6 h7 (SI_cons.mpr ⟨trivial, h8⟩) h9)
end SND6
