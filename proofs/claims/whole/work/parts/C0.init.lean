-- deps: 18 19 20 21 22 23 24 25 26 27 28 29 30 31 32 33 34 35 36 37 9S 9T 9U 9W 9X 9Y 9Z A0 A4 A5 A7 B0 B9 BA BB BC BD BE
/-! the two makers: from nothing to the first state -/
def rN : HP := fun _ _ => -1
def zN : HP := fun _ _ => 0
theorem rN_z {x : Int} : ai_cl rN x (-1) = rN := by funext c j; unfold ai_cl rN; split <;> rfl
theorem zN_z {x : Int} : ai_cl zN x 0 = zN := by funext c j; unfold ai_cl zN; split <;> rfl
theorem cl_up {h : HP} {c j v x w : Int} (hc : c ≠ x) : ai_cl (ai_up h c j v) x w = ai_up (ai_cl h x w) c j v := by
  funext a b
  show (if a = x then w else if a = c ∧ b = j then v else h a b) = if a = c ∧ b = j then v else if a = x then w else h a b
  by_cases e : a = x
  · have q : ¬ (a = c ∧ b = j) := fun q => hc (q.1.symm.trans e)
    rw [if_pos e, if_neg q, if_pos e]
  · rw [if_neg e, if_neg e]
theorem cl_fl {h : HP} {c k x w : Int} {F : Int → Int} (hc : c ≠ x) : ai_cl (ai_fl h c k F) x w = ai_fl (ai_cl h x w) c k F := by
  funext a b
  show (if a = x then w else if a = c ∧ 0 ≤ b ∧ b < k then F b else h a b) = if a = c ∧ 0 ≤ b ∧ b < k then F b else if a = x then w else h a b
  by_cases e : a = x
  · have q : ¬ (a = c ∧ 0 ≤ b ∧ b < k) := fun q => hc (q.1.symm.trans e)
    rw [if_pos e, if_neg q, if_pos e]
  · rw [if_neg e, if_neg e]
theorem cl_at {h : HP} {x v j : Int} : ai_cl h x v x j = v := if_pos rfl
theorem cl_oth {h : HP} {x v c j : Int} (hc : c ≠ x) : ai_cl h x v c j = h c j := if_neg hc
theorem cl_is {h : HP} {x v : Int} (e : ∀ j, h x j = v) : ai_cl h x v = h := by
  funext a b
  unfold ai_cl
  split
  · rename_i q; rw [q, e]
  · rfl
theorem is_cl {h : HP} {x v : Int} (e : ai_cl h x v = h) (j : Int) : h x j = v := by rw [← e]; exact cl_at
theorem up_z {h : HP} {c j : Int} (z : h c j = 0) : ai_up h c j 0 = h := by
  have := @up_self h c j
  rwa [z] at this
theorem q_of {al n n' : Nat} {Q : RP} {r : AV} {hr h : HP} (e : n' = n + al) (hQ : Q r n' hr h) : ai_q al n Q r n' hr h := ⟨e, hQ⟩
theorem hide {F : SP} {A : List AV} {n : Nat} {hr h : HP} {Q : RP} (k : ∀ K : RP, (∀ r n hr h, Q r n hr h → K r n hr h) → F A n hr h K) : F A n hr h Q := k Q fun _ _ _ _ q => q
theorem in_M_init {Q : RP} {l0 : Int} {n : Nat} {hr h : HP} (z : ∀ x : Int, (n : Int) ≤ x → ai_cl hr x (-1) = hr) (y : ∀ x : Int, (n : Int) ≤ x → ai_cl h x 0 = h) (hc : 0 ≤ l0) (hl : l0 < (n : Int)) (hK : ai_k l0 = 1) (k : ai_k ((n : Nat) : Int) = 50 ∧ ai_l ((n : Nat) : Int) = 24 ∧ ai_k ((n + 1 : Nat) : Int) = 50 ∧ ai_l ((n + 1 : Nat) : Int) = 24) (hQ : Q (9, 0) (n + 1 + 1) (ai_up (ai_up hr l0 0 ((n : Nat) : Int)) l0 1 ((n + 1 : Nat) : Int)) h) : f_M_init [(2, l0)] n hr h Q := by
  obtain ⟨k0, k1, k2, k3⟩ := k
  have ok : ∀ m : Nat, n ≤ m → ai_ok m l0 1 := fun m q => ⟨hc, by omega, hK⟩
  apply e_M_init
  simp (disch := omega) only [cl_up, z, y]
  exact ⟨hc, by omega, k0, k1, ok _ (by omega), by omega, k2, k3, ok _ (by omega), q_of (by omega) hQ⟩
theorem in_A_init {Q : RP} {l0 l1 : Int} {n : Nat} {hr h : HP} (z : ∀ x : Int, (n : Int) ≤ x → ai_cl hr x (-1) = hr) (y : ∀ x : Int, (n : Int) ≤ x → ai_cl h x 0 = h) (hc : 0 ≤ l0) (hl : l0 < (n : Int)) (hK : ai_k l0 = 9) (k : ai_k ((n : Nat) : Int) = 50 ∧ ai_l ((n : Nat) : Int) = 6 ∧ ai_k ((n + 1 : Nat) : Int) = 50 ∧ ai_l ((n + 1 : Nat) : Int) = 36 ∧ ai_k ((n + 1 + 1 : Nat) : Int) = 50 ∧ ai_l ((n + 1 + 1 : Nat) : Int) = 6 ∧ ai_k ((n + 1 + 1 + 1 : Nat) : Int) = 50 ∧ ai_l ((n + 1 + 1 + 1 : Nat) : Int) = 6 ∧ ai_k ((n + 1 + 1 + 1 + 1 : Nat) : Int) = 50 ∧ ai_l ((n + 1 + 1 + 1 + 1 : Nat) : Int) = 36 ∧ ai_k ((n + 1 + 1 + 1 + 1 + 1 : Nat) : Int) = 50 ∧ ai_l ((n + 1 + 1 + 1 + 1 + 1 : Nat) : Int) = 6 ∧ ai_k ((n + 1 + 1 + 1 + 1 + 1 + 1 : Nat) : Int) = 50 ∧ ai_l ((n + 1 + 1 + 1 + 1 + 1 + 1 : Nat) : Int) = 6) (hQ : Q (9, 0) (n + 1 + 1 + 1 + 1 + 1 + 1 + 1) (ai_up (ai_up (ai_up (ai_up (ai_up (ai_up (ai_up (ai_up hr l0 1 ((n : Nat) : Int)) l0 2 ((n + 1 : Nat) : Int)) l0 3 ((n + 1 + 1 : Nat) : Int)) l0 4 ((n + 1 + 1 + 1 : Nat) : Int)) l0 5 ((n + 1 + 1 + 1 + 1 : Nat) : Int)) l0 6 ((n + 1 + 1 + 1 + 1 + 1 : Nat) : Int)) l0 7 ((n + 1 + 1 + 1 + 1 + 1 + 1 : Nat) : Int)) l0 0 l1) h) : f_A_init [(2, l0), (2, l1)] n hr h Q := by
  obtain ⟨k0, k1, k2, k3, k4, k5, k6, k7, k8, k9, k10, k11, k12, k13⟩ := k
  have ok : ∀ m : Nat, n ≤ m → ai_ok m l0 9 := fun m q => ⟨hc, by omega, hK⟩
  apply e_A_init
  simp (disch := omega) only [cl_up, z, y]
  exact ⟨hc, by omega, k0, k1, ok _ (by omega), by omega, k2, k3, ok _ (by omega), by omega, k4, k5, ok _ (by omega), by omega, k6, k7, ok _ (by omega), by omega, k8, k9, ok _ (by omega), by omega, k10, k11, ok _ (by omega), by omega, k12, k13, ok _ (by omega), ok _ (by omega), q_of (by omega) hQ⟩
theorem in_S_init {Q : RP} {l0 l1 l2 : Int} {n : Nat} {hr h : HP} (z : ∀ x : Int, (n : Int) ≤ x → ai_cl hr x (-1) = hr) (y : ∀ x : Int, (n : Int) ≤ x → ai_cl h x 0 = h) (hc : 0 ≤ l0) (hl : l0 < (n : Int)) (hK : ai_k l0 = 5) (k : ai_k ((n : Nat) : Int) = 50 ∧ ai_l ((n : Nat) : Int) = 3280 ∧ ai_k ((n + 1 : Nat) : Int) = 50 ∧ ai_l ((n + 1 : Nat) : Int) = 3280 ∧ ai_k ((n + 1 + 1 : Nat) : Int) = 50 ∧ ai_l ((n + 1 + 1 : Nat) : Int) = 8192 ∧ ai_k ((n + 1 + 1 + 1 : Nat) : Int) = 50 ∧ ai_l ((n + 1 + 1 + 1 : Nat) : Int) = 6 ∧ ai_k ((n + 1 + 1 + 1 + 1 : Nat) : Int) = 50 ∧ ai_l ((n + 1 + 1 + 1 + 1 : Nat) : Int) = 3 ∧ ai_k ((n + 1 + 1 + 1 + 1 + 1 : Nat) : Int) = 50 ∧ ai_l ((n + 1 + 1 + 1 + 1 + 1 : Nat) : Int) = 64 ∧ ai_k ((n + 1 + 1 + 1 + 1 + 1 + 1 : Nat) : Int) = 50 ∧ ai_l ((n + 1 + 1 + 1 + 1 + 1 + 1 : Nat) : Int) = 64) (hQ : Q (9, 0) (n + 1 + 1 + 1 + 1 + 1 + 1 + 1) (ai_up (ai_up (ai_up (ai_up (ai_up (ai_up (ai_up (ai_up (ai_up hr l0 2 ((n : Nat) : Int)) l0 3 ((n + 1 : Nat) : Int)) l0 4 ((n + 1 + 1 : Nat) : Int)) l0 5 ((n + 1 + 1 + 1 : Nat) : Int)) l0 6 ((n + 1 + 1 + 1 + 1 : Nat) : Int)) l0 7 ((n + 1 + 1 + 1 + 1 + 1 : Nat) : Int)) l0 8 ((n + 1 + 1 + 1 + 1 + 1 + 1 : Nat) : Int)) l0 0 l1) l0 1 l2) h) : f_S_init [(2, l0), (2, l1), (2, l2)] n hr h Q := by
  obtain ⟨k0, k1, k2, k3, k4, k5, k6, k7, k8, k9, k10, k11, k12, k13⟩ := k
  have ok : ∀ m : Nat, n ≤ m → ai_ok m l0 5 := fun m q => ⟨hc, by omega, hK⟩
  apply e_S_init
  simp (disch := omega) only [cl_up, z, y]
  exact ⟨hc, by omega, k0, k1, ok _ (by omega), by omega, k2, k3, ok _ (by omega), by omega, k4, k5, ok _ (by omega), by omega, k6, k7, ok _ (by omega), by omega, k8, k9, ok _ (by omega), by omega, k10, k11, ok _ (by omega), by omega, k12, k13, ok _ (by omega), ok _ (by omega), ok _ (by omega), q_of (by omega) hQ⟩
theorem in_W_init {Q : RP} {l0 l1 l2 : Int} {n : Nat} {hr h : HP} (z : ∀ x : Int, (n : Int) ≤ x → ai_cl hr x (-1) = hr) (y : ∀ x : Int, (n : Int) ≤ x → ai_cl h x 0 = h) (hc : 0 ≤ l0) (hl : l0 < (n : Int)) (hK : ai_k l0 = 10) (k : ai_k ((n : Nat) : Int) = 50 ∧ ai_l ((n : Nat) : Int) = 6 ∧ ai_k ((n + 1 : Nat) : Int) = 50 ∧ ai_l ((n + 1 : Nat) : Int) = 6) (hQ : Q (9, 0) (n + 1 + 1) (ai_up (ai_up (ai_up (ai_up hr l0 2 ((n : Nat) : Int)) l0 3 ((n + 1 : Nat) : Int)) l0 0 l1) l0 1 l2) h) : f_W_init [(2, l0), (2, l1), (2, l2)] n hr h Q := by
  obtain ⟨k0, k1, k2, k3⟩ := k
  have ok : ∀ m : Nat, n ≤ m → ai_ok m l0 10 := fun m q => ⟨hc, by omega, hK⟩
  apply e_W_init
  simp (disch := omega) only [cl_up, z, y]
  exact ⟨hc, by omega, k0, k1, ok _ (by omega), by omega, k2, k3, ok _ (by omega), ok _ (by omega), ok _ (by omega), q_of (by omega) hQ⟩
theorem in_E_init {Q : RP} {l0 l1 l2 l3 : Int} {n : Nat} {hr h : HP} (z : ∀ x : Int, (n : Int) ≤ x → ai_cl hr x (-1) = hr) (y : ∀ x : Int, (n : Int) ≤ x → ai_cl h x 0 = h) (hc : 0 ≤ l0) (hl : l0 < (n : Int)) (hK : ai_k l0 = 8) (k : ai_k ((n : Nat) : Int) = 50 ∧ ai_l ((n : Nat) : Int) = l1 ∧ ai_k ((n + 1 : Nat) : Int) = 50 ∧ ai_l ((n + 1 : Nat) : Int) = l1 ∧ ai_k ((n + 1 + 1 : Nat) : Int) = 50 ∧ ai_l ((n + 1 + 1 : Nat) : Int) = l1 ∧ ai_k ((n + 1 + 1 + 1 : Nat) : Int) = 50 ∧ ai_l ((n + 1 + 1 + 1 : Nat) : Int) = l2 ∧ ai_k ((n + 1 + 1 + 1 + 1 : Nat) : Int) = 50 ∧ ai_l ((n + 1 + 1 + 1 + 1 : Nat) : Int) = l2 ∧ ai_k ((n + 1 + 1 + 1 + 1 + 1 : Nat) : Int) = 50 ∧ ai_l ((n + 1 + 1 + 1 + 1 + 1 : Nat) : Int) = l2) (hQ : Q (9, 0) (n + 1 + 1 + 1 + 1 + 1 + 1) (ai_up (ai_up (ai_up (ai_up (ai_up (ai_up (ai_up hr l0 0 ((n : Nat) : Int)) l0 1 ((n + 1 : Nat) : Int)) l0 2 ((n + 1 + 1 : Nat) : Int)) l0 3 ((n + 1 + 1 + 1 : Nat) : Int)) l0 4 ((n + 1 + 1 + 1 + 1 : Nat) : Int)) l0 5 ((n + 1 + 1 + 1 + 1 + 1 : Nat) : Int)) l0 6 l3) h) : f_E_init [(2, l0), (0, l1), (0, l2), (2, l3)] n hr h Q := by
  obtain ⟨k0, k1, k2, k3, k4, k5, k6, k7, k8, k9, k10, k11⟩ := k
  have ok : ∀ m : Nat, n ≤ m → ai_ok m l0 8 := fun m q => ⟨hc, by omega, hK⟩
  apply e_E_init
  simp (disch := omega) only [cl_up, z, y]
  exact ⟨hc, by omega, k0, k1, ok _ (by omega), by omega, k2, k3, ok _ (by omega), by omega, k4, k5, ok _ (by omega), by omega, k6, k7, ok _ (by omega), by omega, k8, k9, ok _ (by omega), by omega, k10, k11, ok _ (by omega), ok _ (by omega), q_of (by omega) hQ⟩
theorem in_L_init {Q : RP} {l0 : Int} {n : Nat} {hr h : HP} (z : ∀ x : Int, (n : Int) ≤ x → ai_cl hr x (-1) = hr) (y : ∀ x : Int, (n : Int) ≤ x → ai_cl h x 0 = h) (hc : 0 ≤ l0) (hl : l0 < (n : Int)) (hK : ai_k l0 = 0) (k : ai_k ((n : Nat) : Int) = 50 ∧ ai_l ((n : Nat) : Int) = 20 ∧ ai_k ((n + 1 : Nat) : Int) = 51 ∧ ai_l ((n + 1 : Nat) : Int) = 20) (hQ : Q (9, 0) (n + 1 + 1) (ai_up (ai_up hr l0 0 ((n : Nat) : Int)) l0 1 ((n + 1 : Nat) : Int)) h) : f_L_init [(2, l0)] n hr h Q := by
  obtain ⟨k0, k1, k2, k3⟩ := k
  have ok : ∀ m : Nat, n ≤ m → ai_ok m l0 0 := fun m q => ⟨hc, by omega, hK⟩
  apply e_L_init
  simp (disch := omega) only [cl_up, z, y]
  exact ⟨hc, by omega, k0, k1, ok _ (by omega), by omega, k2, k3, ok _ (by omega), q_of (by omega) hQ⟩
theorem in_Pc {Q : RP} {c a b : Int} {n : Nat} {hr h : HP} (ok : ai_ok n c 3) (ea : hr c 2 = a) (eb : hr c 3 = b) (oa : ai_ok n a 50) (la : ai_l a = 24) (ob : ai_ok n b 50) (lb : ai_l b = 24) (na : a ≠ c) (nb : b ≠ c) (hz : ∀ j, h c j = 0) (hQ : Q (9, 0) n hr (ai_fl (ai_fl h a 24 (fun _ => -1)) b 24 (fun _ => -1))) : f_P_clear [(2, c)] n hr h Q := by
  apply e_P_clear
  rw [ea]
  refine ⟨ok, sp_J_fill oa ?_⟩
  rw [la, eb]
  refine ⟨ok, sp_J_fill ob ?_⟩
  rw [lb]
  have z : ∀ j, (ai_fl (ai_fl h a 24 (fun _ => (-1 : Int))) b 24 (fun _ => -1)) c j = 0 := fun j => by rw [fl_out (Ne.symm nb), fl_out (Ne.symm na)]; exact hz j
  generalize ai_fl (ai_fl h a 24 (fun _ => (-1 : Int))) b 24 (fun _ => -1) = g at z hQ ⊢
  have u : ∀ j, ai_up g c j 0 = g := fun j => up_z (z j)
  simp only [u]
  exact ⟨ok, ok, ok, ok, ok, ok, ok, by simp, ok, by simp, q_at rfl hQ⟩
theorem in_P {Q : RP} {l0 : Int} {n : Nat} {hr h : HP} (z : ∀ x : Int, (n : Int) ≤ x → ai_cl hr x (-1) = hr) (y : ∀ x : Int, (n : Int) ≤ x → ai_cl h x 0 = h) (hc : 0 ≤ l0) (hl : l0 < (n : Int)) (hK : ai_k l0 = 3) (k : ai_k ((n : Nat) : Int) = 50 ∧ ai_l ((n : Nat) : Int) = 8 ∧ ai_k ((n + 1 : Nat) : Int) = 50 ∧ ai_l ((n + 1 : Nat) : Int) = 3 ∧ ai_k ((n + 1 + 1 : Nat) : Int) = 50 ∧ ai_l ((n + 1 + 1 : Nat) : Int) = 24 ∧ ai_k ((n + 1 + 1 + 1 : Nat) : Int) = 50 ∧ ai_l ((n + 1 + 1 + 1 : Nat) : Int) = 24) (hz : ∀ j, h l0 j = 0) (hQ : Q (9, 0) (n + 1 + 1 + 1 + 1) (ai_up (ai_up (ai_up (ai_up hr l0 0 ((n : Nat) : Int)) l0 1 ((n + 1 : Nat) : Int)) l0 2 ((n + 1 + 1 : Nat) : Int)) l0 3 ((n + 1 + 1 + 1 : Nat) : Int)) (ai_fl (ai_fl h ((n + 1 + 1 : Nat) : Int) 24 (fun _ => -1)) ((n + 1 + 1 + 1 : Nat) : Int) 24 (fun _ => -1))) : f_P_init [(2, l0)] n hr h Q := by
  obtain ⟨k0, k1, k2, k3, k4, k5, k6, k7⟩ := k
  have ok : ∀ m : Nat, n ≤ m → ai_ok m l0 3 := fun m q => ⟨hc, by omega, hK⟩
  apply e_P_init
  simp (disch := omega) only [cl_up, z, y]
  exact ⟨hc, by omega, k0, k1, ok _ (by omega), by omega, k2, k3, ok _ (by omega), by omega, k4, k5, ok _ (by omega), by omega, k6, k7, ok _ (by omega), ok _ (by omega), in_Pc (ok _ (by omega)) (by simp (disch := omega) only [up_same, up_oth]) (by simp (disch := omega) only [up_same, up_oth]) ⟨by omega, by omega, k4⟩ k5 ⟨by omega, by omega, k6⟩ k7 (by omega) (by omega) hz (q_of (by omega) hQ)⟩
theorem cw_of {n : Nat} {hr : HP} (a : 138 ≤ n) (b : (cw_tbl.all fun q => decide (hr q.1 q.2.1 = q.2.2)) = true) : CW n hr := ⟨a, fun q hq => of_decide_eq_true (List.all_eq_true.mp b q hq)⟩
theorem kC {F : SP} {A : List AV} {n : Nat} {hr h : HP} {K : RP} (V : CW n hr) (e : hr 0 12 = 8 ∧ hr 1 1 = 3) (z : ∀ x : Int, 138 ≤ x → ai_cl hr x (-1) = hr) (k : ∀ hr', CW n hr' → hr' 0 12 = 8 → hr' 1 1 = 3 → (∀ x : Int, 138 ≤ x → ai_cl hr' x (-1) = hr') → F A n hr' h K) : F A n hr h K := k hr V e.1 e.2 z
def hB : HP := ai_fl (ai_fl (ai_up (ai_fl (ai_fl zN 6 24 (fun _ => -1)) 7 24 (fun _ => -1)) 1 4 (-1)) 11 24 (fun _ => -1)) 12 24 (fun _ => -1)
theorem hB_0 {c : Int} (h1 : c ≠ 1) (h2 : c ≠ 6) (h3 : c ≠ 7) (h4 : c ≠ 11) (h5 : c ≠ 12) (j : Int) : hB c j = 0 := by
  unfold hB
  simp (disch := omega) only [fl_out, up_oth]
  rfl
/-- the first state -/
def z00 : ST := (fun _ => 0, 0, 0, -1, ds0, fun _ => 0, fun _ => 0, [], [], 0, fun _ => 0, fun _ => 0, [])
def z0 : ST := zsT z00 ds0
theorem zOK_0 : zOK z0 := zOK_T dOK_0
theorem DFT_0 : DFT 8 ds0 hB := by
  have e : ∀ j, hB 8 j = 0 := fun j => hB_0 (by decide) (by decide) (by decide) (by decide) (by decide) j
  refine ⟨⟨e 4, by rw [e 4, e 5]; rfl, e 6⟩, ⟨e 7, e 8, e 9, e 10, e 11⟩, (fun j w hj => by cases hj), (fun j w hj => by cases hj), fun a h0 h1 => ?_, fun a h0 h1 => ?_⟩
  · show hB 11 a = -1
    unfold hB
    rw [fl_out (by omega), fl_in h0 h1]
  · show hB 12 a = -1
    unfold hB
    rw [fl_in h0 h1]
theorem B_fin {Q : RP} {hr : HP} (V : CW 138 hr) (e1 : hr 0 12 = 8) (e2 : hr 1 1 = 3) (z : ∀ x : Int, 138 ≤ x → ai_cl hr x (-1) = hr) (hQ : ∀ hr1 h1, CW 138 hr1 → hr1 0 12 = 8 → hr1 1 1 = 3 → (∀ x : Int, 138 ≤ x → ai_cl hr1 x (-1) = hr1) → (∀ x : Int, 138 ≤ x → ai_cl h1 x 0 = h1) → CAL z0 8 0 h1 → Q (9, 0) 138 hr1 h1) : f_B_settle [(2, 0)] 138 hr hB Q := by
  refine sp_B_settle (s := ds0) (d := 8) (k := 0) (it := fun _ => 0) (io := fun _ => 0) (iG := []) V (Or.inr rfl) e1 dOK_0 DFT_0 ⟨hB_0 (by decide) (by decide) (by decide) (by decide) (by decide) _, fun q _ => hB_0 (by decide) (by decide) (by decide) (by decide) (by decide) _⟩ (fun a h0 h1 => ?_) ⟨?_, fun k hk => ?_⟩ ?_ fun h1 f1 f2 b2 b3 b4 b5 b6 b7 b8 b9 b10 => hQ hr h1 V e1 e2 z (fun x hx => cl_is fun j => ?_) ⟨⟨fun j j0 j1 => ⟨⟨Int.le_refl 0, (by decide : (0 : Int) < 256)⟩, ?_⟩, ?_, ?_, ?_, DFT_fr DFT_0 (f2 _ (by decide) (by decide)) (f2 _ (by decide) (by decide)) (f2 _ (by decide) (by decide)) (f2 _ (by decide) (by decide)) (f2 _ (by decide) (by decide))⟩, b2, b3, b4, b5, b6, b7, b8, b9, b10⟩
  · rw [hB_0 (by decide) (by decide) (by decide) (by decide) (by decide), hB_0 (by decide) (by decide) (by decide) (by decide) (by decide)]; decide
  · rw [hB_0 (by decide) (by decide) (by decide) (by decide) (by decide)]; decide
  · rw [hB_0 (by decide) (by decide) (by decide) (by decide) (by decide), hB_0 (by decide) (by decide) (by decide) (by decide) (by decide)]; decide
  · rw [hB_0 (by decide) (by decide) (by decide) (by decide) (by decide)]; decide
  · rw [f1 x hx]; exact hB_0 (by omega) (by omega) (by omega) (by omega) (by omega) j
  · rw [f2 2 (by decide) (by decide), hB_0 (by decide) (by decide) (by decide) (by decide) (by decide)]; rfl
  · rw [f2 1 (by decide) (by decide)]; rfl
  · rw [f2 1 (by decide) (by decide)]; rfl
  · rw [f2 1 (by decide) (by decide)]; rfl
set_option maxRecDepth 20000 in
theorem sp_B_init0 {Q : RP} (hQ : ∀ hr1 h1, CW 138 hr1 → hr1 0 12 = 8 → hr1 1 1 = 3 → (∀ x : Int, 138 ≤ x → ai_cl hr1 x (-1) = hr1) → (∀ x : Int, 138 ≤ x → ai_cl h1 x 0 = h1) → CAL z0 8 0 h1 → Q (9, 0) 138 hr1 h1) : f_B_init [(2, 0)] 1 rN zN Q := by
  apply e_B_init
  repeat ((with_reducible refine And.intro ?_ ?_); (first | decide +kernel | exact ⟨by decide +kernel, by decide +kernel, by decide +kernel⟩))
  refine hide fun K0 e0 => ?_
  simp (disch := omega) only [cl_up, cl_fl, rN_z, zN_z, up_same, up_oth, w32_id, Nat.reduceAdd, Int.reduceAdd, Int.cast_ofNat_Int]
  apply e_R_init
  repeat ((with_reducible refine And.intro ?_ ?_); (first | decide +kernel | exact ⟨by decide +kernel, by decide +kernel, by decide +kernel⟩))
  refine hide fun K1 e1 => ?_
  simp (disch := omega) only [cl_up, cl_fl, rN_z, zN_z, up_same, up_oth, w32_id, Nat.reduceAdd, Int.reduceAdd, Int.cast_ofNat_Int]
  refine in_P (fun x hx => by simp (disch := omega) only [cl_up, rN_z]) (fun x hx => by simp (disch := omega) only [cl_up, cl_fl, zN_z]) (by decide +kernel) (by decide +kernel) (by decide +kernel) (by decide +kernel) (fun j => by rfl) (e1 _ _ _ _ ?_)
  repeat ((with_reducible refine And.intro ?_ ?_); (first | decide +kernel | exact ⟨by decide +kernel, by decide +kernel, by decide +kernel⟩))
  refine q_of (by decide +kernel) (e0 _ _ _ _ ?_)
  repeat ((with_reducible refine And.intro ?_ ?_); (first | decide +kernel | exact ⟨by decide +kernel, by decide +kernel, by decide +kernel⟩))
  refine hide fun K1 e1 => ?_
  simp (disch := omega) only [cl_up, cl_fl, rN_z, zN_z, up_same, up_oth, w32_id, Nat.reduceAdd, Int.reduceAdd, Int.cast_ofNat_Int]
  refine in_P (fun x hx => by simp (disch := omega) only [cl_up, rN_z]) (fun x hx => by simp (disch := omega) only [cl_up, cl_fl, zN_z]) (by decide +kernel) (by decide +kernel) (by decide +kernel) (by decide +kernel) (fun j => by simp (disch := omega) only [up_oth, fl_out]; rfl) (e1 _ _ _ _ ?_)
  repeat ((with_reducible refine And.intro ?_ ?_); (first | decide +kernel | exact ⟨by decide +kernel, by decide +kernel, by decide +kernel⟩))
  refine hide fun K1 e1 => ?_
  simp (disch := omega) only [cl_up, cl_fl, rN_z, zN_z, up_same, up_oth, w32_id, Nat.reduceAdd, Int.reduceAdd, Int.cast_ofNat_Int]
  refine in_M_init (fun x hx => by simp (disch := omega) only [cl_up, rN_z]) (fun x hx => by simp (disch := omega) only [cl_up, cl_fl, zN_z]) (by decide +kernel) (by decide +kernel) (by decide +kernel) (by decide +kernel) (e1 _ _ _ _ ?_)
  repeat ((with_reducible refine And.intro ?_ ?_); (first | decide +kernel | exact ⟨by decide +kernel, by decide +kernel, by decide +kernel⟩))
  refine hide fun K1 e1 => ?_
  simp (disch := omega) only [cl_up, cl_fl, rN_z, zN_z, up_same, up_oth, w32_id, Nat.reduceAdd, Int.reduceAdd, Int.cast_ofNat_Int]
  refine in_M_init (fun x hx => by simp (disch := omega) only [cl_up, rN_z]) (fun x hx => by simp (disch := omega) only [cl_up, cl_fl, zN_z]) (by decide +kernel) (by decide +kernel) (by decide +kernel) (by decide +kernel) (e1 _ _ _ _ ?_)
  repeat ((with_reducible refine And.intro ?_ ?_); (first | decide +kernel | exact ⟨by decide +kernel, by decide +kernel, by decide +kernel⟩))
  refine hide fun K1 e1 => ?_
  simp (disch := omega) only [cl_up, cl_fl, rN_z, zN_z, up_same, up_oth, w32_id, Nat.reduceAdd, Int.reduceAdd, Int.cast_ofNat_Int]
  refine in_A_init (fun x hx => by simp (disch := omega) only [cl_up, rN_z]) (fun x hx => by simp (disch := omega) only [cl_up, cl_fl, zN_z]) (by decide +kernel) (by decide +kernel) (by decide +kernel) (by decide +kernel) (e1 _ _ _ _ ?_)
  repeat ((with_reducible refine And.intro ?_ ?_); (first | decide +kernel | exact ⟨by decide +kernel, by decide +kernel, by decide +kernel⟩))
  refine hide fun K1 e1 => ?_
  simp (disch := omega) only [cl_up, cl_fl, rN_z, zN_z, up_same, up_oth, w32_id, Nat.reduceAdd, Int.reduceAdd, Int.cast_ofNat_Int]
  refine in_S_init (fun x hx => by simp (disch := omega) only [cl_up, rN_z]) (fun x hx => by simp (disch := omega) only [cl_up, cl_fl, zN_z]) (by decide +kernel) (by decide +kernel) (by decide +kernel) (by decide +kernel) (e1 _ _ _ _ ?_)
  repeat ((with_reducible refine And.intro ?_ ?_); (first | decide +kernel | exact ⟨by decide +kernel, by decide +kernel, by decide +kernel⟩))
  refine hide fun K0 e0 => ?_
  simp (disch := omega) only [cl_up, cl_fl, rN_z, zN_z, up_same, up_oth, w32_id, Nat.reduceAdd, Int.reduceAdd, Int.cast_ofNat_Int]
  apply e_T_init
  repeat ((with_reducible refine And.intro ?_ ?_); (first | decide +kernel | exact ⟨by decide +kernel, by decide +kernel, by decide +kernel⟩))
  refine hide fun K1 e1 => ?_
  simp (disch := omega) only [cl_up, cl_fl, rN_z, zN_z, up_same, up_oth, w32_id, Nat.reduceAdd, Int.reduceAdd, Int.cast_ofNat_Int]
  refine in_W_init (fun x hx => by simp (disch := omega) only [cl_up, rN_z]) (fun x hx => by simp (disch := omega) only [cl_up, cl_fl, zN_z]) (by decide +kernel) (by decide +kernel) (by decide +kernel) (by decide +kernel) (e1 _ _ _ _ ?_)
  repeat ((with_reducible refine And.intro ?_ ?_); (first | decide +kernel | exact ⟨by decide +kernel, by decide +kernel, by decide +kernel⟩))
  simp (disch := omega) only [cl_up, cl_fl, rN_z, zN_z, up_same, up_oth, w32_id, Nat.reduceAdd, Int.reduceAdd, Int.cast_ofNat_Int]
  apply b_T_init_91
  refine ⟨fun q => absurd q (by decide), fun _ => ?_⟩
  repeat ((with_reducible refine And.intro ?_ ?_); (first | decide +kernel | exact ⟨by decide +kernel, by decide +kernel, by decide +kernel⟩))
  refine hide fun K1 e1 => ?_
  simp (disch := omega) only [cl_up, cl_fl, rN_z, zN_z, up_same, up_oth, w32_id, Nat.reduceAdd, Int.reduceAdd, Int.cast_ofNat_Int]
  refine in_E_init (fun x hx => by simp (disch := omega) only [cl_up, rN_z]) (fun x hx => by simp (disch := omega) only [cl_up, cl_fl, zN_z]) (by decide +kernel) (by decide +kernel) (by decide +kernel) (by decide +kernel) (e1 _ _ _ _ ?_)
  repeat ((with_reducible refine And.intro ?_ ?_); (first | decide +kernel | exact ⟨by decide +kernel, by decide +kernel, by decide +kernel⟩))
  refine hide fun K1 e1 => ?_
  simp (disch := omega) only [cl_up, cl_fl, rN_z, zN_z, up_same, up_oth, w32_id, Nat.reduceAdd, Int.reduceAdd, Int.cast_ofNat_Int]
  refine in_E_init (fun x hx => by simp (disch := omega) only [cl_up, rN_z]) (fun x hx => by simp (disch := omega) only [cl_up, cl_fl, zN_z]) (by decide +kernel) (by decide +kernel) (by decide +kernel) (by decide +kernel) (e1 _ _ _ _ ?_)
  repeat ((with_reducible refine And.intro ?_ ?_); (first | decide +kernel | exact ⟨by decide +kernel, by decide +kernel, by decide +kernel⟩))
  simp (disch := omega) only [cl_up, cl_fl, rN_z, zN_z, up_same, up_oth, w32_id, Nat.reduceAdd, Int.reduceAdd, Int.cast_ofNat_Int]
  apply b_T_init_91
  refine ⟨fun q => absurd q (by decide), fun _ => ?_⟩
  repeat ((with_reducible refine And.intro ?_ ?_); (first | decide +kernel | exact ⟨by decide +kernel, by decide +kernel, by decide +kernel⟩))
  refine hide fun K1 e1 => ?_
  simp (disch := omega) only [cl_up, cl_fl, rN_z, zN_z, up_same, up_oth, w32_id, Nat.reduceAdd, Int.reduceAdd, Int.cast_ofNat_Int]
  refine in_E_init (fun x hx => by simp (disch := omega) only [cl_up, rN_z]) (fun x hx => by simp (disch := omega) only [cl_up, cl_fl, zN_z]) (by decide +kernel) (by decide +kernel) (by decide +kernel) (by decide +kernel) (e1 _ _ _ _ ?_)
  repeat ((with_reducible refine And.intro ?_ ?_); (first | decide +kernel | exact ⟨by decide +kernel, by decide +kernel, by decide +kernel⟩))
  refine hide fun K1 e1 => ?_
  simp (disch := omega) only [cl_up, cl_fl, rN_z, zN_z, up_same, up_oth, w32_id, Nat.reduceAdd, Int.reduceAdd, Int.cast_ofNat_Int]
  refine in_E_init (fun x hx => by simp (disch := omega) only [cl_up, rN_z]) (fun x hx => by simp (disch := omega) only [cl_up, cl_fl, zN_z]) (by decide +kernel) (by decide +kernel) (by decide +kernel) (by decide +kernel) (e1 _ _ _ _ ?_)
  repeat ((with_reducible refine And.intro ?_ ?_); (first | decide +kernel | exact ⟨by decide +kernel, by decide +kernel, by decide +kernel⟩))
  simp (disch := omega) only [cl_up, cl_fl, rN_z, zN_z, up_same, up_oth, w32_id, Nat.reduceAdd, Int.reduceAdd, Int.cast_ofNat_Int]
  apply b_T_init_91
  refine ⟨fun q => absurd q (by decide), fun _ => ?_⟩
  repeat ((with_reducible refine And.intro ?_ ?_); (first | decide +kernel | exact ⟨by decide +kernel, by decide +kernel, by decide +kernel⟩))
  refine hide fun K1 e1 => ?_
  simp (disch := omega) only [cl_up, cl_fl, rN_z, zN_z, up_same, up_oth, w32_id, Nat.reduceAdd, Int.reduceAdd, Int.cast_ofNat_Int]
  refine in_E_init (fun x hx => by simp (disch := omega) only [cl_up, rN_z]) (fun x hx => by simp (disch := omega) only [cl_up, cl_fl, zN_z]) (by decide +kernel) (by decide +kernel) (by decide +kernel) (by decide +kernel) (e1 _ _ _ _ ?_)
  repeat ((with_reducible refine And.intro ?_ ?_); (first | decide +kernel | exact ⟨by decide +kernel, by decide +kernel, by decide +kernel⟩))
  refine hide fun K1 e1 => ?_
  simp (disch := omega) only [cl_up, cl_fl, rN_z, zN_z, up_same, up_oth, w32_id, Nat.reduceAdd, Int.reduceAdd, Int.cast_ofNat_Int]
  refine in_E_init (fun x hx => by simp (disch := omega) only [cl_up, rN_z]) (fun x hx => by simp (disch := omega) only [cl_up, cl_fl, zN_z]) (by decide +kernel) (by decide +kernel) (by decide +kernel) (by decide +kernel) (e1 _ _ _ _ ?_)
  repeat ((with_reducible refine And.intro ?_ ?_); (first | decide +kernel | exact ⟨by decide +kernel, by decide +kernel, by decide +kernel⟩))
  simp (disch := omega) only [cl_up, cl_fl, rN_z, zN_z, up_same, up_oth, w32_id, Nat.reduceAdd, Int.reduceAdd, Int.cast_ofNat_Int]
  apply b_T_init_91
  refine ⟨fun _ => ?_, fun q => absurd q (by decide)⟩
  repeat ((with_reducible refine And.intro ?_ ?_); (first | decide +kernel | exact ⟨by decide +kernel, by decide +kernel, by decide +kernel⟩))
  refine hide fun K1 e1 => ?_
  simp (disch := omega) only [cl_up, cl_fl, rN_z, zN_z, up_same, up_oth, w32_id, Nat.reduceAdd, Int.reduceAdd, Int.cast_ofNat_Int]
  refine in_E_init (fun x hx => by simp (disch := omega) only [cl_up, rN_z]) (fun x hx => by simp (disch := omega) only [cl_up, cl_fl, zN_z]) (by decide +kernel) (by decide +kernel) (by decide +kernel) (by decide +kernel) (e1 _ _ _ _ ?_)
  repeat ((with_reducible refine And.intro ?_ ?_); (first | decide +kernel | exact ⟨by decide +kernel, by decide +kernel, by decide +kernel⟩))
  refine hide fun K1 e1 => ?_
  simp (disch := omega) only [cl_up, cl_fl, rN_z, zN_z, up_same, up_oth, w32_id, Nat.reduceAdd, Int.reduceAdd, Int.cast_ofNat_Int]
  refine in_E_init (fun x hx => by simp (disch := omega) only [cl_up, rN_z]) (fun x hx => by simp (disch := omega) only [cl_up, cl_fl, zN_z]) (by decide +kernel) (by decide +kernel) (by decide +kernel) (by decide +kernel) (e1 _ _ _ _ ?_)
  repeat ((with_reducible refine And.intro ?_ ?_); (first | decide +kernel | exact ⟨by decide +kernel, by decide +kernel, by decide +kernel⟩))
  refine q_of (by decide +kernel) (e0 _ _ _ _ ?_)
  repeat ((with_reducible refine And.intro ?_ ?_); (first | decide +kernel | exact ⟨by decide +kernel, by decide +kernel, by decide +kernel⟩))
  refine hide fun K0 e0 => ?_
  simp (disch := omega) only [cl_up, cl_fl, rN_z, zN_z, up_same, up_oth, w32_id, Nat.reduceAdd, Int.reduceAdd, Int.cast_ofNat_Int]
  apply e_U_init
  repeat ((with_reducible refine And.intro ?_ ?_); (first | decide +kernel | exact ⟨by decide +kernel, by decide +kernel, by decide +kernel⟩))
  refine hide fun K1 e1 => ?_
  simp (disch := omega) only [cl_up, cl_fl, rN_z, zN_z, up_same, up_oth, w32_id, Nat.reduceAdd, Int.reduceAdd, Int.cast_ofNat_Int]
  refine in_M_init (fun x hx => by simp (disch := omega) only [cl_up, rN_z]) (fun x hx => by simp (disch := omega) only [cl_up, cl_fl, zN_z]) (by decide +kernel) (by decide +kernel) (by decide +kernel) (by decide +kernel) (e1 _ _ _ _ ?_)
  repeat ((with_reducible refine And.intro ?_ ?_); (first | decide +kernel | exact ⟨by decide +kernel, by decide +kernel, by decide +kernel⟩))
  refine hide fun K1 e1 => ?_
  simp (disch := omega) only [cl_up, cl_fl, rN_z, zN_z, up_same, up_oth, w32_id, Nat.reduceAdd, Int.reduceAdd, Int.cast_ofNat_Int]
  refine in_M_init (fun x hx => by simp (disch := omega) only [cl_up, rN_z]) (fun x hx => by simp (disch := omega) only [cl_up, cl_fl, zN_z]) (by decide +kernel) (by decide +kernel) (by decide +kernel) (by decide +kernel) (e1 _ _ _ _ ?_)
  repeat ((with_reducible refine And.intro ?_ ?_); (first | decide +kernel | exact ⟨by decide +kernel, by decide +kernel, by decide +kernel⟩))
  refine q_of (by decide +kernel) (e0 _ _ _ _ ?_)
  repeat ((with_reducible refine And.intro ?_ ?_); (first | decide +kernel | exact ⟨by decide +kernel, by decide +kernel, by decide +kernel⟩))
  refine hide fun K1 e1 => ?_
  simp (disch := omega) only [cl_up, cl_fl, rN_z, zN_z, up_same, up_oth, w32_id, Nat.reduceAdd, Int.reduceAdd, Int.cast_ofNat_Int]
  refine in_L_init (fun x hx => by simp (disch := omega) only [cl_up, rN_z]) (fun x hx => by simp (disch := omega) only [cl_up, cl_fl, zN_z]) (by decide +kernel) (by decide +kernel) (by decide +kernel) (by decide +kernel) (e1 _ _ _ _ ?_)
  repeat ((with_reducible refine And.intro ?_ ?_); (first | decide +kernel | exact ⟨by decide +kernel, by decide +kernel, by decide +kernel⟩))
  refine hide fun K0 e0 => ?_
  simp (disch := omega) only [cl_up, cl_fl, rN_z, zN_z, up_same, up_oth, w32_id, Nat.reduceAdd, Int.reduceAdd, Int.cast_ofNat_Int]
  apply e_X_init
  repeat ((with_reducible refine And.intro ?_ ?_); (first | decide +kernel | exact ⟨by decide +kernel, by decide +kernel, by decide +kernel⟩))
  refine hide fun K1 e1 => ?_
  simp (disch := omega) only [cl_up, cl_fl, rN_z, zN_z, up_same, up_oth, w32_id, Nat.reduceAdd, Int.reduceAdd, Int.cast_ofNat_Int]
  refine in_M_init (fun x hx => by simp (disch := omega) only [cl_up, rN_z]) (fun x hx => by simp (disch := omega) only [cl_up, cl_fl, zN_z]) (by decide +kernel) (by decide +kernel) (by decide +kernel) (by decide +kernel) (e1 _ _ _ _ ?_)
  repeat ((with_reducible refine And.intro ?_ ?_); (first | decide +kernel | exact ⟨by decide +kernel, by decide +kernel, by decide +kernel⟩))
  refine q_of (by decide +kernel) (e0 _ _ _ _ ?_)
  repeat ((with_reducible refine And.intro ?_ ?_); (first | decide +kernel | exact ⟨by decide +kernel, by decide +kernel, by decide +kernel⟩))
  refine hide fun K1 e1 => ?_
  simp (disch := omega) only [cl_up, cl_fl, rN_z, zN_z, up_same, up_oth, w32_id, Nat.reduceAdd, Int.reduceAdd, Int.cast_ofNat_Int]
  refine in_L_init (fun x hx => by simp (disch := omega) only [cl_up, rN_z]) (fun x hx => by simp (disch := omega) only [cl_up, cl_fl, zN_z]) (by decide +kernel) (by decide +kernel) (by decide +kernel) (by decide +kernel) (e1 _ _ _ _ ?_)
  repeat ((with_reducible refine And.intro ?_ ?_); (first | decide +kernel | exact ⟨by decide +kernel, by decide +kernel, by decide +kernel⟩))
  refine hide fun K1 e1 => ?_
  simp (disch := omega) only [cl_up, cl_fl, rN_z, zN_z, up_same, up_oth, w32_id, Nat.reduceAdd, Int.reduceAdd, Int.cast_ofNat_Int]
  refine kC (cw_of (by decide) (by decide +kernel)) (by decide +kernel) (fun x hx => by simp (disch := omega) only [cl_up, rN_z]) fun hr V a1 a2 a3 => ?_
  exact B_fin V a1 a2 a3 fun hr1 h1 c1 c2 c3 c4 c5 c6 => e1 _ _ _ _ (q_of (by decide) (hQ hr1 h1 c1 c2 c3 c4 c5 c6))
theorem kN {F : SP} {A : List AV} {n : Nat} {hr h hr0 : HP} {K : RP} (V : NW n hr) (z : ∀ c : Int, c < 138 → hr c = hr0 c) (k : ∀ hr', NW n hr' → (∀ c : Int, c < 138 → hr' c = hr0 c) → F A n hr' h K) : F A n hr h K := k hr V z
theorem N_fin {Q : RP} {hr h hr0 : HP} (W : NW 181 hr) (g : ∀ c : Int, c < 138 → hr c = hr0 c) (y : ∀ x : Int, 138 ≤ x → ai_cl h x 0 = h) (hQ : ∀ hr1 h1, (∀ c : Int, c < 138 → hr1 c = hr0 c) → NW 181 hr1 → (∀ c : Int, c < 138 → h1 c = h c) → NAL z0 h1 → Q (9, 0) 181 hr1 h1) : f_N_lays [(2, 138)] 181 hr (ai_up h 138 19 (-1)) Q := by
  have e : ∀ c j : Int, 139 ≤ c → (ai_up h 138 19 (-1)) c j = 0 := fun c j q => by rw [up_oth (by omega)]; exact is_cl (y c (by omega)) j
  have D : NTd ds0 (ai_up h 138 19 (-1)) := by
    refine ⟨⟨e _ _ (by decide), by rw [e 140 0 (by decide), e 140 2 (by decide)]; rfl, e _ _ (by decide), e _ _ (by decide), e _ _ (by decide)⟩, (fun j w hj => by cases hj), (fun j w hj => by cases hj), fun a a0 a1 => ⟨fun _ => e _ _ (by decide), fun q => absurd rfl q⟩, fun a a0 a1 => ⟨fun _ => e _ _ (by decide), fun q => absurd rfl q⟩⟩
  refine N_laid W dOK_0 D fun h1 e1 t1 l1 m1 => hQ hr h1 g W (fun c hc => ?_) (NAL_laid dOK_0 (fun j j0 j1 => ⟨⟨Int.le_refl 0, (by decide : (0 : Int) < 256)⟩, ?_⟩) t1 l1 (fun a a0 a1 => ?_) ?_ ?_ ?_)
  · rw [EX_fn e1 (by simp; omega) (by simp; omega)]
    funext j
    rw [up_oth (by omega)]
  · rw [EX_fn e1 (c := 139) (by decide) (by decide)]; exact e _ _ (by decide)
  · dsimp only
    rw [(m1 (48 + a) (by omega)).1, (m1 (48 + a) (by omega)).2, e _ _ (by decide), e _ _ (by decide)]
    decide
  · rw [e1 138 2 (by decide) (by decide), up_oth (by omega)]; exact is_cl (y 138 (by decide)) 2
  · rw [e1 138 18 (by decide) (by decide), up_oth (by omega)]; exact is_cl (y 138 (by decide)) 18
  · rw [e1 138 19 (by decide) (by decide), up_same]
set_option maxRecDepth 20000 in
theorem sp_N_init0 {Q : RP} {hr h : HP} (z : ∀ x : Int, 138 ≤ x → ai_cl hr x (-1) = hr) (y : ∀ x : Int, 138 ≤ x → ai_cl h x 0 = h) (hQ : ∀ hr1 h1, (∀ c : Int, c < 138 → hr1 c = hr c) → NW 181 hr1 → (∀ c : Int, c < 138 → h1 c = h c) → NAL z0 h1 → Q (9, 0) 181 hr1 h1) : f_N_init [(2, 138)] 139 hr h Q := by
  apply e_N_init
  repeat ((with_reducible refine And.intro ?_ ?_); (first | decide +kernel | exact ⟨by decide +kernel, by decide +kernel, by decide +kernel⟩))
  refine hide fun K1 e1 => ?_
  simp (disch := omega) only [cl_up, z, y, Nat.reduceAdd, Int.cast_ofNat_Int]
  refine kN (hr0 := hr) ⟨by decide, ?_⟩ (fun c hc => ?_) fun hr1 W g => N_fin W g y fun hr2 h2 c1 c2 c3 c4 => e1 _ _ _ _ (q_of (by decide) (hQ hr2 h2 c1 c2 c3 c4))
  · unfold nw_tbl
    repeat (refine List.forall_mem_cons.mpr ⟨by simp (disch := omega) only [up_same, up_oth], ?_⟩)
    exact fun _ q => absurd q List.not_mem_nil
  · funext j
    simp (disch := omega) only [up_oth]
