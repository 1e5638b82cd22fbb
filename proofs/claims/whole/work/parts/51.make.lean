/-! making the two objects -/
def mu0 : Mem := fun a k => if rsl a k = true then -1 else 0
def muF : Mem := fun a k => if rsl a k = true then RS a k else if (a = 4 ∧ k = 2) ∨ (a = 5 ∧ k = 2) ∨ (a = 13 ∧ k = 12) then 1 else 0
def Mm (D : List (Nat × Nat)) : Mem := fun a k => if (a, k) ∈ D then muF a k else mu0 a k
def Fr (D : List (Nat × Nat)) (n : Nat) : Prop := ∀ p, p ∈ D → p.1 < n
theorem fr_c {D : List (Nat × Nat)} {a k n : Nat} (h : a < n) (f : Fr D n) : Fr ((a, k) :: D) n := fun p hp => by
  rcases List.mem_cons.mp hp with e | e
  · rw [e]; exact h
  · exact f p e
theorem fr_s {D : List (Nat × Nat)} {n n' : Nat} (h : n ≤ n') (f : Fr D n) : Fr D n' := fun p hp => Nat.lt_of_lt_of_le (f p hp) h
theorem Mm_up {D : List (Nat × Nat)} {a k : Nat} {v : Int} (h : muF a k = v) : up (Mm D) a k v = Mm ((a, k) :: D) := by
  funext b j
  unfold up Mm
  by_cases e : b = a ∧ j = k
  · rw [if_pos e, if_pos (by rw [e.1, e.2]; exact List.mem_cons_self), e.1, e.2, h]
  · rw [if_neg e]
    have : (b, j) ∈ (a, k) :: D ↔ (b, j) ∈ D := by
      rw [List.mem_cons]
      constructor
      · rintro (z | z)
        · exact absurd ⟨congrArg Prod.fst z, congrArg Prod.snd z⟩ e
        · exact z
      · exact Or.inr
    by_cases z : (b, j) ∈ D
    · rw [if_pos z, if_pos (this.mpr z)]
    · rw [if_neg z, if_neg (fun w => z (this.mp w))]
theorem Mm_fresh {D : List (Nat × Nat)} {n : Nat} (f : Fr D n) (j : Nat) : Mm D n j = mu0 n j := by
  unfold Mm
  rw [if_neg (fun z => absurd (f _ z) (Nat.lt_irrefl n))]
theorem shp_SH {n : Nat} {kd : Nat × Nat} (h : SH n = kd) : shp SH n kd = SH := by
  funext k
  unfold shp
  by_cases e : k = n
  · rw [if_pos e, e, h]
  · rw [if_neg e]
theorem T_cong {M : MI} {pc : Nat} {ls st : List PV} {bg : Option (Nat × Nat)} {h h' : HS} {Q : Option PV → HS → Prop} (e1 : h.1 = h'.1) (e2 : ∀ k, k < h.1 → h.2.1 k = h'.2.1 k ∧ h.2.2 k = h'.2.2 k) (kk : T M pc ls st bg h Q) : T M pc ls st bg h' Q := by
  have ew : ∀ E : En, world E h' = world E h := fun E => by
    unfold world
    rw [← e1]
    refine List.map_congr_left fun k hk => ?_
    have := e2 k (List.mem_range.mp hk)
    rw [this.1, this.2]
  intro E p l e R s m args below meth c Z H locs cells slots la hC hR hH
  refine kk E p l e R s m args below meth c Z H locs cells slots la hC hR ?_
  unfold Hp at hH ⊢
  rw [← ew E, e1]
  exact hH
section MAKE
variable {M : MI} {pc : Nat} {ls st : List PV} {bg : Option (Nat × Nat)} {Q : Option PV → HS → Prop} {n n' : Nat} {D : List (Nat × Nat)} {bc bs : Nat}
theorem C_new {idx c nf : Nat} (hd : decode (miC M) pc = .ok (.new idx, 3)) (hc : Cls (miO M) idx c nf) (hn : n + 1 = n') (hs : SH n = (c, nf)) (hc20 : c < 20) (fr : Fr D n) (kk : T M (pc + 3) ls (vR n :: st) (some (bc, bs)) (n', SH, Mm D) Q) : T M pc ls st (some (bc + 1, bs + nf)) (n, SH, Mm D) Q := by
  subst hn
  refine T_new hd hc ?_
  have e : obj (Mm D) n c = Mm D := by
    funext b j
    unfold obj
    by_cases z : b = n
    · rw [if_pos z, z, Mm_fresh fr]
      unfold dfl mu0
      rw [rsl_obj hs hc20]
    · rw [if_neg z]
  rw [e, shp_SH hs]
  exact kk
theorem C_newarr {kd len : Nat} {atype : ArrayType} (hd : decode (miC M) pc = .ok (.newarray atype, 2)) (ht : (kd = 20 ∧ atype = .int) ∨ (kd = 21 ∧ atype = .long) ∨ (kd = 22 ∧ atype = .boolean)) (hln : len < 65536) (hn : n + 1 = n') (hs : SH n = (kd, len)) (fr : Fr D n) (kk : T M (pc + 2) ls (vR n :: st) (some (bc, bs)) (n', SH, Mm D) Q) : T M pc ls (vI (len : Int) :: st) (some (bc + 1, bs + len)) (n, SH, Mm D) Q := by
  subst hn
  refine T_newarr hd ht hln ?_
  have e : zer (Mm D) n 0 = Mm D := by
    funext b j
    unfold zer
    by_cases z : b = n
    · rw [if_pos z, z, Mm_fresh fr]
      unfold mu0
      rw [rsl_arr hs (by omega)]
      rfl
    · rw [if_neg z]
  rw [e, shp_SH hs]
  exact kk
theorem C_anew {kd idx len : Nat} (hd : decode (miC M) pc = .ok (.anewarray idx, 3)) (ht : (kd = 23 ∧ Cond.classLink (miO M) idx RX8 ∈ TS) ∨ (kd = 24 ∧ Cond.classLink (miO M) idx RX3 ∈ TS)) (hln : len < 65536) (hn : n + 1 = n') (hs : SH n = (kd, len)) (fr : Fr D n) (kk : T M (pc + 3) ls (vR n :: st) (some (bc, bs)) (n', SH, Mm D) Q) : T M pc ls (vI (len : Int) :: st) (some (bc + 1, bs + len)) (n, SH, Mm D) Q := by
  subst hn
  refine T_anew hd ht hln ?_
  have e : zer (Mm D) n (-1) = Mm D := by
    funext b j
    unfold zer
    by_cases z : b = n
    · rw [if_pos z, z, Mm_fresh fr]
      have : rsl n j = true := by
        unfold rsl
        rw [hs]
        exact if_pos (by rcases ht with w | w; exact Or.inl w.1; exact Or.inr w.1)
      unfold mu0
      rw [if_pos this]
    · rw [if_neg z]
  rw [e, shp_SH hs]
  exact kk
theorem C_putR {a idx c k nf r : Nat} {fin : Bool} (hd : decode (miC M) pc = .ok (.putfield idx, 3)) (hf : Fld (miO M) idx c k nf fin) (hty : isRefT (tyC c k) = true) (hfin : fin = true → miI M = true ∧ vwCl[c]?.map (·.1) = some (miO M)) (ha : a < n) (hs : SH a = (c, nf)) (hv : muF a k = (r : Int)) (kk : T M (pc + 3) ls st bg (n, SH, Mm ((a, k) :: D)) Q) : T M pc ls (vR r :: vR a :: st) bg (n, SH, Mm D) Q :=
  T_putR hd hf hty hfin ha hs (by rw [Mm_up hv]; exact kk)
theorem C_putI {a idx c k nf : Nat} {x : Int} (hd : decode (miC M) pc = .ok (.putfield idx, 3)) (hf : Fld (miO M) idx c k nf false) (hty : tyC c k = .int) (ha : a < n) (hs : SH a = (c, nf)) (hv : muF a k = x) (kk : T M (pc + 3) ls st bg (n, SH, Mm ((a, k) :: D)) Q) : T M pc ls (vI x :: vR a :: st) bg (n, SH, Mm D) Q :=
  T_putI hd hf hty ha hs (by rw [Mm_up hv]; exact kk)
theorem C_putZ {a idx c k nf : Nat} {x : Int} (hd : decode (miC M) pc = .ok (.putfield idx, 3)) (hf : Fld (miO M) idx c k nf false) (hty : tyC c k = .boolean) (hx : x = 0 ∨ x = 1) (ha : a < n) (hs : SH a = (c, nf)) (hv : muF a k = x) (kk : T M (pc + 3) ls st bg (n, SH, Mm ((a, k) :: D)) Q) : T M pc ls (vI x :: vR a :: st) bg (n, SH, Mm D) Q :=
  T_putZ hd hf hty hx ha hs (by rw [Mm_up hv]; exact kk)
theorem C_aast {a kd c nf len v : Nat} {i : Nat} (hd : decode (miC M) pc = .ok (.aastore, 1)) (hk : (kd = 23 ∧ c = 8) ∨ (kd = 24 ∧ c = 3)) (ha : a < n) (hs : SH a = (kd, len)) (hv : v < n) (hsv : SH v = (c, nf)) (hln : len < 2147483648) (i1 : i < len) (hm : muF a i = (v : Int)) (kk : T M (pc + 1) ls st bg (n, SH, Mm ((a, i) :: D)) Q) : T M pc ls (vR v :: vI (i : Int) :: vR a :: st) bg (n, SH, Mm D) Q :=
  T_aast hd hk ha hs hv hsv hln (by omega) (by omega) (by rw [Int.toNat_natCast, Mm_up hm]; exact kk)
end MAKE
abbrev k_X0s : MI := (RX0, cX0_init, 2, none, true, false, 1, 21, 1, 6, yX0_init, sc0)
theorem mo_X0s : MOK k_X0s 1 := ⟨co_X0_init, ini_X0, by decide, by decide, by decide +kernel⟩
theorem Mm_in {D : List (Nat × Nat)} {a k : Nat} (h : (a, k) ∈ D) : Mm D a k = muF a k := by unfold Mm; rw [if_pos h]
theorem kl_L_7 : Cls RL 7 9 14 := ⟨RX9, TX9, rfl, by decide, inX9, tyX9_ok, cl_L_7, ist_X9, ini_X9, by decide⟩
theorem kl_X9_15 : Cls RX9 15 3 4 := ⟨RX3, TX3, rfl, by decide, inX3, tyX3_ok, cl_X9_15, ist_X3, ini_X3, by decide⟩
set_option maxRecDepth 4000 in
theorem i_X3 {a n n' : Nat} {D : List (Nat × Nat)} {Q : Option PV → HS → Prop} (hn : n = n') (ha : a < n) (f0 : Fr D n) (s0 : SH a = (3, 4)) (v1 : muF a 0 = 0) (v2 : muF a 1 = 0) (v3 : muF a 2 = 0) (v4 : muF a 3 = 0) (kq : Q none (n', SH, Mm ((a, 3) :: (a, 2) :: (a, 1) :: (a, 0) :: D))) : Con m_X3_init [vR a] (n, SH, Mm D) Q := by
  subst hn
  refine Con_of (by decide) rfl rfl (fun _ => rfl) (Nat.le_of_ble_eq_true rfl) ?_
  show T m_X3_init 0 [vR a] [] (some (0, 0)) _ Q
  refine T_aload_n dX3_init_0 rfl ?_
  refine T_oinit dX3_init_1 ml_X3_1 (Nat.le_of_ble_eq_true rfl) (Nat.le_of_ble_eq_true rfl) ?_
  refine T_aload_n dX3_init_4 rfl ?_
  refine T_iconst dX3_init_5 ?_
  refine C_putI dX3_init_6 fd_X3_7 rfl (by omega) s0 v1 ?_
  have f1 := fr_c (a := a) (k := 0) (show a < n by omega) f0
  refine T_aload_n dX3_init_9 rfl ?_
  refine T_iconst dX3_init_10 ?_
  refine C_putI dX3_init_11 fd_X3_13 rfl (by omega) s0 v2 ?_
  have f2 := fr_c (a := a) (k := 1) (show a < n by omega) f1
  refine T_aload_n dX3_init_14 rfl ?_
  refine T_iconst dX3_init_15 ?_
  refine C_putI dX3_init_16 fd_X3_16 rfl (by omega) s0 v3 ?_
  have f3 := fr_c (a := a) (k := 2) (show a < n by omega) f2
  refine T_aload_n dX3_init_19 rfl ?_
  refine T_iconst dX3_init_20 ?_
  refine C_putI dX3_init_21 fd_X3_19 rfl (by omega) s0 v4 ?_
  have f4 := fr_c (a := a) (k := 3) (show a < n by omega) f3
  exact T_vret dX3_init_24 rfl (Or.inl (fun z => nomatch z)) kq
theorem kl_X9_26 : Cls RX9 26 6 3 := ⟨RX6, TX6, rfl, by decide, inX6, tyX6_ok, cl_X9_26, ist_X6, ini_X6, by decide⟩
set_option maxRecDepth 4000 in
theorem i_X6 {a n n' : Nat} {D : List (Nat × Nat)} {Q : Option PV → HS → Prop} (hn : n = n') (ha : a < n) (f0 : Fr D n) (s0 : SH a = (6, 3)) (v1 : muF a 0 = 0) (v2 : muF a 1 = 0) (v3 : muF a 2 = 1) (kq : Q none (n', SH, Mm ((a, 2) :: (a, 1) :: (a, 0) :: D))) : Con m_X6_init [vR a] (n, SH, Mm D) Q := by
  subst hn
  refine Con_of (by decide) rfl rfl (fun _ => rfl) (Nat.le_of_ble_eq_true rfl) ?_
  show T m_X6_init 0 [vR a] [] (some (0, 0)) _ Q
  refine T_aload_n dX6_init_0 rfl ?_
  refine T_oinit dX6_init_1 ml_X6_1 (Nat.le_of_ble_eq_true rfl) (Nat.le_of_ble_eq_true rfl) ?_
  refine T_aload_n dX6_init_4 rfl ?_
  refine T_iconst dX6_init_5 ?_
  refine C_putI dX6_init_6 fd_X6_7 rfl (by omega) s0 v1 ?_
  have f1 := fr_c (a := a) (k := 0) (show a < n by omega) f0
  refine T_aload_n dX6_init_9 rfl ?_
  refine T_iconst dX6_init_10 ?_
  refine C_putI dX6_init_11 fd_X6_13 rfl (by omega) s0 v2 ?_
  have f2 := fr_c (a := a) (k := 1) (show a < n by omega) f1
  refine T_aload_n dX6_init_14 rfl ?_
  refine T_iconst dX6_init_15 ?_
  refine C_putI dX6_init_16 fd_X6_16 rfl (by omega) s0 v3 ?_
  have f3 := fr_c (a := a) (k := 2) (show a < n by omega) f2
  exact T_vret dX6_init_19 rfl (Or.inl (fun z => nomatch z)) kq
theorem kl_X9_36 : Cls RX9 36 5 3 := ⟨RX5, TX5, rfl, by decide, inX5, tyX5_ok, cl_X9_36, ist_X5, ini_X5, by decide⟩
set_option maxRecDepth 4000 in
theorem i_X5 {D : List (Nat × Nat)} {Q : Option PV → HS → Prop} (f0 : Fr D 7) (kq : Q none (9, SH, Mm ((6, 2) :: (6, 1) :: (6, 0) :: D))) : Con m_X5_init [vR 6] (7, SH, Mm D) Q := by
  refine Con_of (by decide) rfl rfl (fun _ => rfl) (Nat.le_of_ble_eq_true rfl) ?_
  show T m_X5_init 0 [vR 6] [] (some (2, 200)) _ Q
  refine T_aload_n dX5_init_0 rfl ?_
  refine T_oinit dX5_init_1 ml_X5_3 (Nat.le_of_ble_eq_true rfl) (Nat.le_of_ble_eq_true rfl) ?_
  refine T_aload_n dX5_init_4 rfl ?_
  refine T_bipush dX5_init_5 rfl ?_
  refine C_newarr (kd := 20) (len := 100) (bc := 1) (bs := 100) (n' := 8) dX5_init_7 (Or.inl ⟨rfl, rfl⟩) (by decide) rfl rfl f0 ?_
  have f1 := fr_s (n' := 8) (show 7 ≤ 8 by omega) f0
  refine C_putR dX5_init_9 fd_X5_9 rfl (fun _ => ⟨rfl, rfl⟩) (by decide) rfl (by decide) ?_
  have f2 := fr_c (a := 6) (k := 0) (show 6 < 8 by omega) f1
  refine T_aload_n dX5_init_12 rfl ?_
  refine T_bipush dX5_init_13 rfl ?_
  refine C_newarr (kd := 20) (len := 100) (bc := 0) (bs := 0) (n' := 9) dX5_init_15 (Or.inl ⟨rfl, rfl⟩) (by decide) rfl rfl f2 ?_
  have f3 := fr_s (n' := 9) (show 8 ≤ 9 by omega) f2
  refine C_putR dX5_init_17 fd_X5_15 rfl (fun _ => ⟨rfl, rfl⟩) (by decide) rfl (by decide) ?_
  have f4 := fr_c (a := 6) (k := 1) (show 6 < 9 by omega) f3
  refine T_aload_n dX5_init_20 rfl ?_
  refine T_iconst dX5_init_21 ?_
  refine C_putI dX5_init_22 fd_X5_18 rfl (by decide) rfl (by decide) ?_
  have f5 := fr_c (a := 6) (k := 2) (show 6 < 9 by omega) f4
  exact T_vret dX5_init_25 rfl (Or.inl (fun z => nomatch z)) kq
theorem kl_X9_43 : Cls RX9 43 4 4 := ⟨RX4, TX4, rfl, by decide, inX4, tyX4_ok, cl_X9_43, ist_X4, ini_X4, by decide⟩
set_option maxRecDepth 4000 in
theorem i_X4 {D : List (Nat × Nat)} {Q : Option PV → HS → Prop} (f0 : Fr D 10) (kq : Q none (13, SH, Mm ((9, 3) :: (9, 2) :: (9, 1) :: (9, 0) :: D))) : Con m_X4_init [vR 9] (10, SH, Mm D) Q := by
  refine Con_of (by decide) rfl rfl (fun _ => rfl) (Nat.le_of_ble_eq_true rfl) ?_
  show T m_X4_init 0 [vR 9] [] (some (3, 30)) _ Q
  refine T_aload_n dX4_init_0 rfl ?_
  refine T_oinit dX4_init_1 ml_X4_3 (Nat.le_of_ble_eq_true rfl) (Nat.le_of_ble_eq_true rfl) ?_
  refine T_aload_n dX4_init_4 rfl ?_
  refine T_bipush dX4_init_5 rfl ?_
  refine C_newarr (kd := 20) (len := 10) (bc := 2) (bs := 20) (n' := 11) dX4_init_7 (Or.inl ⟨rfl, rfl⟩) (by decide) rfl rfl f0 ?_
  have f1 := fr_s (n' := 11) (show 10 ≤ 11 by omega) f0
  refine C_putR dX4_init_9 fd_X4_9 rfl (fun _ => ⟨rfl, rfl⟩) (by decide) rfl (by decide) ?_
  have f2 := fr_c (a := 9) (k := 0) (show 9 < 11 by omega) f1
  refine T_aload_n dX4_init_12 rfl ?_
  refine T_bipush dX4_init_13 rfl ?_
  refine C_newarr (kd := 21) (len := 10) (bc := 1) (bs := 10) (n' := 12) dX4_init_15 (Or.inr (Or.inl ⟨rfl, rfl⟩)) (by decide) rfl rfl f2 ?_
  have f3 := fr_s (n' := 12) (show 11 ≤ 12 by omega) f2
  refine C_putR dX4_init_17 fd_X4_15 rfl (fun _ => ⟨rfl, rfl⟩) (by decide) rfl (by decide) ?_
  have f4 := fr_c (a := 9) (k := 1) (show 9 < 12 by omega) f3
  refine T_aload_n dX4_init_20 rfl ?_
  refine T_bipush dX4_init_21 rfl ?_
  refine C_newarr (kd := 21) (len := 10) (bc := 0) (bs := 0) (n' := 13) dX4_init_23 (Or.inr (Or.inl ⟨rfl, rfl⟩)) (by decide) rfl rfl f4 ?_
  have f5 := fr_s (n' := 13) (show 12 ≤ 13 by omega) f4
  refine C_putR dX4_init_25 fd_X4_19 rfl (fun _ => ⟨rfl, rfl⟩) (by decide) rfl (by decide) ?_
  have f6 := fr_c (a := 9) (k := 2) (show 9 < 13 by omega) f5
  refine T_aload_n dX4_init_28 rfl ?_
  refine T_iconst dX4_init_29 ?_
  refine C_putI dX4_init_30 fd_X4_22 rfl (by decide) rfl (by decide) ?_
  have f7 := fr_c (a := 9) (k := 3) (show 9 < 13 by omega) f6
  exact T_vret dX4_init_33 rfl (Or.inl (fun z => nomatch z)) kq
theorem kl_X9_50 : Cls RX9 50 2 15 := ⟨RX2, TX2, rfl, by decide, inX2, tyX2_ok, cl_X9_50, ist_X2, ini_X2, by decide⟩
theorem kl_X2_11 : Cls RX2 11 0 1 := ⟨RX0, TX0, rfl, by decide, inX0, tyX0_ok, cl_X2_11, ist_X0, ini_X0, by decide⟩
set_option maxRecDepth 4000 in
theorem i_X0b {a n n' : Nat} {D : List (Nat × Nat)} {Q : Option PV → HS → Prop} (hn : (n + 1) = n') (ha : a < n) (f0 : Fr D n) (s0 : SH n = (20, 1380)) (s1 : SH a = (0, 1)) (v2 : muF a 0 = ((n : Nat) : Int)) (kq : Q none (n', SH, Mm ((a, 0) :: D))) : Con m_X0_init [vR a, vI 230] (n, SH, Mm D) Q := by
  subst hn
  refine Con_of (by decide) rfl rfl (fun _ => rfl) (Nat.le_of_ble_eq_true rfl) ?_
  show T m_X0_init 0 [vR a, vI 230] [] (some (1, 1380)) _ Q
  refine T_aload_n dX0_init_0 rfl ?_
  refine T_oinit dX0_init_1 ml_X0_1 (Nat.le_of_ble_eq_true rfl) (Nat.le_of_ble_eq_true rfl) ?_
  refine T_aload_n dX0_init_4 rfl ?_
  refine T_iconst dX0_init_5 ?_
  refine T_iload_n dX0_init_6 rfl ?_
  refine T_max dX0_init_7 ml_X0_7 (Nat.le_of_ble_eq_true rfl) (Nat.le_of_ble_eq_true rfl) (by decide) (by decide) ?_
  refine T_bipush dX0_init_10 rfl ?_
  refine T_imul dX0_init_12 ?_
  refine C_newarr (kd := 20) (len := 1380) (bc := 0) (bs := 0) (n' := (n + 1)) dX0_init_13 (Or.inl ⟨rfl, rfl⟩) (by decide) rfl s0 f0 ?_
  have f1 := fr_s (n' := (n + 1)) (show n ≤ (n + 1) by omega) f0
  refine C_putR dX0_init_15 fd_X0_15 rfl (fun _ => ⟨rfl, rfl⟩) (by omega) s1 v2 ?_
  have f2 := fr_c (a := a) (k := 0) (show a < (n + 1) by omega) f1
  exact T_vret dX0_init_18 rfl (Or.inl (fun z => nomatch z)) kq
set_option maxRecDepth 4000 in
theorem i_X0s {a n n' : Nat} {D : List (Nat × Nat)} {Q : Option PV → HS → Prop} (hn : (n + 1) = n') (ha : a < n) (f0 : Fr D n) (s0 : SH n = (20, 6)) (s1 : SH a = (0, 1)) (v2 : muF a 0 = ((n : Nat) : Int)) (kq : Q none (n', SH, Mm ((a, 0) :: D))) : Con k_X0s [vR a, vI 1] (n, SH, Mm D) Q := by
  subst hn
  refine Con_of (by decide) rfl rfl (fun _ => rfl) (Nat.le_of_ble_eq_true rfl) ?_
  show T k_X0s 0 [vR a, vI 1] [] (some (1, 6)) _ Q
  refine T_aload_n dX0_init_0 rfl ?_
  refine T_oinit dX0_init_1 ml_X0_1 (Nat.le_of_ble_eq_true rfl) (Nat.le_of_ble_eq_true rfl) ?_
  refine T_aload_n dX0_init_4 rfl ?_
  refine T_iconst dX0_init_5 ?_
  refine T_iload_n dX0_init_6 rfl ?_
  refine T_max dX0_init_7 ml_X0_7 (Nat.le_of_ble_eq_true rfl) (Nat.le_of_ble_eq_true rfl) (by decide) (by decide) ?_
  refine T_bipush dX0_init_10 rfl ?_
  refine T_imul dX0_init_12 ?_
  refine C_newarr (kd := 20) (len := 6) (bc := 0) (bs := 0) (n' := (n + 1)) dX0_init_13 (Or.inl ⟨rfl, rfl⟩) (by decide) rfl s0 f0 ?_
  have f1 := fr_s (n' := (n + 1)) (show n ≤ (n + 1) by omega) f0
  refine C_putR dX0_init_15 fd_X0_15 rfl (fun _ => ⟨rfl, rfl⟩) (by omega) s1 v2 ?_
  have f2 := fr_c (a := a) (k := 0) (show a < (n + 1) by omega) f1
  exact T_vret dX0_init_18 rfl (Or.inl (fun z => nomatch z)) kq
set_option maxRecDepth 4000 in
theorem i_X2 {D : List (Nat × Nat)} {Q : Option PV → HS → Prop} (f0 : Fr D 14) (kq : Q none (29, SH, Mm ((13, 14) :: (13, 13) :: (13, 12) :: (13, 11) :: (13, 10) :: (27, 0) :: (13, 9) :: (25, 0) :: (13, 8) :: (13, 7) :: (13, 6) :: (13, 5) :: (13, 4) :: (13, 3) :: (13, 2) :: (13, 1) :: (16, 0) :: (13, 0) :: (14, 0) :: D))) : Con m_X2_init [vR 13] (14, SH, Mm D) Q := by
  refine Con_of (by decide) rfl rfl (fun _ => rfl) (Nat.le_of_ble_eq_true rfl) ?_
  show T m_X2_init 0 [vR 13] [] (some (15, 4856)) _ Q
  refine T_aload_n dX2_init_0 rfl ?_
  refine T_oinit dX2_init_1 ml_X2_5 (Nat.le_of_ble_eq_true rfl) (Nat.le_of_ble_eq_true rfl) ?_
  refine T_aload_n dX2_init_4 rfl ?_
  refine C_new (bc := 14) (bs := 4855) (n' := 15) dX2_init_5 kl_X2_11 rfl rfl (by decide) f0 ?_
  have f1 := fr_s (n' := 15) (show 14 ≤ 15 by omega) f0
  refine T_dup dX2_init_8 rfl ?_
  refine T_sipush dX2_init_9 rfl ?_
  refine T_callI (M' := m_X0_init) (as := [vI 230]) (rest := [vR 14, vR 13]) (a := 14) (bc := 13) (bs := 3475) dX2_init_12 mo_X0_init (Or.inl ml_X2_13) im_X0_init rfl rfl (Nat.le_of_ble_eq_true rfl) (Nat.le_of_ble_eq_true rfl) rfl rfl (Nat.le_of_ble_eq_true rfl) rfl (i_X0b (a := 14) (n := 15) (n' := 16) rfl (by decide) f1 rfl rfl (by decide) ?_)
  show T m_X2_init 15 [vR 13] [vR 14, vR 13] (some (13, 3475)) _ Q
  have f2 := fr_s (n' := 16) (show 15 ≤ 16 by omega) f1
  have f3 := fr_c (a := 14) (k := 0) (show 14 < 16 by omega) f2
  refine C_putR dX2_init_15 fd_X2_16 rfl (fun _ => ⟨rfl, rfl⟩) (by decide) rfl (by decide) ?_
  have f4 := fr_c (a := 13) (k := 0) (show 13 < 16 by omega) f3
  refine T_aload_n dX2_init_18 rfl ?_
  refine C_new (bc := 12) (bs := 3474) (n' := 17) dX2_init_19 kl_X2_11 rfl rfl (by decide) f4 ?_
  have f5 := fr_s (n' := 17) (show 16 ≤ 17 by omega) f4
  refine T_dup dX2_init_22 rfl ?_
  refine T_sipush dX2_init_23 rfl ?_
  refine T_callI (M' := m_X0_init) (as := [vI 230]) (rest := [vR 16, vR 13]) (a := 16) (bc := 11) (bs := 2094) dX2_init_26 mo_X0_init (Or.inl ml_X2_13) im_X0_init rfl rfl (Nat.le_of_ble_eq_true rfl) (Nat.le_of_ble_eq_true rfl) rfl rfl (Nat.le_of_ble_eq_true rfl) rfl (i_X0b (a := 16) (n := 17) (n' := 18) rfl (by decide) f5 rfl rfl (by decide) ?_)
  show T m_X2_init 29 [vR 13] [vR 16, vR 13] (some (11, 2094)) _ Q
  have f6 := fr_s (n' := 18) (show 17 ≤ 18 by omega) f5
  have f7 := fr_c (a := 16) (k := 0) (show 16 < 18 by omega) f6
  refine C_putR dX2_init_29 fd_X2_20 rfl (fun _ => ⟨rfl, rfl⟩) (by decide) rfl (by decide) ?_
  have f8 := fr_c (a := 13) (k := 1) (show 13 < 18 by omega) f7
  refine T_aload_n dX2_init_32 rfl ?_
  refine T_sipush dX2_init_33 rfl ?_
  refine C_newarr (kd := 20) (len := 230) (bc := 10) (bs := 1864) (n' := 19) dX2_init_36 (Or.inl ⟨rfl, rfl⟩) (by decide) rfl rfl f8 ?_
  have f9 := fr_s (n' := 19) (show 18 ≤ 19 by omega) f8
  refine C_putR dX2_init_38 fd_X2_23 rfl (fun _ => ⟨rfl, rfl⟩) (by decide) rfl (by decide) ?_
  have f10 := fr_c (a := 13) (k := 2) (show 13 < 19 by omega) f9
  refine T_aload_n dX2_init_41 rfl ?_
  refine T_sipush dX2_init_42 rfl ?_
  refine C_newarr (kd := 20) (len := 1150) (bc := 9) (bs := 714) (n' := 20) dX2_init_45 (Or.inl ⟨rfl, rfl⟩) (by decide) rfl rfl f10 ?_
  have f11 := fr_s (n' := 20) (show 19 ≤ 20 by omega) f10
  refine C_putR dX2_init_47 fd_X2_27 rfl (fun _ => ⟨rfl, rfl⟩) (by decide) rfl (by decide) ?_
  have f12 := fr_c (a := 13) (k := 3) (show 13 < 20 by omega) f11
  refine T_aload_n dX2_init_50 rfl ?_
  refine T_sipush dX2_init_51 rfl ?_
  refine C_newarr (kd := 20) (len := 230) (bc := 8) (bs := 484) (n' := 21) dX2_init_54 (Or.inl ⟨rfl, rfl⟩) (by decide) rfl rfl f12 ?_
  have f13 := fr_s (n' := 21) (show 20 ≤ 21 by omega) f12
  refine C_putR dX2_init_56 fd_X2_30 rfl (fun _ => ⟨rfl, rfl⟩) (by decide) rfl (by decide) ?_
  have f14 := fr_c (a := 13) (k := 4) (show 13 < 21 by omega) f13
  refine T_aload_n dX2_init_59 rfl ?_
  refine T_sipush dX2_init_60 rfl ?_
  refine C_newarr (kd := 20) (len := 230) (bc := 7) (bs := 254) (n' := 22) dX2_init_63 (Or.inl ⟨rfl, rfl⟩) (by decide) rfl rfl f14 ?_
  have f15 := fr_s (n' := 22) (show 21 ≤ 22 by omega) f14
  refine C_putR dX2_init_65 fd_X2_33 rfl (fun _ => ⟨rfl, rfl⟩) (by decide) rfl (by decide) ?_
  have f16 := fr_c (a := 13) (k := 5) (show 13 < 22 by omega) f15
  refine T_aload_n dX2_init_68 rfl ?_
  refine T_sipush dX2_init_69 rfl ?_
  refine C_newarr (kd := 22) (len := 230) (bc := 6) (bs := 24) (n' := 23) dX2_init_72 (Or.inr (Or.inr ⟨rfl, rfl⟩)) (by decide) rfl rfl f16 ?_
  have f17 := fr_s (n' := 23) (show 22 ≤ 23 by omega) f16
  refine C_putR dX2_init_74 fd_X2_36 rfl (fun _ => ⟨rfl, rfl⟩) (by decide) rfl (by decide) ?_
  have f18 := fr_c (a := 13) (k := 6) (show 13 < 23 by omega) f17
  refine T_aload_n dX2_init_77 rfl ?_
  refine T_iconst dX2_init_78 ?_
  refine C_newarr (kd := 20) (len := 5) (bc := 5) (bs := 19) (n' := 24) dX2_init_79 (Or.inl ⟨rfl, rfl⟩) (by decide) rfl rfl f18 ?_
  have f19 := fr_s (n' := 24) (show 23 ≤ 24 by omega) f18
  refine C_putR dX2_init_81 fd_X2_40 rfl (fun _ => ⟨rfl, rfl⟩) (by decide) rfl (by decide) ?_
  have f20 := fr_c (a := 13) (k := 7) (show 13 < 24 by omega) f19
  refine T_aload_n dX2_init_84 rfl ?_
  refine T_iconst dX2_init_85 ?_
  refine C_newarr (kd := 20) (len := 5) (bc := 4) (bs := 14) (n' := 25) dX2_init_86 (Or.inl ⟨rfl, rfl⟩) (by decide) rfl rfl f20 ?_
  have f21 := fr_s (n' := 25) (show 24 ≤ 25 by omega) f20
  refine C_putR dX2_init_88 fd_X2_43 rfl (fun _ => ⟨rfl, rfl⟩) (by decide) rfl (by decide) ?_
  have f22 := fr_c (a := 13) (k := 8) (show 13 < 25 by omega) f21
  refine T_aload_n dX2_init_91 rfl ?_
  refine C_new (bc := 3) (bs := 13) (n' := 26) dX2_init_92 kl_X2_11 rfl rfl (by decide) f22 ?_
  have f23 := fr_s (n' := 26) (show 25 ≤ 26 by omega) f22
  refine T_dup dX2_init_95 rfl ?_
  refine T_iconst dX2_init_96 ?_
  refine T_callI (M' := k_X0s) (as := [vI 1]) (rest := [vR 25, vR 13]) (a := 25) (bc := 2) (bs := 7) dX2_init_97 mo_X0s (Or.inl ml_X2_13) im_X0_init rfl rfl (Nat.le_of_ble_eq_true rfl) (Nat.le_of_ble_eq_true rfl) rfl rfl (Nat.le_of_ble_eq_true rfl) rfl (i_X0s (a := 25) (n := 26) (n' := 27) rfl (by decide) f23 rfl rfl (by decide) ?_)
  show T m_X2_init 100 [vR 13] [vR 25, vR 13] (some (2, 7)) _ Q
  have f24 := fr_s (n' := 27) (show 26 ≤ 27 by omega) f23
  have f25 := fr_c (a := 25) (k := 0) (show 25 < 27 by omega) f24
  refine C_putR dX2_init_100 fd_X2_46 rfl (fun _ => ⟨rfl, rfl⟩) (by decide) rfl (by decide) ?_
  have f26 := fr_c (a := 13) (k := 9) (show 13 < 27 by omega) f25
  refine T_aload_n dX2_init_103 rfl ?_
  refine C_new (bc := 1) (bs := 6) (n' := 28) dX2_init_104 kl_X2_11 rfl rfl (by decide) f26 ?_
  have f27 := fr_s (n' := 28) (show 27 ≤ 28 by omega) f26
  refine T_dup dX2_init_107 rfl ?_
  refine T_iconst dX2_init_108 ?_
  refine T_callI (M' := k_X0s) (as := [vI 1]) (rest := [vR 27, vR 13]) (a := 27) (bc := 0) (bs := 0) dX2_init_109 mo_X0s (Or.inl ml_X2_13) im_X0_init rfl rfl (Nat.le_of_ble_eq_true rfl) (Nat.le_of_ble_eq_true rfl) rfl rfl (Nat.le_of_ble_eq_true rfl) rfl (i_X0s (a := 27) (n := 28) (n' := 29) rfl (by decide) f27 rfl rfl (by decide) ?_)
  show T m_X2_init 112 [vR 13] [vR 27, vR 13] (some (0, 0)) _ Q
  have f28 := fr_s (n' := 29) (show 28 ≤ 29 by omega) f27
  have f29 := fr_c (a := 27) (k := 0) (show 27 < 29 by omega) f28
  refine C_putR dX2_init_112 fd_X2_49 rfl (fun _ => ⟨rfl, rfl⟩) (by decide) rfl (by decide) ?_
  have f30 := fr_c (a := 13) (k := 10) (show 13 < 29 by omega) f29
  refine T_aload_n dX2_init_115 rfl ?_
  refine T_iconst dX2_init_116 ?_
  refine C_putI dX2_init_117 fd_X2_52 rfl (by decide) rfl (by decide) ?_
  have f31 := fr_c (a := 13) (k := 11) (show 13 < 29 by omega) f30
  refine T_aload_n dX2_init_120 rfl ?_
  refine T_iconst dX2_init_121 ?_
  refine C_putI dX2_init_122 fd_X2_56 rfl (by decide) rfl (by decide) ?_
  have f32 := fr_c (a := 13) (k := 12) (show 13 < 29 by omega) f31
  refine T_aload_n dX2_init_125 rfl ?_
  refine T_iconst dX2_init_126 ?_
  refine C_putI dX2_init_127 fd_X2_59 rfl (by decide) rfl (by decide) ?_
  have f33 := fr_c (a := 13) (k := 13) (show 13 < 29 by omega) f32
  refine T_aload_n dX2_init_130 rfl ?_
  refine T_iconst dX2_init_131 ?_
  refine C_putI dX2_init_132 fd_X2_62 rfl (by decide) rfl (by decide) ?_
  have f34 := fr_c (a := 13) (k := 14) (show 13 < 29 by omega) f33
  exact T_vret dX2_init_135 rfl (Or.inl (fun z => nomatch z)) kq
theorem kl_X9_57 : Cls RX9 57 7 3 := ⟨RX7, TX7, rfl, by decide, inX7, tyX7_ok, cl_X9_57, ist_X7, ini_X7, by decide⟩
set_option maxRecDepth 4000 in
theorem i_X7 {D : List (Nat × Nat)} {Q : Option PV → HS → Prop} (f0 : Fr D 30) (kq : Q none (32, SH, Mm ((29, 2) :: (29, 1) :: (29, 0) :: D))) : Con m_X7_init [vR 29] (30, SH, Mm D) Q := by
  refine Con_of (by decide) rfl rfl (fun _ => rfl) (Nat.le_of_ble_eq_true rfl) ?_
  show T m_X7_init 0 [vR 29] [] (some (2, 48)) _ Q
  refine T_aload_n dX7_init_0 rfl ?_
  refine T_oinit dX7_init_1 ml_X7_3 (Nat.le_of_ble_eq_true rfl) (Nat.le_of_ble_eq_true rfl) ?_
  refine T_aload_n dX7_init_4 rfl ?_
  refine T_bipush dX7_init_5 rfl ?_
  refine C_newarr (kd := 20) (len := 24) (bc := 1) (bs := 24) (n' := 31) dX7_init_7 (Or.inl ⟨rfl, rfl⟩) (by decide) rfl rfl f0 ?_
  have f1 := fr_s (n' := 31) (show 30 ≤ 31 by omega) f0
  refine C_putR dX7_init_9 fd_X7_9 rfl (fun _ => ⟨rfl, rfl⟩) (by decide) rfl (by decide) ?_
  have f2 := fr_c (a := 29) (k := 0) (show 29 < 31 by omega) f1
  refine T_aload_n dX7_init_12 rfl ?_
  refine T_bipush dX7_init_13 rfl ?_
  refine C_newarr (kd := 20) (len := 24) (bc := 0) (bs := 0) (n' := 32) dX7_init_15 (Or.inl ⟨rfl, rfl⟩) (by decide) rfl rfl f2 ?_
  have f3 := fr_s (n' := 32) (show 31 ≤ 32 by omega) f2
  refine C_putR dX7_init_17 fd_X7_15 rfl (fun _ => ⟨rfl, rfl⟩) (by decide) rfl (by decide) ?_
  have f4 := fr_c (a := 29) (k := 1) (show 29 < 32 by omega) f3
  refine T_aload_n dX7_init_20 rfl ?_
  refine T_iconst dX7_init_21 ?_
  refine C_putI dX7_init_22 fd_X7_18 rfl (by decide) rfl (by decide) ?_
  have f5 := fr_c (a := 29) (k := 2) (show 29 < 32 by omega) f4
  exact T_vret dX7_init_25 rfl (Or.inl (fun z => nomatch z)) kq
theorem kl_X9_64 : Cls RX9 64 1 1 := ⟨RX1, TX1, rfl, by decide, inX1, tyX1_ok, cl_X9_64, ist_X1, ini_X1, by decide⟩
set_option maxRecDepth 4000 in
theorem i_X1 {D : List (Nat × Nat)} {Q : Option PV → HS → Prop} (f0 : Fr D 33) (kq : Q none (34, SH, Mm ((32, 0) :: D))) : Con m_X1_init [vR 32] (33, SH, Mm D) Q := by
  refine Con_of (by decide) rfl rfl (fun _ => rfl) (Nat.le_of_ble_eq_true rfl) ?_
  show T m_X1_init 0 [vR 32] [] (some (1, 10)) _ Q
  refine T_aload_n dX1_init_0 rfl ?_
  refine T_oinit dX1_init_1 ml_X1_3 (Nat.le_of_ble_eq_true rfl) (Nat.le_of_ble_eq_true rfl) ?_
  refine T_aload_n dX1_init_4 rfl ?_
  refine T_bipush dX1_init_5 rfl ?_
  refine C_newarr (kd := 20) (len := 10) (bc := 0) (bs := 0) (n' := 34) dX1_init_7 (Or.inl ⟨rfl, rfl⟩) (by decide) rfl rfl f0 ?_
  have f1 := fr_s (n' := 34) (show 33 ≤ 34 by omega) f0
  refine C_putR dX1_init_9 fd_X1_9 rfl (fun _ => ⟨rfl, rfl⟩) (by decide) rfl (by decide) ?_
  have f2 := fr_c (a := 32) (k := 0) (show 32 < 34 by omega) f1
  exact T_vret dX1_init_12 rfl (Or.inl (fun z => nomatch z)) kq
set_option maxRecDepth 4000 in
theorem c9_0 {D : List (Nat × Nat)} {Q : Option PV → HS → Prop} (f0 : Fr D 1) (kk : Fr ((0, 13) :: (0, 12) :: (0, 11) :: (0, 10) :: (0, 9) :: (32, 0) :: (0, 8) :: (29, 2) :: (29, 1) :: (29, 0) :: (0, 7) :: (13, 14) :: (13, 13) :: (13, 12) :: (13, 11) :: (13, 10) :: (27, 0) :: (13, 9) :: (25, 0) :: (13, 8) :: (13, 7) :: (13, 6) :: (13, 5) :: (13, 4) :: (13, 3) :: (13, 2) :: (13, 1) :: (16, 0) :: (13, 0) :: (14, 0) :: (0, 6) :: (9, 3) :: (9, 2) :: (9, 1) :: (9, 0) :: (0, 5) :: (6, 2) :: (6, 1) :: (6, 0) :: (0, 4) :: (5, 2) :: (5, 1) :: (5, 0) :: (0, 3) :: (4, 2) :: (4, 1) :: (4, 0) :: (0, 2) :: (3, 3) :: (3, 2) :: (3, 1) :: (3, 0) :: (0, 1) :: (0, 0) :: D) 34 → (0, 0) ∈ (0, 13) :: (0, 12) :: (0, 11) :: (0, 10) :: (0, 9) :: (32, 0) :: (0, 8) :: (29, 2) :: (29, 1) :: (29, 0) :: (0, 7) :: (13, 14) :: (13, 13) :: (13, 12) :: (13, 11) :: (13, 10) :: (27, 0) :: (13, 9) :: (25, 0) :: (13, 8) :: (13, 7) :: (13, 6) :: (13, 5) :: (13, 4) :: (13, 3) :: (13, 2) :: (13, 1) :: (16, 0) :: (13, 0) :: (14, 0) :: (0, 6) :: (9, 3) :: (9, 2) :: (9, 1) :: (9, 0) :: (0, 5) :: (6, 2) :: (6, 1) :: (6, 0) :: (0, 4) :: (5, 2) :: (5, 1) :: (5, 0) :: (0, 3) :: (4, 2) :: (4, 1) :: (4, 0) :: (0, 2) :: (3, 3) :: (3, 2) :: (3, 1) :: (3, 0) :: (0, 1) :: (0, 0) :: D → (0, 1) ∈ (0, 13) :: (0, 12) :: (0, 11) :: (0, 10) :: (0, 9) :: (32, 0) :: (0, 8) :: (29, 2) :: (29, 1) :: (29, 0) :: (0, 7) :: (13, 14) :: (13, 13) :: (13, 12) :: (13, 11) :: (13, 10) :: (27, 0) :: (13, 9) :: (25, 0) :: (13, 8) :: (13, 7) :: (13, 6) :: (13, 5) :: (13, 4) :: (13, 3) :: (13, 2) :: (13, 1) :: (16, 0) :: (13, 0) :: (14, 0) :: (0, 6) :: (9, 3) :: (9, 2) :: (9, 1) :: (9, 0) :: (0, 5) :: (6, 2) :: (6, 1) :: (6, 0) :: (0, 4) :: (5, 2) :: (5, 1) :: (5, 0) :: (0, 3) :: (4, 2) :: (4, 1) :: (4, 0) :: (0, 2) :: (3, 3) :: (3, 2) :: (3, 1) :: (3, 0) :: (0, 1) :: (0, 0) :: D → T m_X9_init 132 [vR 0, vI 0] [] (some (46, 794)) (34, SH, Mm ((0, 13) :: (0, 12) :: (0, 11) :: (0, 10) :: (0, 9) :: (32, 0) :: (0, 8) :: (29, 2) :: (29, 1) :: (29, 0) :: (0, 7) :: (13, 14) :: (13, 13) :: (13, 12) :: (13, 11) :: (13, 10) :: (27, 0) :: (13, 9) :: (25, 0) :: (13, 8) :: (13, 7) :: (13, 6) :: (13, 5) :: (13, 4) :: (13, 3) :: (13, 2) :: (13, 1) :: (16, 0) :: (13, 0) :: (14, 0) :: (0, 6) :: (9, 3) :: (9, 2) :: (9, 1) :: (9, 0) :: (0, 5) :: (6, 2) :: (6, 1) :: (6, 0) :: (0, 4) :: (5, 2) :: (5, 1) :: (5, 0) :: (0, 3) :: (4, 2) :: (4, 1) :: (4, 0) :: (0, 2) :: (3, 3) :: (3, 2) :: (3, 1) :: (3, 0) :: (0, 1) :: (0, 0) :: D)) Q) : T m_X9_init 0 [vR 0, vU] [] (some (79, 5990)) (1, SH, Mm D) Q := by
  refine T_aload_n dX9_init_0 rfl ?_
  refine T_oinit dX9_init_1 ml_X9_1 (Nat.le_of_ble_eq_true rfl) (Nat.le_of_ble_eq_true rfl) ?_
  refine T_aload_n dX9_init_4 rfl ?_
  refine T_bipush dX9_init_5 rfl ?_
  refine C_anew (kd := 23) (len := 10) (bc := 78) (bs := 5980) (n' := 2) dX9_init_7 (Or.inl ⟨rfl, cl_X9_9⟩) (by decide) rfl rfl f0 ?_
  have f1 := fr_s (n' := 2) (show 1 ≤ 2 by omega) f0
  refine C_putR dX9_init_10 fd_X9_11 rfl (fun _ => ⟨rfl, rfl⟩) (by decide) rfl (by decide) ?_
  have f2 := fr_c (a := 0) (k := 0) (show 0 < 2 by omega) f1
  refine T_aload_n dX9_init_13 rfl ?_
  refine T_bipush dX9_init_14 rfl ?_
  refine C_anew (kd := 24) (len := 6) (bc := 77) (bs := 5974) (n' := 3) dX9_init_16 (Or.inr ⟨rfl, cl_X9_15⟩) (by decide) rfl rfl f2 ?_
  have f3 := fr_s (n' := 3) (show 2 ≤ 3 by omega) f2
  refine C_putR dX9_init_19 fd_X9_17 rfl (fun _ => ⟨rfl, rfl⟩) (by decide) rfl (by decide) ?_
  have f4 := fr_c (a := 0) (k := 1) (show 0 < 3 by omega) f3
  refine T_aload_n dX9_init_22 rfl ?_
  refine C_new (bc := 76) (bs := 5970) (n' := 4) dX9_init_23 kl_X9_15 rfl rfl (by decide) f4 ?_
  have f5 := fr_s (n' := 4) (show 3 ≤ 4 by omega) f4
  refine T_dup dX9_init_26 rfl ?_
  refine T_callI (M' := m_X3_init) (as := []) (rest := [vR 3, vR 0]) (a := 3) (bc := 76) (bs := 5970) dX9_init_27 mo_X3_init (Or.inr (by decide +kernel)) im_X3_init rfl rfl (Nat.le_of_ble_eq_true rfl) (Nat.le_of_ble_eq_true rfl) rfl rfl (Nat.le_of_ble_eq_true rfl) rfl (i_X3 (a := 3) (n := 4) (n' := 4) rfl (by decide) f5 rfl (by decide) (by decide) (by decide) (by decide) ?_)
  show T m_X9_init 30 [vR 0, vU] [vR 3, vR 0] (some (76, 5970)) _ Q
  have f6 := fr_s (n' := 4) (show 4 ≤ 4 by omega) f5
  have f7 := fr_c (a := 3) (k := 0) (show 3 < 4 by omega) f6
  have f8 := fr_c (a := 3) (k := 1) (show 3 < 4 by omega) f7
  have f9 := fr_c (a := 3) (k := 2) (show 3 < 4 by omega) f8
  have f10 := fr_c (a := 3) (k := 3) (show 3 < 4 by omega) f9
  refine C_putR dX9_init_30 fd_X9_22 rfl (fun _ => ⟨rfl, rfl⟩) (by decide) rfl (by decide) ?_
  have f11 := fr_c (a := 0) (k := 2) (show 0 < 4 by omega) f10
  refine T_aload_n dX9_init_33 rfl ?_
  refine C_new (bc := 75) (bs := 5967) (n' := 5) dX9_init_34 kl_X9_26 rfl rfl (by decide) f11 ?_
  have f12 := fr_s (n' := 5) (show 4 ≤ 5 by omega) f11
  refine T_dup dX9_init_37 rfl ?_
  refine T_callI (M' := m_X6_init) (as := []) (rest := [vR 4, vR 0]) (a := 4) (bc := 75) (bs := 5967) dX9_init_38 mo_X6_init (Or.inr (by decide +kernel)) im_X6_init rfl rfl (Nat.le_of_ble_eq_true rfl) (Nat.le_of_ble_eq_true rfl) rfl rfl (Nat.le_of_ble_eq_true rfl) rfl (i_X6 (a := 4) (n := 5) (n' := 5) rfl (by decide) f12 rfl (by decide) (by decide) (by decide) ?_)
  show T m_X9_init 41 [vR 0, vU] [vR 4, vR 0] (some (75, 5967)) _ Q
  have f13 := fr_s (n' := 5) (show 5 ≤ 5 by omega) f12
  have f14 := fr_c (a := 4) (k := 0) (show 4 < 5 by omega) f13
  have f15 := fr_c (a := 4) (k := 1) (show 4 < 5 by omega) f14
  have f16 := fr_c (a := 4) (k := 2) (show 4 < 5 by omega) f15
  refine C_putR dX9_init_41 fd_X9_29 rfl (fun _ => ⟨rfl, rfl⟩) (by decide) rfl (by decide) ?_
  have f17 := fr_c (a := 0) (k := 3) (show 0 < 5 by omega) f16
  refine T_aload_n dX9_init_44 rfl ?_
  refine C_new (bc := 74) (bs := 5964) (n' := 6) dX9_init_45 kl_X9_26 rfl rfl (by decide) f17 ?_
  have f18 := fr_s (n' := 6) (show 5 ≤ 6 by omega) f17
  refine T_dup dX9_init_48 rfl ?_
  refine T_callI (M' := m_X6_init) (as := []) (rest := [vR 5, vR 0]) (a := 5) (bc := 74) (bs := 5964) dX9_init_49 mo_X6_init (Or.inr (by decide +kernel)) im_X6_init rfl rfl (Nat.le_of_ble_eq_true rfl) (Nat.le_of_ble_eq_true rfl) rfl rfl (Nat.le_of_ble_eq_true rfl) rfl (i_X6 (a := 5) (n := 6) (n' := 6) rfl (by decide) f18 rfl (by decide) (by decide) (by decide) ?_)
  show T m_X9_init 52 [vR 0, vU] [vR 5, vR 0] (some (74, 5964)) _ Q
  have f19 := fr_s (n' := 6) (show 6 ≤ 6 by omega) f18
  have f20 := fr_c (a := 5) (k := 0) (show 5 < 6 by omega) f19
  have f21 := fr_c (a := 5) (k := 1) (show 5 < 6 by omega) f20
  have f22 := fr_c (a := 5) (k := 2) (show 5 < 6 by omega) f21
  refine C_putR dX9_init_52 fd_X9_33 rfl (fun _ => ⟨rfl, rfl⟩) (by decide) rfl (by decide) ?_
  have f23 := fr_c (a := 0) (k := 4) (show 0 < 6 by omega) f22
  refine T_aload_n dX9_init_55 rfl ?_
  refine C_new (bc := 73) (bs := 5961) (n' := 7) dX9_init_56 kl_X9_36 rfl rfl (by decide) f23 ?_
  have f24 := fr_s (n' := 7) (show 6 ≤ 7 by omega) f23
  refine T_dup dX9_init_59 rfl ?_
  refine T_callI (M' := m_X5_init) (as := []) (rest := [vR 6, vR 0]) (a := 6) (bc := 71) (bs := 5761) dX9_init_60 mo_X5_init (Or.inr (by decide +kernel)) im_X5_init rfl rfl (Nat.le_of_ble_eq_true rfl) (Nat.le_of_ble_eq_true rfl) rfl rfl (Nat.le_of_ble_eq_true rfl) rfl (i_X5 f24 ?_)
  show T m_X9_init 63 [vR 0, vU] [vR 6, vR 0] (some (71, 5761)) _ Q
  have f25 := fr_s (n' := 9) (show 7 ≤ 9 by omega) f24
  have f26 := fr_c (a := 6) (k := 0) (show 6 < 9 by omega) f25
  have f27 := fr_c (a := 6) (k := 1) (show 6 < 9 by omega) f26
  have f28 := fr_c (a := 6) (k := 2) (show 6 < 9 by omega) f27
  refine C_putR dX9_init_63 fd_X9_39 rfl (fun _ => ⟨rfl, rfl⟩) (by decide) rfl (by decide) ?_
  have f29 := fr_c (a := 0) (k := 5) (show 0 < 9 by omega) f28
  refine T_aload_n dX9_init_66 rfl ?_
  refine C_new (bc := 70) (bs := 5757) (n' := 10) dX9_init_67 kl_X9_43 rfl rfl (by decide) f29 ?_
  have f30 := fr_s (n' := 10) (show 9 ≤ 10 by omega) f29
  refine T_dup dX9_init_70 rfl ?_
  refine T_callI (M' := m_X4_init) (as := []) (rest := [vR 9, vR 0]) (a := 9) (bc := 67) (bs := 5727) dX9_init_71 mo_X4_init (Or.inr (by decide +kernel)) im_X4_init rfl rfl (Nat.le_of_ble_eq_true rfl) (Nat.le_of_ble_eq_true rfl) rfl rfl (Nat.le_of_ble_eq_true rfl) rfl (i_X4 f30 ?_)
  show T m_X9_init 74 [vR 0, vU] [vR 9, vR 0] (some (67, 5727)) _ Q
  have f31 := fr_s (n' := 13) (show 10 ≤ 13 by omega) f30
  have f32 := fr_c (a := 9) (k := 0) (show 9 < 13 by omega) f31
  have f33 := fr_c (a := 9) (k := 1) (show 9 < 13 by omega) f32
  have f34 := fr_c (a := 9) (k := 2) (show 9 < 13 by omega) f33
  have f35 := fr_c (a := 9) (k := 3) (show 9 < 13 by omega) f34
  refine C_putR dX9_init_74 fd_X9_46 rfl (fun _ => ⟨rfl, rfl⟩) (by decide) rfl (by decide) ?_
  have f36 := fr_c (a := 0) (k := 6) (show 0 < 13 by omega) f35
  refine T_aload_n dX9_init_77 rfl ?_
  refine C_new (bc := 66) (bs := 5712) (n' := 14) dX9_init_78 kl_X9_50 rfl rfl (by decide) f36 ?_
  have f37 := fr_s (n' := 14) (show 13 ≤ 14 by omega) f36
  refine T_dup dX9_init_81 rfl ?_
  refine T_callI (M' := m_X2_init) (as := []) (rest := [vR 13, vR 0]) (a := 13) (bc := 51) (bs := 856) dX9_init_82 mo_X2_init (Or.inr (by decide +kernel)) im_X2_init rfl rfl (Nat.le_of_ble_eq_true rfl) (Nat.le_of_ble_eq_true rfl) rfl rfl (Nat.le_of_ble_eq_true rfl) rfl (i_X2 f37 ?_)
  show T m_X9_init 85 [vR 0, vU] [vR 13, vR 0] (some (51, 856)) _ Q
  have f38 := fr_s (n' := 29) (show 14 ≤ 29 by omega) f37
  have f39 := fr_c (a := 14) (k := 0) (show 14 < 29 by omega) f38
  have f40 := fr_c (a := 13) (k := 0) (show 13 < 29 by omega) f39
  have f41 := fr_c (a := 16) (k := 0) (show 16 < 29 by omega) f40
  have f42 := fr_c (a := 13) (k := 1) (show 13 < 29 by omega) f41
  have f43 := fr_c (a := 13) (k := 2) (show 13 < 29 by omega) f42
  have f44 := fr_c (a := 13) (k := 3) (show 13 < 29 by omega) f43
  have f45 := fr_c (a := 13) (k := 4) (show 13 < 29 by omega) f44
  have f46 := fr_c (a := 13) (k := 5) (show 13 < 29 by omega) f45
  have f47 := fr_c (a := 13) (k := 6) (show 13 < 29 by omega) f46
  have f48 := fr_c (a := 13) (k := 7) (show 13 < 29 by omega) f47
  have f49 := fr_c (a := 13) (k := 8) (show 13 < 29 by omega) f48
  have f50 := fr_c (a := 25) (k := 0) (show 25 < 29 by omega) f49
  have f51 := fr_c (a := 13) (k := 9) (show 13 < 29 by omega) f50
  have f52 := fr_c (a := 27) (k := 0) (show 27 < 29 by omega) f51
  have f53 := fr_c (a := 13) (k := 10) (show 13 < 29 by omega) f52
  have f54 := fr_c (a := 13) (k := 11) (show 13 < 29 by omega) f53
  have f55 := fr_c (a := 13) (k := 12) (show 13 < 29 by omega) f54
  have f56 := fr_c (a := 13) (k := 13) (show 13 < 29 by omega) f55
  have f57 := fr_c (a := 13) (k := 14) (show 13 < 29 by omega) f56
  refine C_putR dX9_init_85 fd_X9_53 rfl (fun _ => ⟨rfl, rfl⟩) (by decide) rfl (by decide) ?_
  have f58 := fr_c (a := 0) (k := 7) (show 0 < 29 by omega) f57
  refine T_aload_n dX9_init_88 rfl ?_
  refine C_new (bc := 50) (bs := 853) (n' := 30) dX9_init_89 kl_X9_57 rfl rfl (by decide) f58 ?_
  have f59 := fr_s (n' := 30) (show 29 ≤ 30 by omega) f58
  refine T_dup dX9_init_92 rfl ?_
  refine T_callI (M' := m_X7_init) (as := []) (rest := [vR 29, vR 0]) (a := 29) (bc := 48) (bs := 805) dX9_init_93 mo_X7_init (Or.inr (by decide +kernel)) im_X7_init rfl rfl (Nat.le_of_ble_eq_true rfl) (Nat.le_of_ble_eq_true rfl) rfl rfl (Nat.le_of_ble_eq_true rfl) rfl (i_X7 f59 ?_)
  show T m_X9_init 96 [vR 0, vU] [vR 29, vR 0] (some (48, 805)) _ Q
  have f60 := fr_s (n' := 32) (show 30 ≤ 32 by omega) f59
  have f61 := fr_c (a := 29) (k := 0) (show 29 < 32 by omega) f60
  have f62 := fr_c (a := 29) (k := 1) (show 29 < 32 by omega) f61
  have f63 := fr_c (a := 29) (k := 2) (show 29 < 32 by omega) f62
  refine C_putR dX9_init_96 fd_X9_60 rfl (fun _ => ⟨rfl, rfl⟩) (by decide) rfl (by decide) ?_
  have f64 := fr_c (a := 0) (k := 8) (show 0 < 32 by omega) f63
  refine T_aload_n dX9_init_99 rfl ?_
  refine C_new (bc := 47) (bs := 804) (n' := 33) dX9_init_100 kl_X9_64 rfl rfl (by decide) f64 ?_
  have f65 := fr_s (n' := 33) (show 32 ≤ 33 by omega) f64
  refine T_dup dX9_init_103 rfl ?_
  refine T_callI (M' := m_X1_init) (as := []) (rest := [vR 32, vR 0]) (a := 32) (bc := 46) (bs := 794) dX9_init_104 mo_X1_init (Or.inr (by decide +kernel)) im_X1_init rfl rfl (Nat.le_of_ble_eq_true rfl) (Nat.le_of_ble_eq_true rfl) rfl rfl (Nat.le_of_ble_eq_true rfl) rfl (i_X1 f65 ?_)
  show T m_X9_init 107 [vR 0, vU] [vR 32, vR 0] (some (46, 794)) _ Q
  have f66 := fr_s (n' := 34) (show 33 ≤ 34 by omega) f65
  have f67 := fr_c (a := 32) (k := 0) (show 32 < 34 by omega) f66
  refine C_putR dX9_init_107 fd_X9_67 rfl (fun _ => ⟨rfl, rfl⟩) (by decide) rfl (by decide) ?_
  have f68 := fr_c (a := 0) (k := 9) (show 0 < 34 by omega) f67
  refine T_aload_n dX9_init_110 rfl ?_
  refine T_iconst dX9_init_111 ?_
  refine C_putZ dX9_init_112 fd_X9_71 rfl (Or.inl rfl) (by decide) rfl (by decide) ?_
  have f69 := fr_c (a := 0) (k := 10) (show 0 < 34 by omega) f68
  refine T_aload_n dX9_init_115 rfl ?_
  refine T_iconst dX9_init_116 ?_
  refine C_putI dX9_init_117 fd_X9_75 rfl (by decide) rfl (by decide) ?_
  have f70 := fr_c (a := 0) (k := 11) (show 0 < 34 by omega) f69
  refine T_aload_n dX9_init_120 rfl ?_
  refine T_iconst dX9_init_121 ?_
  refine C_putI dX9_init_122 fd_X9_79 rfl (by decide) rfl (by decide) ?_
  have f71 := fr_c (a := 0) (k := 12) (show 0 < 34 by omega) f70
  refine T_aload_n dX9_init_125 rfl ?_
  refine T_iconst dX9_init_126 ?_
  refine C_putI dX9_init_127 fd_X9_82 rfl (by decide) rfl (by decide) ?_
  have f72 := fr_c (a := 0) (k := 13) (show 0 < 34 by omega) f71
  refine T_iconst dX9_init_130 ?_
  refine T_istore_n dX9_init_131 (Nat.le_of_ble_eq_true rfl) rfl (ls2 := [vR 0, vI 0]) rfl ?_
  exact kk f72 (by repeat (first | exact List.mem_cons_self | apply List.mem_cons_of_mem)) (by repeat (first | exact List.mem_cons_self | apply List.mem_cons_of_mem))
theorem kl_X9_9 : Cls RX9 9 8 5 := ⟨RX8, TX8, rfl, by decide, inX8, tyX8_ok, cl_X9_9, ist_X8, ini_X8, by decide⟩
set_option maxRecDepth 4000 in
theorem i_X8 {a n n' : Nat} {D : List (Nat × Nat)} {Q : Option PV → HS → Prop} (hn : (n + 3) = n') (ha : a < n) (f0 : Fr D n) (s0 : SH n = (20, 24)) (s1 : SH a = (8, 5)) (v2 : muF a 0 = ((n : Nat) : Int)) (s3 : SH (n + 1) = (20, 24)) (v4 : muF a 1 = (((n + 1) : Nat) : Int)) (s5 : SH (n + 2) = (20, 24)) (v6 : muF a 2 = (((n + 2) : Nat) : Int)) (v7 : muF a 3 = 0) (v8 : muF a 4 = 0) (kq : Q none (n', SH, Mm ((a, 4) :: (a, 3) :: (a, 2) :: (a, 1) :: (a, 0) :: D))) : Con m_X8_init [vR a] (n, SH, Mm D) Q := by
  subst hn
  refine Con_of (by decide) rfl rfl (fun _ => rfl) (Nat.le_of_ble_eq_true rfl) ?_
  show T m_X8_init 0 [vR a] [] (some (3, 72)) _ Q
  refine T_aload_n dX8_init_0 rfl ?_
  refine T_oinit dX8_init_1 ml_X8_3 (Nat.le_of_ble_eq_true rfl) (Nat.le_of_ble_eq_true rfl) ?_
  refine T_aload_n dX8_init_4 rfl ?_
  refine T_bipush dX8_init_5 rfl ?_
  refine C_newarr (kd := 20) (len := 24) (bc := 2) (bs := 48) (n' := (n + 1)) dX8_init_7 (Or.inl ⟨rfl, rfl⟩) (by decide) rfl s0 f0 ?_
  have f1 := fr_s (n' := (n + 1)) (show n ≤ (n + 1) by omega) f0
  refine C_putR dX8_init_9 fd_X8_9 rfl (fun _ => ⟨rfl, rfl⟩) (by omega) s1 v2 ?_
  have f2 := fr_c (a := a) (k := 0) (show a < (n + 1) by omega) f1
  refine T_aload_n dX8_init_12 rfl ?_
  refine T_bipush dX8_init_13 rfl ?_
  refine C_newarr (kd := 20) (len := 24) (bc := 1) (bs := 24) (n' := (n + 2)) dX8_init_15 (Or.inl ⟨rfl, rfl⟩) (by decide) rfl s3 f2 ?_
  have f3 := fr_s (n' := (n + 2)) (show (n + 1) ≤ (n + 2) by omega) f2
  refine C_putR dX8_init_17 fd_X8_15 rfl (fun _ => ⟨rfl, rfl⟩) (by omega) s1 v4 ?_
  have f4 := fr_c (a := a) (k := 1) (show a < (n + 2) by omega) f3
  refine T_aload_n dX8_init_20 rfl ?_
  refine T_bipush dX8_init_21 rfl ?_
  refine C_newarr (kd := 20) (len := 24) (bc := 0) (bs := 0) (n' := (n + 3)) dX8_init_23 (Or.inl ⟨rfl, rfl⟩) (by decide) rfl s5 f4 ?_
  have f5 := fr_s (n' := (n + 3)) (show (n + 2) ≤ (n + 3) by omega) f4
  refine C_putR dX8_init_25 fd_X8_18 rfl (fun _ => ⟨rfl, rfl⟩) (by omega) s1 v6 ?_
  have f6 := fr_c (a := a) (k := 2) (show a < (n + 3) by omega) f5
  refine T_aload_n dX8_init_28 rfl ?_
  refine T_iconst dX8_init_29 ?_
  refine C_putI dX8_init_30 fd_X8_21 rfl (by omega) s1 v7 ?_
  have f7 := fr_c (a := a) (k := 3) (show a < (n + 3) by omega) f6
  refine T_aload_n dX8_init_33 rfl ?_
  refine T_iconst dX8_init_34 ?_
  refine C_putZ dX8_init_35 fd_X8_25 rfl (Or.inl rfl) (by omega) s1 v8 ?_
  have f8 := fr_c (a := a) (k := 4) (show a < (n + 3) by omega) f7
  exact T_vret dX8_init_38 rfl (Or.inl (fun z => nomatch z)) kq
set_option maxRecDepth 4000 in
theorem c9_1 {D : List (Nat × Nat)} {Q : Option PV → HS → Prop} (f0 : Fr D 34) (m0 : (0, 0) ∈ D) (m1 : (0, 1) ∈ D) (kk : Fr ((1, 0) :: (34, 4) :: (34, 3) :: (34, 2) :: (34, 1) :: (34, 0) :: D) 38 → (0, 0) ∈ (1, 0) :: (34, 4) :: (34, 3) :: (34, 2) :: (34, 1) :: (34, 0) :: D → (0, 1) ∈ (1, 0) :: (34, 4) :: (34, 3) :: (34, 2) :: (34, 1) :: (34, 0) :: D → T m_X9_init 132 [vR 0, vI 1] [] (some (42, 717)) (38, SH, Mm ((1, 0) :: (34, 4) :: (34, 3) :: (34, 2) :: (34, 1) :: (34, 0) :: D)) Q) : T m_X9_init 132 [vR 0, vI 0] [] (some (46, 794)) (34, SH, Mm D) Q := by
  refine T_iload_n dX9_init_132 rfl ?_
  refine T_bipush dX9_init_133 rfl ?_
  refine T_icmp_ge (tgt := 157) dX9_init_135 (by decide) (by decide) (by decide) (fun z => absurd z (by decide)) (fun _ => ?_)
  refine T_aload_n dX9_init_138 rfl ?_
  refine T_getR (r := 1) dX9_init_139 fd_X9_11 rfl (by decide) rfl (by rw [Mm_in m0]; decide) ?_
  refine T_iload_n dX9_init_142 rfl ?_
  refine C_new (bc := 45) (bs := 789) (n' := 35) dX9_init_143 kl_X9_9 rfl rfl (by decide) f0 ?_
  have f1 := fr_s (n' := 35) (show 34 ≤ 35 by omega) f0
  refine T_dup dX9_init_146 rfl ?_
  refine T_callI (M' := m_X8_init) (as := []) (rest := [vR 34, vI 0, vR 1]) (a := 34) (bc := 42) (bs := 717) dX9_init_147 mo_X8_init (Or.inr (by decide +kernel)) im_X8_init rfl rfl (Nat.le_of_ble_eq_true rfl) (Nat.le_of_ble_eq_true rfl) rfl rfl (Nat.le_of_ble_eq_true rfl) rfl (i_X8 (a := 34) (n := 35) (n' := 38) rfl (by decide) f1 rfl rfl (by decide) rfl (by decide) rfl (by decide) (by decide) (by decide) ?_)
  show T m_X9_init 150 [vR 0, vI 0] [vR 34, vI 0, vR 1] (some (42, 717)) _ Q
  have f2 := fr_s (n' := 38) (show 35 ≤ 38 by omega) f1
  have f3 := fr_c (a := 34) (k := 0) (show 34 < 38 by omega) f2
  have f4 := fr_c (a := 34) (k := 1) (show 34 < 38 by omega) f3
  have f5 := fr_c (a := 34) (k := 2) (show 34 < 38 by omega) f4
  have f6 := fr_c (a := 34) (k := 3) (show 34 < 38 by omega) f5
  have f7 := fr_c (a := 34) (k := 4) (show 34 < 38 by omega) f6
  refine C_aast (i := 0) dX9_init_150 (Or.inl ⟨rfl, rfl⟩) (by decide) rfl (by decide) rfl (by decide) (by decide) (by decide) ?_
  have f8 := fr_c (a := 1) (k := 0) (show 1 < 38 by omega) f7
  refine T_iinc dX9_init_151 (Nat.le_of_ble_eq_true rfl) rfl rfl (ls2 := [vR 0, vI 1]) rfl ?_
  refine T_goto (tgt := 132) dX9_init_154 (by decide) ?_
  exact kk f8 (by repeat (first | exact m0 | apply List.mem_cons_of_mem)) (by repeat (first | exact m1 | apply List.mem_cons_of_mem))
set_option maxRecDepth 4000 in
theorem c9_2 {D : List (Nat × Nat)} {Q : Option PV → HS → Prop} (f0 : Fr D 38) (m0 : (0, 0) ∈ D) (m1 : (0, 1) ∈ D) (kk : Fr ((1, 1) :: (38, 4) :: (38, 3) :: (38, 2) :: (38, 1) :: (38, 0) :: D) 42 → (0, 0) ∈ (1, 1) :: (38, 4) :: (38, 3) :: (38, 2) :: (38, 1) :: (38, 0) :: D → (0, 1) ∈ (1, 1) :: (38, 4) :: (38, 3) :: (38, 2) :: (38, 1) :: (38, 0) :: D → T m_X9_init 132 [vR 0, vI 2] [] (some (38, 640)) (42, SH, Mm ((1, 1) :: (38, 4) :: (38, 3) :: (38, 2) :: (38, 1) :: (38, 0) :: D)) Q) : T m_X9_init 132 [vR 0, vI 1] [] (some (42, 717)) (38, SH, Mm D) Q := by
  refine T_iload_n dX9_init_132 rfl ?_
  refine T_bipush dX9_init_133 rfl ?_
  refine T_icmp_ge (tgt := 157) dX9_init_135 (by decide) (by decide) (by decide) (fun z => absurd z (by decide)) (fun _ => ?_)
  refine T_aload_n dX9_init_138 rfl ?_
  refine T_getR (r := 1) dX9_init_139 fd_X9_11 rfl (by decide) rfl (by rw [Mm_in m0]; decide) ?_
  refine T_iload_n dX9_init_142 rfl ?_
  refine C_new (bc := 41) (bs := 712) (n' := 39) dX9_init_143 kl_X9_9 rfl rfl (by decide) f0 ?_
  have f1 := fr_s (n' := 39) (show 38 ≤ 39 by omega) f0
  refine T_dup dX9_init_146 rfl ?_
  refine T_callI (M' := m_X8_init) (as := []) (rest := [vR 38, vI 1, vR 1]) (a := 38) (bc := 38) (bs := 640) dX9_init_147 mo_X8_init (Or.inr (by decide +kernel)) im_X8_init rfl rfl (Nat.le_of_ble_eq_true rfl) (Nat.le_of_ble_eq_true rfl) rfl rfl (Nat.le_of_ble_eq_true rfl) rfl (i_X8 (a := 38) (n := 39) (n' := 42) rfl (by decide) f1 rfl rfl (by decide) rfl (by decide) rfl (by decide) (by decide) (by decide) ?_)
  show T m_X9_init 150 [vR 0, vI 1] [vR 38, vI 1, vR 1] (some (38, 640)) _ Q
  have f2 := fr_s (n' := 42) (show 39 ≤ 42 by omega) f1
  have f3 := fr_c (a := 38) (k := 0) (show 38 < 42 by omega) f2
  have f4 := fr_c (a := 38) (k := 1) (show 38 < 42 by omega) f3
  have f5 := fr_c (a := 38) (k := 2) (show 38 < 42 by omega) f4
  have f6 := fr_c (a := 38) (k := 3) (show 38 < 42 by omega) f5
  have f7 := fr_c (a := 38) (k := 4) (show 38 < 42 by omega) f6
  refine C_aast (i := 1) dX9_init_150 (Or.inl ⟨rfl, rfl⟩) (by decide) rfl (by decide) rfl (by decide) (by decide) (by decide) ?_
  have f8 := fr_c (a := 1) (k := 1) (show 1 < 42 by omega) f7
  refine T_iinc dX9_init_151 (Nat.le_of_ble_eq_true rfl) rfl rfl (ls2 := [vR 0, vI 2]) rfl ?_
  refine T_goto (tgt := 132) dX9_init_154 (by decide) ?_
  exact kk f8 (by repeat (first | exact m0 | apply List.mem_cons_of_mem)) (by repeat (first | exact m1 | apply List.mem_cons_of_mem))
set_option maxRecDepth 4000 in
theorem c9_3 {D : List (Nat × Nat)} {Q : Option PV → HS → Prop} (f0 : Fr D 42) (m0 : (0, 0) ∈ D) (m1 : (0, 1) ∈ D) (kk : Fr ((1, 2) :: (42, 4) :: (42, 3) :: (42, 2) :: (42, 1) :: (42, 0) :: D) 46 → (0, 0) ∈ (1, 2) :: (42, 4) :: (42, 3) :: (42, 2) :: (42, 1) :: (42, 0) :: D → (0, 1) ∈ (1, 2) :: (42, 4) :: (42, 3) :: (42, 2) :: (42, 1) :: (42, 0) :: D → T m_X9_init 132 [vR 0, vI 3] [] (some (34, 563)) (46, SH, Mm ((1, 2) :: (42, 4) :: (42, 3) :: (42, 2) :: (42, 1) :: (42, 0) :: D)) Q) : T m_X9_init 132 [vR 0, vI 2] [] (some (38, 640)) (42, SH, Mm D) Q := by
  refine T_iload_n dX9_init_132 rfl ?_
  refine T_bipush dX9_init_133 rfl ?_
  refine T_icmp_ge (tgt := 157) dX9_init_135 (by decide) (by decide) (by decide) (fun z => absurd z (by decide)) (fun _ => ?_)
  refine T_aload_n dX9_init_138 rfl ?_
  refine T_getR (r := 1) dX9_init_139 fd_X9_11 rfl (by decide) rfl (by rw [Mm_in m0]; decide) ?_
  refine T_iload_n dX9_init_142 rfl ?_
  refine C_new (bc := 37) (bs := 635) (n' := 43) dX9_init_143 kl_X9_9 rfl rfl (by decide) f0 ?_
  have f1 := fr_s (n' := 43) (show 42 ≤ 43 by omega) f0
  refine T_dup dX9_init_146 rfl ?_
  refine T_callI (M' := m_X8_init) (as := []) (rest := [vR 42, vI 2, vR 1]) (a := 42) (bc := 34) (bs := 563) dX9_init_147 mo_X8_init (Or.inr (by decide +kernel)) im_X8_init rfl rfl (Nat.le_of_ble_eq_true rfl) (Nat.le_of_ble_eq_true rfl) rfl rfl (Nat.le_of_ble_eq_true rfl) rfl (i_X8 (a := 42) (n := 43) (n' := 46) rfl (by decide) f1 rfl rfl (by decide) rfl (by decide) rfl (by decide) (by decide) (by decide) ?_)
  show T m_X9_init 150 [vR 0, vI 2] [vR 42, vI 2, vR 1] (some (34, 563)) _ Q
  have f2 := fr_s (n' := 46) (show 43 ≤ 46 by omega) f1
  have f3 := fr_c (a := 42) (k := 0) (show 42 < 46 by omega) f2
  have f4 := fr_c (a := 42) (k := 1) (show 42 < 46 by omega) f3
  have f5 := fr_c (a := 42) (k := 2) (show 42 < 46 by omega) f4
  have f6 := fr_c (a := 42) (k := 3) (show 42 < 46 by omega) f5
  have f7 := fr_c (a := 42) (k := 4) (show 42 < 46 by omega) f6
  refine C_aast (i := 2) dX9_init_150 (Or.inl ⟨rfl, rfl⟩) (by decide) rfl (by decide) rfl (by decide) (by decide) (by decide) ?_
  have f8 := fr_c (a := 1) (k := 2) (show 1 < 46 by omega) f7
  refine T_iinc dX9_init_151 (Nat.le_of_ble_eq_true rfl) rfl rfl (ls2 := [vR 0, vI 3]) rfl ?_
  refine T_goto (tgt := 132) dX9_init_154 (by decide) ?_
  exact kk f8 (by repeat (first | exact m0 | apply List.mem_cons_of_mem)) (by repeat (first | exact m1 | apply List.mem_cons_of_mem))
set_option maxRecDepth 4000 in
theorem c9_4 {D : List (Nat × Nat)} {Q : Option PV → HS → Prop} (f0 : Fr D 46) (m0 : (0, 0) ∈ D) (m1 : (0, 1) ∈ D) (kk : Fr ((1, 3) :: (46, 4) :: (46, 3) :: (46, 2) :: (46, 1) :: (46, 0) :: D) 50 → (0, 0) ∈ (1, 3) :: (46, 4) :: (46, 3) :: (46, 2) :: (46, 1) :: (46, 0) :: D → (0, 1) ∈ (1, 3) :: (46, 4) :: (46, 3) :: (46, 2) :: (46, 1) :: (46, 0) :: D → T m_X9_init 132 [vR 0, vI 4] [] (some (30, 486)) (50, SH, Mm ((1, 3) :: (46, 4) :: (46, 3) :: (46, 2) :: (46, 1) :: (46, 0) :: D)) Q) : T m_X9_init 132 [vR 0, vI 3] [] (some (34, 563)) (46, SH, Mm D) Q := by
  refine T_iload_n dX9_init_132 rfl ?_
  refine T_bipush dX9_init_133 rfl ?_
  refine T_icmp_ge (tgt := 157) dX9_init_135 (by decide) (by decide) (by decide) (fun z => absurd z (by decide)) (fun _ => ?_)
  refine T_aload_n dX9_init_138 rfl ?_
  refine T_getR (r := 1) dX9_init_139 fd_X9_11 rfl (by decide) rfl (by rw [Mm_in m0]; decide) ?_
  refine T_iload_n dX9_init_142 rfl ?_
  refine C_new (bc := 33) (bs := 558) (n' := 47) dX9_init_143 kl_X9_9 rfl rfl (by decide) f0 ?_
  have f1 := fr_s (n' := 47) (show 46 ≤ 47 by omega) f0
  refine T_dup dX9_init_146 rfl ?_
  refine T_callI (M' := m_X8_init) (as := []) (rest := [vR 46, vI 3, vR 1]) (a := 46) (bc := 30) (bs := 486) dX9_init_147 mo_X8_init (Or.inr (by decide +kernel)) im_X8_init rfl rfl (Nat.le_of_ble_eq_true rfl) (Nat.le_of_ble_eq_true rfl) rfl rfl (Nat.le_of_ble_eq_true rfl) rfl (i_X8 (a := 46) (n := 47) (n' := 50) rfl (by decide) f1 rfl rfl (by decide) rfl (by decide) rfl (by decide) (by decide) (by decide) ?_)
  show T m_X9_init 150 [vR 0, vI 3] [vR 46, vI 3, vR 1] (some (30, 486)) _ Q
  have f2 := fr_s (n' := 50) (show 47 ≤ 50 by omega) f1
  have f3 := fr_c (a := 46) (k := 0) (show 46 < 50 by omega) f2
  have f4 := fr_c (a := 46) (k := 1) (show 46 < 50 by omega) f3
  have f5 := fr_c (a := 46) (k := 2) (show 46 < 50 by omega) f4
  have f6 := fr_c (a := 46) (k := 3) (show 46 < 50 by omega) f5
  have f7 := fr_c (a := 46) (k := 4) (show 46 < 50 by omega) f6
  refine C_aast (i := 3) dX9_init_150 (Or.inl ⟨rfl, rfl⟩) (by decide) rfl (by decide) rfl (by decide) (by decide) (by decide) ?_
  have f8 := fr_c (a := 1) (k := 3) (show 1 < 50 by omega) f7
  refine T_iinc dX9_init_151 (Nat.le_of_ble_eq_true rfl) rfl rfl (ls2 := [vR 0, vI 4]) rfl ?_
  refine T_goto (tgt := 132) dX9_init_154 (by decide) ?_
  exact kk f8 (by repeat (first | exact m0 | apply List.mem_cons_of_mem)) (by repeat (first | exact m1 | apply List.mem_cons_of_mem))
set_option maxRecDepth 4000 in
theorem c9_5 {D : List (Nat × Nat)} {Q : Option PV → HS → Prop} (f0 : Fr D 50) (m0 : (0, 0) ∈ D) (m1 : (0, 1) ∈ D) (kk : Fr ((1, 4) :: (50, 4) :: (50, 3) :: (50, 2) :: (50, 1) :: (50, 0) :: D) 54 → (0, 0) ∈ (1, 4) :: (50, 4) :: (50, 3) :: (50, 2) :: (50, 1) :: (50, 0) :: D → (0, 1) ∈ (1, 4) :: (50, 4) :: (50, 3) :: (50, 2) :: (50, 1) :: (50, 0) :: D → T m_X9_init 132 [vR 0, vI 5] [] (some (26, 409)) (54, SH, Mm ((1, 4) :: (50, 4) :: (50, 3) :: (50, 2) :: (50, 1) :: (50, 0) :: D)) Q) : T m_X9_init 132 [vR 0, vI 4] [] (some (30, 486)) (50, SH, Mm D) Q := by
  refine T_iload_n dX9_init_132 rfl ?_
  refine T_bipush dX9_init_133 rfl ?_
  refine T_icmp_ge (tgt := 157) dX9_init_135 (by decide) (by decide) (by decide) (fun z => absurd z (by decide)) (fun _ => ?_)
  refine T_aload_n dX9_init_138 rfl ?_
  refine T_getR (r := 1) dX9_init_139 fd_X9_11 rfl (by decide) rfl (by rw [Mm_in m0]; decide) ?_
  refine T_iload_n dX9_init_142 rfl ?_
  refine C_new (bc := 29) (bs := 481) (n' := 51) dX9_init_143 kl_X9_9 rfl rfl (by decide) f0 ?_
  have f1 := fr_s (n' := 51) (show 50 ≤ 51 by omega) f0
  refine T_dup dX9_init_146 rfl ?_
  refine T_callI (M' := m_X8_init) (as := []) (rest := [vR 50, vI 4, vR 1]) (a := 50) (bc := 26) (bs := 409) dX9_init_147 mo_X8_init (Or.inr (by decide +kernel)) im_X8_init rfl rfl (Nat.le_of_ble_eq_true rfl) (Nat.le_of_ble_eq_true rfl) rfl rfl (Nat.le_of_ble_eq_true rfl) rfl (i_X8 (a := 50) (n := 51) (n' := 54) rfl (by decide) f1 rfl rfl (by decide) rfl (by decide) rfl (by decide) (by decide) (by decide) ?_)
  show T m_X9_init 150 [vR 0, vI 4] [vR 50, vI 4, vR 1] (some (26, 409)) _ Q
  have f2 := fr_s (n' := 54) (show 51 ≤ 54 by omega) f1
  have f3 := fr_c (a := 50) (k := 0) (show 50 < 54 by omega) f2
  have f4 := fr_c (a := 50) (k := 1) (show 50 < 54 by omega) f3
  have f5 := fr_c (a := 50) (k := 2) (show 50 < 54 by omega) f4
  have f6 := fr_c (a := 50) (k := 3) (show 50 < 54 by omega) f5
  have f7 := fr_c (a := 50) (k := 4) (show 50 < 54 by omega) f6
  refine C_aast (i := 4) dX9_init_150 (Or.inl ⟨rfl, rfl⟩) (by decide) rfl (by decide) rfl (by decide) (by decide) (by decide) ?_
  have f8 := fr_c (a := 1) (k := 4) (show 1 < 54 by omega) f7
  refine T_iinc dX9_init_151 (Nat.le_of_ble_eq_true rfl) rfl rfl (ls2 := [vR 0, vI 5]) rfl ?_
  refine T_goto (tgt := 132) dX9_init_154 (by decide) ?_
  exact kk f8 (by repeat (first | exact m0 | apply List.mem_cons_of_mem)) (by repeat (first | exact m1 | apply List.mem_cons_of_mem))
set_option maxRecDepth 4000 in
theorem c9_6 {D : List (Nat × Nat)} {Q : Option PV → HS → Prop} (f0 : Fr D 54) (m0 : (0, 0) ∈ D) (m1 : (0, 1) ∈ D) (kk : Fr ((1, 5) :: (54, 4) :: (54, 3) :: (54, 2) :: (54, 1) :: (54, 0) :: D) 58 → (0, 0) ∈ (1, 5) :: (54, 4) :: (54, 3) :: (54, 2) :: (54, 1) :: (54, 0) :: D → (0, 1) ∈ (1, 5) :: (54, 4) :: (54, 3) :: (54, 2) :: (54, 1) :: (54, 0) :: D → T m_X9_init 132 [vR 0, vI 6] [] (some (22, 332)) (58, SH, Mm ((1, 5) :: (54, 4) :: (54, 3) :: (54, 2) :: (54, 1) :: (54, 0) :: D)) Q) : T m_X9_init 132 [vR 0, vI 5] [] (some (26, 409)) (54, SH, Mm D) Q := by
  refine T_iload_n dX9_init_132 rfl ?_
  refine T_bipush dX9_init_133 rfl ?_
  refine T_icmp_ge (tgt := 157) dX9_init_135 (by decide) (by decide) (by decide) (fun z => absurd z (by decide)) (fun _ => ?_)
  refine T_aload_n dX9_init_138 rfl ?_
  refine T_getR (r := 1) dX9_init_139 fd_X9_11 rfl (by decide) rfl (by rw [Mm_in m0]; decide) ?_
  refine T_iload_n dX9_init_142 rfl ?_
  refine C_new (bc := 25) (bs := 404) (n' := 55) dX9_init_143 kl_X9_9 rfl rfl (by decide) f0 ?_
  have f1 := fr_s (n' := 55) (show 54 ≤ 55 by omega) f0
  refine T_dup dX9_init_146 rfl ?_
  refine T_callI (M' := m_X8_init) (as := []) (rest := [vR 54, vI 5, vR 1]) (a := 54) (bc := 22) (bs := 332) dX9_init_147 mo_X8_init (Or.inr (by decide +kernel)) im_X8_init rfl rfl (Nat.le_of_ble_eq_true rfl) (Nat.le_of_ble_eq_true rfl) rfl rfl (Nat.le_of_ble_eq_true rfl) rfl (i_X8 (a := 54) (n := 55) (n' := 58) rfl (by decide) f1 rfl rfl (by decide) rfl (by decide) rfl (by decide) (by decide) (by decide) ?_)
  show T m_X9_init 150 [vR 0, vI 5] [vR 54, vI 5, vR 1] (some (22, 332)) _ Q
  have f2 := fr_s (n' := 58) (show 55 ≤ 58 by omega) f1
  have f3 := fr_c (a := 54) (k := 0) (show 54 < 58 by omega) f2
  have f4 := fr_c (a := 54) (k := 1) (show 54 < 58 by omega) f3
  have f5 := fr_c (a := 54) (k := 2) (show 54 < 58 by omega) f4
  have f6 := fr_c (a := 54) (k := 3) (show 54 < 58 by omega) f5
  have f7 := fr_c (a := 54) (k := 4) (show 54 < 58 by omega) f6
  refine C_aast (i := 5) dX9_init_150 (Or.inl ⟨rfl, rfl⟩) (by decide) rfl (by decide) rfl (by decide) (by decide) (by decide) ?_
  have f8 := fr_c (a := 1) (k := 5) (show 1 < 58 by omega) f7
  refine T_iinc dX9_init_151 (Nat.le_of_ble_eq_true rfl) rfl rfl (ls2 := [vR 0, vI 6]) rfl ?_
  refine T_goto (tgt := 132) dX9_init_154 (by decide) ?_
  exact kk f8 (by repeat (first | exact m0 | apply List.mem_cons_of_mem)) (by repeat (first | exact m1 | apply List.mem_cons_of_mem))
set_option maxRecDepth 4000 in
theorem c9_7 {D : List (Nat × Nat)} {Q : Option PV → HS → Prop} (f0 : Fr D 58) (m0 : (0, 0) ∈ D) (m1 : (0, 1) ∈ D) (kk : Fr ((1, 6) :: (58, 4) :: (58, 3) :: (58, 2) :: (58, 1) :: (58, 0) :: D) 62 → (0, 0) ∈ (1, 6) :: (58, 4) :: (58, 3) :: (58, 2) :: (58, 1) :: (58, 0) :: D → (0, 1) ∈ (1, 6) :: (58, 4) :: (58, 3) :: (58, 2) :: (58, 1) :: (58, 0) :: D → T m_X9_init 132 [vR 0, vI 7] [] (some (18, 255)) (62, SH, Mm ((1, 6) :: (58, 4) :: (58, 3) :: (58, 2) :: (58, 1) :: (58, 0) :: D)) Q) : T m_X9_init 132 [vR 0, vI 6] [] (some (22, 332)) (58, SH, Mm D) Q := by
  refine T_iload_n dX9_init_132 rfl ?_
  refine T_bipush dX9_init_133 rfl ?_
  refine T_icmp_ge (tgt := 157) dX9_init_135 (by decide) (by decide) (by decide) (fun z => absurd z (by decide)) (fun _ => ?_)
  refine T_aload_n dX9_init_138 rfl ?_
  refine T_getR (r := 1) dX9_init_139 fd_X9_11 rfl (by decide) rfl (by rw [Mm_in m0]; decide) ?_
  refine T_iload_n dX9_init_142 rfl ?_
  refine C_new (bc := 21) (bs := 327) (n' := 59) dX9_init_143 kl_X9_9 rfl rfl (by decide) f0 ?_
  have f1 := fr_s (n' := 59) (show 58 ≤ 59 by omega) f0
  refine T_dup dX9_init_146 rfl ?_
  refine T_callI (M' := m_X8_init) (as := []) (rest := [vR 58, vI 6, vR 1]) (a := 58) (bc := 18) (bs := 255) dX9_init_147 mo_X8_init (Or.inr (by decide +kernel)) im_X8_init rfl rfl (Nat.le_of_ble_eq_true rfl) (Nat.le_of_ble_eq_true rfl) rfl rfl (Nat.le_of_ble_eq_true rfl) rfl (i_X8 (a := 58) (n := 59) (n' := 62) rfl (by decide) f1 rfl rfl (by decide) rfl (by decide) rfl (by decide) (by decide) (by decide) ?_)
  show T m_X9_init 150 [vR 0, vI 6] [vR 58, vI 6, vR 1] (some (18, 255)) _ Q
  have f2 := fr_s (n' := 62) (show 59 ≤ 62 by omega) f1
  have f3 := fr_c (a := 58) (k := 0) (show 58 < 62 by omega) f2
  have f4 := fr_c (a := 58) (k := 1) (show 58 < 62 by omega) f3
  have f5 := fr_c (a := 58) (k := 2) (show 58 < 62 by omega) f4
  have f6 := fr_c (a := 58) (k := 3) (show 58 < 62 by omega) f5
  have f7 := fr_c (a := 58) (k := 4) (show 58 < 62 by omega) f6
  refine C_aast (i := 6) dX9_init_150 (Or.inl ⟨rfl, rfl⟩) (by decide) rfl (by decide) rfl (by decide) (by decide) (by decide) ?_
  have f8 := fr_c (a := 1) (k := 6) (show 1 < 62 by omega) f7
  refine T_iinc dX9_init_151 (Nat.le_of_ble_eq_true rfl) rfl rfl (ls2 := [vR 0, vI 7]) rfl ?_
  refine T_goto (tgt := 132) dX9_init_154 (by decide) ?_
  exact kk f8 (by repeat (first | exact m0 | apply List.mem_cons_of_mem)) (by repeat (first | exact m1 | apply List.mem_cons_of_mem))
set_option maxRecDepth 4000 in
theorem c9_8 {D : List (Nat × Nat)} {Q : Option PV → HS → Prop} (f0 : Fr D 62) (m0 : (0, 0) ∈ D) (m1 : (0, 1) ∈ D) (kk : Fr ((1, 7) :: (62, 4) :: (62, 3) :: (62, 2) :: (62, 1) :: (62, 0) :: D) 66 → (0, 0) ∈ (1, 7) :: (62, 4) :: (62, 3) :: (62, 2) :: (62, 1) :: (62, 0) :: D → (0, 1) ∈ (1, 7) :: (62, 4) :: (62, 3) :: (62, 2) :: (62, 1) :: (62, 0) :: D → T m_X9_init 132 [vR 0, vI 8] [] (some (14, 178)) (66, SH, Mm ((1, 7) :: (62, 4) :: (62, 3) :: (62, 2) :: (62, 1) :: (62, 0) :: D)) Q) : T m_X9_init 132 [vR 0, vI 7] [] (some (18, 255)) (62, SH, Mm D) Q := by
  refine T_iload_n dX9_init_132 rfl ?_
  refine T_bipush dX9_init_133 rfl ?_
  refine T_icmp_ge (tgt := 157) dX9_init_135 (by decide) (by decide) (by decide) (fun z => absurd z (by decide)) (fun _ => ?_)
  refine T_aload_n dX9_init_138 rfl ?_
  refine T_getR (r := 1) dX9_init_139 fd_X9_11 rfl (by decide) rfl (by rw [Mm_in m0]; decide) ?_
  refine T_iload_n dX9_init_142 rfl ?_
  refine C_new (bc := 17) (bs := 250) (n' := 63) dX9_init_143 kl_X9_9 rfl rfl (by decide) f0 ?_
  have f1 := fr_s (n' := 63) (show 62 ≤ 63 by omega) f0
  refine T_dup dX9_init_146 rfl ?_
  refine T_callI (M' := m_X8_init) (as := []) (rest := [vR 62, vI 7, vR 1]) (a := 62) (bc := 14) (bs := 178) dX9_init_147 mo_X8_init (Or.inr (by decide +kernel)) im_X8_init rfl rfl (Nat.le_of_ble_eq_true rfl) (Nat.le_of_ble_eq_true rfl) rfl rfl (Nat.le_of_ble_eq_true rfl) rfl (i_X8 (a := 62) (n := 63) (n' := 66) rfl (by decide) f1 rfl rfl (by decide) rfl (by decide) rfl (by decide) (by decide) (by decide) ?_)
  show T m_X9_init 150 [vR 0, vI 7] [vR 62, vI 7, vR 1] (some (14, 178)) _ Q
  have f2 := fr_s (n' := 66) (show 63 ≤ 66 by omega) f1
  have f3 := fr_c (a := 62) (k := 0) (show 62 < 66 by omega) f2
  have f4 := fr_c (a := 62) (k := 1) (show 62 < 66 by omega) f3
  have f5 := fr_c (a := 62) (k := 2) (show 62 < 66 by omega) f4
  have f6 := fr_c (a := 62) (k := 3) (show 62 < 66 by omega) f5
  have f7 := fr_c (a := 62) (k := 4) (show 62 < 66 by omega) f6
  refine C_aast (i := 7) dX9_init_150 (Or.inl ⟨rfl, rfl⟩) (by decide) rfl (by decide) rfl (by decide) (by decide) (by decide) ?_
  have f8 := fr_c (a := 1) (k := 7) (show 1 < 66 by omega) f7
  refine T_iinc dX9_init_151 (Nat.le_of_ble_eq_true rfl) rfl rfl (ls2 := [vR 0, vI 8]) rfl ?_
  refine T_goto (tgt := 132) dX9_init_154 (by decide) ?_
  exact kk f8 (by repeat (first | exact m0 | apply List.mem_cons_of_mem)) (by repeat (first | exact m1 | apply List.mem_cons_of_mem))
set_option maxRecDepth 4000 in
theorem c9_9 {D : List (Nat × Nat)} {Q : Option PV → HS → Prop} (f0 : Fr D 66) (m0 : (0, 0) ∈ D) (m1 : (0, 1) ∈ D) (kk : Fr ((1, 8) :: (66, 4) :: (66, 3) :: (66, 2) :: (66, 1) :: (66, 0) :: D) 70 → (0, 0) ∈ (1, 8) :: (66, 4) :: (66, 3) :: (66, 2) :: (66, 1) :: (66, 0) :: D → (0, 1) ∈ (1, 8) :: (66, 4) :: (66, 3) :: (66, 2) :: (66, 1) :: (66, 0) :: D → T m_X9_init 132 [vR 0, vI 9] [] (some (10, 101)) (70, SH, Mm ((1, 8) :: (66, 4) :: (66, 3) :: (66, 2) :: (66, 1) :: (66, 0) :: D)) Q) : T m_X9_init 132 [vR 0, vI 8] [] (some (14, 178)) (66, SH, Mm D) Q := by
  refine T_iload_n dX9_init_132 rfl ?_
  refine T_bipush dX9_init_133 rfl ?_
  refine T_icmp_ge (tgt := 157) dX9_init_135 (by decide) (by decide) (by decide) (fun z => absurd z (by decide)) (fun _ => ?_)
  refine T_aload_n dX9_init_138 rfl ?_
  refine T_getR (r := 1) dX9_init_139 fd_X9_11 rfl (by decide) rfl (by rw [Mm_in m0]; decide) ?_
  refine T_iload_n dX9_init_142 rfl ?_
  refine C_new (bc := 13) (bs := 173) (n' := 67) dX9_init_143 kl_X9_9 rfl rfl (by decide) f0 ?_
  have f1 := fr_s (n' := 67) (show 66 ≤ 67 by omega) f0
  refine T_dup dX9_init_146 rfl ?_
  refine T_callI (M' := m_X8_init) (as := []) (rest := [vR 66, vI 8, vR 1]) (a := 66) (bc := 10) (bs := 101) dX9_init_147 mo_X8_init (Or.inr (by decide +kernel)) im_X8_init rfl rfl (Nat.le_of_ble_eq_true rfl) (Nat.le_of_ble_eq_true rfl) rfl rfl (Nat.le_of_ble_eq_true rfl) rfl (i_X8 (a := 66) (n := 67) (n' := 70) rfl (by decide) f1 rfl rfl (by decide) rfl (by decide) rfl (by decide) (by decide) (by decide) ?_)
  show T m_X9_init 150 [vR 0, vI 8] [vR 66, vI 8, vR 1] (some (10, 101)) _ Q
  have f2 := fr_s (n' := 70) (show 67 ≤ 70 by omega) f1
  have f3 := fr_c (a := 66) (k := 0) (show 66 < 70 by omega) f2
  have f4 := fr_c (a := 66) (k := 1) (show 66 < 70 by omega) f3
  have f5 := fr_c (a := 66) (k := 2) (show 66 < 70 by omega) f4
  have f6 := fr_c (a := 66) (k := 3) (show 66 < 70 by omega) f5
  have f7 := fr_c (a := 66) (k := 4) (show 66 < 70 by omega) f6
  refine C_aast (i := 8) dX9_init_150 (Or.inl ⟨rfl, rfl⟩) (by decide) rfl (by decide) rfl (by decide) (by decide) (by decide) ?_
  have f8 := fr_c (a := 1) (k := 8) (show 1 < 70 by omega) f7
  refine T_iinc dX9_init_151 (Nat.le_of_ble_eq_true rfl) rfl rfl (ls2 := [vR 0, vI 9]) rfl ?_
  refine T_goto (tgt := 132) dX9_init_154 (by decide) ?_
  exact kk f8 (by repeat (first | exact m0 | apply List.mem_cons_of_mem)) (by repeat (first | exact m1 | apply List.mem_cons_of_mem))
set_option maxRecDepth 4000 in
theorem c9_10 {D : List (Nat × Nat)} {Q : Option PV → HS → Prop} (f0 : Fr D 70) (m0 : (0, 0) ∈ D) (m1 : (0, 1) ∈ D) (kk : Fr ((1, 9) :: (70, 4) :: (70, 3) :: (70, 2) :: (70, 1) :: (70, 0) :: D) 74 → (0, 0) ∈ (1, 9) :: (70, 4) :: (70, 3) :: (70, 2) :: (70, 1) :: (70, 0) :: D → (0, 1) ∈ (1, 9) :: (70, 4) :: (70, 3) :: (70, 2) :: (70, 1) :: (70, 0) :: D → T m_X9_init 132 [vR 0, vI 10] [] (some (6, 24)) (74, SH, Mm ((1, 9) :: (70, 4) :: (70, 3) :: (70, 2) :: (70, 1) :: (70, 0) :: D)) Q) : T m_X9_init 132 [vR 0, vI 9] [] (some (10, 101)) (70, SH, Mm D) Q := by
  refine T_iload_n dX9_init_132 rfl ?_
  refine T_bipush dX9_init_133 rfl ?_
  refine T_icmp_ge (tgt := 157) dX9_init_135 (by decide) (by decide) (by decide) (fun z => absurd z (by decide)) (fun _ => ?_)
  refine T_aload_n dX9_init_138 rfl ?_
  refine T_getR (r := 1) dX9_init_139 fd_X9_11 rfl (by decide) rfl (by rw [Mm_in m0]; decide) ?_
  refine T_iload_n dX9_init_142 rfl ?_
  refine C_new (bc := 9) (bs := 96) (n' := 71) dX9_init_143 kl_X9_9 rfl rfl (by decide) f0 ?_
  have f1 := fr_s (n' := 71) (show 70 ≤ 71 by omega) f0
  refine T_dup dX9_init_146 rfl ?_
  refine T_callI (M' := m_X8_init) (as := []) (rest := [vR 70, vI 9, vR 1]) (a := 70) (bc := 6) (bs := 24) dX9_init_147 mo_X8_init (Or.inr (by decide +kernel)) im_X8_init rfl rfl (Nat.le_of_ble_eq_true rfl) (Nat.le_of_ble_eq_true rfl) rfl rfl (Nat.le_of_ble_eq_true rfl) rfl (i_X8 (a := 70) (n := 71) (n' := 74) rfl (by decide) f1 rfl rfl (by decide) rfl (by decide) rfl (by decide) (by decide) (by decide) ?_)
  show T m_X9_init 150 [vR 0, vI 9] [vR 70, vI 9, vR 1] (some (6, 24)) _ Q
  have f2 := fr_s (n' := 74) (show 71 ≤ 74 by omega) f1
  have f3 := fr_c (a := 70) (k := 0) (show 70 < 74 by omega) f2
  have f4 := fr_c (a := 70) (k := 1) (show 70 < 74 by omega) f3
  have f5 := fr_c (a := 70) (k := 2) (show 70 < 74 by omega) f4
  have f6 := fr_c (a := 70) (k := 3) (show 70 < 74 by omega) f5
  have f7 := fr_c (a := 70) (k := 4) (show 70 < 74 by omega) f6
  refine C_aast (i := 9) dX9_init_150 (Or.inl ⟨rfl, rfl⟩) (by decide) rfl (by decide) rfl (by decide) (by decide) (by decide) ?_
  have f8 := fr_c (a := 1) (k := 9) (show 1 < 74 by omega) f7
  refine T_iinc dX9_init_151 (Nat.le_of_ble_eq_true rfl) rfl rfl (ls2 := [vR 0, vI 10]) rfl ?_
  refine T_goto (tgt := 132) dX9_init_154 (by decide) ?_
  exact kk f8 (by repeat (first | exact m0 | apply List.mem_cons_of_mem)) (by repeat (first | exact m1 | apply List.mem_cons_of_mem))
set_option maxRecDepth 4000 in
theorem c9_11 {D : List (Nat × Nat)} {Q : Option PV → HS → Prop} (f0 : Fr D 74) (m0 : (0, 0) ∈ D) (m1 : (0, 1) ∈ D) (kk : Fr (D) 74 → (0, 0) ∈ D → (0, 1) ∈ D → T m_X9_init 159 [vR 0, vI 0] [] (some (6, 24)) (74, SH, Mm (D)) Q) : T m_X9_init 132 [vR 0, vI 10] [] (some (6, 24)) (74, SH, Mm D) Q := by
  refine T_iload_n dX9_init_132 rfl ?_
  refine T_bipush dX9_init_133 rfl ?_
  refine T_icmp_ge (tgt := 157) dX9_init_135 (by decide) (by decide) (by decide) (fun _ => ?_) (fun z => absurd (by decide) z)
  refine T_iconst dX9_init_157 ?_
  refine T_istore_n dX9_init_158 (Nat.le_of_ble_eq_true rfl) rfl (ls2 := [vR 0, vI 0]) rfl ?_
  exact kk f0 (by repeat (first | exact m0 | apply List.mem_cons_of_mem)) (by repeat (first | exact m1 | apply List.mem_cons_of_mem))
set_option maxRecDepth 4000 in
theorem c9_12 {D : List (Nat × Nat)} {Q : Option PV → HS → Prop} (f0 : Fr D 74) (m0 : (0, 0) ∈ D) (m1 : (0, 1) ∈ D) (kk : Fr ((2, 0) :: (74, 3) :: (74, 2) :: (74, 1) :: (74, 0) :: D) 75 → (0, 0) ∈ (2, 0) :: (74, 3) :: (74, 2) :: (74, 1) :: (74, 0) :: D → (0, 1) ∈ (2, 0) :: (74, 3) :: (74, 2) :: (74, 1) :: (74, 0) :: D → T m_X9_init 159 [vR 0, vI 1] [] (some (5, 20)) (75, SH, Mm ((2, 0) :: (74, 3) :: (74, 2) :: (74, 1) :: (74, 0) :: D)) Q) : T m_X9_init 159 [vR 0, vI 0] [] (some (6, 24)) (74, SH, Mm D) Q := by
  refine T_iload_n dX9_init_159 rfl ?_
  refine T_bipush dX9_init_160 rfl ?_
  refine T_icmp_ge (tgt := 184) dX9_init_162 (by decide) (by decide) (by decide) (fun z => absurd z (by decide)) (fun _ => ?_)
  refine T_aload_n dX9_init_165 rfl ?_
  refine T_getR (r := 2) dX9_init_166 fd_X9_17 rfl (by decide) rfl (by rw [Mm_in m1]; decide) ?_
  refine T_iload_n dX9_init_169 rfl ?_
  refine C_new (bc := 5) (bs := 20) (n' := 75) dX9_init_170 kl_X9_15 rfl rfl (by decide) f0 ?_
  have f1 := fr_s (n' := 75) (show 74 ≤ 75 by omega) f0
  refine T_dup dX9_init_173 rfl ?_
  refine T_callI (M' := m_X3_init) (as := []) (rest := [vR 74, vI 0, vR 2]) (a := 74) (bc := 5) (bs := 20) dX9_init_174 mo_X3_init (Or.inr (by decide +kernel)) im_X3_init rfl rfl (Nat.le_of_ble_eq_true rfl) (Nat.le_of_ble_eq_true rfl) rfl rfl (Nat.le_of_ble_eq_true rfl) rfl (i_X3 (a := 74) (n := 75) (n' := 75) rfl (by decide) f1 rfl (by decide) (by decide) (by decide) (by decide) ?_)
  show T m_X9_init 177 [vR 0, vI 0] [vR 74, vI 0, vR 2] (some (5, 20)) _ Q
  have f2 := fr_s (n' := 75) (show 75 ≤ 75 by omega) f1
  have f3 := fr_c (a := 74) (k := 0) (show 74 < 75 by omega) f2
  have f4 := fr_c (a := 74) (k := 1) (show 74 < 75 by omega) f3
  have f5 := fr_c (a := 74) (k := 2) (show 74 < 75 by omega) f4
  have f6 := fr_c (a := 74) (k := 3) (show 74 < 75 by omega) f5
  refine C_aast (i := 0) dX9_init_177 (Or.inr ⟨rfl, rfl⟩) (by decide) rfl (by decide) rfl (by decide) (by decide) (by decide) ?_
  have f7 := fr_c (a := 2) (k := 0) (show 2 < 75 by omega) f6
  refine T_iinc dX9_init_178 (Nat.le_of_ble_eq_true rfl) rfl rfl (ls2 := [vR 0, vI 1]) rfl ?_
  refine T_goto (tgt := 159) dX9_init_181 (by decide) ?_
  exact kk f7 (by repeat (first | exact m0 | apply List.mem_cons_of_mem)) (by repeat (first | exact m1 | apply List.mem_cons_of_mem))
set_option maxRecDepth 4000 in
theorem c9_13 {D : List (Nat × Nat)} {Q : Option PV → HS → Prop} (f0 : Fr D 75) (m0 : (0, 0) ∈ D) (m1 : (0, 1) ∈ D) (kk : Fr ((2, 1) :: (75, 3) :: (75, 2) :: (75, 1) :: (75, 0) :: D) 76 → (0, 0) ∈ (2, 1) :: (75, 3) :: (75, 2) :: (75, 1) :: (75, 0) :: D → (0, 1) ∈ (2, 1) :: (75, 3) :: (75, 2) :: (75, 1) :: (75, 0) :: D → T m_X9_init 159 [vR 0, vI 2] [] (some (4, 16)) (76, SH, Mm ((2, 1) :: (75, 3) :: (75, 2) :: (75, 1) :: (75, 0) :: D)) Q) : T m_X9_init 159 [vR 0, vI 1] [] (some (5, 20)) (75, SH, Mm D) Q := by
  refine T_iload_n dX9_init_159 rfl ?_
  refine T_bipush dX9_init_160 rfl ?_
  refine T_icmp_ge (tgt := 184) dX9_init_162 (by decide) (by decide) (by decide) (fun z => absurd z (by decide)) (fun _ => ?_)
  refine T_aload_n dX9_init_165 rfl ?_
  refine T_getR (r := 2) dX9_init_166 fd_X9_17 rfl (by decide) rfl (by rw [Mm_in m1]; decide) ?_
  refine T_iload_n dX9_init_169 rfl ?_
  refine C_new (bc := 4) (bs := 16) (n' := 76) dX9_init_170 kl_X9_15 rfl rfl (by decide) f0 ?_
  have f1 := fr_s (n' := 76) (show 75 ≤ 76 by omega) f0
  refine T_dup dX9_init_173 rfl ?_
  refine T_callI (M' := m_X3_init) (as := []) (rest := [vR 75, vI 1, vR 2]) (a := 75) (bc := 4) (bs := 16) dX9_init_174 mo_X3_init (Or.inr (by decide +kernel)) im_X3_init rfl rfl (Nat.le_of_ble_eq_true rfl) (Nat.le_of_ble_eq_true rfl) rfl rfl (Nat.le_of_ble_eq_true rfl) rfl (i_X3 (a := 75) (n := 76) (n' := 76) rfl (by decide) f1 rfl (by decide) (by decide) (by decide) (by decide) ?_)
  show T m_X9_init 177 [vR 0, vI 1] [vR 75, vI 1, vR 2] (some (4, 16)) _ Q
  have f2 := fr_s (n' := 76) (show 76 ≤ 76 by omega) f1
  have f3 := fr_c (a := 75) (k := 0) (show 75 < 76 by omega) f2
  have f4 := fr_c (a := 75) (k := 1) (show 75 < 76 by omega) f3
  have f5 := fr_c (a := 75) (k := 2) (show 75 < 76 by omega) f4
  have f6 := fr_c (a := 75) (k := 3) (show 75 < 76 by omega) f5
  refine C_aast (i := 1) dX9_init_177 (Or.inr ⟨rfl, rfl⟩) (by decide) rfl (by decide) rfl (by decide) (by decide) (by decide) ?_
  have f7 := fr_c (a := 2) (k := 1) (show 2 < 76 by omega) f6
  refine T_iinc dX9_init_178 (Nat.le_of_ble_eq_true rfl) rfl rfl (ls2 := [vR 0, vI 2]) rfl ?_
  refine T_goto (tgt := 159) dX9_init_181 (by decide) ?_
  exact kk f7 (by repeat (first | exact m0 | apply List.mem_cons_of_mem)) (by repeat (first | exact m1 | apply List.mem_cons_of_mem))
set_option maxRecDepth 4000 in
theorem c9_14 {D : List (Nat × Nat)} {Q : Option PV → HS → Prop} (f0 : Fr D 76) (m0 : (0, 0) ∈ D) (m1 : (0, 1) ∈ D) (kk : Fr ((2, 2) :: (76, 3) :: (76, 2) :: (76, 1) :: (76, 0) :: D) 77 → (0, 0) ∈ (2, 2) :: (76, 3) :: (76, 2) :: (76, 1) :: (76, 0) :: D → (0, 1) ∈ (2, 2) :: (76, 3) :: (76, 2) :: (76, 1) :: (76, 0) :: D → T m_X9_init 159 [vR 0, vI 3] [] (some (3, 12)) (77, SH, Mm ((2, 2) :: (76, 3) :: (76, 2) :: (76, 1) :: (76, 0) :: D)) Q) : T m_X9_init 159 [vR 0, vI 2] [] (some (4, 16)) (76, SH, Mm D) Q := by
  refine T_iload_n dX9_init_159 rfl ?_
  refine T_bipush dX9_init_160 rfl ?_
  refine T_icmp_ge (tgt := 184) dX9_init_162 (by decide) (by decide) (by decide) (fun z => absurd z (by decide)) (fun _ => ?_)
  refine T_aload_n dX9_init_165 rfl ?_
  refine T_getR (r := 2) dX9_init_166 fd_X9_17 rfl (by decide) rfl (by rw [Mm_in m1]; decide) ?_
  refine T_iload_n dX9_init_169 rfl ?_
  refine C_new (bc := 3) (bs := 12) (n' := 77) dX9_init_170 kl_X9_15 rfl rfl (by decide) f0 ?_
  have f1 := fr_s (n' := 77) (show 76 ≤ 77 by omega) f0
  refine T_dup dX9_init_173 rfl ?_
  refine T_callI (M' := m_X3_init) (as := []) (rest := [vR 76, vI 2, vR 2]) (a := 76) (bc := 3) (bs := 12) dX9_init_174 mo_X3_init (Or.inr (by decide +kernel)) im_X3_init rfl rfl (Nat.le_of_ble_eq_true rfl) (Nat.le_of_ble_eq_true rfl) rfl rfl (Nat.le_of_ble_eq_true rfl) rfl (i_X3 (a := 76) (n := 77) (n' := 77) rfl (by decide) f1 rfl (by decide) (by decide) (by decide) (by decide) ?_)
  show T m_X9_init 177 [vR 0, vI 2] [vR 76, vI 2, vR 2] (some (3, 12)) _ Q
  have f2 := fr_s (n' := 77) (show 77 ≤ 77 by omega) f1
  have f3 := fr_c (a := 76) (k := 0) (show 76 < 77 by omega) f2
  have f4 := fr_c (a := 76) (k := 1) (show 76 < 77 by omega) f3
  have f5 := fr_c (a := 76) (k := 2) (show 76 < 77 by omega) f4
  have f6 := fr_c (a := 76) (k := 3) (show 76 < 77 by omega) f5
  refine C_aast (i := 2) dX9_init_177 (Or.inr ⟨rfl, rfl⟩) (by decide) rfl (by decide) rfl (by decide) (by decide) (by decide) ?_
  have f7 := fr_c (a := 2) (k := 2) (show 2 < 77 by omega) f6
  refine T_iinc dX9_init_178 (Nat.le_of_ble_eq_true rfl) rfl rfl (ls2 := [vR 0, vI 3]) rfl ?_
  refine T_goto (tgt := 159) dX9_init_181 (by decide) ?_
  exact kk f7 (by repeat (first | exact m0 | apply List.mem_cons_of_mem)) (by repeat (first | exact m1 | apply List.mem_cons_of_mem))
set_option maxRecDepth 4000 in
theorem c9_15 {D : List (Nat × Nat)} {Q : Option PV → HS → Prop} (f0 : Fr D 77) (m0 : (0, 0) ∈ D) (m1 : (0, 1) ∈ D) (kk : Fr ((2, 3) :: (77, 3) :: (77, 2) :: (77, 1) :: (77, 0) :: D) 78 → (0, 0) ∈ (2, 3) :: (77, 3) :: (77, 2) :: (77, 1) :: (77, 0) :: D → (0, 1) ∈ (2, 3) :: (77, 3) :: (77, 2) :: (77, 1) :: (77, 0) :: D → T m_X9_init 159 [vR 0, vI 4] [] (some (2, 8)) (78, SH, Mm ((2, 3) :: (77, 3) :: (77, 2) :: (77, 1) :: (77, 0) :: D)) Q) : T m_X9_init 159 [vR 0, vI 3] [] (some (3, 12)) (77, SH, Mm D) Q := by
  refine T_iload_n dX9_init_159 rfl ?_
  refine T_bipush dX9_init_160 rfl ?_
  refine T_icmp_ge (tgt := 184) dX9_init_162 (by decide) (by decide) (by decide) (fun z => absurd z (by decide)) (fun _ => ?_)
  refine T_aload_n dX9_init_165 rfl ?_
  refine T_getR (r := 2) dX9_init_166 fd_X9_17 rfl (by decide) rfl (by rw [Mm_in m1]; decide) ?_
  refine T_iload_n dX9_init_169 rfl ?_
  refine C_new (bc := 2) (bs := 8) (n' := 78) dX9_init_170 kl_X9_15 rfl rfl (by decide) f0 ?_
  have f1 := fr_s (n' := 78) (show 77 ≤ 78 by omega) f0
  refine T_dup dX9_init_173 rfl ?_
  refine T_callI (M' := m_X3_init) (as := []) (rest := [vR 77, vI 3, vR 2]) (a := 77) (bc := 2) (bs := 8) dX9_init_174 mo_X3_init (Or.inr (by decide +kernel)) im_X3_init rfl rfl (Nat.le_of_ble_eq_true rfl) (Nat.le_of_ble_eq_true rfl) rfl rfl (Nat.le_of_ble_eq_true rfl) rfl (i_X3 (a := 77) (n := 78) (n' := 78) rfl (by decide) f1 rfl (by decide) (by decide) (by decide) (by decide) ?_)
  show T m_X9_init 177 [vR 0, vI 3] [vR 77, vI 3, vR 2] (some (2, 8)) _ Q
  have f2 := fr_s (n' := 78) (show 78 ≤ 78 by omega) f1
  have f3 := fr_c (a := 77) (k := 0) (show 77 < 78 by omega) f2
  have f4 := fr_c (a := 77) (k := 1) (show 77 < 78 by omega) f3
  have f5 := fr_c (a := 77) (k := 2) (show 77 < 78 by omega) f4
  have f6 := fr_c (a := 77) (k := 3) (show 77 < 78 by omega) f5
  refine C_aast (i := 3) dX9_init_177 (Or.inr ⟨rfl, rfl⟩) (by decide) rfl (by decide) rfl (by decide) (by decide) (by decide) ?_
  have f7 := fr_c (a := 2) (k := 3) (show 2 < 78 by omega) f6
  refine T_iinc dX9_init_178 (Nat.le_of_ble_eq_true rfl) rfl rfl (ls2 := [vR 0, vI 4]) rfl ?_
  refine T_goto (tgt := 159) dX9_init_181 (by decide) ?_
  exact kk f7 (by repeat (first | exact m0 | apply List.mem_cons_of_mem)) (by repeat (first | exact m1 | apply List.mem_cons_of_mem))
set_option maxRecDepth 4000 in
theorem c9_16 {D : List (Nat × Nat)} {Q : Option PV → HS → Prop} (f0 : Fr D 78) (m0 : (0, 0) ∈ D) (m1 : (0, 1) ∈ D) (kk : Fr ((2, 4) :: (78, 3) :: (78, 2) :: (78, 1) :: (78, 0) :: D) 79 → (0, 0) ∈ (2, 4) :: (78, 3) :: (78, 2) :: (78, 1) :: (78, 0) :: D → (0, 1) ∈ (2, 4) :: (78, 3) :: (78, 2) :: (78, 1) :: (78, 0) :: D → T m_X9_init 159 [vR 0, vI 5] [] (some (1, 4)) (79, SH, Mm ((2, 4) :: (78, 3) :: (78, 2) :: (78, 1) :: (78, 0) :: D)) Q) : T m_X9_init 159 [vR 0, vI 4] [] (some (2, 8)) (78, SH, Mm D) Q := by
  refine T_iload_n dX9_init_159 rfl ?_
  refine T_bipush dX9_init_160 rfl ?_
  refine T_icmp_ge (tgt := 184) dX9_init_162 (by decide) (by decide) (by decide) (fun z => absurd z (by decide)) (fun _ => ?_)
  refine T_aload_n dX9_init_165 rfl ?_
  refine T_getR (r := 2) dX9_init_166 fd_X9_17 rfl (by decide) rfl (by rw [Mm_in m1]; decide) ?_
  refine T_iload_n dX9_init_169 rfl ?_
  refine C_new (bc := 1) (bs := 4) (n' := 79) dX9_init_170 kl_X9_15 rfl rfl (by decide) f0 ?_
  have f1 := fr_s (n' := 79) (show 78 ≤ 79 by omega) f0
  refine T_dup dX9_init_173 rfl ?_
  refine T_callI (M' := m_X3_init) (as := []) (rest := [vR 78, vI 4, vR 2]) (a := 78) (bc := 1) (bs := 4) dX9_init_174 mo_X3_init (Or.inr (by decide +kernel)) im_X3_init rfl rfl (Nat.le_of_ble_eq_true rfl) (Nat.le_of_ble_eq_true rfl) rfl rfl (Nat.le_of_ble_eq_true rfl) rfl (i_X3 (a := 78) (n := 79) (n' := 79) rfl (by decide) f1 rfl (by decide) (by decide) (by decide) (by decide) ?_)
  show T m_X9_init 177 [vR 0, vI 4] [vR 78, vI 4, vR 2] (some (1, 4)) _ Q
  have f2 := fr_s (n' := 79) (show 79 ≤ 79 by omega) f1
  have f3 := fr_c (a := 78) (k := 0) (show 78 < 79 by omega) f2
  have f4 := fr_c (a := 78) (k := 1) (show 78 < 79 by omega) f3
  have f5 := fr_c (a := 78) (k := 2) (show 78 < 79 by omega) f4
  have f6 := fr_c (a := 78) (k := 3) (show 78 < 79 by omega) f5
  refine C_aast (i := 4) dX9_init_177 (Or.inr ⟨rfl, rfl⟩) (by decide) rfl (by decide) rfl (by decide) (by decide) (by decide) ?_
  have f7 := fr_c (a := 2) (k := 4) (show 2 < 79 by omega) f6
  refine T_iinc dX9_init_178 (Nat.le_of_ble_eq_true rfl) rfl rfl (ls2 := [vR 0, vI 5]) rfl ?_
  refine T_goto (tgt := 159) dX9_init_181 (by decide) ?_
  exact kk f7 (by repeat (first | exact m0 | apply List.mem_cons_of_mem)) (by repeat (first | exact m1 | apply List.mem_cons_of_mem))
set_option maxRecDepth 4000 in
theorem c9_17 {D : List (Nat × Nat)} {Q : Option PV → HS → Prop} (f0 : Fr D 79) (m0 : (0, 0) ∈ D) (m1 : (0, 1) ∈ D) (kk : Fr ((2, 5) :: (79, 3) :: (79, 2) :: (79, 1) :: (79, 0) :: D) 80 → (0, 0) ∈ (2, 5) :: (79, 3) :: (79, 2) :: (79, 1) :: (79, 0) :: D → (0, 1) ∈ (2, 5) :: (79, 3) :: (79, 2) :: (79, 1) :: (79, 0) :: D → T m_X9_init 159 [vR 0, vI 6] [] (some (0, 0)) (80, SH, Mm ((2, 5) :: (79, 3) :: (79, 2) :: (79, 1) :: (79, 0) :: D)) Q) : T m_X9_init 159 [vR 0, vI 5] [] (some (1, 4)) (79, SH, Mm D) Q := by
  refine T_iload_n dX9_init_159 rfl ?_
  refine T_bipush dX9_init_160 rfl ?_
  refine T_icmp_ge (tgt := 184) dX9_init_162 (by decide) (by decide) (by decide) (fun z => absurd z (by decide)) (fun _ => ?_)
  refine T_aload_n dX9_init_165 rfl ?_
  refine T_getR (r := 2) dX9_init_166 fd_X9_17 rfl (by decide) rfl (by rw [Mm_in m1]; decide) ?_
  refine T_iload_n dX9_init_169 rfl ?_
  refine C_new (bc := 0) (bs := 0) (n' := 80) dX9_init_170 kl_X9_15 rfl rfl (by decide) f0 ?_
  have f1 := fr_s (n' := 80) (show 79 ≤ 80 by omega) f0
  refine T_dup dX9_init_173 rfl ?_
  refine T_callI (M' := m_X3_init) (as := []) (rest := [vR 79, vI 5, vR 2]) (a := 79) (bc := 0) (bs := 0) dX9_init_174 mo_X3_init (Or.inr (by decide +kernel)) im_X3_init rfl rfl (Nat.le_of_ble_eq_true rfl) (Nat.le_of_ble_eq_true rfl) rfl rfl (Nat.le_of_ble_eq_true rfl) rfl (i_X3 (a := 79) (n := 80) (n' := 80) rfl (by decide) f1 rfl (by decide) (by decide) (by decide) (by decide) ?_)
  show T m_X9_init 177 [vR 0, vI 5] [vR 79, vI 5, vR 2] (some (0, 0)) _ Q
  have f2 := fr_s (n' := 80) (show 80 ≤ 80 by omega) f1
  have f3 := fr_c (a := 79) (k := 0) (show 79 < 80 by omega) f2
  have f4 := fr_c (a := 79) (k := 1) (show 79 < 80 by omega) f3
  have f5 := fr_c (a := 79) (k := 2) (show 79 < 80 by omega) f4
  have f6 := fr_c (a := 79) (k := 3) (show 79 < 80 by omega) f5
  refine C_aast (i := 5) dX9_init_177 (Or.inr ⟨rfl, rfl⟩) (by decide) rfl (by decide) rfl (by decide) (by decide) (by decide) ?_
  have f7 := fr_c (a := 2) (k := 5) (show 2 < 80 by omega) f6
  refine T_iinc dX9_init_178 (Nat.le_of_ble_eq_true rfl) rfl rfl (ls2 := [vR 0, vI 6]) rfl ?_
  refine T_goto (tgt := 159) dX9_init_181 (by decide) ?_
  exact kk f7 (by repeat (first | exact m0 | apply List.mem_cons_of_mem)) (by repeat (first | exact m1 | apply List.mem_cons_of_mem))
set_option maxRecDepth 4000 in
theorem i_X9 {D : List (Nat × Nat)} {Q : Option PV → HS → Prop} (f0 : Fr D 1) (kq : Q none (80, SH, Mm ((2, 5) :: (79, 3) :: (79, 2) :: (79, 1) :: (79, 0) :: (2, 4) :: (78, 3) :: (78, 2) :: (78, 1) :: (78, 0) :: (2, 3) :: (77, 3) :: (77, 2) :: (77, 1) :: (77, 0) :: (2, 2) :: (76, 3) :: (76, 2) :: (76, 1) :: (76, 0) :: (2, 1) :: (75, 3) :: (75, 2) :: (75, 1) :: (75, 0) :: (2, 0) :: (74, 3) :: (74, 2) :: (74, 1) :: (74, 0) :: (1, 9) :: (70, 4) :: (70, 3) :: (70, 2) :: (70, 1) :: (70, 0) :: (1, 8) :: (66, 4) :: (66, 3) :: (66, 2) :: (66, 1) :: (66, 0) :: (1, 7) :: (62, 4) :: (62, 3) :: (62, 2) :: (62, 1) :: (62, 0) :: (1, 6) :: (58, 4) :: (58, 3) :: (58, 2) :: (58, 1) :: (58, 0) :: (1, 5) :: (54, 4) :: (54, 3) :: (54, 2) :: (54, 1) :: (54, 0) :: (1, 4) :: (50, 4) :: (50, 3) :: (50, 2) :: (50, 1) :: (50, 0) :: (1, 3) :: (46, 4) :: (46, 3) :: (46, 2) :: (46, 1) :: (46, 0) :: (1, 2) :: (42, 4) :: (42, 3) :: (42, 2) :: (42, 1) :: (42, 0) :: (1, 1) :: (38, 4) :: (38, 3) :: (38, 2) :: (38, 1) :: (38, 0) :: (1, 0) :: (34, 4) :: (34, 3) :: (34, 2) :: (34, 1) :: (34, 0) :: (0, 13) :: (0, 12) :: (0, 11) :: (0, 10) :: (0, 9) :: (32, 0) :: (0, 8) :: (29, 2) :: (29, 1) :: (29, 0) :: (0, 7) :: (13, 14) :: (13, 13) :: (13, 12) :: (13, 11) :: (13, 10) :: (27, 0) :: (13, 9) :: (25, 0) :: (13, 8) :: (13, 7) :: (13, 6) :: (13, 5) :: (13, 4) :: (13, 3) :: (13, 2) :: (13, 1) :: (16, 0) :: (13, 0) :: (14, 0) :: (0, 6) :: (9, 3) :: (9, 2) :: (9, 1) :: (9, 0) :: (0, 5) :: (6, 2) :: (6, 1) :: (6, 0) :: (0, 4) :: (5, 2) :: (5, 1) :: (5, 0) :: (0, 3) :: (4, 2) :: (4, 1) :: (4, 0) :: (0, 2) :: (3, 3) :: (3, 2) :: (3, 1) :: (3, 0) :: (0, 1) :: (0, 0) :: D))) : Con m_X9_init [vR 0] (1, SH, Mm D) Q := by
  refine Con_of (by decide) rfl rfl (fun _ => rfl) (Nat.le_of_ble_eq_true rfl) ?_
  show T m_X9_init 0 [vR 0, vU] [] (some (79, 5990)) _ Q
  refine c9_0 f0 (fun f m0 m1 => ?_)
  refine c9_1 f m0 m1 (fun f m0 m1 => ?_)
  refine c9_2 f m0 m1 (fun f m0 m1 => ?_)
  refine c9_3 f m0 m1 (fun f m0 m1 => ?_)
  refine c9_4 f m0 m1 (fun f m0 m1 => ?_)
  refine c9_5 f m0 m1 (fun f m0 m1 => ?_)
  refine c9_6 f m0 m1 (fun f m0 m1 => ?_)
  refine c9_7 f m0 m1 (fun f m0 m1 => ?_)
  refine c9_8 f m0 m1 (fun f m0 m1 => ?_)
  refine c9_9 f m0 m1 (fun f m0 m1 => ?_)
  refine c9_10 f m0 m1 (fun f m0 m1 => ?_)
  refine c9_11 f m0 m1 (fun f m0 m1 => ?_)
  refine c9_12 f m0 m1 (fun f m0 m1 => ?_)
  refine c9_13 f m0 m1 (fun f m0 m1 => ?_)
  refine c9_14 f m0 m1 (fun f m0 m1 => ?_)
  refine c9_15 f m0 m1 (fun f m0 m1 => ?_)
  refine c9_16 f m0 m1 (fun f m0 m1 => ?_)
  refine c9_17 f m0 m1 (fun f m0 m1 => ?_)
  refine T_iload_n dX9_init_159 rfl ?_
  refine T_bipush dX9_init_160 rfl ?_
  refine T_icmp_ge (tgt := 184) dX9_init_162 (by decide) (by decide) (by decide) (fun _ => ?_) (fun z => absurd (by decide) z)
  exact T_vret dX9_init_184 rfl (Or.inl (fun z => nomatch z)) kq
theorem kl_L_10 : Cls RL 10 10 32 := ⟨RX10, TX10, rfl, by decide, inX10, tyX10_ok, cl_L_10, ist_X10, ini_X10, by decide⟩
set_option maxRecDepth 4000 in
theorem i_X10 {D : List (Nat × Nat)} {Q : Option PV → HS → Prop} (f0 : Fr D 81) (kq : Q none (101, SH, Mm ((80, 31) :: (80, 28) :: (80, 27) :: (80, 26) :: (80, 25) :: (80, 24) :: (80, 23) :: (80, 22) :: (80, 21) :: (80, 20) :: (80, 19) :: (80, 18) :: (80, 16) :: (80, 12) :: (80, 11) :: (80, 4) :: (80, 3) :: (80, 2) :: (80, 1) :: (80, 0) :: D))) : Con m_X10_init [vR 80] (81, SH, Mm D) Q := by
  refine Con_of (by decide) rfl rfl (fun _ => rfl) (Nat.le_of_ble_eq_true rfl) ?_
  show T m_X10_init 0 [vR 80] [] (some (20, 10168)) _ Q
  refine T_aload_n dX10_init_0 rfl ?_
  refine T_oinit dX10_init_1 ml_X10_1 (Nat.le_of_ble_eq_true rfl) (Nat.le_of_ble_eq_true rfl) ?_
  refine T_aload_n dX10_init_4 rfl ?_
  refine T_bipush dX10_init_5 rfl ?_
  refine C_newarr (kd := 20) (len := 10) (bc := 19) (bs := 10158) (n' := 82) dX10_init_7 (Or.inl ⟨rfl, rfl⟩) (by decide) rfl rfl f0 ?_
  have f1 := fr_s (n' := 82) (show 81 ≤ 82 by omega) f0
  refine C_putR dX10_init_9 fd_X10_7 rfl (fun _ => ⟨rfl, rfl⟩) (by decide) rfl (by decide) ?_
  have f2 := fr_c (a := 80) (k := 0) (show 80 < 82 by omega) f1
  refine T_aload_n dX10_init_12 rfl ?_
  refine T_sipush dX10_init_13 rfl ?_
  refine C_newarr (kd := 20) (len := 240) (bc := 18) (bs := 9918) (n' := 83) dX10_init_16 (Or.inl ⟨rfl, rfl⟩) (by decide) rfl rfl f2 ?_
  have f3 := fr_s (n' := 83) (show 82 ≤ 83 by omega) f2
  refine C_putR dX10_init_18 fd_X10_13 rfl (fun _ => ⟨rfl, rfl⟩) (by decide) rfl (by decide) ?_
  have f4 := fr_c (a := 80) (k := 1) (show 80 < 83 by omega) f3
  refine T_aload_n dX10_init_21 rfl ?_
  refine T_sipush dX10_init_22 rfl ?_
  refine C_newarr (kd := 20) (len := 240) (bc := 17) (bs := 9678) (n' := 84) dX10_init_25 (Or.inl ⟨rfl, rfl⟩) (by decide) rfl rfl f4 ?_
  have f5 := fr_s (n' := 84) (show 83 ≤ 84 by omega) f4
  refine C_putR dX10_init_27 fd_X10_16 rfl (fun _ => ⟨rfl, rfl⟩) (by decide) rfl (by decide) ?_
  have f6 := fr_c (a := 80) (k := 2) (show 80 < 84 by omega) f5
  refine T_aload_n dX10_init_30 rfl ?_
  refine T_sipush dX10_init_31 rfl ?_
  refine C_newarr (kd := 20) (len := 240) (bc := 16) (bs := 9438) (n' := 85) dX10_init_34 (Or.inl ⟨rfl, rfl⟩) (by decide) rfl rfl f6 ?_
  have f7 := fr_s (n' := 85) (show 84 ≤ 85 by omega) f6
  refine C_putR dX10_init_36 fd_X10_19 rfl (fun _ => ⟨rfl, rfl⟩) (by decide) rfl (by decide) ?_
  have f8 := fr_c (a := 80) (k := 3) (show 80 < 85 by omega) f7
  refine T_aload_n dX10_init_39 rfl ?_
  refine T_bipush dX10_init_40 rfl ?_
  refine C_newarr (kd := 20) (len := 10) (bc := 15) (bs := 9428) (n' := 86) dX10_init_42 (Or.inl ⟨rfl, rfl⟩) (by decide) rfl rfl f8 ?_
  have f9 := fr_s (n' := 86) (show 85 ≤ 86 by omega) f8
  refine C_putR dX10_init_44 fd_X10_22 rfl (fun _ => ⟨rfl, rfl⟩) (by decide) rfl (by decide) ?_
  have f10 := fr_c (a := 80) (k := 4) (show 80 < 86 by omega) f9
  refine T_aload_n dX10_init_47 rfl ?_
  refine T_sipush dX10_init_48 rfl ?_
  refine C_newarr (kd := 20) (len := 200) (bc := 14) (bs := 9228) (n' := 87) dX10_init_51 (Or.inl ⟨rfl, rfl⟩) (by decide) rfl rfl f10 ?_
  have f11 := fr_s (n' := 87) (show 86 ≤ 87 by omega) f10
  refine C_putR dX10_init_53 fd_X10_25 rfl (fun _ => ⟨rfl, rfl⟩) (by decide) rfl (by decide) ?_
  have f12 := fr_c (a := 80) (k := 11) (show 80 < 87 by omega) f11
  refine T_aload_n dX10_init_56 rfl ?_
  refine T_sipush dX10_init_57 rfl ?_
  refine C_newarr (kd := 20) (len := 200) (bc := 13) (bs := 9028) (n' := 88) dX10_init_60 (Or.inl ⟨rfl, rfl⟩) (by decide) rfl rfl f12 ?_
  have f13 := fr_s (n' := 88) (show 87 ≤ 88 by omega) f12
  refine C_putR dX10_init_62 fd_X10_28 rfl (fun _ => ⟨rfl, rfl⟩) (by decide) rfl (by decide) ?_
  have f14 := fr_c (a := 80) (k := 12) (show 80 < 88 by omega) f13
  refine T_aload_n dX10_init_65 rfl ?_
  refine T_sipush dX10_init_66 rfl ?_
  refine C_newarr (kd := 20) (len := 1440) (bc := 12) (bs := 7588) (n' := 89) dX10_init_69 (Or.inl ⟨rfl, rfl⟩) (by decide) rfl rfl f14 ?_
  have f15 := fr_s (n' := 89) (show 88 ≤ 89 by omega) f14
  refine C_putR dX10_init_71 fd_X10_31 rfl (fun _ => ⟨rfl, rfl⟩) (by decide) rfl (by decide) ?_
  have f16 := fr_c (a := 80) (k := 16) (show 80 < 89 by omega) f15
  refine T_aload_n dX10_init_74 rfl ?_
  refine T_sipush dX10_init_75 rfl ?_
  refine C_newarr (kd := 20) (len := 3000) (bc := 11) (bs := 4588) (n' := 90) dX10_init_78 (Or.inl ⟨rfl, rfl⟩) (by decide) rfl rfl f16 ?_
  have f17 := fr_s (n' := 90) (show 89 ≤ 90 by omega) f16
  refine C_putR dX10_init_80 fd_X10_34 rfl (fun _ => ⟨rfl, rfl⟩) (by decide) rfl (by decide) ?_
  have f18 := fr_c (a := 80) (k := 18) (show 80 < 90 by omega) f17
  refine T_aload_n dX10_init_83 rfl ?_
  refine T_sipush dX10_init_84 rfl ?_
  refine C_newarr (kd := 22) (len := 500) (bc := 10) (bs := 4088) (n' := 91) dX10_init_87 (Or.inr (Or.inr ⟨rfl, rfl⟩)) (by decide) rfl rfl f18 ?_
  have f19 := fr_s (n' := 91) (show 90 ≤ 91 by omega) f18
  refine C_putR dX10_init_89 fd_X10_37 rfl (fun _ => ⟨rfl, rfl⟩) (by decide) rfl (by decide) ?_
  have f20 := fr_c (a := 80) (k := 19) (show 80 < 91 by omega) f19
  refine T_aload_n dX10_init_92 rfl ?_
  refine T_sipush dX10_init_93 rfl ?_
  refine C_newarr (kd := 20) (len := 500) (bc := 9) (bs := 3588) (n' := 92) dX10_init_96 (Or.inl ⟨rfl, rfl⟩) (by decide) rfl rfl f20 ?_
  have f21 := fr_s (n' := 92) (show 91 ≤ 92 by omega) f20
  refine C_putR dX10_init_98 fd_X10_41 rfl (fun _ => ⟨rfl, rfl⟩) (by decide) rfl (by decide) ?_
  have f22 := fr_c (a := 80) (k := 20) (show 80 < 92 by omega) f21
  refine T_aload_n dX10_init_101 rfl ?_
  refine T_sipush dX10_init_102 rfl ?_
  refine C_newarr (kd := 20) (len := 500) (bc := 8) (bs := 3088) (n' := 93) dX10_init_105 (Or.inl ⟨rfl, rfl⟩) (by decide) rfl rfl f22 ?_
  have f23 := fr_s (n' := 93) (show 92 ≤ 93 by omega) f22
  refine C_putR dX10_init_107 fd_X10_44 rfl (fun _ => ⟨rfl, rfl⟩) (by decide) rfl (by decide) ?_
  have f24 := fr_c (a := 80) (k := 21) (show 80 < 93 by omega) f23
  refine T_aload_n dX10_init_110 rfl ?_
  refine T_sipush dX10_init_111 rfl ?_
  refine C_newarr (kd := 20) (len := 500) (bc := 7) (bs := 2588) (n' := 94) dX10_init_114 (Or.inl ⟨rfl, rfl⟩) (by decide) rfl rfl f24 ?_
  have f25 := fr_s (n' := 94) (show 93 ≤ 94 by omega) f24
  refine C_putR dX10_init_116 fd_X10_47 rfl (fun _ => ⟨rfl, rfl⟩) (by decide) rfl (by decide) ?_
  have f26 := fr_c (a := 80) (k := 22) (show 80 < 94 by omega) f25
  refine T_aload_n dX10_init_119 rfl ?_
  refine T_sipush dX10_init_120 rfl ?_
  refine C_newarr (kd := 20) (len := 2500) (bc := 6) (bs := 88) (n' := 95) dX10_init_123 (Or.inl ⟨rfl, rfl⟩) (by decide) rfl rfl f26 ?_
  have f27 := fr_s (n' := 95) (show 94 ≤ 95 by omega) f26
  refine C_putR dX10_init_125 fd_X10_50 rfl (fun _ => ⟨rfl, rfl⟩) (by decide) rfl (by decide) ?_
  have f28 := fr_c (a := 80) (k := 23) (show 80 < 95 by omega) f27
  refine T_aload_n dX10_init_128 rfl ?_
  refine T_iconst dX10_init_129 ?_
  refine C_newarr (kd := 20) (len := 5) (bc := 5) (bs := 83) (n' := 96) dX10_init_130 (Or.inl ⟨rfl, rfl⟩) (by decide) rfl rfl f28 ?_
  have f29 := fr_s (n' := 96) (show 95 ≤ 96 by omega) f28
  refine C_putR dX10_init_132 fd_X10_53 rfl (fun _ => ⟨rfl, rfl⟩) (by decide) rfl (by decide) ?_
  have f30 := fr_c (a := 80) (k := 24) (show 80 < 96 by omega) f29
  refine T_aload_n dX10_init_135 rfl ?_
  refine T_iconst dX10_init_136 ?_
  refine C_newarr (kd := 20) (len := 5) (bc := 4) (bs := 78) (n' := 97) dX10_init_137 (Or.inl ⟨rfl, rfl⟩) (by decide) rfl rfl f30 ?_
  have f31 := fr_s (n' := 97) (show 96 ≤ 97 by omega) f30
  refine C_putR dX10_init_139 fd_X10_56 rfl (fun _ => ⟨rfl, rfl⟩) (by decide) rfl (by decide) ?_
  have f32 := fr_c (a := 80) (k := 25) (show 80 < 97 by omega) f31
  refine T_aload_n dX10_init_142 rfl ?_
  refine T_bipush dX10_init_143 rfl ?_
  refine C_newarr (kd := 20) (len := 6) (bc := 3) (bs := 72) (n' := 98) dX10_init_145 (Or.inl ⟨rfl, rfl⟩) (by decide) rfl rfl f32 ?_
  have f33 := fr_s (n' := 98) (show 97 ≤ 98 by omega) f32
  refine C_putR dX10_init_147 fd_X10_59 rfl (fun _ => ⟨rfl, rfl⟩) (by decide) rfl (by decide) ?_
  have f34 := fr_c (a := 80) (k := 26) (show 80 < 98 by omega) f33
  refine T_aload_n dX10_init_150 rfl ?_
  refine T_bipush dX10_init_151 rfl ?_
  refine C_newarr (kd := 20) (len := 24) (bc := 2) (bs := 48) (n' := 99) dX10_init_153 (Or.inl ⟨rfl, rfl⟩) (by decide) rfl rfl f34 ?_
  have f35 := fr_s (n' := 99) (show 98 ≤ 99 by omega) f34
  refine C_putR dX10_init_155 fd_X10_62 rfl (fun _ => ⟨rfl, rfl⟩) (by decide) rfl (by decide) ?_
  have f36 := fr_c (a := 80) (k := 27) (show 80 < 99 by omega) f35
  refine T_aload_n dX10_init_158 rfl ?_
  refine T_bipush dX10_init_159 rfl ?_
  refine C_newarr (kd := 20) (len := 24) (bc := 1) (bs := 24) (n' := 100) dX10_init_161 (Or.inl ⟨rfl, rfl⟩) (by decide) rfl rfl f36 ?_
  have f37 := fr_s (n' := 100) (show 99 ≤ 100 by omega) f36
  refine C_putR dX10_init_163 fd_X10_65 rfl (fun _ => ⟨rfl, rfl⟩) (by decide) rfl (by decide) ?_
  have f38 := fr_c (a := 80) (k := 28) (show 80 < 100 by omega) f37
  refine T_aload_n dX10_init_166 rfl ?_
  refine T_bipush dX10_init_167 rfl ?_
  refine C_newarr (kd := 20) (len := 24) (bc := 0) (bs := 0) (n' := 101) dX10_init_169 (Or.inl ⟨rfl, rfl⟩) (by decide) rfl rfl f38 ?_
  have f39 := fr_s (n' := 101) (show 100 ≤ 101 by omega) f38
  refine C_putR dX10_init_171 fd_X10_68 rfl (fun _ => ⟨rfl, rfl⟩) (by decide) rfl (by decide) ?_
  have f40 := fr_c (a := 80) (k := 31) (show 80 < 101 by omega) f39
  exact T_vret dX10_init_174 rfl (Or.inl (fun z => nomatch z)) kq
def dAll : List (Nat × Nat) := [(80, 31), (80, 28), (80, 27), (80, 26), (80, 25), (80, 24), (80, 23), (80, 22), (80, 21), (80, 20), (80, 19), (80, 18), (80, 16), (80, 12), (80, 11), (80, 4), (80, 3), (80, 2), (80, 1), (80, 0), (2, 5), (79, 3), (79, 2), (79, 1), (79, 0), (2, 4), (78, 3), (78, 2), (78, 1), (78, 0), (2, 3), (77, 3), (77, 2), (77, 1), (77, 0), (2, 2), (76, 3), (76, 2), (76, 1), (76, 0), (2, 1), (75, 3), (75, 2), (75, 1), (75, 0), (2, 0), (74, 3), (74, 2), (74, 1), (74, 0), (1, 9), (70, 4), (70, 3), (70, 2), (70, 1), (70, 0), (1, 8), (66, 4), (66, 3), (66, 2), (66, 1), (66, 0), (1, 7), (62, 4), (62, 3), (62, 2), (62, 1), (62, 0), (1, 6), (58, 4), (58, 3), (58, 2), (58, 1), (58, 0), (1, 5), (54, 4), (54, 3), (54, 2), (54, 1), (54, 0), (1, 4), (50, 4), (50, 3), (50, 2), (50, 1), (50, 0), (1, 3), (46, 4), (46, 3), (46, 2), (46, 1), (46, 0), (1, 2), (42, 4), (42, 3), (42, 2), (42, 1), (42, 0), (1, 1), (38, 4), (38, 3), (38, 2), (38, 1), (38, 0), (1, 0), (34, 4), (34, 3), (34, 2), (34, 1), (34, 0), (0, 13), (0, 12), (0, 11), (0, 10), (0, 9), (32, 0), (0, 8), (29, 2), (29, 1), (29, 0), (0, 7), (13, 14), (13, 13), (13, 12), (13, 11), (13, 10), (27, 0), (13, 9), (25, 0), (13, 8), (13, 7), (13, 6), (13, 5), (13, 4), (13, 3), (13, 2), (13, 1), (16, 0), (13, 0), (14, 0), (0, 6), (9, 3), (9, 2), (9, 1), (9, 0), (0, 5), (6, 2), (6, 1), (6, 0), (0, 4), (5, 2), (5, 1), (5, 0), (0, 3), (4, 2), (4, 1), (4, 0), (0, 2), (3, 3), (3, 2), (3, 1), (3, 0), (0, 1), (0, 0)]
set_option maxRecDepth 8000 in
theorem law_make {L : Nat} {xs : Nat → Int} {Q : Option PV → HS → Prop} (k : T (mLaw L xs) 18 [vS, vR 0, vR 80, vI 0] [] (some (599899, 7286046)) (101, SH, Mm dAll) Q) : T (mLaw L xs) 0 [vS, vU, vU, vU] [] (some (600000, 7302250)) (0, SH, Mm []) Q := by
  have f0 : Fr [] 0 := fun p hp => by cases hp
  refine C_new (bc := 599999) (bs := 7302236) (n' := 1) dL_law_0 kl_L_7 rfl rfl (by decide) f0 ?_
  have f1 := fr_s (n' := 1) (show 0 ≤ 1 by omega) f0
  refine T_dup dL_law_3 rfl ?_
  refine T_callI (M' := m_X9_init) (as := []) (rest := [vR 0]) (a := 0) (bc := 599920) (bs := 7296246) dL_law_4 mo_X9_init (Or.inl ml_L_9) im_X9_init rfl rfl (Nat.le_of_ble_eq_true rfl) (Nat.le_of_ble_eq_true rfl) rfl rfl (Nat.le_of_ble_eq_true rfl) rfl (i_X9 f1 ?_)
  show T (mLaw L xs) 7 [vS, vU, vU, vU] [vR 0] (some (599920, 7296246)) _ Q
  have f2 := fr_s (n' := 80) (show 1 ≤ 80 by omega) f1
  have f3 := fr_c (a := 0) (k := 0) (show 0 < 80 by omega) f2
  have f4 := fr_c (a := 0) (k := 1) (show 0 < 80 by omega) f3
  have f5 := fr_c (a := 3) (k := 0) (show 3 < 80 by omega) f4
  have f6 := fr_c (a := 3) (k := 1) (show 3 < 80 by omega) f5
  have f7 := fr_c (a := 3) (k := 2) (show 3 < 80 by omega) f6
  have f8 := fr_c (a := 3) (k := 3) (show 3 < 80 by omega) f7
  have f9 := fr_c (a := 0) (k := 2) (show 0 < 80 by omega) f8
  have f10 := fr_c (a := 4) (k := 0) (show 4 < 80 by omega) f9
  have f11 := fr_c (a := 4) (k := 1) (show 4 < 80 by omega) f10
  have f12 := fr_c (a := 4) (k := 2) (show 4 < 80 by omega) f11
  have f13 := fr_c (a := 0) (k := 3) (show 0 < 80 by omega) f12
  have f14 := fr_c (a := 5) (k := 0) (show 5 < 80 by omega) f13
  have f15 := fr_c (a := 5) (k := 1) (show 5 < 80 by omega) f14
  have f16 := fr_c (a := 5) (k := 2) (show 5 < 80 by omega) f15
  have f17 := fr_c (a := 0) (k := 4) (show 0 < 80 by omega) f16
  have f18 := fr_c (a := 6) (k := 0) (show 6 < 80 by omega) f17
  have f19 := fr_c (a := 6) (k := 1) (show 6 < 80 by omega) f18
  have f20 := fr_c (a := 6) (k := 2) (show 6 < 80 by omega) f19
  have f21 := fr_c (a := 0) (k := 5) (show 0 < 80 by omega) f20
  have f22 := fr_c (a := 9) (k := 0) (show 9 < 80 by omega) f21
  have f23 := fr_c (a := 9) (k := 1) (show 9 < 80 by omega) f22
  have f24 := fr_c (a := 9) (k := 2) (show 9 < 80 by omega) f23
  have f25 := fr_c (a := 9) (k := 3) (show 9 < 80 by omega) f24
  have f26 := fr_c (a := 0) (k := 6) (show 0 < 80 by omega) f25
  have f27 := fr_c (a := 14) (k := 0) (show 14 < 80 by omega) f26
  have f28 := fr_c (a := 13) (k := 0) (show 13 < 80 by omega) f27
  have f29 := fr_c (a := 16) (k := 0) (show 16 < 80 by omega) f28
  have f30 := fr_c (a := 13) (k := 1) (show 13 < 80 by omega) f29
  have f31 := fr_c (a := 13) (k := 2) (show 13 < 80 by omega) f30
  have f32 := fr_c (a := 13) (k := 3) (show 13 < 80 by omega) f31
  have f33 := fr_c (a := 13) (k := 4) (show 13 < 80 by omega) f32
  have f34 := fr_c (a := 13) (k := 5) (show 13 < 80 by omega) f33
  have f35 := fr_c (a := 13) (k := 6) (show 13 < 80 by omega) f34
  have f36 := fr_c (a := 13) (k := 7) (show 13 < 80 by omega) f35
  have f37 := fr_c (a := 13) (k := 8) (show 13 < 80 by omega) f36
  have f38 := fr_c (a := 25) (k := 0) (show 25 < 80 by omega) f37
  have f39 := fr_c (a := 13) (k := 9) (show 13 < 80 by omega) f38
  have f40 := fr_c (a := 27) (k := 0) (show 27 < 80 by omega) f39
  have f41 := fr_c (a := 13) (k := 10) (show 13 < 80 by omega) f40
  have f42 := fr_c (a := 13) (k := 11) (show 13 < 80 by omega) f41
  have f43 := fr_c (a := 13) (k := 12) (show 13 < 80 by omega) f42
  have f44 := fr_c (a := 13) (k := 13) (show 13 < 80 by omega) f43
  have f45 := fr_c (a := 13) (k := 14) (show 13 < 80 by omega) f44
  have f46 := fr_c (a := 0) (k := 7) (show 0 < 80 by omega) f45
  have f47 := fr_c (a := 29) (k := 0) (show 29 < 80 by omega) f46
  have f48 := fr_c (a := 29) (k := 1) (show 29 < 80 by omega) f47
  have f49 := fr_c (a := 29) (k := 2) (show 29 < 80 by omega) f48
  have f50 := fr_c (a := 0) (k := 8) (show 0 < 80 by omega) f49
  have f51 := fr_c (a := 32) (k := 0) (show 32 < 80 by omega) f50
  have f52 := fr_c (a := 0) (k := 9) (show 0 < 80 by omega) f51
  have f53 := fr_c (a := 0) (k := 10) (show 0 < 80 by omega) f52
  have f54 := fr_c (a := 0) (k := 11) (show 0 < 80 by omega) f53
  have f55 := fr_c (a := 0) (k := 12) (show 0 < 80 by omega) f54
  have f56 := fr_c (a := 0) (k := 13) (show 0 < 80 by omega) f55
  have f57 := fr_c (a := 34) (k := 0) (show 34 < 80 by omega) f56
  have f58 := fr_c (a := 34) (k := 1) (show 34 < 80 by omega) f57
  have f59 := fr_c (a := 34) (k := 2) (show 34 < 80 by omega) f58
  have f60 := fr_c (a := 34) (k := 3) (show 34 < 80 by omega) f59
  have f61 := fr_c (a := 34) (k := 4) (show 34 < 80 by omega) f60
  have f62 := fr_c (a := 1) (k := 0) (show 1 < 80 by omega) f61
  have f63 := fr_c (a := 38) (k := 0) (show 38 < 80 by omega) f62
  have f64 := fr_c (a := 38) (k := 1) (show 38 < 80 by omega) f63
  have f65 := fr_c (a := 38) (k := 2) (show 38 < 80 by omega) f64
  have f66 := fr_c (a := 38) (k := 3) (show 38 < 80 by omega) f65
  have f67 := fr_c (a := 38) (k := 4) (show 38 < 80 by omega) f66
  have f68 := fr_c (a := 1) (k := 1) (show 1 < 80 by omega) f67
  have f69 := fr_c (a := 42) (k := 0) (show 42 < 80 by omega) f68
  have f70 := fr_c (a := 42) (k := 1) (show 42 < 80 by omega) f69
  have f71 := fr_c (a := 42) (k := 2) (show 42 < 80 by omega) f70
  have f72 := fr_c (a := 42) (k := 3) (show 42 < 80 by omega) f71
  have f73 := fr_c (a := 42) (k := 4) (show 42 < 80 by omega) f72
  have f74 := fr_c (a := 1) (k := 2) (show 1 < 80 by omega) f73
  have f75 := fr_c (a := 46) (k := 0) (show 46 < 80 by omega) f74
  have f76 := fr_c (a := 46) (k := 1) (show 46 < 80 by omega) f75
  have f77 := fr_c (a := 46) (k := 2) (show 46 < 80 by omega) f76
  have f78 := fr_c (a := 46) (k := 3) (show 46 < 80 by omega) f77
  have f79 := fr_c (a := 46) (k := 4) (show 46 < 80 by omega) f78
  have f80 := fr_c (a := 1) (k := 3) (show 1 < 80 by omega) f79
  have f81 := fr_c (a := 50) (k := 0) (show 50 < 80 by omega) f80
  have f82 := fr_c (a := 50) (k := 1) (show 50 < 80 by omega) f81
  have f83 := fr_c (a := 50) (k := 2) (show 50 < 80 by omega) f82
  have f84 := fr_c (a := 50) (k := 3) (show 50 < 80 by omega) f83
  have f85 := fr_c (a := 50) (k := 4) (show 50 < 80 by omega) f84
  have f86 := fr_c (a := 1) (k := 4) (show 1 < 80 by omega) f85
  have f87 := fr_c (a := 54) (k := 0) (show 54 < 80 by omega) f86
  have f88 := fr_c (a := 54) (k := 1) (show 54 < 80 by omega) f87
  have f89 := fr_c (a := 54) (k := 2) (show 54 < 80 by omega) f88
  have f90 := fr_c (a := 54) (k := 3) (show 54 < 80 by omega) f89
  have f91 := fr_c (a := 54) (k := 4) (show 54 < 80 by omega) f90
  have f92 := fr_c (a := 1) (k := 5) (show 1 < 80 by omega) f91
  have f93 := fr_c (a := 58) (k := 0) (show 58 < 80 by omega) f92
  have f94 := fr_c (a := 58) (k := 1) (show 58 < 80 by omega) f93
  have f95 := fr_c (a := 58) (k := 2) (show 58 < 80 by omega) f94
  have f96 := fr_c (a := 58) (k := 3) (show 58 < 80 by omega) f95
  have f97 := fr_c (a := 58) (k := 4) (show 58 < 80 by omega) f96
  have f98 := fr_c (a := 1) (k := 6) (show 1 < 80 by omega) f97
  have f99 := fr_c (a := 62) (k := 0) (show 62 < 80 by omega) f98
  have f100 := fr_c (a := 62) (k := 1) (show 62 < 80 by omega) f99
  have f101 := fr_c (a := 62) (k := 2) (show 62 < 80 by omega) f100
  have f102 := fr_c (a := 62) (k := 3) (show 62 < 80 by omega) f101
  have f103 := fr_c (a := 62) (k := 4) (show 62 < 80 by omega) f102
  have f104 := fr_c (a := 1) (k := 7) (show 1 < 80 by omega) f103
  have f105 := fr_c (a := 66) (k := 0) (show 66 < 80 by omega) f104
  have f106 := fr_c (a := 66) (k := 1) (show 66 < 80 by omega) f105
  have f107 := fr_c (a := 66) (k := 2) (show 66 < 80 by omega) f106
  have f108 := fr_c (a := 66) (k := 3) (show 66 < 80 by omega) f107
  have f109 := fr_c (a := 66) (k := 4) (show 66 < 80 by omega) f108
  have f110 := fr_c (a := 1) (k := 8) (show 1 < 80 by omega) f109
  have f111 := fr_c (a := 70) (k := 0) (show 70 < 80 by omega) f110
  have f112 := fr_c (a := 70) (k := 1) (show 70 < 80 by omega) f111
  have f113 := fr_c (a := 70) (k := 2) (show 70 < 80 by omega) f112
  have f114 := fr_c (a := 70) (k := 3) (show 70 < 80 by omega) f113
  have f115 := fr_c (a := 70) (k := 4) (show 70 < 80 by omega) f114
  have f116 := fr_c (a := 1) (k := 9) (show 1 < 80 by omega) f115
  have f117 := fr_c (a := 74) (k := 0) (show 74 < 80 by omega) f116
  have f118 := fr_c (a := 74) (k := 1) (show 74 < 80 by omega) f117
  have f119 := fr_c (a := 74) (k := 2) (show 74 < 80 by omega) f118
  have f120 := fr_c (a := 74) (k := 3) (show 74 < 80 by omega) f119
  have f121 := fr_c (a := 2) (k := 0) (show 2 < 80 by omega) f120
  have f122 := fr_c (a := 75) (k := 0) (show 75 < 80 by omega) f121
  have f123 := fr_c (a := 75) (k := 1) (show 75 < 80 by omega) f122
  have f124 := fr_c (a := 75) (k := 2) (show 75 < 80 by omega) f123
  have f125 := fr_c (a := 75) (k := 3) (show 75 < 80 by omega) f124
  have f126 := fr_c (a := 2) (k := 1) (show 2 < 80 by omega) f125
  have f127 := fr_c (a := 76) (k := 0) (show 76 < 80 by omega) f126
  have f128 := fr_c (a := 76) (k := 1) (show 76 < 80 by omega) f127
  have f129 := fr_c (a := 76) (k := 2) (show 76 < 80 by omega) f128
  have f130 := fr_c (a := 76) (k := 3) (show 76 < 80 by omega) f129
  have f131 := fr_c (a := 2) (k := 2) (show 2 < 80 by omega) f130
  have f132 := fr_c (a := 77) (k := 0) (show 77 < 80 by omega) f131
  have f133 := fr_c (a := 77) (k := 1) (show 77 < 80 by omega) f132
  have f134 := fr_c (a := 77) (k := 2) (show 77 < 80 by omega) f133
  have f135 := fr_c (a := 77) (k := 3) (show 77 < 80 by omega) f134
  have f136 := fr_c (a := 2) (k := 3) (show 2 < 80 by omega) f135
  have f137 := fr_c (a := 78) (k := 0) (show 78 < 80 by omega) f136
  have f138 := fr_c (a := 78) (k := 1) (show 78 < 80 by omega) f137
  have f139 := fr_c (a := 78) (k := 2) (show 78 < 80 by omega) f138
  have f140 := fr_c (a := 78) (k := 3) (show 78 < 80 by omega) f139
  have f141 := fr_c (a := 2) (k := 4) (show 2 < 80 by omega) f140
  have f142 := fr_c (a := 79) (k := 0) (show 79 < 80 by omega) f141
  have f143 := fr_c (a := 79) (k := 1) (show 79 < 80 by omega) f142
  have f144 := fr_c (a := 79) (k := 2) (show 79 < 80 by omega) f143
  have f145 := fr_c (a := 79) (k := 3) (show 79 < 80 by omega) f144
  have f146 := fr_c (a := 2) (k := 5) (show 2 < 80 by omega) f145
  refine T_astore_n dL_law_7 (Nat.le_of_ble_eq_true rfl) rfl (ls2 := [vS, vR 0, vU, vU]) rfl ?_
  refine C_new (bc := 599919) (bs := 7296214) (n' := 81) dL_law_8 kl_L_10 rfl rfl (by decide) f146 ?_
  have f147 := fr_s (n' := 81) (show 80 ≤ 81 by omega) f146
  refine T_dup dL_law_11 rfl ?_
  refine T_callI (M' := m_X10_init) (as := []) (rest := [vR 80]) (a := 80) (bc := 599899) (bs := 7286046) dL_law_12 mo_X10_init (Or.inl ml_L_12) im_X10_init rfl rfl (Nat.le_of_ble_eq_true rfl) (Nat.le_of_ble_eq_true rfl) rfl rfl (Nat.le_of_ble_eq_true rfl) rfl (i_X10 f147 ?_)
  show T (mLaw L xs) 15 [vS, vR 0, vU, vU] [vR 80] (some (599899, 7286046)) _ Q
  have f148 := fr_s (n' := 101) (show 81 ≤ 101 by omega) f147
  have f149 := fr_c (a := 80) (k := 0) (show 80 < 101 by omega) f148
  have f150 := fr_c (a := 80) (k := 1) (show 80 < 101 by omega) f149
  have f151 := fr_c (a := 80) (k := 2) (show 80 < 101 by omega) f150
  have f152 := fr_c (a := 80) (k := 3) (show 80 < 101 by omega) f151
  have f153 := fr_c (a := 80) (k := 4) (show 80 < 101 by omega) f152
  have f154 := fr_c (a := 80) (k := 11) (show 80 < 101 by omega) f153
  have f155 := fr_c (a := 80) (k := 12) (show 80 < 101 by omega) f154
  have f156 := fr_c (a := 80) (k := 16) (show 80 < 101 by omega) f155
  have f157 := fr_c (a := 80) (k := 18) (show 80 < 101 by omega) f156
  have f158 := fr_c (a := 80) (k := 19) (show 80 < 101 by omega) f157
  have f159 := fr_c (a := 80) (k := 20) (show 80 < 101 by omega) f158
  have f160 := fr_c (a := 80) (k := 21) (show 80 < 101 by omega) f159
  have f161 := fr_c (a := 80) (k := 22) (show 80 < 101 by omega) f160
  have f162 := fr_c (a := 80) (k := 23) (show 80 < 101 by omega) f161
  have f163 := fr_c (a := 80) (k := 24) (show 80 < 101 by omega) f162
  have f164 := fr_c (a := 80) (k := 25) (show 80 < 101 by omega) f163
  have f165 := fr_c (a := 80) (k := 26) (show 80 < 101 by omega) f164
  have f166 := fr_c (a := 80) (k := 27) (show 80 < 101 by omega) f165
  have f167 := fr_c (a := 80) (k := 28) (show 80 < 101 by omega) f166
  have f168 := fr_c (a := 80) (k := 31) (show 80 < 101 by omega) f167
  refine T_astore_n dL_law_15 (Nat.le_of_ble_eq_true rfl) rfl (ls2 := [vS, vR 0, vR 80, vU]) rfl ?_
  refine T_iconst dL_law_16 ?_
  refine T_istore_n dL_law_17 (Nat.le_of_ble_eq_true rfl) rfl (ls2 := [vS, vR 0, vR 80, vI 0]) rfl ?_
  exact k
