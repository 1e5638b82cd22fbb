theorem T_iadd {M : MI} {pc : Nat} {ls st : List PV} {bg : Option (Nat × Nat)} {h : HS} {Q : Option PV → HS → Prop} {a b : Int} (hd : decode (miC M) pc = .ok (.iadd, 1)) (k : T M (pc + 1) ls (vI (a + b) :: st) bg h Q) : T M pc ls (vI b :: vI a :: st) bg h Q := by
  intro E p l e R s m args below meth c Z H locs cells slots la hC hR hH hS h1 h2 hl
  refine lv_iadd hC.1 hC.2.1 hd ?_
  rw [i_add]
  exact k E p l e R s m args below meth c Z H locs cells slots la hC hR hH hS h1 h2 hl
theorem T_isub {M : MI} {pc : Nat} {ls st : List PV} {bg : Option (Nat × Nat)} {h : HS} {Q : Option PV → HS → Prop} {a b : Int} (hd : decode (miC M) pc = .ok (.isub, 1)) (k : T M (pc + 1) ls (vI (a - b) :: st) bg h Q) : T M pc ls (vI b :: vI a :: st) bg h Q := by
  intro E p l e R s m args below meth c Z H locs cells slots la hC hR hH hS h1 h2 hl
  refine lv_isub hC.1 hC.2.1 hd ?_
  rw [i_sub]
  exact k E p l e R s m args below meth c Z H locs cells slots la hC hR hH hS h1 h2 hl
theorem T_imul {M : MI} {pc : Nat} {ls st : List PV} {bg : Option (Nat × Nat)} {h : HS} {Q : Option PV → HS → Prop} {a b : Int} (hd : decode (miC M) pc = .ok (.imul, 1)) (k : T M (pc + 1) ls (vI (a * b) :: st) bg h Q) : T M pc ls (vI b :: vI a :: st) bg h Q := by
  intro E p l e R s m args below meth c Z H locs cells slots la hC hR hH hS h1 h2 hl
  refine lv_imul hC.1 hC.2.1 hd ?_
  rw [i_mul]
  exact k E p l e R s m args below meth c Z H locs cells slots la hC hR hH hS h1 h2 hl
theorem T_ladd {M : MI} {pc : Nat} {ls st : List PV} {bg : Option (Nat × Nat)} {h : HS} {Q : Option PV → HS → Prop} {a b : Int} (hd : decode (miC M) pc = .ok (.ladd, 1)) (k : T M (pc + 1) ls (vL (a + b) :: st) bg h Q) : T M pc ls (vL b :: vL a :: st) bg h Q := by
  intro E p l e R s m args below meth c Z H locs cells slots la hC hR hH hS h1 h2 hl
  refine lv_ladd hC.1 hC.2.1 hd ?_
  rw [l_add]
  exact k E p l e R s m args below meth c Z H locs cells slots la hC hR hH hS h1 h2 hl
theorem T_lsub {M : MI} {pc : Nat} {ls st : List PV} {bg : Option (Nat × Nat)} {h : HS} {Q : Option PV → HS → Prop} {a b : Int} (hd : decode (miC M) pc = .ok (.lsub, 1)) (k : T M (pc + 1) ls (vL (a - b) :: st) bg h Q) : T M pc ls (vL b :: vL a :: st) bg h Q := by
  intro E p l e R s m args below meth c Z H locs cells slots la hC hR hH hS h1 h2 hl
  refine lv_lsub hC.1 hC.2.1 hd ?_
  rw [l_sub]
  exact k E p l e R s m args below meth c Z H locs cells slots la hC hR hH hS h1 h2 hl
theorem T_lmul {M : MI} {pc : Nat} {ls st : List PV} {bg : Option (Nat × Nat)} {h : HS} {Q : Option PV → HS → Prop} {a b : Int} (hd : decode (miC M) pc = .ok (.lmul, 1)) (k : T M (pc + 1) ls (vL (a * b) :: st) bg h Q) : T M pc ls (vL b :: vL a :: st) bg h Q := by
  intro E p l e R s m args below meth c Z H locs cells slots la hC hR hH hS h1 h2 hl
  refine lv_lmul hC.1 hC.2.1 hd ?_
  rw [l_mul]
  exact k E p l e R s m args below meth c Z H locs cells slots la hC hR hH hS h1 h2 hl
theorem T_ineg {M : MI} {pc : Nat} {ls st : List PV} {bg : Option (Nat × Nat)} {h : HS} {Q : Option PV → HS → Prop} {a : Int} (hd : decode (miC M) pc = .ok (.ineg, 1)) (k : T M (pc + 1) ls (vI (-a) :: st) bg h Q) : T M pc ls (vI a :: st) bg h Q := by
  intro E p l e R s m args below meth c Z H locs cells slots la hC hR hH hS h1 h2 hl
  refine lv_ineg hC.1 hC.2.1 hd ?_
  rw [i_neg]
  exact k E p l e R s m args below meth c Z H locs cells slots la hC hR hH hS h1 h2 hl
theorem T_lneg {M : MI} {pc : Nat} {ls st : List PV} {bg : Option (Nat × Nat)} {h : HS} {Q : Option PV → HS → Prop} {a : Int} (hd : decode (miC M) pc = .ok (.lneg, 1)) (k : T M (pc + 1) ls (vL (-a) :: st) bg h Q) : T M pc ls (vL a :: st) bg h Q := by
  intro E p l e R s m args below meth c Z H locs cells slots la hC hR hH hS h1 h2 hl
  refine lv_lneg hC.1 hC.2.1 hd ?_
  rw [l_neg]
  exact k E p l e R s m args below meth c Z H locs cells slots la hC hR hH hS h1 h2 hl
theorem T_idiv {M : MI} {pc : Nat} {ls st : List PV} {bg : Option (Nat × Nat)} {h : HS} {Q : Option PV → HS → Prop} {a b : Int} (hd : decode (miC M) pc = .ok (.idiv, 1)) (ha : R32 a) (hb : R32 b) (hn : b ≠ 0) (k : T M (pc + 1) ls (vI (a.tdiv b) :: st) bg h Q) : T M pc ls (vI b :: vI a :: st) bg h Q := by
  intro E p l e R s m args below meth c Z H locs cells slots la hC hR hH hS h1 h2 hl
  refine lv_idiv hC.1 hC.2.1 hd (fun q => hn ((i_eq hb (by decide)).mp q)) ?_
  rw [i_div ha hb]
  exact k E p l e R s m args below meth c Z H locs cells slots la hC hR hH hS h1 h2 hl
theorem T_irem {M : MI} {pc : Nat} {ls st : List PV} {bg : Option (Nat × Nat)} {h : HS} {Q : Option PV → HS → Prop} {a b : Int} (hd : decode (miC M) pc = .ok (.irem, 1)) (ha : R32 a) (hb : R32 b) (hn : b ≠ 0) (k : T M (pc + 1) ls (vI (a.tmod b) :: st) bg h Q) : T M pc ls (vI b :: vI a :: st) bg h Q := by
  intro E p l e R s m args below meth c Z H locs cells slots la hC hR hH hS h1 h2 hl
  refine lv_irem hC.1 hC.2.1 hd (fun q => hn ((i_eq hb (by decide)).mp q)) ?_
  rw [i_rem ha hb]
  exact k E p l e R s m args below meth c Z H locs cells slots la hC hR hH hS h1 h2 hl
theorem T_ldiv {M : MI} {pc : Nat} {ls st : List PV} {bg : Option (Nat × Nat)} {h : HS} {Q : Option PV → HS → Prop} {a b : Int} (hd : decode (miC M) pc = .ok (.ldiv, 1)) (ha : R64 a) (hb : R64 b) (hn : b ≠ 0) (k : T M (pc + 1) ls (vL (a.tdiv b) :: st) bg h Q) : T M pc ls (vL b :: vL a :: st) bg h Q := by
  intro E p l e R s m args below meth c Z H locs cells slots la hC hR hH hS h1 h2 hl
  refine lv_ldiv hC.1 hC.2.1 hd (fun q => hn ((l_eq hb (by decide)).mp q)) ?_
  rw [l_div ha hb]
  exact k E p l e R s m args below meth c Z H locs cells slots la hC hR hH hS h1 h2 hl
theorem T_lrem {M : MI} {pc : Nat} {ls st : List PV} {bg : Option (Nat × Nat)} {h : HS} {Q : Option PV → HS → Prop} {a b : Int} (hd : decode (miC M) pc = .ok (.lrem, 1)) (ha : R64 a) (hb : R64 b) (hn : b ≠ 0) (k : T M (pc + 1) ls (vL (a.tmod b) :: st) bg h Q) : T M pc ls (vL b :: vL a :: st) bg h Q := by
  intro E p l e R s m args below meth c Z H locs cells slots la hC hR hH hS h1 h2 hl
  refine lv_lrem hC.1 hC.2.1 hd (fun q => hn ((l_eq hb (by decide)).mp q)) ?_
  rw [l_rem ha hb]
  exact k E p l e R s m args below meth c Z H locs cells slots la hC hR hH hS h1 h2 hl
theorem T_i2l {M : MI} {pc : Nat} {ls st : List PV} {bg : Option (Nat × Nat)} {h : HS} {Q : Option PV → HS → Prop} {a : Int} (hd : decode (miC M) pc = .ok (.i2l, 1)) (ha : R32 a) (k : T M (pc + 1) ls (vL a :: st) bg h Q) : T M pc ls (vI a :: st) bg h Q := by
  intro E p l e R s m args below meth c Z H locs cells slots la hC hR hH hS h1 h2 hl
  exact lv_i2l hC.1 hC.2.1 hd (i_i2l ha) (k E p l e R s m args below meth c Z H locs cells slots la hC hR hH hS h1 h2 hl)
theorem T_l2i {M : MI} {pc : Nat} {ls st : List PV} {bg : Option (Nat × Nat)} {h : HS} {Q : Option PV → HS → Prop} {a : Int} (hd : decode (miC M) pc = .ok (.l2i, 1)) (k : T M (pc + 1) ls (vI a :: st) bg h Q) : T M pc ls (vL a :: st) bg h Q := by
  intro E p l e R s m args below meth c Z H locs cells slots la hC hR hH hS h1 h2 hl
  exact lv_l2i hC.1 hC.2.1 hd (i_l2i a) (k E p l e R s m args below meth c Z H locs cells slots la hC hR hH hS h1 h2 hl)
theorem T_iand31 {M : MI} {pc : Nat} {ls st : List PV} {bg : Option (Nat × Nat)} {h : HS} {Q : Option PV → HS → Prop} {a : Int} (hd : decode (miC M) pc = .ok (.iand, 1)) (ha : R32 a) (k : T M (pc + 1) ls (vI (a % 32) :: st) bg h Q) : T M pc ls (vI 31 :: vI a :: st) bg h Q := by
  intro E p l e R s m args below meth c Z H locs cells slots la hC hR hH hS h1 h2 hl
  refine lv_iand hC.1 hC.2.1 hd ?_
  rw [show Int32.ofInt 31 = 31 from rfl, i_and31 ha]
  exact k E p l e R s m args below meth c Z H locs cells slots la hC hR hH hS h1 h2 hl
theorem T_iconst {M : MI} {pc : Nat} {ls st : List PV} {bg : Option (Nat × Nat)} {h : HS} {Q : Option PV → HS → Prop} {n : Int} (hd : decode (miC M) pc = .ok (.iconst n, 1)) (k : T M (pc + 1) ls (vI n :: st) bg h Q) : T M pc ls st bg h Q := by
  intro E p l e R s m args below meth c Z H locs cells slots la hC hR hH hS h1 h2 hl
  exact lv_iconst hC.1 hC.2.1 hd rfl (k E p l e R s m args below meth c Z H locs cells slots la hC hR hH hS h1 h2 hl)
theorem T_bipush {M : MI} {pc : Nat} {ls st : List PV} {bg : Option (Nat × Nat)} {h : HS} {Q : Option PV → HS → Prop} {n : Int} (hd : decode (miC M) pc = .ok (.bipush n, 2)) (hn : (Int8.ofInt n).toInt32 = Int32.ofInt n) (k : T M (pc + 2) ls (vI n :: st) bg h Q) : T M pc ls st bg h Q := by
  intro E p l e R s m args below meth c Z H locs cells slots la hC hR hH hS h1 h2 hl
  exact lv_bipush hC.1 hC.2.1 hd hn (k E p l e R s m args below meth c Z H locs cells slots la hC hR hH hS h1 h2 hl)
theorem T_sipush {M : MI} {pc : Nat} {ls st : List PV} {bg : Option (Nat × Nat)} {h : HS} {Q : Option PV → HS → Prop} {n : Int} (hd : decode (miC M) pc = .ok (.sipush n, 3)) (hn : (Int16.ofInt n).toInt32 = Int32.ofInt n) (k : T M (pc + 3) ls (vI n :: st) bg h Q) : T M pc ls st bg h Q := by
  intro E p l e R s m args below meth c Z H locs cells slots la hC hR hH hS h1 h2 hl
  exact lv_sipush hC.1 hC.2.1 hd hn (k E p l e R s m args below meth c Z H locs cells slots la hC hR hH hS h1 h2 hl)
theorem T_lconst {M : MI} {pc : Nat} {ls st : List PV} {bg : Option (Nat × Nat)} {h : HS} {Q : Option PV → HS → Prop} {n : Fin 2} {x : Int} (hd : decode (miC M) pc = .ok (.lconst n, 1)) (hx : Int64.ofNat (n : Nat) = Int64.ofInt x) (k : T M (pc + 1) ls (vL x :: st) bg h Q) : T M pc ls st bg h Q := by
  intro E p l e R s m args below meth c Z H locs cells slots la hC hR hH hS h1 h2 hl
  exact lv_lconst hC.1 hC.2.1 hd hx (k E p l e R s m args below meth c Z H locs cells slots la hC hR hH hS h1 h2 hl)
theorem T_ldc {M : MI} {pc : Nat} {ls st : List PV} {bg : Option (Nat × Nat)} {h : HS} {Q : Option PV → HS → Prop} {i : Nat} {n : Int32} {x : Int} (hd : decode (miC M) pc = .ok (.ldc i, 2)) (hw : Cond.constant (miO M) i n ∈ TS) (hx : n = Int32.ofInt x) (k : T M (pc + 2) ls (vI x :: st) bg h Q) : T M pc ls st bg h Q := by
  intro E p l e R s m args below meth c Z H locs cells slots la hC hR hH hS h1 h2 hl
  subst hx
  exact lv_ldc hC.1 hC.2.1 hC.2.2.2.1 (hC.2.2.2.2.1 _ hw) hd (k E p l e R s m args below meth c Z H locs cells slots la hC hR hH hS h1 h2 hl)
theorem T_ldc2 {M : MI} {pc : Nat} {ls st : List PV} {bg : Option (Nat × Nat)} {h : HS} {Q : Option PV → HS → Prop} {i : Nat} {n : Int64} {x : Int} (hd : decode (miC M) pc = .ok (.ldc2_w i, 3)) (hw : Cond.constantLong (miO M) i n ∈ TS) (hx : n = Int64.ofInt x) (k : T M (pc + 3) ls (vL x :: st) bg h Q) : T M pc ls st bg h Q := by
  intro E p l e R s m args below meth c Z H locs cells slots la hC hR hH hS h1 h2 hl
  subst hx
  exact lv_ldc2 hC.1 hC.2.1 hC.2.2.2.1 (hC.2.2.2.2.1 _ hw) hd (k E p l e R s m args below meth c Z H locs cells slots la hC hR hH hS h1 h2 hl)
theorem T_dup {M : MI} {pc : Nat} {ls st : List PV} {bg : Option (Nat × Nat)} {h : HS} {Q : Option PV → HS → Prop} {v : PV} (hd : decode (miC M) pc = .ok (.dup, 1)) (hc : pcat v = 1) (k : T M (pc + 1) ls (v :: v :: st) bg h Q) : T M pc ls (v :: st) bg h Q := by
  intro E p l e R s m args below meth c Z H locs cells slots la hC hR hH hS h1 h2 hl
  exact lv_dup hC.1 hC.2.1 hd (by rw [real_cat]; exact hc) (k E p l e R s m args below meth c Z H locs cells slots la hC hR hH hS h1 h2 hl)
theorem T_dup2 {M : MI} {pc : Nat} {ls st : List PV} {bg : Option (Nat × Nat)} {h : HS} {Q : Option PV → HS → Prop} {v w : PV} (hd : decode (miC M) pc = .ok (.dup2, 1)) (hc : pcat v = 1) (hw : pcat w = 1) (k : T M (pc + 1) ls (v :: w :: v :: w :: st) bg h Q) : T M pc ls (v :: w :: st) bg h Q := by
  intro E p l e R s m args below meth c Z H locs cells slots la hC hR hH hS h1 h2 hl
  exact lv_dup2_11 hC.1 hC.2.1 hd (by rw [real_cat]; exact hc) (by rw [real_cat]; exact hw) (k E p l e R s m args below meth c Z H locs cells slots la hC hR hH hS h1 h2 hl)
theorem T_goto {M : MI} {pc : Nat} {ls st : List PV} {bg : Option (Nat × Nat)} {h : HS} {Q : Option PV → HS → Prop} {off : Int} {tgt : Nat} (hd : decode (miC M) pc = .ok (.goto off, 3)) (ht : (pc : Int) + off = (tgt : Int)) (k : T M tgt ls st bg h Q) : T M pc ls st bg h Q := by
  intro E p l e R s m args below meth c Z H locs cells slots la hC hR hH hS h1 h2 hl
  exact lv_goto hC.1 hC.2.1 hd ht (k E p l e R s m args below meth c Z H locs cells slots la hC hR hH hS h1 h2 hl)
theorem T_icmp_eq {M : MI} {pc : Nat} {ls st : List PV} {bg : Option (Nat × Nat)} {h : HS} {Q : Option PV → HS → Prop} {a b : Int} {off : Int} {tgt : Nat} (hd : decode (miC M) pc = .ok (.if_icmp .eq off, 3)) (ht : (pc : Int) + off = (tgt : Int)) (ha : R32 a) (hb : R32 b) (kt : a = b → T M tgt ls st bg h Q) (kf : ¬ a = b → T M (pc + 3) ls st bg h Q) : T M pc ls (vI b :: vI a :: st) bg h Q := by
  intro E p l e R s m args below meth c Z H locs cells slots la hC hR hH hS h1 h2 hl
  exact lv_icmp_eq hC.1 hC.2.1 hd ht (fun q => kt ((i_eq ha hb).mp q) E p l e R s m args below meth c Z H locs cells slots la hC hR hH hS h1 h2 hl) (fun q => kf (fun q2 => q ((i_eq ha hb).mpr q2)) E p l e R s m args below meth c Z H locs cells slots la hC hR hH hS h1 h2 hl)
theorem T_if_eq {M : MI} {pc : Nat} {ls st : List PV} {bg : Option (Nat × Nat)} {h : HS} {Q : Option PV → HS → Prop} {a : Int} {off : Int} {tgt : Nat} (hd : decode (miC M) pc = .ok (.ifCond .eq off, 3)) (ht : (pc : Int) + off = (tgt : Int)) (ha : R32 a) (kt : a = 0 → T M tgt ls st bg h Q) (kf : ¬ a = 0 → T M (pc + 3) ls st bg h Q) : T M pc ls (vI a :: st) bg h Q := by
  intro E p l e R s m args below meth c Z H locs cells slots la hC hR hH hS h1 h2 hl
  exact lv_if_eq hC.1 hC.2.1 hd ht (fun q => kt ((i_eq ha R32_0).mp q) E p l e R s m args below meth c Z H locs cells slots la hC hR hH hS h1 h2 hl) (fun q => kf (fun q2 => q ((i_eq ha R32_0).mpr q2)) E p l e R s m args below meth c Z H locs cells slots la hC hR hH hS h1 h2 hl)
theorem T_icmp_ne {M : MI} {pc : Nat} {ls st : List PV} {bg : Option (Nat × Nat)} {h : HS} {Q : Option PV → HS → Prop} {a b : Int} {off : Int} {tgt : Nat} (hd : decode (miC M) pc = .ok (.if_icmp .ne off, 3)) (ht : (pc : Int) + off = (tgt : Int)) (ha : R32 a) (hb : R32 b) (kt : ¬ a = b → T M tgt ls st bg h Q) (kf : a = b → T M (pc + 3) ls st bg h Q) : T M pc ls (vI b :: vI a :: st) bg h Q := by
  intro E p l e R s m args below meth c Z H locs cells slots la hC hR hH hS h1 h2 hl
  exact lv_icmp_ne hC.1 hC.2.1 hd ht (fun q => kt (fun q2 => q ((i_eq ha hb).mpr q2)) E p l e R s m args below meth c Z H locs cells slots la hC hR hH hS h1 h2 hl) (fun q => kf ((i_eq ha hb).mp q) E p l e R s m args below meth c Z H locs cells slots la hC hR hH hS h1 h2 hl)
theorem T_if_ne {M : MI} {pc : Nat} {ls st : List PV} {bg : Option (Nat × Nat)} {h : HS} {Q : Option PV → HS → Prop} {a : Int} {off : Int} {tgt : Nat} (hd : decode (miC M) pc = .ok (.ifCond .ne off, 3)) (ht : (pc : Int) + off = (tgt : Int)) (ha : R32 a) (kt : ¬ a = 0 → T M tgt ls st bg h Q) (kf : a = 0 → T M (pc + 3) ls st bg h Q) : T M pc ls (vI a :: st) bg h Q := by
  intro E p l e R s m args below meth c Z H locs cells slots la hC hR hH hS h1 h2 hl
  exact lv_if_ne hC.1 hC.2.1 hd ht (fun q => kt (fun q2 => q ((i_eq ha R32_0).mpr q2)) E p l e R s m args below meth c Z H locs cells slots la hC hR hH hS h1 h2 hl) (fun q => kf ((i_eq ha R32_0).mp q) E p l e R s m args below meth c Z H locs cells slots la hC hR hH hS h1 h2 hl)
theorem T_icmp_lt {M : MI} {pc : Nat} {ls st : List PV} {bg : Option (Nat × Nat)} {h : HS} {Q : Option PV → HS → Prop} {a b : Int} {off : Int} {tgt : Nat} (hd : decode (miC M) pc = .ok (.if_icmp .lt off, 3)) (ht : (pc : Int) + off = (tgt : Int)) (ha : R32 a) (hb : R32 b) (kt : a < b → T M tgt ls st bg h Q) (kf : ¬ a < b → T M (pc + 3) ls st bg h Q) : T M pc ls (vI b :: vI a :: st) bg h Q := by
  intro E p l e R s m args below meth c Z H locs cells slots la hC hR hH hS h1 h2 hl
  exact lv_icmp_lt hC.1 hC.2.1 hd ht (fun q => kt ((i_lt ha hb).mp q) E p l e R s m args below meth c Z H locs cells slots la hC hR hH hS h1 h2 hl) (fun q => kf (fun q2 => q ((i_lt ha hb).mpr q2)) E p l e R s m args below meth c Z H locs cells slots la hC hR hH hS h1 h2 hl)
theorem T_if_lt {M : MI} {pc : Nat} {ls st : List PV} {bg : Option (Nat × Nat)} {h : HS} {Q : Option PV → HS → Prop} {a : Int} {off : Int} {tgt : Nat} (hd : decode (miC M) pc = .ok (.ifCond .lt off, 3)) (ht : (pc : Int) + off = (tgt : Int)) (ha : R32 a) (kt : a < 0 → T M tgt ls st bg h Q) (kf : ¬ a < 0 → T M (pc + 3) ls st bg h Q) : T M pc ls (vI a :: st) bg h Q := by
  intro E p l e R s m args below meth c Z H locs cells slots la hC hR hH hS h1 h2 hl
  exact lv_if_lt hC.1 hC.2.1 hd ht (fun q => kt ((i_lt ha R32_0).mp q) E p l e R s m args below meth c Z H locs cells slots la hC hR hH hS h1 h2 hl) (fun q => kf (fun q2 => q ((i_lt ha R32_0).mpr q2)) E p l e R s m args below meth c Z H locs cells slots la hC hR hH hS h1 h2 hl)
theorem T_icmp_ge {M : MI} {pc : Nat} {ls st : List PV} {bg : Option (Nat × Nat)} {h : HS} {Q : Option PV → HS → Prop} {a b : Int} {off : Int} {tgt : Nat} (hd : decode (miC M) pc = .ok (.if_icmp .ge off, 3)) (ht : (pc : Int) + off = (tgt : Int)) (ha : R32 a) (hb : R32 b) (kt : b ≤ a → T M tgt ls st bg h Q) (kf : ¬ b ≤ a → T M (pc + 3) ls st bg h Q) : T M pc ls (vI b :: vI a :: st) bg h Q := by
  intro E p l e R s m args below meth c Z H locs cells slots la hC hR hH hS h1 h2 hl
  exact lv_icmp_ge hC.1 hC.2.1 hd ht (fun q => kt ((i_le hb ha).mp q) E p l e R s m args below meth c Z H locs cells slots la hC hR hH hS h1 h2 hl) (fun q => kf (fun q2 => q ((i_le hb ha).mpr q2)) E p l e R s m args below meth c Z H locs cells slots la hC hR hH hS h1 h2 hl)
theorem T_if_ge {M : MI} {pc : Nat} {ls st : List PV} {bg : Option (Nat × Nat)} {h : HS} {Q : Option PV → HS → Prop} {a : Int} {off : Int} {tgt : Nat} (hd : decode (miC M) pc = .ok (.ifCond .ge off, 3)) (ht : (pc : Int) + off = (tgt : Int)) (ha : R32 a) (kt : 0 ≤ a → T M tgt ls st bg h Q) (kf : ¬ 0 ≤ a → T M (pc + 3) ls st bg h Q) : T M pc ls (vI a :: st) bg h Q := by
  intro E p l e R s m args below meth c Z H locs cells slots la hC hR hH hS h1 h2 hl
  exact lv_if_ge hC.1 hC.2.1 hd ht (fun q => kt ((i_le R32_0 ha).mp q) E p l e R s m args below meth c Z H locs cells slots la hC hR hH hS h1 h2 hl) (fun q => kf (fun q2 => q ((i_le R32_0 ha).mpr q2)) E p l e R s m args below meth c Z H locs cells slots la hC hR hH hS h1 h2 hl)
theorem T_icmp_gt {M : MI} {pc : Nat} {ls st : List PV} {bg : Option (Nat × Nat)} {h : HS} {Q : Option PV → HS → Prop} {a b : Int} {off : Int} {tgt : Nat} (hd : decode (miC M) pc = .ok (.if_icmp .gt off, 3)) (ht : (pc : Int) + off = (tgt : Int)) (ha : R32 a) (hb : R32 b) (kt : b < a → T M tgt ls st bg h Q) (kf : ¬ b < a → T M (pc + 3) ls st bg h Q) : T M pc ls (vI b :: vI a :: st) bg h Q := by
  intro E p l e R s m args below meth c Z H locs cells slots la hC hR hH hS h1 h2 hl
  exact lv_icmp_gt hC.1 hC.2.1 hd ht (fun q => kt ((i_lt hb ha).mp q) E p l e R s m args below meth c Z H locs cells slots la hC hR hH hS h1 h2 hl) (fun q => kf (fun q2 => q ((i_lt hb ha).mpr q2)) E p l e R s m args below meth c Z H locs cells slots la hC hR hH hS h1 h2 hl)
theorem T_if_gt {M : MI} {pc : Nat} {ls st : List PV} {bg : Option (Nat × Nat)} {h : HS} {Q : Option PV → HS → Prop} {a : Int} {off : Int} {tgt : Nat} (hd : decode (miC M) pc = .ok (.ifCond .gt off, 3)) (ht : (pc : Int) + off = (tgt : Int)) (ha : R32 a) (kt : 0 < a → T M tgt ls st bg h Q) (kf : ¬ 0 < a → T M (pc + 3) ls st bg h Q) : T M pc ls (vI a :: st) bg h Q := by
  intro E p l e R s m args below meth c Z H locs cells slots la hC hR hH hS h1 h2 hl
  exact lv_if_gt hC.1 hC.2.1 hd ht (fun q => kt ((i_lt R32_0 ha).mp q) E p l e R s m args below meth c Z H locs cells slots la hC hR hH hS h1 h2 hl) (fun q => kf (fun q2 => q ((i_lt R32_0 ha).mpr q2)) E p l e R s m args below meth c Z H locs cells slots la hC hR hH hS h1 h2 hl)
theorem T_icmp_le {M : MI} {pc : Nat} {ls st : List PV} {bg : Option (Nat × Nat)} {h : HS} {Q : Option PV → HS → Prop} {a b : Int} {off : Int} {tgt : Nat} (hd : decode (miC M) pc = .ok (.if_icmp .le off, 3)) (ht : (pc : Int) + off = (tgt : Int)) (ha : R32 a) (hb : R32 b) (kt : a ≤ b → T M tgt ls st bg h Q) (kf : ¬ a ≤ b → T M (pc + 3) ls st bg h Q) : T M pc ls (vI b :: vI a :: st) bg h Q := by
  intro E p l e R s m args below meth c Z H locs cells slots la hC hR hH hS h1 h2 hl
  exact lv_icmp_le hC.1 hC.2.1 hd ht (fun q => kt ((i_le ha hb).mp q) E p l e R s m args below meth c Z H locs cells slots la hC hR hH hS h1 h2 hl) (fun q => kf (fun q2 => q ((i_le ha hb).mpr q2)) E p l e R s m args below meth c Z H locs cells slots la hC hR hH hS h1 h2 hl)
theorem T_if_le {M : MI} {pc : Nat} {ls st : List PV} {bg : Option (Nat × Nat)} {h : HS} {Q : Option PV → HS → Prop} {a : Int} {off : Int} {tgt : Nat} (hd : decode (miC M) pc = .ok (.ifCond .le off, 3)) (ht : (pc : Int) + off = (tgt : Int)) (ha : R32 a) (kt : a ≤ 0 → T M tgt ls st bg h Q) (kf : ¬ a ≤ 0 → T M (pc + 3) ls st bg h Q) : T M pc ls (vI a :: st) bg h Q := by
  intro E p l e R s m args below meth c Z H locs cells slots la hC hR hH hS h1 h2 hl
  exact lv_if_le hC.1 hC.2.1 hd ht (fun q => kt ((i_le ha R32_0).mp q) E p l e R s m args below meth c Z H locs cells slots la hC hR hH hS h1 h2 hl) (fun q => kf (fun q2 => q ((i_le ha R32_0).mpr q2)) E p l e R s m args below meth c Z H locs cells slots la hC hR hH hS h1 h2 hl)
theorem T_lcmp {M : MI} {pc : Nat} {ls st : List PV} {bg : Option (Nat × Nat)} {h : HS} {Q : Option PV → HS → Prop} {a b : Int} (hd : decode (miC M) pc = .ok (.lcmp, 1)) (ha : R64 a) (hb : R64 b) (k : T M (pc + 1) ls (vI (if b < a then 1 else if a = b then 0 else -1) :: st) bg h Q) : T M pc ls (vL b :: vL a :: st) bg h Q := by
  intro E p l e R s m args below meth c Z H locs cells slots la hC hR hH hS h1 h2 hl
  refine W.lcmp hC.1 hC.2.1 hd ?_
  have e9 : lg_cmp (Int64.ofInt a) (Int64.ofInt b) = Int32.ofInt (if b < a then 1 else if a = b then 0 else -1) := by
    unfold lg_cmp
    by_cases h3 : b < a
    · rw [if_pos ((l_lt hb ha).mpr h3), if_pos h3]; rfl
    · rw [if_neg (fun q => h3 ((l_lt hb ha).mp q)), if_neg h3]
      by_cases h4 : a = b
      · rw [if_pos ((l_eq ha hb).mpr h4), if_pos h4]; rfl
      · rw [if_neg (fun q => h4 ((l_eq ha hb).mp q)), if_neg h4]; rfl
  rw [e9]
  exact k E p l e R s m args below meth c Z H locs cells slots la hC hR hH hS h1 h2 hl
theorem T_tableIn {M : MI} {pc : Nat} {ls st : List PV} {bg : Option (Nat × Nat)} {h : HS} {Q : Option PV → HS → Prop} {x : Int} {dflt lo hi : Int} {offs : Array Int} {len : Nat} {off : Int} {tgt : Nat} (hd : decode (miC M) pc = .ok (.tableswitch dflt lo hi offs, len)) (hx : R32 x) (q1 : lo ≤ x) (q2 : x ≤ hi) (ho : offs[(x - lo).toNat]? = some off) (ht : (pc : Int) + off = (tgt : Int)) (k : T M tgt ls st bg h Q) : T M pc ls (vI x :: st) bg h Q := by
  intro E p l e R s m args below meth c Z H locs cells slots la hC hR hH hS h1 h2 hl
  exact lv_tableIn hC.1 hC.2.1 hd (by rw [i_to hx]; omega) (by rw [i_to hx]; omega) (by rw [i_to hx]; exact ho) ht (k E p l e R s m args below meth c Z H locs cells slots la hC hR hH hS h1 h2 hl)
theorem T_tableOut {M : MI} {pc : Nat} {ls st : List PV} {bg : Option (Nat × Nat)} {h : HS} {Q : Option PV → HS → Prop} {x : Int} {dflt lo hi : Int} {offs : Array Int} {len : Nat} {tgt : Nat} (hd : decode (miC M) pc = .ok (.tableswitch dflt lo hi offs, len)) (hx : R32 x) (q1 : x < lo ∨ hi < x) (ht : (pc : Int) + dflt = (tgt : Int)) (k : T M tgt ls st bg h Q) : T M pc ls (vI x :: st) bg h Q := by
  intro E p l e R s m args below meth c Z H locs cells slots la hC hR hH hS h1 h2 hl
  exact lv_tableOut hC.1 hC.2.1 hd (by rw [i_to hx]; exact q1) ht (k E p l e R s m args below meth c Z H locs cells slots la hC hR hH hS h1 h2 hl)
theorem lvl_mem (E : En) : ∀ (ls : List PV) (j i : Nat) (v : PV), ls[i]? = some v → v ≠ vU → (j + i, real E v) ∈ lvl E j ls
  | [], _, _, _, h, _ => by simp at h
  | w :: ls, j, 0, v, h, hv => by
    have e : w = v := by simpa using h
    subst e
    rcases w with x | x | x | x
    · simp [lvl]
    · simp [lvl]
    · simp [lvl]
    · cases x
      · exact absurd rfl hv
      · simp [lvl]
  | w :: ls, j, i + 1, v, h, hv => by
    have h2 : ls[i]? = some v := by simpa using h
    have ih := lvl_mem E ls (j + 1) i v h2 hv
    rw [show j + 1 + i = j + (i + 1) by omega] at ih
    rcases w with x | x | x | x
    · exact List.mem_cons_of_mem _ ih
    · exact List.mem_cons_of_mem _ ih
    · exact List.mem_cons_of_mem _ ih
    · cases x
      · exact ih
      · exact List.mem_cons_of_mem _ ih
theorem lvl_inv (E : En) : ∀ (ls : List PV) (j : Nat) (q : Nat × Value), q ∈ lvl E j ls → ∃ (i : Nat) (v : PV), ls[i]? = some v ∧ v ≠ vU ∧ q = (j + i, real E v)
  | [], _, _, h => by simp [lvl] at h
  | w :: ls, j, q, h => by
    have key : ∀ q, q ∈ lvl E (j + 1) ls → ∃ (i : Nat) (v : PV), (w :: ls)[i]? = some v ∧ v ≠ vU ∧ q = (j + i, real E v) := by
      intro q hq
      obtain ⟨i, v, a, b, c⟩ := lvl_inv E ls (j + 1) q hq
      exact ⟨i + 1, v, by simpa using a, b, by rw [c, show j + 1 + i = j + (i + 1) by omega]⟩
    have key2 : w ≠ vU → q = (j, real E w) ∨ q ∈ lvl E (j + 1) ls → ∃ (i : Nat) (v : PV), (w :: ls)[i]? = some v ∧ v ≠ vU ∧ q = (j + i, real E v) := by
      intro hw hq
      rcases hq with hq | hq
      · exact ⟨0, w, rfl, hw, hq⟩
      · exact key q hq
    rcases w with x | x | x | x
    · exact key2 (fun e => by cases e) (List.mem_cons.mp h)
    · exact key2 (fun e => by cases e) (List.mem_cons.mp h)
    · exact key2 (fun e => by cases e) (List.mem_cons.mp h)
    · cases x
      · exact key q h
      · exact key2 (fun e => by cases e) (List.mem_cons.mp h)
theorem lv_mono {la : Array Slot} {n : Nat} {l l' : List (Nat × Value)} (h : lv_has la n l) (hs : ∀ q ∈ l', q ∈ l) : lv_has la n l' := ⟨h.1, h.2.1, fun q hq => h.2.2 q (hs q hq)⟩
theorem lvl_get {E : En} {la : Array Slot} {n : Nat} {ls : List PV} (h : lv_has la n (lvl E 0 ls)) {i : Nat} {v : PV} (hi : ls[i]? = some v) (hv : v ≠ vU) : la[i]? = some (.val (real E v)) := by
  have := h.2.2 _ (lvl_mem E ls 0 i v hi hv)
  simpa using this
def okS (ls : List PV) (i : Nat) : Bool := match i with
  | 0 => true
  | k + 1 => match ls[k]? with
    | some (.inr (.inl _)) => false
    | _ => true
theorem okS_not {ls : List PV} {i k : Nat} {v : PV} (h : okS ls i = true) (hk : ls[k]? = some v) (hi : k + 1 = i) : pcat v ≠ 2 := by
  subst hi
  simp only [okS, hk] at h
  rcases v with x | x | x | x
  · simp [pcat]
  · simp at h
  · simp [pcat]
  · simp [pcat]
theorem set_get {ls : List PV} {i k : Nat} {v w : PV} (h : (ls.set i v)[k]? = some w) : (k = i ∧ w = v) ∨ (k ≠ i ∧ ls[k]? = some w) := by
  by_cases e : k = i
  · subst e
    have hl : k < ls.length := by
      have := (List.getElem?_eq_some_iff.mp h).1
      simpa using this
    rw [List.getElem?_set_self hl] at h
    exact Or.inl ⟨rfl, (Option.some.inj h).symm⟩
  · rw [List.getElem?_set_ne (fun q => e q.symm)] at h
    exact Or.inr ⟨e, h⟩
theorem lvl_set1 {E : En} {ls : List PV} {i : Nat} {v : PV} (ho : okS ls i = true) : ∀ q ∈ lvl E 0 (ls.set i v), q ∈ (i, real E v) :: (lvl E 0 ls).filter (fun q => !(q.1 == i) && !(q.1 + 1 == i && q.2.category == 2)) := by
  intro q hq
  obtain ⟨k, w, h1, h2, rfl⟩ := lvl_inv E _ 0 q hq
  rcases set_get h1 with ⟨rfl, rfl⟩ | ⟨hk, h3⟩
  · simp
  · refine List.mem_cons_of_mem _ (List.mem_filter.mpr ⟨lvl_mem E ls 0 k w h3 h2, ?_⟩)
    have hc : 0 + k + 1 = i → pcat w ≠ 2 := fun e => okS_not ho h3 (by omega)
    simp only [real_cat, Bool.and_eq_true, Bool.not_eq_true', beq_eq_false_iff_ne, ne_eq, Bool.and_eq_false_iff]
    refine ⟨by omega, ?_⟩
    by_cases e : 0 + k + 1 = i
    · exact Or.inr (hc e)
    · exact Or.inl e
theorem lvl_set2 {E : En} {ls : List PV} {i : Nat} {x : Int} (ho : okS ls i = true) : ∀ q ∈ lvl E 0 ((ls.set i (vL x)).set (i + 1) vU), q ∈ (i, Value.long (Int64.ofInt x)) :: (lvl E 0 ls).filter (fun q => !(q.1 == i) && (!(q.1 == i + 1) && !(q.1 + 1 == i && q.2.category == 2))) := by
  intro q hq
  obtain ⟨k, w, h1, h2, rfl⟩ := lvl_inv E _ 0 q hq
  rcases set_get h1 with ⟨rfl, rfl⟩ | ⟨hk, h3⟩
  · exact absurd rfl h2
  · rcases set_get h3 with ⟨rfl, rfl⟩ | ⟨hk2, h4⟩
    · simp [real]
    · refine List.mem_cons_of_mem _ (List.mem_filter.mpr ⟨lvl_mem E ls 0 k w h4 h2, ?_⟩)
      have hc : 0 + k + 1 = i → pcat w ≠ 2 := fun e => okS_not ho h4 (by omega)
      simp only [real_cat, Bool.and_eq_true, Bool.not_eq_true', beq_eq_false_iff_ne, ne_eq, Bool.and_eq_false_iff]
      refine ⟨by omega, by omega, ?_⟩
      by_cases e : 0 + k + 1 = i
      · exact Or.inr (hc e)
      · exact Or.inl e
theorem T_iload_n {M : MI} {pc : Nat} {ls st : List PV} {bg : Option (Nat × Nat)} {h : HS} {Q : Option PV → HS → Prop} {k : Fin 4} {x : Int} (hd : decode (miC M) pc = .ok (.iload_n k, 1)) (hi : ls[(k : Nat)]? = some (vI x)) (kk : T M (pc + 1) ls (vI x :: st) bg h Q) : T M pc ls st bg h Q := by
  intro E p l e R s m args below meth c Z H locs cells slots la hC hR hH hS h1 h2 hl
  exact lv_iload_n hC.1 hC.2.1 hd rfl (lvl_get hl hi (fun q => by cases q)) (kk E p l e R s m args below meth c Z H locs cells slots la hC hR hH hS h1 h2 hl)
theorem T_iload {M : MI} {pc : Nat} {ls st : List PV} {bg : Option (Nat × Nat)} {h : HS} {Q : Option PV → HS → Prop} {i : Nat} {x : Int} (hd : decode (miC M) pc = .ok (.iload i, 2)) (hi : ls[i]? = some (vI x)) (kk : T M (pc + 2) ls (vI x :: st) bg h Q) : T M pc ls st bg h Q := by
  intro E p l e R s m args below meth c Z H locs cells slots la hC hR hH hS h1 h2 hl
  exact lv_iload hC.1 hC.2.1 hd (lvl_get hl hi (fun q => by cases q)) (kk E p l e R s m args below meth c Z H locs cells slots la hC hR hH hS h1 h2 hl)
theorem T_lload_n {M : MI} {pc : Nat} {ls st : List PV} {bg : Option (Nat × Nat)} {h : HS} {Q : Option PV → HS → Prop} {k : Fin 4} {x : Int} (hd : decode (miC M) pc = .ok (.lload_n k, 1)) (hi : ls[(k : Nat)]? = some (vL x)) (kk : T M (pc + 1) ls (vL x :: st) bg h Q) : T M pc ls st bg h Q := by
  intro E p l e R s m args below meth c Z H locs cells slots la hC hR hH hS h1 h2 hl
  exact lv_lload_n hC.1 hC.2.1 hd rfl (lvl_get hl hi (fun q => by cases q)) (kk E p l e R s m args below meth c Z H locs cells slots la hC hR hH hS h1 h2 hl)
theorem T_lload {M : MI} {pc : Nat} {ls st : List PV} {bg : Option (Nat × Nat)} {h : HS} {Q : Option PV → HS → Prop} {i : Nat} {x : Int} (hd : decode (miC M) pc = .ok (.lload i, 2)) (hi : ls[i]? = some (vL x)) (kk : T M (pc + 2) ls (vL x :: st) bg h Q) : T M pc ls st bg h Q := by
  intro E p l e R s m args below meth c Z H locs cells slots la hC hR hH hS h1 h2 hl
  exact lv_lload hC.1 hC.2.1 hd (lvl_get hl hi (fun q => by cases q)) (kk E p l e R s m args below meth c Z H locs cells slots la hC hR hH hS h1 h2 hl)
theorem T_aload_n {M : MI} {pc : Nat} {ls st : List PV} {bg : Option (Nat × Nat)} {h : HS} {Q : Option PV → HS → Prop} {k : Fin 4} {x : Nat} (hd : decode (miC M) pc = .ok (.aload_n k, 1)) (hi : ls[(k : Nat)]? = some (vR x)) (kk : T M (pc + 1) ls (vR x :: st) bg h Q) : T M pc ls st bg h Q := by
  intro E p l e R s m args below meth c Z H locs cells slots la hC hR hH hS h1 h2 hl
  exact lv_aload_n hC.1 hC.2.1 hd rfl (lvl_get hl hi (fun q => by cases q)) (kk E p l e R s m args below meth c Z H locs cells slots la hC hR hH hS h1 h2 hl)
theorem T_aload {M : MI} {pc : Nat} {ls st : List PV} {bg : Option (Nat × Nat)} {h : HS} {Q : Option PV → HS → Prop} {i : Nat} {x : Nat} (hd : decode (miC M) pc = .ok (.aload i, 2)) (hi : ls[i]? = some (vR x)) (kk : T M (pc + 2) ls (vR x :: st) bg h Q) : T M pc ls st bg h Q := by
  intro E p l e R s m args below meth c Z H locs cells slots la hC hR hH hS h1 h2 hl
  exact lv_aload hC.1 hC.2.1 hd (lvl_get hl hi (fun q => by cases q)) (kk E p l e R s m args below meth c Z H locs cells slots la hC hR hH hS h1 h2 hl)
theorem T_sload_n {M : MI} {pc : Nat} {ls st : List PV} {bg : Option (Nat × Nat)} {h : HS} {Q : Option PV → HS → Prop} {k : Fin 4} (hd : decode (miC M) pc = .ok (.aload_n k, 1)) (hi : ls[(k : Nat)]? = some vS) (kk : T M (pc + 1) ls (vS :: st) bg h Q) : T M pc ls st bg h Q := by
  intro E p l e R s m args below meth c Z H locs cells slots la hC hR hH hS h1 h2 hl
  exact lv_aload_n hC.1 hC.2.1 hd rfl (lvl_get hl hi (fun q => by cases q)) (kk E p l e R s m args below meth c Z H locs cells slots la hC hR hH hS h1 h2 hl)
theorem T_istore_n {M : MI} {pc : Nat} {ls st : List PV} {bg : Option (Nat × Nat)} {h : HS} {Q : Option PV → HS → Prop} {k : Fin 4} {x : Int} {ls2 : List PV} (hd : decode (miC M) pc = .ok (.istore_n k, 1)) (hb : (k : Nat) < miL M) (ho : okS ls (k : Nat) = true) (hs : ls.set (k : Nat) (vI x) = ls2) (kk : T M (pc + 1) ls2 st bg h Q) : T M pc ls (vI x :: st) bg h Q := by
  intro E p l e R s m args below meth c Z H locs cells slots la hC hR hH hS h1 h2 hl
  subst hs
  exact lv_istore_n hC.1 hC.2.1 hd rfl hl hb rfl (fun la2 hl2 => kk E p l e R s m args below meth c Z H locs cells slots la2 hC hR hH hS h1 h2 (lv_mono hl2 (lvl_set1 ho)))
theorem T_istore {M : MI} {pc : Nat} {ls st : List PV} {bg : Option (Nat × Nat)} {h : HS} {Q : Option PV → HS → Prop} {i : Nat} {x : Int} {ls2 : List PV} (hd : decode (miC M) pc = .ok (.istore i, 2)) (hb : i < miL M) (ho : okS ls i = true) (hs : ls.set i (vI x) = ls2) (kk : T M (pc + 2) ls2 st bg h Q) : T M pc ls (vI x :: st) bg h Q := by
  intro E p l e R s m args below meth c Z H locs cells slots la hC hR hH hS h1 h2 hl
  subst hs
  exact lv_istore hC.1 hC.2.1 hd hl hb rfl (fun la2 hl2 => kk E p l e R s m args below meth c Z H locs cells slots la2 hC hR hH hS h1 h2 (lv_mono hl2 (lvl_set1 ho)))
theorem T_astore_n {M : MI} {pc : Nat} {ls st : List PV} {bg : Option (Nat × Nat)} {h : HS} {Q : Option PV → HS → Prop} {k : Fin 4} {x : Nat} {ls2 : List PV} (hd : decode (miC M) pc = .ok (.astore_n k, 1)) (hb : (k : Nat) < miL M) (ho : okS ls (k : Nat) = true) (hs : ls.set (k : Nat) (vR x) = ls2) (kk : T M (pc + 1) ls2 st bg h Q) : T M pc ls (vR x :: st) bg h Q := by
  intro E p l e R s m args below meth c Z H locs cells slots la hC hR hH hS h1 h2 hl
  subst hs
  exact lv_astore_n hC.1 hC.2.1 hd rfl hl hb rfl (fun la2 hl2 => kk E p l e R s m args below meth c Z H locs cells slots la2 hC hR hH hS h1 h2 (lv_mono hl2 (lvl_set1 ho)))
theorem T_astore {M : MI} {pc : Nat} {ls st : List PV} {bg : Option (Nat × Nat)} {h : HS} {Q : Option PV → HS → Prop} {i : Nat} {x : Nat} {ls2 : List PV} (hd : decode (miC M) pc = .ok (.astore i, 2)) (hb : i < miL M) (ho : okS ls i = true) (hs : ls.set i (vR x) = ls2) (kk : T M (pc + 2) ls2 st bg h Q) : T M pc ls (vR x :: st) bg h Q := by
  intro E p l e R s m args below meth c Z H locs cells slots la hC hR hH hS h1 h2 hl
  subst hs
  exact lv_astore hC.1 hC.2.1 hd hl hb rfl (fun la2 hl2 => kk E p l e R s m args below meth c Z H locs cells slots la2 hC hR hH hS h1 h2 (lv_mono hl2 (lvl_set1 ho)))
theorem T_lstore_n {M : MI} {pc : Nat} {ls st : List PV} {bg : Option (Nat × Nat)} {h : HS} {Q : Option PV → HS → Prop} {k : Fin 4} {x : Int} {ls2 : List PV} (hd : decode (miC M) pc = .ok (.lstore_n k, 1)) (hb : (k : Nat) + 1 < miL M) (ho : okS ls (k : Nat) = true) (hs : (ls.set (k : Nat) (vL x)).set ((k : Nat) + 1) vU = ls2) (kk : T M (pc + 1) ls2 st bg h Q) : T M pc ls (vL x :: st) bg h Q := by
  intro E p l e R s m args below meth c Z H locs cells slots la hC hR hH hS h1 h2 hl
  subst hs
  exact lv_lstore_n hC.1 hC.2.1 hd rfl hl hb rfl (fun la2 hl2 => kk E p l e R s m args below meth c Z H locs cells slots la2 hC hR hH hS h1 h2 (lv_mono hl2 (lvl_set2 ho)))
theorem T_lstore {M : MI} {pc : Nat} {ls st : List PV} {bg : Option (Nat × Nat)} {h : HS} {Q : Option PV → HS → Prop} {i : Nat} {x : Int} {ls2 : List PV} (hd : decode (miC M) pc = .ok (.lstore i, 2)) (hb : i + 1 < miL M) (ho : okS ls i = true) (hs : (ls.set i (vL x)).set (i + 1) vU = ls2) (kk : T M (pc + 2) ls2 st bg h Q) : T M pc ls (vL x :: st) bg h Q := by
  intro E p l e R s m args below meth c Z H locs cells slots la hC hR hH hS h1 h2 hl
  subst hs
  exact lv_lstore hC.1 hC.2.1 hd hl hb rfl (fun la2 hl2 => kk E p l e R s m args below meth c Z H locs cells slots la2 hC hR hH hS h1 h2 (lv_mono hl2 (lvl_set2 ho)))
theorem T_iinc {M : MI} {pc : Nat} {ls st : List PV} {bg : Option (Nat × Nat)} {h : HS} {Q : Option PV → HS → Prop} {i : Nat} {n x : Int} {ls2 : List PV} (hd : decode (miC M) pc = .ok (.iinc i n, 3)) (hb : i < miL M) (hi : ls[i]? = some (vI x)) (ho : okS ls i = true) (hs : ls.set i (vI (x + n)) = ls2) (kk : T M (pc + 3) ls2 st bg h Q) : T M pc ls st bg h Q := by
  intro E p l e R s m args below meth c Z H locs cells slots la hC hR hH hS h1 h2 hl
  subst hs
  have hm := lvl_mem E ls 0 i (vI x) hi (fun q => by cases q)
  obtain ⟨j, hj⟩ := List.getElem?_of_mem hm
  refine lv_iinc (v := Int32.ofInt (x + n)) hC.1 hC.2.1 hd hl (k := j) (i := i) (x := Int32.ofInt x) (by rw [hj]; simp [real]) (i_add x n) hb rfl (fun la2 hl2 => kk E p l e R s m args below meth c Z H locs cells slots la2 hC hR hH hS h1 h2 (lv_mono hl2 (lvl_set1 (v := vI (x + n)) ho)))
