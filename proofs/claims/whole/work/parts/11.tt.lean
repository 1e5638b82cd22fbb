/-! the world once both objects are made: shapes and references never change; a memory σ holds the numbers -/
def SHL : List (Nat × Nat) := [(9, 14), (23, 10), (24, 6), (3, 4), (6, 3), (6, 3), (5, 3), (20, 100), (20, 100), (4, 4), (20, 10), (21, 10), (21, 10), (2, 15), (0, 1), (20, 1380), (0, 1), (20, 1380), (20, 230), (20, 1150), (20, 230), (20, 230), (22, 230), (20, 5), (20, 5), (0, 1), (20, 6), (0, 1), (20, 6), (7, 3), (20, 24), (20, 24), (1, 1), (20, 10), (8, 5), (20, 24), (20, 24), (20, 24), (8, 5), (20, 24), (20, 24), (20, 24), (8, 5), (20, 24), (20, 24), (20, 24), (8, 5), (20, 24), (20, 24), (20, 24), (8, 5), (20, 24), (20, 24), (20, 24), (8, 5), (20, 24), (20, 24), (20, 24), (8, 5), (20, 24), (20, 24), (20, 24), (8, 5), (20, 24), (20, 24), (20, 24), (8, 5), (20, 24), (20, 24), (20, 24), (8, 5), (20, 24), (20, 24), (20, 24), (3, 4), (3, 4), (3, 4), (3, 4), (3, 4), (3, 4), (10, 32), (20, 10), (20, 240), (20, 240), (20, 240), (20, 10), (20, 200), (20, 200), (20, 1440), (20, 3000), (22, 500), (20, 500), (20, 500), (20, 500), (20, 2500), (20, 5), (20, 5), (20, 6), (20, 24), (20, 24), (20, 24)]
def SH (a : Nat) : Nat × Nat := SHL.getD a (0, 0)
def RSL : List (List Int) := [[1, 2, 3, 4, 5, 6, 9, 13, 29, 32, -1, -1, -1, -1], [34, 38, 42, 46, 50, 54, 58, 62, 66, 70], [74, 75, 76, 77, 78, 79], [], [], [], [7, 8, -1], [], [], [10, 11, 12, -1], [], [], [], [14, 16, 18, 19, 20, 21, 22, 23, 24, 25, 27, -1, -1, -1, -1], [15], [], [17], [], [], [], [], [], [], [], [], [26], [], [28], [], [30, 31, -1], [], [], [33], [], [35, 36, 37, -1, -1], [], [], [], [39, 40, 41, -1, -1], [], [], [], [43, 44, 45, -1, -1], [], [], [], [47, 48, 49, -1, -1], [], [], [], [51, 52, 53, -1, -1], [], [], [], [55, 56, 57, -1, -1], [], [], [], [59, 60, 61, -1, -1], [], [], [], [63, 64, 65, -1, -1], [], [], [], [67, 68, 69, -1, -1], [], [], [], [71, 72, 73, -1, -1], [], [], [], [], [], [], [], [], [], [81, 82, 83, 84, 85, -1, -1, -1, -1, -1, -1, 86, 87, -1, -1, -1, 88, -1, 89, 90, 91, 92, 93, 94, 95, 96, 97, 98, 99, -1, -1, 100], [], [], [], [], [], [], [], [], [], [], [], [], [], [], [], [], [], [], [], []]
def RS (a k : Nat) : Int := (RSL.getD a []).getD k (-1)
abbrev N0 : Nat := 101
def rsl (a k : Nat) : Bool := if (SH a).1 = 23 ∨ (SH a).1 = 24 then true else if (SH a).1 < 20 then isRefT (tyC (SH a).1 k) else false
def mrg (σ : Mem) : Mem := fun a k => if rsl a k = true then RS a k else σ a k
def hsm (σ : Mem) : HS := (N0, SH, mrg σ)
theorem rsl_obj {a c n k : Nat} (h : SH a = (c, n)) (hc : c < 20) : rsl a k = isRefT (tyC c k) := by
  unfold rsl
  rw [h]
  rw [if_neg (by show ¬ (c = 23 ∨ c = 24); omega), if_pos (by show c < 20; omega)]
theorem rsl_arr {a c n k : Nat} (h : SH a = (c, n)) (hc : c = 20 ∨ c = 21 ∨ c = 22) : rsl a k = false := by
  unfold rsl
  rw [h]
  rw [if_neg (by show ¬ (c = 23 ∨ c = 24); omega), if_neg (by show ¬ c < 20; omega)]
theorem mrg_n {σ : Mem} {a k : Nat} (h : rsl a k = false) : mrg σ a k = σ a k := by
  unfold mrg
  rw [if_neg (by rw [h]; decide)]
theorem mrg_r {σ : Mem} {a k : Nat} (h : rsl a k = true) : mrg σ a k = RS a k := by
  unfold mrg
  rw [if_pos h]
theorem mrg_up {σ : Mem} {a k : Nat} {v : Int} (h : rsl a k = false) : up (mrg σ) a k v = mrg (up σ a k v) := by
  funext b j
  unfold up mrg
  dsimp only
  by_cases e : b = a ∧ j = k
  · rw [if_pos e, if_neg (by rw [e.1, e.2, h]; decide), if_pos e]
  · rw [if_neg e, if_neg e]
theorem mrg_cpy {σ : Mem} {a b sp dp m n n2 : Nat} (ha : SH a = (20, n)) (hb : SH b = (20, n2)) : mcpy (mrg σ) a b sp dp m = mrg (mcpy σ a b sp dp m) := by
  funext x j
  unfold mcpy
  by_cases e : x = b ∧ dp ≤ j ∧ j < dp + m
  · rw [if_pos e, mrg_n (rsl_arr ha (Or.inl rfl)), mrg_n (by rw [e.1]; exact rsl_arr hb (Or.inl rfl)), if_pos e]
  · rw [if_neg e]
    unfold mrg
    dsimp only
    rw [if_neg e]
def TT (M : MI) (pc : Nat) (ls st : List PV) (σ : Mem) (P : Option PV → Mem → Prop) : Prop := ∀ Q : Option PV → HS → Prop, (∀ r σ', P r σ' → Q r (hsm σ')) → T M pc ls st none (hsm σ) Q
def CC (M : MI) (as : List PV) (σ : Mem) (P : Option PV → Mem → Prop) : Prop := ∀ Q : Option PV → HS → Prop, (∀ r σ', P r σ' → Q r (hsm σ')) → Con M as (hsm σ) Q
def PI (K : Int → Mem → Prop) : Option PV → Mem → Prop := fun r σ => ∃ x, r = some (vI x) ∧ K x σ
def PJ (K : Int → Mem → Prop) : Option PV → Mem → Prop := fun r σ => ∃ x, r = some (vL x) ∧ K x σ
def PN (K : Mem → Prop) : Option PV → Mem → Prop := fun r σ => r = none ∧ K σ
theorem TT.mono {M : MI} {pc : Nat} {ls st : List PV} {σ : Mem} {P P' : Option PV → Mem → Prop} (h : TT M pc ls st σ P) (hp : ∀ r σ', P r σ' → P' r σ') : TT M pc ls st σ P' := fun Q hQ => h Q fun r σ' q => hQ r σ' (hp r σ' q)
theorem CC.mono {M : MI} {as : List PV} {σ : Mem} {P P' : Option PV → Mem → Prop} (h : CC M as σ P) (hp : ∀ r σ', P r σ' → P' r σ') : CC M as σ P' := fun Q hQ => h Q fun r σ' q => hQ r σ' (hp r σ' q)
theorem CC_of {M : MI} {as : List PV} {σ : Mem} {P : Option PV → Mem → Prop} (hp : plainName (miY M).cls = true) (ho : (miY M).cls = miO M) (hW : miW M = false) (hi : miI M = false) (hln : (entL as).length ≤ miL M) (k : TT M 0 (ent M as) [] σ P) : CC M as σ P := fun Q hQ => Con_of hp ho hW (fun q => by rw [hi] at q; cases q) hln (by
  have e9 : bg0 M = none := by unfold bg0; rw [hi]; rfl
  rw [e9]
  exact k Q hQ)
theorem TT.cast {M : MI} {pc : Nat} {ls ls' st st' : List PV} {σ : Mem} {P : Option PV → Mem → Prop} (h : TT M pc ls' st' σ P) (e1 : ls' = ls) (e2 : st' = st) : TT M pc ls st σ P := by
  subst e1
  subst e2
  exact h
theorem TT_kill {M : MI} {pc : Nat} {ls ls' st : List PV} {σ : Mem} {P : Option PV → Mem → Prop} (i : Nat) (hs : ls.set i vU = ls') (h : TT M pc ls' st σ P) : TT M pc ls st σ P := by
  intro Q hQ E p l e R s m args below meth c Z H locs cells slots la hC hR hH hS h1 h2 hl
  subst hs
  refine h Q hQ E p l e R s m args below meth c Z H locs cells slots la hC hR hH hS h1 h2 (lv_mono hl fun q hq => ?_)
  obtain ⟨k, w, a1, a2, rfl⟩ := lvl_inv E _ 0 q hq
  rcases set_get a1 with ⟨rfl, rfl⟩ | ⟨hk, a3⟩
  · exact absurd rfl a2
  · exact lvl_mem E ls 0 k w a3 a2
theorem TT_iadd {M : MI} {pc : Nat} {ls st : List PV} {σ : Mem} {P : Option PV → Mem → Prop} {a b : Int} (hd : decode (miC M) pc = .ok (.iadd, 1)) (k : TT M (pc + 1) ls (vI (a + b) :: st) σ P) : TT M pc ls (vI b :: vI a :: st) σ P := fun Q hQ => T_iadd hd (k Q hQ)
theorem TT_isub {M : MI} {pc : Nat} {ls st : List PV} {σ : Mem} {P : Option PV → Mem → Prop} {a b : Int} (hd : decode (miC M) pc = .ok (.isub, 1)) (k : TT M (pc + 1) ls (vI (a - b) :: st) σ P) : TT M pc ls (vI b :: vI a :: st) σ P := fun Q hQ => T_isub hd (k Q hQ)
theorem TT_imul {M : MI} {pc : Nat} {ls st : List PV} {σ : Mem} {P : Option PV → Mem → Prop} {a b : Int} (hd : decode (miC M) pc = .ok (.imul, 1)) (k : TT M (pc + 1) ls (vI (a * b) :: st) σ P) : TT M pc ls (vI b :: vI a :: st) σ P := fun Q hQ => T_imul hd (k Q hQ)
theorem TT_ladd {M : MI} {pc : Nat} {ls st : List PV} {σ : Mem} {P : Option PV → Mem → Prop} {a b : Int} (hd : decode (miC M) pc = .ok (.ladd, 1)) (k : TT M (pc + 1) ls (vL (a + b) :: st) σ P) : TT M pc ls (vL b :: vL a :: st) σ P := fun Q hQ => T_ladd hd (k Q hQ)
theorem TT_lsub {M : MI} {pc : Nat} {ls st : List PV} {σ : Mem} {P : Option PV → Mem → Prop} {a b : Int} (hd : decode (miC M) pc = .ok (.lsub, 1)) (k : TT M (pc + 1) ls (vL (a - b) :: st) σ P) : TT M pc ls (vL b :: vL a :: st) σ P := fun Q hQ => T_lsub hd (k Q hQ)
theorem TT_lmul {M : MI} {pc : Nat} {ls st : List PV} {σ : Mem} {P : Option PV → Mem → Prop} {a b : Int} (hd : decode (miC M) pc = .ok (.lmul, 1)) (k : TT M (pc + 1) ls (vL (a * b) :: st) σ P) : TT M pc ls (vL b :: vL a :: st) σ P := fun Q hQ => T_lmul hd (k Q hQ)
theorem TT_ineg {M : MI} {pc : Nat} {ls st : List PV} {σ : Mem} {P : Option PV → Mem → Prop} {a : Int} (hd : decode (miC M) pc = .ok (.ineg, 1)) (k : TT M (pc + 1) ls (vI (-a) :: st) σ P) : TT M pc ls (vI a :: st) σ P := fun Q hQ => T_ineg hd (k Q hQ)
theorem TT_lneg {M : MI} {pc : Nat} {ls st : List PV} {σ : Mem} {P : Option PV → Mem → Prop} {a : Int} (hd : decode (miC M) pc = .ok (.lneg, 1)) (k : TT M (pc + 1) ls (vL (-a) :: st) σ P) : TT M pc ls (vL a :: st) σ P := fun Q hQ => T_lneg hd (k Q hQ)
theorem TT_idiv {M : MI} {pc : Nat} {ls st : List PV} {σ : Mem} {P : Option PV → Mem → Prop} {a b : Int} (hd : decode (miC M) pc = .ok (.idiv, 1)) (ha : R32 a) (hb : R32 b) (hn : b ≠ 0) (k : TT M (pc + 1) ls (vI (a.tdiv b) :: st) σ P) : TT M pc ls (vI b :: vI a :: st) σ P := fun Q hQ => T_idiv hd ha hb hn (k Q hQ)
theorem TT_irem {M : MI} {pc : Nat} {ls st : List PV} {σ : Mem} {P : Option PV → Mem → Prop} {a b : Int} (hd : decode (miC M) pc = .ok (.irem, 1)) (ha : R32 a) (hb : R32 b) (hn : b ≠ 0) (k : TT M (pc + 1) ls (vI (a.tmod b) :: st) σ P) : TT M pc ls (vI b :: vI a :: st) σ P := fun Q hQ => T_irem hd ha hb hn (k Q hQ)
theorem TT_ldiv {M : MI} {pc : Nat} {ls st : List PV} {σ : Mem} {P : Option PV → Mem → Prop} {a b : Int} (hd : decode (miC M) pc = .ok (.ldiv, 1)) (ha : R64 a) (hb : R64 b) (hn : b ≠ 0) (k : TT M (pc + 1) ls (vL (a.tdiv b) :: st) σ P) : TT M pc ls (vL b :: vL a :: st) σ P := fun Q hQ => T_ldiv hd ha hb hn (k Q hQ)
theorem TT_lrem {M : MI} {pc : Nat} {ls st : List PV} {σ : Mem} {P : Option PV → Mem → Prop} {a b : Int} (hd : decode (miC M) pc = .ok (.lrem, 1)) (ha : R64 a) (hb : R64 b) (hn : b ≠ 0) (k : TT M (pc + 1) ls (vL (a.tmod b) :: st) σ P) : TT M pc ls (vL b :: vL a :: st) σ P := fun Q hQ => T_lrem hd ha hb hn (k Q hQ)
theorem TT_i2l {M : MI} {pc : Nat} {ls st : List PV} {σ : Mem} {P : Option PV → Mem → Prop} {a : Int} (hd : decode (miC M) pc = .ok (.i2l, 1)) (ha : R32 a) (k : TT M (pc + 1) ls (vL a :: st) σ P) : TT M pc ls (vI a :: st) σ P := fun Q hQ => T_i2l hd ha (k Q hQ)
theorem TT_l2i {M : MI} {pc : Nat} {ls st : List PV} {σ : Mem} {P : Option PV → Mem → Prop} {a : Int} (hd : decode (miC M) pc = .ok (.l2i, 1)) (k : TT M (pc + 1) ls (vI a :: st) σ P) : TT M pc ls (vL a :: st) σ P := fun Q hQ => T_l2i hd (k Q hQ)
theorem TT_iand31 {M : MI} {pc : Nat} {ls st : List PV} {σ : Mem} {P : Option PV → Mem → Prop} {a : Int} (hd : decode (miC M) pc = .ok (.iand, 1)) (ha : R32 a) (k : TT M (pc + 1) ls (vI (a % 32) :: st) σ P) : TT M pc ls (vI 31 :: vI a :: st) σ P := fun Q hQ => T_iand31 hd ha (k Q hQ)
theorem TT_iconst {M : MI} {pc : Nat} {ls st : List PV} {σ : Mem} {P : Option PV → Mem → Prop} {n : Int} (hd : decode (miC M) pc = .ok (.iconst n, 1)) (k : TT M (pc + 1) ls (vI n :: st) σ P) : TT M pc ls st σ P := fun Q hQ => T_iconst hd (k Q hQ)
theorem TT_bipush {M : MI} {pc : Nat} {ls st : List PV} {σ : Mem} {P : Option PV → Mem → Prop} {n : Int} (hd : decode (miC M) pc = .ok (.bipush n, 2)) (hn : (Int8.ofInt n).toInt32 = Int32.ofInt n) (k : TT M (pc + 2) ls (vI n :: st) σ P) : TT M pc ls st σ P := fun Q hQ => T_bipush hd hn (k Q hQ)
theorem TT_sipush {M : MI} {pc : Nat} {ls st : List PV} {σ : Mem} {P : Option PV → Mem → Prop} {n : Int} (hd : decode (miC M) pc = .ok (.sipush n, 3)) (hn : (Int16.ofInt n).toInt32 = Int32.ofInt n) (k : TT M (pc + 3) ls (vI n :: st) σ P) : TT M pc ls st σ P := fun Q hQ => T_sipush hd hn (k Q hQ)
theorem TT_lconst {M : MI} {pc : Nat} {ls st : List PV} {σ : Mem} {P : Option PV → Mem → Prop} {n : Fin 2} {x : Int} (hd : decode (miC M) pc = .ok (.lconst n, 1)) (hx : Int64.ofNat (n : Nat) = Int64.ofInt x) (k : TT M (pc + 1) ls (vL x :: st) σ P) : TT M pc ls st σ P := fun Q hQ => T_lconst hd hx (k Q hQ)
theorem TT_ldc {M : MI} {pc : Nat} {ls st : List PV} {σ : Mem} {P : Option PV → Mem → Prop} {i : Nat} {n : Int32} {x : Int} (hd : decode (miC M) pc = .ok (.ldc i, 2)) (hw : Cond.constant (miO M) i n ∈ TS) (hx : n = Int32.ofInt x) (k : TT M (pc + 2) ls (vI x :: st) σ P) : TT M pc ls st σ P := fun Q hQ => T_ldc hd hw hx (k Q hQ)
theorem TT_ldc2 {M : MI} {pc : Nat} {ls st : List PV} {σ : Mem} {P : Option PV → Mem → Prop} {i : Nat} {n : Int64} {x : Int} (hd : decode (miC M) pc = .ok (.ldc2_w i, 3)) (hw : Cond.constantLong (miO M) i n ∈ TS) (hx : n = Int64.ofInt x) (k : TT M (pc + 3) ls (vL x :: st) σ P) : TT M pc ls st σ P := fun Q hQ => T_ldc2 hd hw hx (k Q hQ)
theorem TT_dup {M : MI} {pc : Nat} {ls st : List PV} {σ : Mem} {P : Option PV → Mem → Prop} {v : PV} (hd : decode (miC M) pc = .ok (.dup, 1)) (hc : pcat v = 1) (k : TT M (pc + 1) ls (v :: v :: st) σ P) : TT M pc ls (v :: st) σ P := fun Q hQ => T_dup hd hc (k Q hQ)
theorem TT_dup2 {M : MI} {pc : Nat} {ls st : List PV} {σ : Mem} {P : Option PV → Mem → Prop} {v w : PV} (hd : decode (miC M) pc = .ok (.dup2, 1)) (hc : pcat v = 1) (hw : pcat w = 1) (k : TT M (pc + 1) ls (v :: w :: v :: w :: st) σ P) : TT M pc ls (v :: w :: st) σ P := fun Q hQ => T_dup2 hd hc hw (k Q hQ)
theorem TT_goto {M : MI} {pc : Nat} {ls st : List PV} {σ : Mem} {P : Option PV → Mem → Prop} {off : Int} {tgt : Nat} (hd : decode (miC M) pc = .ok (.goto off, 3)) (ht : (pc : Int) + off = (tgt : Int)) (k : TT M tgt ls st σ P) : TT M pc ls st σ P := fun Q hQ => T_goto hd ht (k Q hQ)
theorem TT_icmp_eq {M : MI} {pc : Nat} {ls st : List PV} {σ : Mem} {P : Option PV → Mem → Prop} {a b : Int} {off : Int} {tgt : Nat} (hd : decode (miC M) pc = .ok (.if_icmp .eq off, 3)) (ht : (pc : Int) + off = (tgt : Int)) (ha : R32 a) (hb : R32 b) (kt : a = b → TT M tgt ls st σ P) (kf : ¬ a = b → TT M (pc + 3) ls st σ P) : TT M pc ls (vI b :: vI a :: st) σ P := fun Q hQ => T_icmp_eq hd ht ha hb (fun q => kt q Q hQ) (fun q => kf q Q hQ)
theorem TT_if_eq {M : MI} {pc : Nat} {ls st : List PV} {σ : Mem} {P : Option PV → Mem → Prop} {a : Int} {off : Int} {tgt : Nat} (hd : decode (miC M) pc = .ok (.ifCond .eq off, 3)) (ht : (pc : Int) + off = (tgt : Int)) (ha : R32 a) (kt : a = 0 → TT M tgt ls st σ P) (kf : ¬ a = 0 → TT M (pc + 3) ls st σ P) : TT M pc ls (vI a :: st) σ P := fun Q hQ => T_if_eq hd ht ha (fun q => kt q Q hQ) (fun q => kf q Q hQ)
theorem TT_icmp_ne {M : MI} {pc : Nat} {ls st : List PV} {σ : Mem} {P : Option PV → Mem → Prop} {a b : Int} {off : Int} {tgt : Nat} (hd : decode (miC M) pc = .ok (.if_icmp .ne off, 3)) (ht : (pc : Int) + off = (tgt : Int)) (ha : R32 a) (hb : R32 b) (kt : ¬ a = b → TT M tgt ls st σ P) (kf : a = b → TT M (pc + 3) ls st σ P) : TT M pc ls (vI b :: vI a :: st) σ P := fun Q hQ => T_icmp_ne hd ht ha hb (fun q => kt q Q hQ) (fun q => kf q Q hQ)
theorem TT_if_ne {M : MI} {pc : Nat} {ls st : List PV} {σ : Mem} {P : Option PV → Mem → Prop} {a : Int} {off : Int} {tgt : Nat} (hd : decode (miC M) pc = .ok (.ifCond .ne off, 3)) (ht : (pc : Int) + off = (tgt : Int)) (ha : R32 a) (kt : ¬ a = 0 → TT M tgt ls st σ P) (kf : a = 0 → TT M (pc + 3) ls st σ P) : TT M pc ls (vI a :: st) σ P := fun Q hQ => T_if_ne hd ht ha (fun q => kt q Q hQ) (fun q => kf q Q hQ)
theorem TT_icmp_lt {M : MI} {pc : Nat} {ls st : List PV} {σ : Mem} {P : Option PV → Mem → Prop} {a b : Int} {off : Int} {tgt : Nat} (hd : decode (miC M) pc = .ok (.if_icmp .lt off, 3)) (ht : (pc : Int) + off = (tgt : Int)) (ha : R32 a) (hb : R32 b) (kt : a < b → TT M tgt ls st σ P) (kf : ¬ a < b → TT M (pc + 3) ls st σ P) : TT M pc ls (vI b :: vI a :: st) σ P := fun Q hQ => T_icmp_lt hd ht ha hb (fun q => kt q Q hQ) (fun q => kf q Q hQ)
theorem TT_if_lt {M : MI} {pc : Nat} {ls st : List PV} {σ : Mem} {P : Option PV → Mem → Prop} {a : Int} {off : Int} {tgt : Nat} (hd : decode (miC M) pc = .ok (.ifCond .lt off, 3)) (ht : (pc : Int) + off = (tgt : Int)) (ha : R32 a) (kt : a < 0 → TT M tgt ls st σ P) (kf : ¬ a < 0 → TT M (pc + 3) ls st σ P) : TT M pc ls (vI a :: st) σ P := fun Q hQ => T_if_lt hd ht ha (fun q => kt q Q hQ) (fun q => kf q Q hQ)
theorem TT_icmp_ge {M : MI} {pc : Nat} {ls st : List PV} {σ : Mem} {P : Option PV → Mem → Prop} {a b : Int} {off : Int} {tgt : Nat} (hd : decode (miC M) pc = .ok (.if_icmp .ge off, 3)) (ht : (pc : Int) + off = (tgt : Int)) (ha : R32 a) (hb : R32 b) (kt : b ≤ a → TT M tgt ls st σ P) (kf : ¬ b ≤ a → TT M (pc + 3) ls st σ P) : TT M pc ls (vI b :: vI a :: st) σ P := fun Q hQ => T_icmp_ge hd ht ha hb (fun q => kt q Q hQ) (fun q => kf q Q hQ)
theorem TT_if_ge {M : MI} {pc : Nat} {ls st : List PV} {σ : Mem} {P : Option PV → Mem → Prop} {a : Int} {off : Int} {tgt : Nat} (hd : decode (miC M) pc = .ok (.ifCond .ge off, 3)) (ht : (pc : Int) + off = (tgt : Int)) (ha : R32 a) (kt : 0 ≤ a → TT M tgt ls st σ P) (kf : ¬ 0 ≤ a → TT M (pc + 3) ls st σ P) : TT M pc ls (vI a :: st) σ P := fun Q hQ => T_if_ge hd ht ha (fun q => kt q Q hQ) (fun q => kf q Q hQ)
theorem TT_icmp_gt {M : MI} {pc : Nat} {ls st : List PV} {σ : Mem} {P : Option PV → Mem → Prop} {a b : Int} {off : Int} {tgt : Nat} (hd : decode (miC M) pc = .ok (.if_icmp .gt off, 3)) (ht : (pc : Int) + off = (tgt : Int)) (ha : R32 a) (hb : R32 b) (kt : b < a → TT M tgt ls st σ P) (kf : ¬ b < a → TT M (pc + 3) ls st σ P) : TT M pc ls (vI b :: vI a :: st) σ P := fun Q hQ => T_icmp_gt hd ht ha hb (fun q => kt q Q hQ) (fun q => kf q Q hQ)
theorem TT_if_gt {M : MI} {pc : Nat} {ls st : List PV} {σ : Mem} {P : Option PV → Mem → Prop} {a : Int} {off : Int} {tgt : Nat} (hd : decode (miC M) pc = .ok (.ifCond .gt off, 3)) (ht : (pc : Int) + off = (tgt : Int)) (ha : R32 a) (kt : 0 < a → TT M tgt ls st σ P) (kf : ¬ 0 < a → TT M (pc + 3) ls st σ P) : TT M pc ls (vI a :: st) σ P := fun Q hQ => T_if_gt hd ht ha (fun q => kt q Q hQ) (fun q => kf q Q hQ)
theorem TT_icmp_le {M : MI} {pc : Nat} {ls st : List PV} {σ : Mem} {P : Option PV → Mem → Prop} {a b : Int} {off : Int} {tgt : Nat} (hd : decode (miC M) pc = .ok (.if_icmp .le off, 3)) (ht : (pc : Int) + off = (tgt : Int)) (ha : R32 a) (hb : R32 b) (kt : a ≤ b → TT M tgt ls st σ P) (kf : ¬ a ≤ b → TT M (pc + 3) ls st σ P) : TT M pc ls (vI b :: vI a :: st) σ P := fun Q hQ => T_icmp_le hd ht ha hb (fun q => kt q Q hQ) (fun q => kf q Q hQ)
theorem TT_if_le {M : MI} {pc : Nat} {ls st : List PV} {σ : Mem} {P : Option PV → Mem → Prop} {a : Int} {off : Int} {tgt : Nat} (hd : decode (miC M) pc = .ok (.ifCond .le off, 3)) (ht : (pc : Int) + off = (tgt : Int)) (ha : R32 a) (kt : a ≤ 0 → TT M tgt ls st σ P) (kf : ¬ a ≤ 0 → TT M (pc + 3) ls st σ P) : TT M pc ls (vI a :: st) σ P := fun Q hQ => T_if_le hd ht ha (fun q => kt q Q hQ) (fun q => kf q Q hQ)
theorem TT_lcmp {M : MI} {pc : Nat} {ls st : List PV} {σ : Mem} {P : Option PV → Mem → Prop} {a b : Int} (hd : decode (miC M) pc = .ok (.lcmp, 1)) (ha : R64 a) (hb : R64 b) (k : TT M (pc + 1) ls (vI (if b < a then 1 else if a = b then 0 else -1) :: st) σ P) : TT M pc ls (vL b :: vL a :: st) σ P := fun Q hQ => T_lcmp hd ha hb (k Q hQ)
theorem TT_tableIn {M : MI} {pc : Nat} {ls st : List PV} {σ : Mem} {P : Option PV → Mem → Prop} {x : Int} {dflt lo hi : Int} {offs : Array Int} {len : Nat} {off : Int} {tgt : Nat} (hd : decode (miC M) pc = .ok (.tableswitch dflt lo hi offs, len)) (hx : R32 x) (q1 : lo ≤ x) (q2 : x ≤ hi) (ho : offs[(x - lo).toNat]? = some off) (ht : (pc : Int) + off = (tgt : Int)) (k : TT M tgt ls st σ P) : TT M pc ls (vI x :: st) σ P := fun Q hQ => T_tableIn hd hx q1 q2 ho ht (k Q hQ)
theorem TT_tableOut {M : MI} {pc : Nat} {ls st : List PV} {σ : Mem} {P : Option PV → Mem → Prop} {x : Int} {dflt lo hi : Int} {offs : Array Int} {len : Nat} {tgt : Nat} (hd : decode (miC M) pc = .ok (.tableswitch dflt lo hi offs, len)) (hx : R32 x) (q1 : x < lo ∨ hi < x) (ht : (pc : Int) + dflt = (tgt : Int)) (k : TT M tgt ls st σ P) : TT M pc ls (vI x :: st) σ P := fun Q hQ => T_tableOut hd hx q1 ht (k Q hQ)
theorem TT_iload_n {M : MI} {pc : Nat} {ls st : List PV} {σ : Mem} {P : Option PV → Mem → Prop} {k : Fin 4} {x : Int} (hd : decode (miC M) pc = .ok (.iload_n k, 1)) (hi : ls[(k : Nat)]? = some (vI x)) (kk : TT M (pc + 1) ls (vI x :: st) σ P) : TT M pc ls st σ P := fun Q hQ => T_iload_n hd hi (kk Q hQ)
theorem TT_iload {M : MI} {pc : Nat} {ls st : List PV} {σ : Mem} {P : Option PV → Mem → Prop} {i : Nat} {x : Int} (hd : decode (miC M) pc = .ok (.iload i, 2)) (hi : ls[i]? = some (vI x)) (kk : TT M (pc + 2) ls (vI x :: st) σ P) : TT M pc ls st σ P := fun Q hQ => T_iload hd hi (kk Q hQ)
theorem TT_lload_n {M : MI} {pc : Nat} {ls st : List PV} {σ : Mem} {P : Option PV → Mem → Prop} {k : Fin 4} {x : Int} (hd : decode (miC M) pc = .ok (.lload_n k, 1)) (hi : ls[(k : Nat)]? = some (vL x)) (kk : TT M (pc + 1) ls (vL x :: st) σ P) : TT M pc ls st σ P := fun Q hQ => T_lload_n hd hi (kk Q hQ)
theorem TT_lload {M : MI} {pc : Nat} {ls st : List PV} {σ : Mem} {P : Option PV → Mem → Prop} {i : Nat} {x : Int} (hd : decode (miC M) pc = .ok (.lload i, 2)) (hi : ls[i]? = some (vL x)) (kk : TT M (pc + 2) ls (vL x :: st) σ P) : TT M pc ls st σ P := fun Q hQ => T_lload hd hi (kk Q hQ)
theorem TT_aload_n {M : MI} {pc : Nat} {ls st : List PV} {σ : Mem} {P : Option PV → Mem → Prop} {k : Fin 4} {x : Nat} (hd : decode (miC M) pc = .ok (.aload_n k, 1)) (hi : ls[(k : Nat)]? = some (vR x)) (kk : TT M (pc + 1) ls (vR x :: st) σ P) : TT M pc ls st σ P := fun Q hQ => T_aload_n hd hi (kk Q hQ)
theorem TT_aload {M : MI} {pc : Nat} {ls st : List PV} {σ : Mem} {P : Option PV → Mem → Prop} {i : Nat} {x : Nat} (hd : decode (miC M) pc = .ok (.aload i, 2)) (hi : ls[i]? = some (vR x)) (kk : TT M (pc + 2) ls (vR x :: st) σ P) : TT M pc ls st σ P := fun Q hQ => T_aload hd hi (kk Q hQ)
theorem TT_sload_n {M : MI} {pc : Nat} {ls st : List PV} {σ : Mem} {P : Option PV → Mem → Prop} {k : Fin 4} (hd : decode (miC M) pc = .ok (.aload_n k, 1)) (hi : ls[(k : Nat)]? = some vS) (kk : TT M (pc + 1) ls (vS :: st) σ P) : TT M pc ls st σ P := fun Q hQ => T_sload_n hd hi (kk Q hQ)
theorem TT_istore_n {M : MI} {pc : Nat} {ls st : List PV} {σ : Mem} {P : Option PV → Mem → Prop} {k : Fin 4} {x : Int} {ls2 : List PV} (hd : decode (miC M) pc = .ok (.istore_n k, 1)) (hb : (k : Nat) < miL M) (ho : okS ls (k : Nat) = true) (hs : ls.set (k : Nat) (vI x) = ls2) (kk : TT M (pc + 1) ls2 st σ P) : TT M pc ls (vI x :: st) σ P := fun Q hQ => T_istore_n hd hb ho hs (kk Q hQ)
theorem TT_istore {M : MI} {pc : Nat} {ls st : List PV} {σ : Mem} {P : Option PV → Mem → Prop} {i : Nat} {x : Int} {ls2 : List PV} (hd : decode (miC M) pc = .ok (.istore i, 2)) (hb : i < miL M) (ho : okS ls i = true) (hs : ls.set i (vI x) = ls2) (kk : TT M (pc + 2) ls2 st σ P) : TT M pc ls (vI x :: st) σ P := fun Q hQ => T_istore hd hb ho hs (kk Q hQ)
theorem TT_astore_n {M : MI} {pc : Nat} {ls st : List PV} {σ : Mem} {P : Option PV → Mem → Prop} {k : Fin 4} {x : Nat} {ls2 : List PV} (hd : decode (miC M) pc = .ok (.astore_n k, 1)) (hb : (k : Nat) < miL M) (ho : okS ls (k : Nat) = true) (hs : ls.set (k : Nat) (vR x) = ls2) (kk : TT M (pc + 1) ls2 st σ P) : TT M pc ls (vR x :: st) σ P := fun Q hQ => T_astore_n hd hb ho hs (kk Q hQ)
theorem TT_astore {M : MI} {pc : Nat} {ls st : List PV} {σ : Mem} {P : Option PV → Mem → Prop} {i : Nat} {x : Nat} {ls2 : List PV} (hd : decode (miC M) pc = .ok (.astore i, 2)) (hb : i < miL M) (ho : okS ls i = true) (hs : ls.set i (vR x) = ls2) (kk : TT M (pc + 2) ls2 st σ P) : TT M pc ls (vR x :: st) σ P := fun Q hQ => T_astore hd hb ho hs (kk Q hQ)
theorem TT_lstore_n {M : MI} {pc : Nat} {ls st : List PV} {σ : Mem} {P : Option PV → Mem → Prop} {k : Fin 4} {x : Int} {ls2 : List PV} (hd : decode (miC M) pc = .ok (.lstore_n k, 1)) (hb : (k : Nat) + 1 < miL M) (ho : okS ls (k : Nat) = true) (hs : (ls.set (k : Nat) (vL x)).set ((k : Nat) + 1) vU = ls2) (kk : TT M (pc + 1) ls2 st σ P) : TT M pc ls (vL x :: st) σ P := fun Q hQ => T_lstore_n hd hb ho hs (kk Q hQ)
theorem TT_lstore {M : MI} {pc : Nat} {ls st : List PV} {σ : Mem} {P : Option PV → Mem → Prop} {i : Nat} {x : Int} {ls2 : List PV} (hd : decode (miC M) pc = .ok (.lstore i, 2)) (hb : i + 1 < miL M) (ho : okS ls i = true) (hs : (ls.set i (vL x)).set (i + 1) vU = ls2) (kk : TT M (pc + 2) ls2 st σ P) : TT M pc ls (vL x :: st) σ P := fun Q hQ => T_lstore hd hb ho hs (kk Q hQ)
theorem TT_iinc {M : MI} {pc : Nat} {ls st : List PV} {σ : Mem} {P : Option PV → Mem → Prop} {i : Nat} {n x : Int} {ls2 : List PV} (hd : decode (miC M) pc = .ok (.iinc i n, 3)) (hb : i < miL M) (hi : ls[i]? = some (vI x)) (ho : okS ls i = true) (hs : ls.set i (vI (x + n)) = ls2) (kk : TT M (pc + 3) ls2 st σ P) : TT M pc ls st σ P := fun Q hQ => T_iinc hd hb hi ho hs (kk Q hQ)
theorem TT_getI {M : MI} {pc : Nat} {ls st : List PV} {σ : Mem} {P : Option PV → Mem → Prop} {a : Nat} {idx c k nf : Nat} {fin : Bool} (hd : decode (miC M) pc = .ok (.getfield idx, 3)) (hf : Fld (miO M) idx c k nf fin) (hc : c < 20) (hty : tyC c k = .int ∨ tyC c k = .boolean) (ha : a < N0) (hs : SH a = (c, nf)) (kk : TT M (pc + 3) ls (vI (σ a k) :: st) σ P) : TT M pc ls (vR a :: st) σ P := fun Q hQ => T_getI hd hf hty ha hs (by
  rw [mrg_n (by rw [rsl_obj hs hc]; rcases hty with q | q <;> rw [q] <;> rfl)]
  exact kk Q hQ)
theorem TT_getJ {M : MI} {pc : Nat} {ls st : List PV} {σ : Mem} {P : Option PV → Mem → Prop} {a : Nat} {idx c k nf : Nat} {fin : Bool} (hd : decode (miC M) pc = .ok (.getfield idx, 3)) (hf : Fld (miO M) idx c k nf fin) (hc : c < 20) (hty : tyC c k = .long) (ha : a < N0) (hs : SH a = (c, nf)) (kk : TT M (pc + 3) ls (vL (σ a k) :: st) σ P) : TT M pc ls (vR a :: st) σ P := fun Q hQ => T_getJ hd hf hty ha hs (by
  rw [mrg_n (by rw [rsl_obj hs hc, hty]; rfl)]
  exact kk Q hQ)
theorem TT_getR {M : MI} {pc : Nat} {ls st : List PV} {σ : Mem} {P : Option PV → Mem → Prop} {a : Nat} {idx c k nf r : Nat} {fin : Bool} (hd : decode (miC M) pc = .ok (.getfield idx, 3)) (hf : Fld (miO M) idx c k nf fin) (hc : c < 20) (hty : isRefT (tyC c k) = true) (ha : a < N0) (hs : SH a = (c, nf)) (hr : RS a k = (r : Int)) (kk : TT M (pc + 3) ls (vR r :: st) σ P) : TT M pc ls (vR a :: st) σ P := fun Q hQ => T_getR (r := r) hd hf hty ha hs (by rw [mrg_r (by rw [rsl_obj hs hc]; exact hty)]; exact hr) (kk Q hQ)
theorem TT_putI {M : MI} {pc : Nat} {ls st : List PV} {σ : Mem} {P : Option PV → Mem → Prop} {a : Nat} {idx c k nf : Nat} {x : Int} (hd : decode (miC M) pc = .ok (.putfield idx, 3)) (hf : Fld (miO M) idx c k nf false) (hc : c < 20) (hty : tyC c k = .int) (ha : a < N0) (hs : SH a = (c, nf)) (kk : TT M (pc + 3) ls st (up σ a k x) P) : TT M pc ls (vI x :: vR a :: st) σ P := fun Q hQ => T_putI hd hf hty ha hs (by
  rw [mrg_up (by rw [rsl_obj hs hc, hty]; rfl)]
  exact kk Q hQ)
theorem TT_putZ {M : MI} {pc : Nat} {ls st : List PV} {σ : Mem} {P : Option PV → Mem → Prop} {a : Nat} {idx c k nf : Nat} {x : Int} (hd : decode (miC M) pc = .ok (.putfield idx, 3)) (hf : Fld (miO M) idx c k nf false) (hc : c < 20) (hty : tyC c k = .boolean) (hx : x = 0 ∨ x = 1) (ha : a < N0) (hs : SH a = (c, nf)) (kk : TT M (pc + 3) ls st (up σ a k x) P) : TT M pc ls (vI x :: vR a :: st) σ P := fun Q hQ => T_putZ hd hf hty hx ha hs (by
  rw [mrg_up (by rw [rsl_obj hs hc, hty]; rfl)]
  exact kk Q hQ)
theorem TT_putJ {M : MI} {pc : Nat} {ls st : List PV} {σ : Mem} {P : Option PV → Mem → Prop} {a : Nat} {idx c k nf : Nat} {x : Int} (hd : decode (miC M) pc = .ok (.putfield idx, 3)) (hf : Fld (miO M) idx c k nf false) (hc : c < 20) (hty : tyC c k = .long) (ha : a < N0) (hs : SH a = (c, nf)) (kk : TT M (pc + 3) ls st (up σ a k x) P) : TT M pc ls (vL x :: vR a :: st) σ P := fun Q hQ => T_putJ hd hf hty ha hs (by
  rw [mrg_up (by rw [rsl_obj hs hc, hty]; rfl)]
  exact kk Q hQ)
theorem TT_iald {M : MI} {pc : Nat} {ls st : List PV} {σ : Mem} {P : Option PV → Mem → Prop} {a : Nat} {len : Nat} {i : Int} (hd : decode (miC M) pc = .ok (.iaload, 1)) (ha : a < N0) (hs : SH a = (20, len)) (hln : len < 2147483648) (ho : 0 ≤ i ∧ i < len) (kk : TT M (pc + 1) ls (vI (σ a i.toNat) :: st) σ P) : TT M pc ls (vI i :: vR a :: st) σ P := fun Q hQ => T_iald hd ha hs hln ho.1 ho.2 (by
  rw [mrg_n (rsl_arr hs (Or.inl rfl))]
  exact kk Q hQ)
theorem TT_zald {M : MI} {pc : Nat} {ls st : List PV} {σ : Mem} {P : Option PV → Mem → Prop} {a : Nat} {len : Nat} {i : Int} (hd : decode (miC M) pc = .ok (.baload, 1)) (ha : a < N0) (hs : SH a = (22, len)) (hln : len < 2147483648) (ho : 0 ≤ i ∧ i < len) (kk : TT M (pc + 1) ls (vI (σ a i.toNat) :: st) σ P) : TT M pc ls (vI i :: vR a :: st) σ P := fun Q hQ => T_zald hd ha hs hln ho.1 ho.2 (by
  rw [mrg_n (rsl_arr hs (Or.inr (Or.inr rfl)))]
  exact kk Q hQ)
theorem TT_lald {M : MI} {pc : Nat} {ls st : List PV} {σ : Mem} {P : Option PV → Mem → Prop} {a : Nat} {len : Nat} {i : Int} (hd : decode (miC M) pc = .ok (.laload, 1)) (ha : a < N0) (hs : SH a = (21, len)) (hln : len < 2147483648) (ho : 0 ≤ i ∧ i < len) (kk : TT M (pc + 1) ls (vL (σ a i.toNat) :: st) σ P) : TT M pc ls (vI i :: vR a :: st) σ P := fun Q hQ => T_lald hd ha hs hln ho.1 ho.2 (by
  rw [mrg_n (rsl_arr hs (Or.inr (Or.inl rfl)))]
  exact kk Q hQ)
theorem TT_iast {M : MI} {pc : Nat} {ls st : List PV} {σ : Mem} {P : Option PV → Mem → Prop} {a : Nat} {len : Nat} {i x : Int} (hd : decode (miC M) pc = .ok (.iastore, 1)) (ha : a < N0) (hs : SH a = (20, len)) (hln : len < 2147483648) (ho : 0 ≤ i ∧ i < len) (kk : TT M (pc + 1) ls st (up σ a i.toNat x) P) : TT M pc ls (vI x :: vI i :: vR a :: st) σ P := fun Q hQ => T_iast hd ha hs hln ho.1 ho.2 (by
  rw [mrg_up (rsl_arr hs (Or.inl rfl))]
  exact kk Q hQ)
theorem TT_zast {M : MI} {pc : Nat} {ls st : List PV} {σ : Mem} {P : Option PV → Mem → Prop} {a : Nat} {len : Nat} {i x : Int} (hd : decode (miC M) pc = .ok (.bastore, 1)) (hx : x = 0 ∨ x = 1) (ha : a < N0) (hs : SH a = (22, len)) (hln : len < 2147483648) (ho : 0 ≤ i ∧ i < len) (kk : TT M (pc + 1) ls st (up σ a i.toNat x) P) : TT M pc ls (vI x :: vI i :: vR a :: st) σ P := fun Q hQ => T_zast hd hx ha hs hln ho.1 ho.2 (by
  rw [mrg_up (rsl_arr hs (Or.inr (Or.inr rfl)))]
  exact kk Q hQ)
theorem TT_last {M : MI} {pc : Nat} {ls st : List PV} {σ : Mem} {P : Option PV → Mem → Prop} {a : Nat} {len : Nat} {i x : Int} (hd : decode (miC M) pc = .ok (.lastore, 1)) (ha : a < N0) (hs : SH a = (21, len)) (hln : len < 2147483648) (ho : 0 ≤ i ∧ i < len) (kk : TT M (pc + 1) ls st (up σ a i.toNat x) P) : TT M pc ls (vL x :: vI i :: vR a :: st) σ P := fun Q hQ => T_last hd ha hs hln ho.1 ho.2 (by
  rw [mrg_up (rsl_arr hs (Or.inr (Or.inl rfl)))]
  exact kk Q hQ)
theorem TT_aald {M : MI} {pc : Nat} {ls st : List PV} {σ : Mem} {P : Option PV → Mem → Prop} {a : Nat} {len kd r : Nat} {i : Int} (hd : decode (miC M) pc = .ok (.aaload, 1)) (hk : kd = 23 ∨ kd = 24) (ha : a < N0) (hs : SH a = (kd, len)) (hln : len < 2147483648) (ho : 0 ≤ i ∧ i < len) (hr : RS a i.toNat = (r : Int)) (kk : TT M (pc + 1) ls (vR r :: st) σ P) : TT M pc ls (vI i :: vR a :: st) σ P := fun Q hQ => T_aald (r := r) hd hk ha hs hln ho.1 ho.2 (by rw [mrg_r (by unfold rsl; rw [hs, if_pos (by rcases hk with q | q <;> rw [q] <;> simp)])]; exact hr) (kk Q hQ)
theorem TT_alen {M : MI} {pc : Nat} {ls st : List PV} {σ : Mem} {P : Option PV → Mem → Prop} {a : Nat} {len : Nat} (hd : decode (miC M) pc = .ok (.arraylength, 1)) (ha : a < N0) (hs : SH a = (20, len)) (kk : TT M (pc + 1) ls (vI len :: st) σ P) : TT M pc ls (vR a :: st) σ P := fun Q hQ => T_alen hd rfl ha hs (kk Q hQ)
theorem TT_copy {M : MI} {pc : Nat} {ls st : List PV} {σ : Mem} {P : Option PV → Mem → Prop} {a : Nat} {idx len len2 b : Nat} {sp dp m9 : Int} (hd : decode (miC M) pc = .ok (.invokestatic idx, 3)) (hw9 : Cond.methodLink (miO M) idx arraycopyName ∈ TS) (hF : 1 ≤ miF M) (hV : (st.map pcat).sum + (nativeFrameWords "java/lang/System" "arraycopy" 5 + 11) ≤ miV M) (ha : a < N0) (hs : SH a = (20, len)) (hb : b < N0) (hsb : SH b = (20, len2)) (hln : len < 2147483648) (hln2 : len2 < 2147483648) (ho : 0 ≤ sp ∧ 0 ≤ dp ∧ 0 ≤ m9 ∧ sp + m9 ≤ len ∧ dp + m9 ≤ len2) (kk : TT M (pc + 3) ls st (mcpy σ a b sp.toNat dp.toNat m9.toNat) P) : TT M pc ls (vI m9 :: vI dp :: vR b :: vI sp :: vR a :: st) σ P := fun Q hQ => T_copy hd hw9 hF hV ha hs hb hsb hln hln2 ho.1 ho.2.1 ho.2.2.1 ho.2.2.2.1 ho.2.2.2.2 (by
  rw [mrg_cpy hs hsb]
  exact kk Q hQ)
theorem TT_sald {M : MI} {pc : Nat} {ls st : List PV} {σ : Mem} {P : Option PV → Mem → Prop} {i : Int} (hd : decode (miC M) pc = .ok (.iaload, 1)) (hW : miW M = true) (hln : (miX M).1 < 2147483648) (ho : 0 ≤ i ∧ i < (miX M).1) (kk : TT M (pc + 1) ls (vI ((miX M).2 i.toNat) :: st) σ P) : TT M pc ls (vI i :: vS :: st) σ P := fun Q hQ => T_sald hd hW hln ho.1 ho.2 (kk Q hQ)
theorem TT_slen {M : MI} {pc : Nat} {ls st : List PV} {σ : Mem} {P : Option PV → Mem → Prop} (hd : decode (miC M) pc = .ok (.arraylength, 1)) (hW : miW M = true) (kk : TT M (pc + 1) ls (vI ((miX M).1 : Int) :: st) σ P) : TT M pc ls (vS :: st) σ P := fun Q hQ => T_slen hd hW (kk Q hQ)
theorem TT_vret {M : MI} {pc : Nat} {ls : List PV} {σ : Mem} {K : Mem → Prop} (hd : decode (miC M) pc = .ok (.return_, 1)) (hr : miR M = none) (hm : miI M = false) (hq : K σ) : TT M pc ls [] σ (PN K) := fun Q hQ => T_vret hd hr (Or.inr hm) (hQ _ _ ⟨rfl, hq⟩)
theorem TT_iret {M : MI} {pc : Nat} {ls : List PV} {σ : Mem} {K : Int → Mem → Prop} {x : Int} (hd : decode (miC M) pc = .ok (.ireturn, 1)) (hr : miR M = some .int) (hm : miI M = false) (hq : K x σ) : TT M pc ls [vI x] σ (PI K) := fun Q hQ => T_iret hd hr hm (hQ _ _ ⟨x, rfl, hq⟩)
theorem TT_zret {M : MI} {pc : Nat} {ls : List PV} {σ : Mem} {K : Int → Mem → Prop} {x : Int} (hd : decode (miC M) pc = .ok (.ireturn, 1)) (hr : miR M = some .boolean) (hm : miI M = false) (hx : x = 0 ∨ x = 1) (hq : K x σ) : TT M pc ls [vI x] σ (PI K) := fun Q hQ => T_zret hd hr hm hx (hQ _ _ ⟨x, rfl, hq⟩)
theorem TT_lret {M : MI} {pc : Nat} {ls : List PV} {σ : Mem} {K : Int → Mem → Prop} {x : Int} (hd : decode (miC M) pc = .ok (.lreturn, 1)) (hr : miR M = some .long) (hm : miI M = false) (hq : K x σ) : TT M pc ls [vL x] σ (PJ K) := fun Q hQ => T_lret hd hr hm (hQ _ _ ⟨x, rfl, hq⟩)
theorem TT_max {M : MI} {pc : Nat} {ls st : List PV} {σ : Mem} {P : Option PV → Mem → Prop} {idx : Nat} {x y : Int} (hd : decode (miC M) pc = .ok (.invokestatic idx, 3)) (hw : Cond.methodLink (miO M) idx Lib.Math.max.name ∈ TS) (hF : 1 ≤ miF M) (hV : (st.map pcat).sum + 13 ≤ miV M) (hx : R32 x ∧ R32 y) (kk : TT M (pc + 3) ls (vI (max x y) :: st) σ P) : TT M pc ls (vI y :: vI x :: st) σ P := fun Q hQ => T_max hd hw hF hV hx.1 hx.2 (kk Q hQ)
theorem TT_min {M : MI} {pc : Nat} {ls st : List PV} {σ : Mem} {P : Option PV → Mem → Prop} {idx : Nat} {x y : Int} (hd : decode (miC M) pc = .ok (.invokestatic idx, 3)) (hw : Cond.methodLink (miO M) idx Lib.Math.min.name ∈ TS) (hF : 1 ≤ miF M) (hV : (st.map pcat).sum + 13 ≤ miV M) (hx : R32 x ∧ R32 y) (kk : TT M (pc + 3) ls (vI (min x y) :: st) σ P) : TT M pc ls (vI y :: vI x :: st) σ P := fun Q hQ => T_min hd hw hF hV hx.1 hx.2 (kk Q hQ)
theorem TT_abs {M : MI} {pc : Nat} {ls st : List PV} {σ : Mem} {P : Option PV → Mem → Prop} {idx : Nat} {x : Int} (hd : decode (miC M) pc = .ok (.invokestatic idx, 3)) (hw : Cond.methodLink (miO M) idx Lib.Math.abs.name ∈ TS) (hF : 1 ≤ miF M) (hV : (st.map pcat).sum + 13 ≤ miV M) (hx : R32 x) (kk : TT M (pc + 3) ls (vI (iabs x) :: st) σ P) : TT M pc ls (vI x :: st) σ P := fun Q hQ => T_abs hd hw hF hV hx (kk Q hQ)
theorem TT_labs {M : MI} {pc : Nat} {ls st : List PV} {σ : Mem} {P : Option PV → Mem → Prop} {idx : Nat} {x : Int} (hd : decode (miC M) pc = .ok (.invokestatic idx, 3)) (hw : Cond.methodLink (miO M) idx Lib.MathLoose.abs_long.x ∈ TS) (hF : 1 ≤ miF M) (hV : (st.map pcat).sum + 13 ≤ miV M) (hx : R64 x) (kk : TT M (pc + 3) ls (vL (iabs x) :: st) σ P) : TT M pc ls (vL x :: st) σ P := fun Q hQ => T_labs hd hw hF hV hx (kk Q hQ)
theorem TT_callVI {M M' : MI} {pc idx na : Nat} {ls st as rest : List PV} {σ : Mem} {P : Option PV → Mem → Prop} {a : Nat} {K : Int → Mem → Prop} {cc nf : Nat} {U : u_T} (hd : decode (miC M) pc = .ok (.invokevirtual idx, 3)) (hm : MOK M' na) (hw : Cond.methodLink (miO M) idx (miY M') ∈ TS) (hi : Cond.instanceMethod (miY M') ∈ TS) (hse : Cond.selects (miY M').cls (miY M') (miY M') ∈ TS) (hF : miF M' + 1 ≤ miF M) (hV : 8 + (miL M' + 11) + miV M' ≤ miV M) (hk : miK M' = 0 ∧ miM M' = 0 ∧ miI M' = false) (hst : st = as.reverse ++ vR a :: rest) (hn : as.length = na) (hr : (rest.map pcat).sum ≤ 8) (ha : a < N0) (hsh : SH a = (cc, nf)) (hc : vwCl[cc]? = some ((miY M').cls, U, nf)) (hc20 : cc < 20) (hcall : CC M' (vR a :: as) σ (PI K)) (kk : ∀ x σ1, K x σ1 → TT M (pc + 3) ls (vI x :: rest) σ1 P) : TT M pc ls st σ P := fun Q hQ => T_callV hd hm hw hi hse hF hV hk hst hn hr ha hsh hc hc20 (hcall _ fun r σ1 h8 => match r, h8 with
  | _, ⟨x, rfl, h9⟩ => kk x σ1 h9 Q hQ)
theorem TT_callSI {M M' : MI} {pc idx na : Nat} {ls st as rest : List PV} {σ : Mem} {P : Option PV → Mem → Prop} {K : Int → Mem → Prop} (hd : decode (miC M) pc = .ok (.invokestatic idx, 3)) (hm : MOK M' na) (hw : Cond.methodLink (miO M) idx (miY M') ∈ TS) (hi : Cond.static (miY M') ∈ TS) (hF : miF M' + 1 ≤ miF M) (hV : 8 + (miL M' + 11) + miV M' ≤ miV M) (hk : miK M' = 0 ∧ miM M' = 0 ∧ miI M' = false) (hst : st = as.reverse ++ rest) (hn : as.length = na) (hr : (rest.map pcat).sum ≤ 8) (hcall : CC M' as σ (PI K)) (kk : ∀ x σ1, K x σ1 → TT M (pc + 3) ls (vI x :: rest) σ1 P) : TT M pc ls st σ P := fun Q hQ => T_callS hd hm hw hi hF hV hk hst hn hr (hcall _ fun r σ1 h8 => match r, h8 with
  | _, ⟨x, rfl, h9⟩ => kk x σ1 h9 Q hQ)
theorem TT_callSNI {M M' : MI} {pc idx na : Nat} {ls st as rest : List PV} {σ : Mem} {P : Option PV → Mem → Prop} {K : Int → Mem → Prop} (hd : decode (miC M) pc = .ok (.invokestatic idx, 3)) (hm : MOK M' na) (hw : (miO M, idx, miY M') ∈ nestW) (hi : Cond.static (miY M') ∈ TS) (hF : miF M' + 1 ≤ miF M) (hV : 8 + (miL M' + 11) + miV M' ≤ miV M) (hk : miK M' = 0 ∧ miM M' = 0 ∧ miI M' = false) (hst : st = as.reverse ++ rest) (hn : as.length = na) (hr : (rest.map pcat).sum ≤ 8) (hcall : CC M' as σ (PI K)) (kk : ∀ x σ1, K x σ1 → TT M (pc + 3) ls (vI x :: rest) σ1 P) : TT M pc ls st σ P := fun Q hQ => T_callSN hd hm hw hi hF hV hk hst hn hr (hcall _ fun r σ1 h8 => match r, h8 with
  | _, ⟨x, rfl, h9⟩ => kk x σ1 h9 Q hQ)
theorem TT_callVJ {M M' : MI} {pc idx na : Nat} {ls st as rest : List PV} {σ : Mem} {P : Option PV → Mem → Prop} {a : Nat} {K : Int → Mem → Prop} {cc nf : Nat} {U : u_T} (hd : decode (miC M) pc = .ok (.invokevirtual idx, 3)) (hm : MOK M' na) (hw : Cond.methodLink (miO M) idx (miY M') ∈ TS) (hi : Cond.instanceMethod (miY M') ∈ TS) (hse : Cond.selects (miY M').cls (miY M') (miY M') ∈ TS) (hF : miF M' + 1 ≤ miF M) (hV : 8 + (miL M' + 11) + miV M' ≤ miV M) (hk : miK M' = 0 ∧ miM M' = 0 ∧ miI M' = false) (hst : st = as.reverse ++ vR a :: rest) (hn : as.length = na) (hr : (rest.map pcat).sum ≤ 8) (ha : a < N0) (hsh : SH a = (cc, nf)) (hc : vwCl[cc]? = some ((miY M').cls, U, nf)) (hc20 : cc < 20) (hcall : CC M' (vR a :: as) σ (PJ K)) (kk : ∀ x σ1, K x σ1 → TT M (pc + 3) ls (vL x :: rest) σ1 P) : TT M pc ls st σ P := fun Q hQ => T_callV hd hm hw hi hse hF hV hk hst hn hr ha hsh hc hc20 (hcall _ fun r σ1 h8 => match r, h8 with
  | _, ⟨x, rfl, h9⟩ => kk x σ1 h9 Q hQ)
theorem TT_callSJ {M M' : MI} {pc idx na : Nat} {ls st as rest : List PV} {σ : Mem} {P : Option PV → Mem → Prop} {K : Int → Mem → Prop} (hd : decode (miC M) pc = .ok (.invokestatic idx, 3)) (hm : MOK M' na) (hw : Cond.methodLink (miO M) idx (miY M') ∈ TS) (hi : Cond.static (miY M') ∈ TS) (hF : miF M' + 1 ≤ miF M) (hV : 8 + (miL M' + 11) + miV M' ≤ miV M) (hk : miK M' = 0 ∧ miM M' = 0 ∧ miI M' = false) (hst : st = as.reverse ++ rest) (hn : as.length = na) (hr : (rest.map pcat).sum ≤ 8) (hcall : CC M' as σ (PJ K)) (kk : ∀ x σ1, K x σ1 → TT M (pc + 3) ls (vL x :: rest) σ1 P) : TT M pc ls st σ P := fun Q hQ => T_callS hd hm hw hi hF hV hk hst hn hr (hcall _ fun r σ1 h8 => match r, h8 with
  | _, ⟨x, rfl, h9⟩ => kk x σ1 h9 Q hQ)
theorem TT_callSNJ {M M' : MI} {pc idx na : Nat} {ls st as rest : List PV} {σ : Mem} {P : Option PV → Mem → Prop} {K : Int → Mem → Prop} (hd : decode (miC M) pc = .ok (.invokestatic idx, 3)) (hm : MOK M' na) (hw : (miO M, idx, miY M') ∈ nestW) (hi : Cond.static (miY M') ∈ TS) (hF : miF M' + 1 ≤ miF M) (hV : 8 + (miL M' + 11) + miV M' ≤ miV M) (hk : miK M' = 0 ∧ miM M' = 0 ∧ miI M' = false) (hst : st = as.reverse ++ rest) (hn : as.length = na) (hr : (rest.map pcat).sum ≤ 8) (hcall : CC M' as σ (PJ K)) (kk : ∀ x σ1, K x σ1 → TT M (pc + 3) ls (vL x :: rest) σ1 P) : TT M pc ls st σ P := fun Q hQ => T_callSN hd hm hw hi hF hV hk hst hn hr (hcall _ fun r σ1 h8 => match r, h8 with
  | _, ⟨x, rfl, h9⟩ => kk x σ1 h9 Q hQ)
theorem TT_callVN {M M' : MI} {pc idx na : Nat} {ls st as rest : List PV} {σ : Mem} {P : Option PV → Mem → Prop} {a : Nat} {K : Mem → Prop} {cc nf : Nat} {U : u_T} (hd : decode (miC M) pc = .ok (.invokevirtual idx, 3)) (hm : MOK M' na) (hw : Cond.methodLink (miO M) idx (miY M') ∈ TS) (hi : Cond.instanceMethod (miY M') ∈ TS) (hse : Cond.selects (miY M').cls (miY M') (miY M') ∈ TS) (hF : miF M' + 1 ≤ miF M) (hV : 8 + (miL M' + 11) + miV M' ≤ miV M) (hk : miK M' = 0 ∧ miM M' = 0 ∧ miI M' = false) (hst : st = as.reverse ++ vR a :: rest) (hn : as.length = na) (hr : (rest.map pcat).sum ≤ 8) (ha : a < N0) (hsh : SH a = (cc, nf)) (hc : vwCl[cc]? = some ((miY M').cls, U, nf)) (hc20 : cc < 20) (hcall : CC M' (vR a :: as) σ (PN K)) (kk : ∀ σ1, K σ1 → TT M (pc + 3) ls rest σ1 P) : TT M pc ls st σ P := fun Q hQ => T_callV hd hm hw hi hse hF hV hk hst hn hr ha hsh hc hc20 (hcall _ fun r σ1 h8 => match r, h8 with
  | _, ⟨rfl, h9⟩ => kk σ1 h9 Q hQ)
theorem TT_callSN {M M' : MI} {pc idx na : Nat} {ls st as rest : List PV} {σ : Mem} {P : Option PV → Mem → Prop} {K : Mem → Prop} (hd : decode (miC M) pc = .ok (.invokestatic idx, 3)) (hm : MOK M' na) (hw : Cond.methodLink (miO M) idx (miY M') ∈ TS) (hi : Cond.static (miY M') ∈ TS) (hF : miF M' + 1 ≤ miF M) (hV : 8 + (miL M' + 11) + miV M' ≤ miV M) (hk : miK M' = 0 ∧ miM M' = 0 ∧ miI M' = false) (hst : st = as.reverse ++ rest) (hn : as.length = na) (hr : (rest.map pcat).sum ≤ 8) (hcall : CC M' as σ (PN K)) (kk : ∀ σ1, K σ1 → TT M (pc + 3) ls rest σ1 P) : TT M pc ls st σ P := fun Q hQ => T_callS hd hm hw hi hF hV hk hst hn hr (hcall _ fun r σ1 h8 => match r, h8 with
  | _, ⟨rfl, h9⟩ => kk σ1 h9 Q hQ)
theorem TT_callSNN {M M' : MI} {pc idx na : Nat} {ls st as rest : List PV} {σ : Mem} {P : Option PV → Mem → Prop} {K : Mem → Prop} (hd : decode (miC M) pc = .ok (.invokestatic idx, 3)) (hm : MOK M' na) (hw : (miO M, idx, miY M') ∈ nestW) (hi : Cond.static (miY M') ∈ TS) (hF : miF M' + 1 ≤ miF M) (hV : 8 + (miL M' + 11) + miV M' ≤ miV M) (hk : miK M' = 0 ∧ miM M' = 0 ∧ miI M' = false) (hst : st = as.reverse ++ rest) (hn : as.length = na) (hr : (rest.map pcat).sum ≤ 8) (hcall : CC M' as σ (PN K)) (kk : ∀ σ1, K σ1 → TT M (pc + 3) ls rest σ1 P) : TT M pc ls st σ P := fun Q hQ => T_callSN hd hm hw hi hF hV hk hst hn hr (hcall _ fun r σ1 h8 => match r, h8 with
  | _, ⟨rfl, h9⟩ => kk σ1 h9 Q hQ)
theorem R32_sg (a b : Int) : R32 (if b < a then 1 else if a = b then 0 else -1) := by
  split
  · decide
  · split <;> decide
theorem TT_lc_eq {M : MI} {pc : Nat} {ls st : List PV} {σ : Mem} {P : Option PV → Mem → Prop} {a b : Int} {off : Int} {tgt : Nat} (hd : decode (miC M) pc = .ok (.lcmp, 1)) (hd2 : decode (miC M) (pc + 1) = .ok (.ifCond .eq off, 3)) (ht : ((pc + 1 : Nat) : Int) + off = (tgt : Int)) (ha : R64 a) (hb : R64 b) (kt : a = b → TT M tgt ls st σ P) (kf : ¬ a = b → TT M (pc + 1 + 3) ls st σ P) : TT M pc ls (vL b :: vL a :: st) σ P := by
  refine TT_lcmp hd ha hb ?_
  refine TT_if_eq hd2 ht (R32_sg a b) (fun q => kt ?_) (fun q => kf ?_)
  · by_cases h1 : b < a
    · rw [if_pos h1] at q; omega
    · rw [if_neg h1] at q
      by_cases h2 : a = b
      · rw [if_pos h2] at q; omega
      · rw [if_neg h2] at q; omega
  · by_cases h1 : b < a
    · rw [if_pos h1] at q; omega
    · rw [if_neg h1] at q
      by_cases h2 : a = b
      · rw [if_pos h2] at q; omega
      · rw [if_neg h2] at q; omega
theorem TT_lc_ne {M : MI} {pc : Nat} {ls st : List PV} {σ : Mem} {P : Option PV → Mem → Prop} {a b : Int} {off : Int} {tgt : Nat} (hd : decode (miC M) pc = .ok (.lcmp, 1)) (hd2 : decode (miC M) (pc + 1) = .ok (.ifCond .ne off, 3)) (ht : ((pc + 1 : Nat) : Int) + off = (tgt : Int)) (ha : R64 a) (hb : R64 b) (kt : ¬ a = b → TT M tgt ls st σ P) (kf : a = b → TT M (pc + 1 + 3) ls st σ P) : TT M pc ls (vL b :: vL a :: st) σ P := by
  refine TT_lcmp hd ha hb ?_
  refine TT_if_ne hd2 ht (R32_sg a b) (fun q => kt ?_) (fun q => kf ?_)
  · by_cases h1 : b < a
    · rw [if_pos h1] at q; omega
    · rw [if_neg h1] at q
      by_cases h2 : a = b
      · rw [if_pos h2] at q; omega
      · rw [if_neg h2] at q; omega
  · by_cases h1 : b < a
    · rw [if_pos h1] at q; omega
    · rw [if_neg h1] at q
      by_cases h2 : a = b
      · rw [if_pos h2] at q; omega
      · rw [if_neg h2] at q; omega
theorem TT_lc_lt {M : MI} {pc : Nat} {ls st : List PV} {σ : Mem} {P : Option PV → Mem → Prop} {a b : Int} {off : Int} {tgt : Nat} (hd : decode (miC M) pc = .ok (.lcmp, 1)) (hd2 : decode (miC M) (pc + 1) = .ok (.ifCond .lt off, 3)) (ht : ((pc + 1 : Nat) : Int) + off = (tgt : Int)) (ha : R64 a) (hb : R64 b) (kt : a < b → TT M tgt ls st σ P) (kf : ¬ a < b → TT M (pc + 1 + 3) ls st σ P) : TT M pc ls (vL b :: vL a :: st) σ P := by
  refine TT_lcmp hd ha hb ?_
  refine TT_if_lt hd2 ht (R32_sg a b) (fun q => kt ?_) (fun q => kf ?_)
  · by_cases h1 : b < a
    · rw [if_pos h1] at q; omega
    · rw [if_neg h1] at q
      by_cases h2 : a = b
      · rw [if_pos h2] at q; omega
      · rw [if_neg h2] at q; omega
  · by_cases h1 : b < a
    · rw [if_pos h1] at q; omega
    · rw [if_neg h1] at q
      by_cases h2 : a = b
      · rw [if_pos h2] at q; omega
      · rw [if_neg h2] at q; omega
theorem TT_lc_ge {M : MI} {pc : Nat} {ls st : List PV} {σ : Mem} {P : Option PV → Mem → Prop} {a b : Int} {off : Int} {tgt : Nat} (hd : decode (miC M) pc = .ok (.lcmp, 1)) (hd2 : decode (miC M) (pc + 1) = .ok (.ifCond .ge off, 3)) (ht : ((pc + 1 : Nat) : Int) + off = (tgt : Int)) (ha : R64 a) (hb : R64 b) (kt : b ≤ a → TT M tgt ls st σ P) (kf : ¬ b ≤ a → TT M (pc + 1 + 3) ls st σ P) : TT M pc ls (vL b :: vL a :: st) σ P := by
  refine TT_lcmp hd ha hb ?_
  refine TT_if_ge hd2 ht (R32_sg a b) (fun q => kt ?_) (fun q => kf ?_)
  · by_cases h1 : b < a
    · rw [if_pos h1] at q; omega
    · rw [if_neg h1] at q
      by_cases h2 : a = b
      · rw [if_pos h2] at q; omega
      · rw [if_neg h2] at q; omega
  · by_cases h1 : b < a
    · rw [if_pos h1] at q; omega
    · rw [if_neg h1] at q
      by_cases h2 : a = b
      · rw [if_pos h2] at q; omega
      · rw [if_neg h2] at q; omega
theorem TT_lc_gt {M : MI} {pc : Nat} {ls st : List PV} {σ : Mem} {P : Option PV → Mem → Prop} {a b : Int} {off : Int} {tgt : Nat} (hd : decode (miC M) pc = .ok (.lcmp, 1)) (hd2 : decode (miC M) (pc + 1) = .ok (.ifCond .gt off, 3)) (ht : ((pc + 1 : Nat) : Int) + off = (tgt : Int)) (ha : R64 a) (hb : R64 b) (kt : b < a → TT M tgt ls st σ P) (kf : ¬ b < a → TT M (pc + 1 + 3) ls st σ P) : TT M pc ls (vL b :: vL a :: st) σ P := by
  refine TT_lcmp hd ha hb ?_
  refine TT_if_gt hd2 ht (R32_sg a b) (fun q => kt ?_) (fun q => kf ?_)
  · by_cases h1 : b < a
    · rw [if_pos h1] at q; omega
    · rw [if_neg h1] at q
      by_cases h2 : a = b
      · rw [if_pos h2] at q; omega
      · rw [if_neg h2] at q; omega
  · by_cases h1 : b < a
    · rw [if_pos h1] at q; omega
    · rw [if_neg h1] at q
      by_cases h2 : a = b
      · rw [if_pos h2] at q; omega
      · rw [if_neg h2] at q; omega
theorem TT_lc_le {M : MI} {pc : Nat} {ls st : List PV} {σ : Mem} {P : Option PV → Mem → Prop} {a b : Int} {off : Int} {tgt : Nat} (hd : decode (miC M) pc = .ok (.lcmp, 1)) (hd2 : decode (miC M) (pc + 1) = .ok (.ifCond .le off, 3)) (ht : ((pc + 1 : Nat) : Int) + off = (tgt : Int)) (ha : R64 a) (hb : R64 b) (kt : a ≤ b → TT M tgt ls st σ P) (kf : ¬ a ≤ b → TT M (pc + 1 + 3) ls st σ P) : TT M pc ls (vL b :: vL a :: st) σ P := by
  refine TT_lcmp hd ha hb ?_
  refine TT_if_le hd2 ht (R32_sg a b) (fun q => kt ?_) (fun q => kf ?_)
  · by_cases h1 : b < a
    · rw [if_pos h1] at q; omega
    · rw [if_neg h1] at q
      by_cases h2 : a = b
      · rw [if_pos h2] at q; omega
      · rw [if_neg h2] at q; omega
  · by_cases h1 : b < a
    · rw [if_pos h1] at q; omega
    · rw [if_neg h1] at q
      by_cases h2 : a = b
      · rw [if_pos h2] at q; omega
      · rw [if_neg h2] at q; omega
def trk (i : Int) : Nat := 34 + 4 * i.toNat
def std (i : Int) : Nat := 74 + i.toNat
def isT (a : Nat) : Prop := ∃ k, k < 10 ∧ a = 34 + 4 * k
theorem isT_trk {i : Int} (h : 0 ≤ i ∧ i < 10) : isT (trk i) := ⟨i.toNat, by omega, rfl⟩
theorem shT {a : Nat} (h : isT a) : SH a = (8, 5) := by obtain ⟨k, hk, rfl⟩ := h; exact (by decide : ∀ k, k < 10 → SH (34 + 4 * k) = (8, 5)) k hk
theorem ltT {a : Nat} (h : isT a) : a < N0 := by obtain ⟨k, hk, rfl⟩ := h; show _ < 101; omega
theorem rsT0 {a : Nat} (h : isT a) : RS a 0 = ((a + 1 : Nat) : Int) := by obtain ⟨k, hk, rfl⟩ := h; exact (by decide : ∀ k, k < 10 → RS (34 + 4 * k) 0 = ((34 + 4 * k + 1 : Nat) : Int)) k hk
theorem rsT1 {a : Nat} (h : isT a) : RS a 1 = ((a + 2 : Nat) : Int) := by obtain ⟨k, hk, rfl⟩ := h; exact (by decide : ∀ k, k < 10 → RS (34 + 4 * k) 1 = ((34 + 4 * k + 2 : Nat) : Int)) k hk
theorem rsT2 {a : Nat} (h : isT a) : RS a 2 = ((a + 3 : Nat) : Int) := by obtain ⟨k, hk, rfl⟩ := h; exact (by decide : ∀ k, k < 10 → RS (34 + 4 * k) 2 = ((34 + 4 * k + 3 : Nat) : Int)) k hk
theorem shT1 {a : Nat} (h : isT a) : SH (a + 1) = (20, 24) := by obtain ⟨k, hk, rfl⟩ := h; exact (by decide : ∀ k, k < 10 → SH (34 + 4 * k + 1) = (20, 24)) k hk
theorem shT2 {a : Nat} (h : isT a) : SH (a + 2) = (20, 24) := by obtain ⟨k, hk, rfl⟩ := h; exact (by decide : ∀ k, k < 10 → SH (34 + 4 * k + 2) = (20, 24)) k hk
theorem shT3 {a : Nat} (h : isT a) : SH (a + 3) = (20, 24) := by obtain ⟨k, hk, rfl⟩ := h; exact (by decide : ∀ k, k < 10 → SH (34 + 4 * k + 3) = (20, 24)) k hk
theorem ltT1 {a : Nat} (h : isT a) : a + 1 < N0 := by obtain ⟨k, hk, rfl⟩ := h; show _ < 101; omega
theorem ltT2 {a : Nat} (h : isT a) : a + 2 < N0 := by obtain ⟨k, hk, rfl⟩ := h; show _ < 101; omega
theorem ltT3 {a : Nat} (h : isT a) : a + 3 < N0 := by obtain ⟨k, hk, rfl⟩ := h; show _ < 101; omega
theorem rs_trk {i : Int} (h : 0 ≤ i ∧ i < (10 : Nat)) : RS 1 i.toNat = ((trk i : Nat) : Int) := by
  have : i.toNat < 10 := by omega
  exact (by decide : ∀ k, k < 10 → RS 1 k = ((34 + 4 * k : Nat) : Int)) _ this
theorem rs_std {i : Int} (h : 0 ≤ i ∧ i < (6 : Nat)) : RS 2 i.toNat = ((std i : Nat) : Int) := by
  have : i.toNat < 6 := by omega
  exact (by decide : ∀ k, k < 6 → RS 2 k = ((74 + k : Nat) : Int)) _ this
/-- a place: the asked one, or a stand's -/
def isP (a : Nat) : Prop := a = 3 ∨ ∃ k, k < 6 ∧ a = 74 + k
theorem isP_std {i : Int} (h : 0 ≤ i ∧ i < 6) : isP (std i) := Or.inr ⟨i.toNat, by omega, rfl⟩
theorem shP {a : Nat} (h : isP a) : SH a = (3, 4) := by
  rcases h with rfl | ⟨k, hk, rfl⟩
  · rfl
  · exact (by decide : ∀ k, k < 6 → SH (74 + k) = (3, 4)) k hk
theorem ltP {a : Nat} (h : isP a) : a < N0 := by rcases h with rfl | ⟨k, hk, rfl⟩ <;> (show _ < 101; omega)
def isO (a : Nat) : Prop := a = 4 ∨ a = 5
theorem shO {a : Nat} (h : isO a) : SH a = (6, 3) := by rcases h with rfl | rfl <;> rfl
theorem ltO {a : Nat} (h : isO a) : a < N0 := by rcases h with rfl | rfl <;> decide
/-- boxes: of legs, of pages, the trial's, the wanted one -/
def isB (a : Nat) : Prop := a = 14 ∨ a = 16 ∨ a = 25 ∨ a = 27
def bln (a : Nat) : Nat := (SH (a + 1)).2
theorem shB {a : Nat} (h : isB a) : SH a = (0, 1) := by rcases h with rfl | rfl | rfl | rfl <;> rfl
theorem ltB {a : Nat} (h : isB a) : a < N0 := by rcases h with rfl | rfl | rfl | rfl <;> decide
theorem rsB {a : Nat} (h : isB a) : RS a 0 = ((a + 1 : Nat) : Int) := by rcases h with rfl | rfl | rfl | rfl <;> rfl
theorem shB1 {a : Nat} (h : isB a) : SH (a + 1) = (20, bln a) := by rcases h with rfl | rfl | rfl | rfl <;> rfl
theorem ltB1 {a : Nat} (h : isB a) : a + 1 < N0 := by rcases h with rfl | rfl | rfl | rfl <;> decide
theorem lnB {a : Nat} (h : isB a) : bln a < 2147483648 := by rcases h with rfl | rfl | rfl | rfl <;> decide
