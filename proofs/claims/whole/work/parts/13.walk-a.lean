theorem TT_nmM {M : MI} {pc : Nat} {ls st : List PV} {σ : Mem} {P : Option PV → Mem → Prop} (k : ∀ s, s = σ → TT M pc ls st s P) : TT M pc ls st σ P := k σ rfl
theorem TT_nmI {M : MI} {pc : Nat} {ls st : List PV} {σ : Mem} {P : Option PV → Mem → Prop} {x : Int} (k : ∀ y, y = x → TT M pc ls (vI y :: st) σ P) : TT M pc ls (vI x :: st) σ P := k x rfl
theorem TT_nmL {M : MI} {pc : Nat} {ls st : List PV} {σ : Mem} {P : Option PV → Mem → Prop} {x : Int} (k : ∀ y, y = x → TT M pc ls (vL y :: st) σ P) : TT M pc ls (vL x :: st) σ P := k x rfl
def PZ (A B : Mem → Prop) : Option PV → Mem → Prop := fun r σ => (r = some (vI 1) ∧ A σ) ∨ (r = some (vI 0) ∧ B σ)
theorem PZ_I {A B : Mem → Prop} {r : Option PV} {σ : Mem} (h : PZ A B r σ) : PI (fun x σ => (x = 1 ∧ A σ) ∨ (x = 0 ∧ B σ)) r σ := by
  rcases h with ⟨h1, h2⟩ | ⟨h1, h2⟩
  · exact ⟨1, h1, Or.inl ⟨rfl, h2⟩⟩
  · exact ⟨0, h1, Or.inr ⟨rfl, h2⟩⟩
theorem TT_z1 {M : MI} {pc : Nat} {ls : List PV} {σ : Mem} {A B : Mem → Prop} (hd : decode (miC M) pc = .ok (.ireturn, 1)) (hr : miR M = some .boolean) (hm : miI M = false) (hq : A σ) : TT M pc ls [vI 1] σ (PZ A B) := fun Q hQ => T_zret hd hr hm (Or.inr rfl) (hQ _ _ (Or.inl ⟨rfl, hq⟩))
theorem TT_z0 {M : MI} {pc : Nat} {ls : List PV} {σ : Mem} {A B : Mem → Prop} (hd : decode (miC M) pc = .ok (.ireturn, 1)) (hr : miR M = some .boolean) (hm : miI M = false) (hq : B σ) : TT M pc ls [vI 0] σ (PZ A B) := fun Q hQ => T_zret hd hr hm (Or.inl rfl) (hQ _ _ (Or.inr ⟨rfl, hq⟩))
theorem TT_zE {M : MI} {pc : Nat} {ls : List PV} {σ : Mem} {A B : Mem → Prop} {x : Int} (hd : decode (miC M) pc = .ok (.ireturn, 1)) (hr : miR M = some .boolean) (hm : miI M = false) (hx : x = 0 ∨ x = 1) (h1 : x = 1 → A σ) (h0 : x = 0 → B σ) : TT M pc ls [vI x] σ (PZ A B) := by
  rcases hx with rfl | rfl
  · exact TT_z0 hd hr hm (h0 rfl)
  · exact TT_z1 hd hr hm (h1 rfl)
theorem TT_callVZ {M M' : MI} {pc idx na : Nat} {ls st as rest : List PV} {σ : Mem} {P : Option PV → Mem → Prop} {a : Nat} {A B : Mem → Prop} {cc nf : Nat} {U : u_T} (hd : decode (miC M) pc = .ok (.invokevirtual idx, 3)) (hm : MOK M' na) (hw : Cond.methodLink (miO M) idx (miY M') ∈ TS) (hi : Cond.instanceMethod (miY M') ∈ TS) (hse : Cond.selects (miY M').cls (miY M') (miY M') ∈ TS) (hF : miF M' + 1 ≤ miF M) (hV : 8 + (miL M' + 11) + miV M' ≤ miV M) (hk : miK M' = 0 ∧ miM M' = 0 ∧ miI M' = false) (hst : st = as.reverse ++ vR a :: rest) (hn : as.length = na) (hr : (rest.map pcat).sum ≤ 8) (ha : a < N0) (hsh : SH a = (cc, nf)) (hc : vwCl[cc]? = some ((miY M').cls, U, nf)) (hc20 : cc < 20) (hcall : CC M' (vR a :: as) σ (PZ A B)) (k1 : ∀ σ1, A σ1 → TT M (pc + 3) ls (vI 1 :: rest) σ1 P) (k0 : ∀ σ1, B σ1 → TT M (pc + 3) ls (vI 0 :: rest) σ1 P) : TT M pc ls st σ P := TT_callVI hd hm hw hi hse hF hV hk hst hn hr ha hsh hc hc20 (hcall.mono fun _ _ q => PZ_I q) (fun x σ1 h => by
  rcases h with ⟨rfl, h⟩ | ⟨rfl, h⟩
  · exact k1 σ1 h
  · exact k0 σ1 h)
theorem TT_callSZ {M M' : MI} {pc idx na : Nat} {ls st as rest : List PV} {σ : Mem} {P : Option PV → Mem → Prop} {A B : Mem → Prop} (hd : decode (miC M) pc = .ok (.invokestatic idx, 3)) (hm : MOK M' na) (hw : Cond.methodLink (miO M) idx (miY M') ∈ TS) (hi : Cond.static (miY M') ∈ TS) (hF : miF M' + 1 ≤ miF M) (hV : 8 + (miL M' + 11) + miV M' ≤ miV M) (hk : miK M' = 0 ∧ miM M' = 0 ∧ miI M' = false) (hst : st = as.reverse ++ rest) (hn : as.length = na) (hr : (rest.map pcat).sum ≤ 8) (hcall : CC M' as σ (PZ A B)) (k1 : ∀ σ1, A σ1 → TT M (pc + 3) ls (vI 1 :: rest) σ1 P) (k0 : ∀ σ1, B σ1 → TT M (pc + 3) ls (vI 0 :: rest) σ1 P) : TT M pc ls st σ P := TT_callSI hd hm hw hi hF hV hk hst hn hr (hcall.mono fun _ _ q => PZ_I q) (fun x σ1 h => by
  rcases h with ⟨rfl, h⟩ | ⟨rfl, h⟩
  · exact k1 σ1 h
  · exact k0 σ1 h)
theorem TT_callSNZ {M M' : MI} {pc idx na : Nat} {ls st as rest : List PV} {σ : Mem} {P : Option PV → Mem → Prop} {A B : Mem → Prop} (hd : decode (miC M) pc = .ok (.invokestatic idx, 3)) (hm : MOK M' na) (hw : (miO M, idx, miY M') ∈ nestW) (hi : Cond.static (miY M') ∈ TS) (hF : miF M' + 1 ≤ miF M) (hV : 8 + (miL M' + 11) + miV M' ≤ miV M) (hk : miK M' = 0 ∧ miM M' = 0 ∧ miI M' = false) (hst : st = as.reverse ++ rest) (hn : as.length = na) (hr : (rest.map pcat).sum ≤ 8) (hcall : CC M' as σ (PZ A B)) (k1 : ∀ σ1, A σ1 → TT M (pc + 3) ls (vI 1 :: rest) σ1 P) (k0 : ∀ σ1, B σ1 → TT M (pc + 3) ls (vI 0 :: rest) σ1 P) : TT M pc ls st σ P := TT_callSNI hd hm hw hi hF hV hk hst hn hr (hcall.mono fun _ _ q => PZ_I q) (fun x σ1 h => by
  rcases h with ⟨rfl, h⟩ | ⟨rfl, h⟩
  · exact k1 σ1 h
  · exact k0 σ1 h)
theorem b01_ite {c : Prop} [Decidable c] {a b : Int} (ha : a = 0 ∨ a = 1) (hb : b = 0 ∨ b = 1) : (if c then a else b) = 0 ∨ (if c then a else b) = 1 := by split <;> assumption
theorem r32_ite {c : Prop} [Decidable c] {a b : Int} (ha : R32 a) (hb : R32 b) : R32 (if c then a else b) := by split <;> assumption
theorem r64_ite {c : Prop} [Decidable c] {a b : Int} (ha : R64 a) (hb : R64 b) : R64 (if c then a else b) := by split <;> assumption
set_option maxRecDepth 4000 in
theorem w_X0_setAxis_0 (r0 : Nat) (hr0 : isB r0) (x1 : Int) (x2 : Int) (x3 : Int) (x4 : Int) {σ : Mem} {K : Mem → Prop} (h : (0 ≤ ((x1 * 6) + (2 * x2)) ∧ ((x1 * 6) + (2 * x2)) < (bln r0)) ∧ (∀ s2 : Mem, s2 = up σ (r0 + 1) ((x1 * 6) + (2 * x2)).toNat x3 → (0 ≤ (((x1 * 6) + (2 * x2)) + 1) ∧ (((x1 * 6) + (2 * x2)) + 1) < (bln r0)) ∧ (∀ s5 : Mem, s5 = up s2 (r0 + 1) (((x1 * 6) + (2 * x2)) + 1).toNat x4 → K s5))) : TT m_X0_setAxis 0 [vR r0, vI x1, vI x2, vI x3, vI x4, vU] [] σ (PN K) := by
  refine TT_iload_n dX0_setAxis_0 rfl ?_
  refine TT_bipush dX0_setAxis_1 (by decide) ?_
  refine TT_imul dX0_setAxis_3 ?_
  refine TT_iconst dX0_setAxis_4 ?_
  refine TT_iload_n dX0_setAxis_5 rfl ?_
  refine TT_imul dX0_setAxis_6 ?_
  refine TT_iadd dX0_setAxis_7 ?_
  refine TT_istore dX0_setAxis_8 (Nat.le_of_ble_eq_true rfl) rfl rfl ?_
  refine TT_aload_n dX0_setAxis_10 rfl ?_
  refine TT_getR (r := (r0 + 1)) dX0_setAxis_11 fd_X0_15 (by decide) rfl (ltB hr0) (shB hr0) (rsB hr0) ?_
  refine TT_iload dX0_setAxis_14 rfl ?_
  refine TT_iload_n dX0_setAxis_16 rfl ?_
  obtain ⟨o1, h⟩ := h
  refine TT_iast dX0_setAxis_17 (ltB1 hr0) (shB1 hr0) (lnB hr0) o1 ?_
  refine TT_nmM (fun s2 e3 => ?_)
  replace h := h s2 e3
  refine TT_aload_n dX0_setAxis_18 rfl ?_
  refine TT_getR (r := (r0 + 1)) dX0_setAxis_19 fd_X0_15 (by decide) rfl (ltB hr0) (shB hr0) (rsB hr0) ?_
  refine TT_iload dX0_setAxis_22 rfl ?_
  refine TT_iconst dX0_setAxis_24 ?_
  refine TT_iadd dX0_setAxis_25 ?_
  refine TT_iload dX0_setAxis_26 rfl ?_
  obtain ⟨o4, h⟩ := h
  refine TT_iast dX0_setAxis_28 (ltB1 hr0) (shB1 hr0) (lnB hr0) o4 ?_
  refine TT_nmM (fun s5 e6 => ?_)
  replace h := h s5 e6
  exact TT_vret dX0_setAxis_29 rfl rfl h
theorem e_X0_setAxis (r0 : Nat) (hr0 : isB r0) (x1 : Int) (x2 : Int) (x3 : Int) (x4 : Int) {σ : Mem} {K : Mem → Prop} (h : (0 ≤ ((x1 * 6) + (2 * x2)) ∧ ((x1 * 6) + (2 * x2)) < (bln r0)) ∧ (∀ s2 : Mem, s2 = up σ (r0 + 1) ((x1 * 6) + (2 * x2)).toNat x3 → (0 ≤ (((x1 * 6) + (2 * x2)) + 1) ∧ (((x1 * 6) + (2 * x2)) + 1) < (bln r0)) ∧ (∀ s5 : Mem, s5 = up s2 (r0 + 1) (((x1 * 6) + (2 * x2)) + 1).toNat x4 → K s5))) : CC m_X0_setAxis [vR r0, vI x1, vI x2, vI x3, vI x4] σ (PN K) := CC_of (by decide) rfl rfl rfl (Nat.le_of_ble_eq_true rfl) (w_X0_setAxis_0 r0 hr0 x1 x2 x3 x4 h)
set_option maxRecDepth 4000 in
theorem w_X0_copyFrom_0 (r0 : Nat) (hr0 : isB r0) (x1 : Int) (r2 : Nat) (hr2 : isB r2) (x3 : Int) {σ : Mem} {K : Mem → Prop} (h : TT m_X0_copyFrom 3 [vR r0, vI x1, vR r2, vI x3, vI 0] [] σ (PN K)) : TT m_X0_copyFrom 0 [vR r0, vI x1, vR r2, vI x3, vU] [] σ (PN K) := by
  refine TT_iconst dX0_copyFrom_0 ?_
  refine TT_istore dX0_copyFrom_1 (Nat.le_of_ble_eq_true rfl) rfl rfl ?_
  exact h
theorem e_X0_copyFrom (r0 : Nat) (hr0 : isB r0) (x1 : Int) (r2 : Nat) (hr2 : isB r2) (x3 : Int) {σ : Mem} {K : Mem → Prop} (h : TT m_X0_copyFrom 3 [vR r0, vI x1, vR r2, vI x3, vI 0] [] σ (PN K)) : CC m_X0_copyFrom [vR r0, vI x1, vR r2, vI x3] σ (PN K) := CC_of (by decide) rfl rfl rfl (Nat.le_of_ble_eq_true rfl) (w_X0_copyFrom_0 r0 hr0 x1 r2 hr2 x3 h)
set_option maxRecDepth 4000 in
theorem w_X0_copyFrom_3 (r0 : Nat) (hr0 : isB r0) (x1 : Int) (r2 : Nat) (hr2 : isB r2) (x3 : Int) (x4 : Int) {σ : Mem} {K : Mem → Prop} (h : R32 x4 ∧ ((6 ≤ x4 → K σ) ∧ (¬ 6 ≤ x4 → (0 ≤ ((x3 * 6) + x4) ∧ ((x3 * 6) + x4) < (bln r2)) ∧ (0 ≤ ((x1 * 6) + x4) ∧ ((x1 * 6) + x4) < (bln r0)) ∧ (∀ s5 : Mem, s5 = up σ (r0 + 1) ((x1 * 6) + x4).toNat (σ (r2 + 1) ((x3 * 6) + x4).toNat) → TT m_X0_copyFrom 3 [vR r0, vI x1, vR r2, vI x3, vI (x4 + 1)] [] s5 (PN K))))) : TT m_X0_copyFrom 3 [vR r0, vI x1, vR r2, vI x3, vI x4] [] σ (PN K) := by
  refine TT_iload dX0_copyFrom_3 rfl ?_
  refine TT_bipush dX0_copyFrom_5 (by decide) ?_
  obtain ⟨o1, h⟩ := h
  refine TT_icmp_ge (tgt := 40) dX0_copyFrom_7 rfl o1 (by decide) (fun c2 => ?_) (fun c2 => ?_)
  · replace h := h.1 c2
    exact TT_vret dX0_copyFrom_40 rfl rfl h
  · replace h := h.2 c2
    refine TT_aload_n dX0_copyFrom_10 rfl ?_
    refine TT_getR (r := (r0 + 1)) dX0_copyFrom_11 fd_X0_15 (by decide) rfl (ltB hr0) (shB hr0) (rsB hr0) ?_
    refine TT_iload_n dX0_copyFrom_14 rfl ?_
    refine TT_bipush dX0_copyFrom_15 (by decide) ?_
    refine TT_imul dX0_copyFrom_17 ?_
    refine TT_iload dX0_copyFrom_18 rfl ?_
    refine TT_iadd dX0_copyFrom_20 ?_
    refine TT_aload_n dX0_copyFrom_21 rfl ?_
    refine TT_getR (r := (r2 + 1)) dX0_copyFrom_22 fd_X0_15 (by decide) rfl (ltB hr2) (shB hr2) (rsB hr2) ?_
    refine TT_iload_n dX0_copyFrom_25 rfl ?_
    refine TT_bipush dX0_copyFrom_26 (by decide) ?_
    refine TT_imul dX0_copyFrom_28 ?_
    refine TT_iload dX0_copyFrom_29 rfl ?_
    refine TT_iadd dX0_copyFrom_31 ?_
    obtain ⟨o3, h⟩ := h
    refine TT_iald dX0_copyFrom_32 (ltB1 hr2) (shB1 hr2) (lnB hr2) o3 ?_
    obtain ⟨o4, h⟩ := h
    refine TT_iast dX0_copyFrom_33 (ltB1 hr0) (shB1 hr0) (lnB hr0) o4 ?_
    refine TT_nmM (fun s5 e6 => ?_)
    replace h := h s5 e6
    refine TT_iinc dX0_copyFrom_34 (Nat.le_of_ble_eq_true rfl) rfl rfl rfl ?_
    refine TT_goto (tgt := 3) dX0_copyFrom_37 rfl ?_
    exact h
set_option maxRecDepth 4000 in
theorem w_X0_widen_0 (r0 : Nat) (hr0 : isB r0) (x1 : Int) (r2 : Nat) (hr2 : isB r2) (x3 : Int) {σ : Mem} {K : Mem → Prop} (h : TT m_X0_widen 3 [vR r0, vI x1, vR r2, vI x3, vI 0, vU, vU] [] σ (PN K)) : TT m_X0_widen 0 [vR r0, vI x1, vR r2, vI x3, vU, vU, vU] [] σ (PN K) := by
  refine TT_iconst dX0_widen_0 ?_
  refine TT_istore dX0_widen_1 (Nat.le_of_ble_eq_true rfl) rfl rfl ?_
  exact h
theorem e_X0_widen (r0 : Nat) (hr0 : isB r0) (x1 : Int) (r2 : Nat) (hr2 : isB r2) (x3 : Int) {σ : Mem} {K : Mem → Prop} (h : TT m_X0_widen 3 [vR r0, vI x1, vR r2, vI x3, vI 0, vU, vU] [] σ (PN K)) : CC m_X0_widen [vR r0, vI x1, vR r2, vI x3] σ (PN K) := CC_of (by decide) rfl rfl rfl (Nat.le_of_ble_eq_true rfl) (w_X0_widen_0 r0 hr0 x1 r2 hr2 x3 h)
set_option maxRecDepth 4000 in
theorem w_X0_widen_3 (r0 : Nat) (hr0 : isB r0) (x1 : Int) (r2 : Nat) (hr2 : isB r2) (x3 : Int) (x4 : Int) {σ : Mem} {K : Mem → Prop} (h : R32 x4 ∧ ((6 ≤ x4 → K σ) ∧ (¬ 6 ≤ x4 → (0 ≤ ((x1 * 6) + x4) ∧ ((x1 * 6) + x4) < (bln r0)) ∧ (0 ≤ ((x3 * 6) + x4) ∧ ((x3 * 6) + x4) < (bln r2)) ∧ R32 (σ (r0 + 1) ((x1 * 6) + x4).toNat) ∧ R32 (σ (r2 + 1) ((x3 * 6) + x4).toNat) ∧ (∀ s7 : Mem, s7 = up σ (r0 + 1) ((x1 * 6) + x4).toNat (min (σ (r0 + 1) ((x1 * 6) + x4).toNat) (σ (r2 + 1) ((x3 * 6) + x4).toNat)) → (0 ≤ (((x1 * 6) + x4) + 1) ∧ (((x1 * 6) + x4) + 1) < (bln r0)) ∧ (0 ≤ (((x3 * 6) + x4) + 1) ∧ (((x3 * 6) + x4) + 1) < (bln r2)) ∧ R32 (s7 (r0 + 1) (((x1 * 6) + x4) + 1).toNat) ∧ R32 (s7 (r2 + 1) (((x3 * 6) + x4) + 1).toNat) ∧ (∀ s13 : Mem, s13 = up s7 (r0 + 1) (((x1 * 6) + x4) + 1).toNat (max (s7 (r0 + 1) (((x1 * 6) + x4) + 1).toNat) (s7 (r2 + 1) (((x3 * 6) + x4) + 1).toNat)) → TT m_X0_widen 3 [vR r0, vI x1, vR r2, vI x3, vI (x4 + 2), vU, vU] [] s13 (PN K)))))) : TT m_X0_widen 3 [vR r0, vI x1, vR r2, vI x3, vI x4, vU, vU] [] σ (PN K) := by
  refine TT_iload dX0_widen_3 rfl ?_
  refine TT_bipush dX0_widen_5 (by decide) ?_
  obtain ⟨o1, h⟩ := h
  refine TT_icmp_ge (tgt := 88) dX0_widen_7 rfl o1 (by decide) (fun c2 => ?_) (fun c2 => ?_)
  · replace h := h.1 c2
    exact TT_vret dX0_widen_88 rfl rfl h
  · replace h := h.2 c2
    refine TT_iload_n dX0_widen_10 rfl ?_
    refine TT_bipush dX0_widen_11 (by decide) ?_
    refine TT_imul dX0_widen_13 ?_
    refine TT_iload dX0_widen_14 rfl ?_
    refine TT_iadd dX0_widen_16 ?_
    refine TT_istore dX0_widen_17 (Nat.le_of_ble_eq_true rfl) rfl rfl ?_
    refine TT_iload_n dX0_widen_19 rfl ?_
    refine TT_bipush dX0_widen_20 (by decide) ?_
    refine TT_imul dX0_widen_22 ?_
    refine TT_iload dX0_widen_23 rfl ?_
    refine TT_iadd dX0_widen_25 ?_
    refine TT_istore dX0_widen_26 (Nat.le_of_ble_eq_true rfl) rfl rfl ?_
    refine TT_aload_n dX0_widen_28 rfl ?_
    refine TT_getR (r := (r0 + 1)) dX0_widen_29 fd_X0_15 (by decide) rfl (ltB hr0) (shB hr0) (rsB hr0) ?_
    refine TT_iload dX0_widen_32 rfl ?_
    refine TT_aload_n dX0_widen_34 rfl ?_
    refine TT_getR (r := (r0 + 1)) dX0_widen_35 fd_X0_15 (by decide) rfl (ltB hr0) (shB hr0) (rsB hr0) ?_
    refine TT_iload dX0_widen_38 rfl ?_
    obtain ⟨o3, h⟩ := h
    refine TT_iald dX0_widen_40 (ltB1 hr0) (shB1 hr0) (lnB hr0) o3 ?_
    refine TT_aload_n dX0_widen_41 rfl ?_
    refine TT_getR (r := (r2 + 1)) dX0_widen_42 fd_X0_15 (by decide) rfl (ltB hr2) (shB hr2) (rsB hr2) ?_
    refine TT_iload dX0_widen_45 rfl ?_
    obtain ⟨o4, h⟩ := h
    refine TT_iald dX0_widen_47 (ltB1 hr2) (shB1 hr2) (lnB hr2) o4 ?_
    obtain ⟨o5, h⟩ := h
    obtain ⟨o6, h⟩ := h
    refine TT_min dX0_widen_48 ml_X0_19 (Nat.le_of_ble_eq_true rfl) (Nat.le_of_ble_eq_true rfl) ⟨o5, o6⟩ ?_
    refine TT_iast dX0_widen_51 (ltB1 hr0) (shB1 hr0) (lnB hr0) o3 ?_
    refine TT_nmM (fun s7 e8 => ?_)
    replace h := h s7 e8
    refine TT_aload_n dX0_widen_52 rfl ?_
    refine TT_getR (r := (r0 + 1)) dX0_widen_53 fd_X0_15 (by decide) rfl (ltB hr0) (shB hr0) (rsB hr0) ?_
    refine TT_iload dX0_widen_56 rfl ?_
    refine TT_iconst dX0_widen_58 ?_
    refine TT_iadd dX0_widen_59 ?_
    refine TT_aload_n dX0_widen_60 rfl ?_
    refine TT_getR (r := (r0 + 1)) dX0_widen_61 fd_X0_15 (by decide) rfl (ltB hr0) (shB hr0) (rsB hr0) ?_
    refine TT_iload dX0_widen_64 rfl ?_
    refine TT_iconst dX0_widen_66 ?_
    refine TT_iadd dX0_widen_67 ?_
    obtain ⟨o9, h⟩ := h
    refine TT_iald dX0_widen_68 (ltB1 hr0) (shB1 hr0) (lnB hr0) o9 ?_
    refine TT_aload_n dX0_widen_69 rfl ?_
    refine TT_getR (r := (r2 + 1)) dX0_widen_70 fd_X0_15 (by decide) rfl (ltB hr2) (shB hr2) (rsB hr2) ?_
    refine TT_iload dX0_widen_73 rfl ?_
    refine TT_iconst dX0_widen_75 ?_
    refine TT_iadd dX0_widen_76 ?_
    obtain ⟨o10, h⟩ := h
    refine TT_iald dX0_widen_77 (ltB1 hr2) (shB1 hr2) (lnB hr2) o10 ?_
    obtain ⟨o11, h⟩ := h
    obtain ⟨o12, h⟩ := h
    refine TT_max dX0_widen_78 ml_X0_7 (Nat.le_of_ble_eq_true rfl) (Nat.le_of_ble_eq_true rfl) ⟨o11, o12⟩ ?_
    refine TT_iast dX0_widen_81 (ltB1 hr0) (shB1 hr0) (lnB hr0) o9 ?_
    refine TT_nmM (fun s13 e14 => ?_)
    replace h := h s13 e14
    refine TT_iinc dX0_widen_82 (Nat.le_of_ble_eq_true rfl) rfl rfl rfl ?_
    refine TT_goto (tgt := 3) dX0_widen_85 rfl ?_
    refine TT_kill 5 rfl ?_
    refine TT_kill 6 rfl ?_
    exact h
set_option maxRecDepth 4000 in
theorem w_X0_sizeOf_0 (r0 : Nat) (hr0 : isB r0) (x1 : Int) {σ : Mem} {K : Int → Mem → Prop} (h : TT m_X0_sizeOf 7 [vR r0, vI x1, vI 1, vI (x1 * 6)] [] σ (PI K)) : TT m_X0_sizeOf 0 [vR r0, vI x1, vU, vU] [] σ (PI K) := by
  refine TT_iconst dX0_sizeOf_0 ?_
  refine TT_istore_n dX0_sizeOf_1 (Nat.le_of_ble_eq_true rfl) rfl rfl ?_
  refine TT_iload_n dX0_sizeOf_2 rfl ?_
  refine TT_bipush dX0_sizeOf_3 (by decide) ?_
  refine TT_imul dX0_sizeOf_5 ?_
  refine TT_istore_n dX0_sizeOf_6 (Nat.le_of_ble_eq_true rfl) rfl rfl ?_
  exact h
theorem e_X0_sizeOf (r0 : Nat) (hr0 : isB r0) (x1 : Int) {σ : Mem} {K : Int → Mem → Prop} (h : TT m_X0_sizeOf 7 [vR r0, vI x1, vI 1, vI (x1 * 6)] [] σ (PI K)) : CC m_X0_sizeOf [vR r0, vI x1] σ (PI K) := CC_of (by decide) rfl rfl rfl (Nat.le_of_ble_eq_true rfl) (w_X0_sizeOf_0 r0 hr0 x1 h)
set_option maxRecDepth 4000 in
theorem w_X0_sizeOf_7 (r0 : Nat) (hr0 : isB r0) (x1 : Int) (x2 : Int) (x3 : Int) {σ : Mem} {K : Int → Mem → Prop} (h : R32 x3 ∧ R32 ((x1 * 6) + 6) ∧ ((((x1 * 6) + 6) ≤ x3 → K x2 σ) ∧ (¬ ((x1 * 6) + 6) ≤ x3 → (0 ≤ (x3 + 1) ∧ (x3 + 1) < (bln r0)) ∧ (0 ≤ x3 ∧ x3 < (bln r0)) ∧ (∀ v6 : Int, v6 = (x2 * (((σ (r0 + 1) (x3 + 1).toNat) - (σ (r0 + 1) (x3).toNat)) + 1)) → TT m_X0_sizeOf 7 [vR r0, vI x1, vI v6, vI (x3 + 2)] [] σ (PI K))))) : TT m_X0_sizeOf 7 [vR r0, vI x1, vI x2, vI x3] [] σ (PI K) := by
  refine TT_iload_n dX0_sizeOf_7 rfl ?_
  refine TT_iload_n dX0_sizeOf_8 rfl ?_
  refine TT_bipush dX0_sizeOf_9 (by decide) ?_
  refine TT_imul dX0_sizeOf_11 ?_
  refine TT_bipush dX0_sizeOf_12 (by decide) ?_
  refine TT_iadd dX0_sizeOf_14 ?_
  obtain ⟨o1, h⟩ := h
  obtain ⟨o2, h⟩ := h
  refine TT_icmp_ge (tgt := 44) dX0_sizeOf_15 rfl o1 o2 (fun c3 => ?_) (fun c3 => ?_)
  · replace h := h.1 c3
    refine TT_iload_n dX0_sizeOf_44 rfl ?_
    exact TT_iret dX0_sizeOf_45 rfl rfl h
  · replace h := h.2 c3
    refine TT_iload_n dX0_sizeOf_18 rfl ?_
    refine TT_aload_n dX0_sizeOf_19 rfl ?_
    refine TT_getR (r := (r0 + 1)) dX0_sizeOf_20 fd_X0_15 (by decide) rfl (ltB hr0) (shB hr0) (rsB hr0) ?_
    refine TT_iload_n dX0_sizeOf_23 rfl ?_
    refine TT_iconst dX0_sizeOf_24 ?_
    refine TT_iadd dX0_sizeOf_25 ?_
    obtain ⟨o4, h⟩ := h
    refine TT_iald dX0_sizeOf_26 (ltB1 hr0) (shB1 hr0) (lnB hr0) o4 ?_
    refine TT_aload_n dX0_sizeOf_27 rfl ?_
    refine TT_getR (r := (r0 + 1)) dX0_sizeOf_28 fd_X0_15 (by decide) rfl (ltB hr0) (shB hr0) (rsB hr0) ?_
    refine TT_iload_n dX0_sizeOf_31 rfl ?_
    obtain ⟨o5, h⟩ := h
    refine TT_iald dX0_sizeOf_32 (ltB1 hr0) (shB1 hr0) (lnB hr0) o5 ?_
    refine TT_isub dX0_sizeOf_33 ?_
    refine TT_iconst dX0_sizeOf_34 ?_
    refine TT_iadd dX0_sizeOf_35 ?_
    refine TT_imul dX0_sizeOf_36 ?_
    refine TT_nmI (fun v6 e7 => ?_)
    replace h := h v6 e7
    refine TT_istore_n dX0_sizeOf_37 (Nat.le_of_ble_eq_true rfl) rfl rfl ?_
    refine TT_iinc dX0_sizeOf_38 (Nat.le_of_ble_eq_true rfl) rfl rfl rfl ?_
    refine TT_goto (tgt := 7) dX0_sizeOf_41 rfl ?_
    exact h
set_option maxRecDepth 4000 in
theorem w_X0_growth_0 (r0 : Nat) (hr0 : isB r0) (x1 : Int) (r2 : Nat) (hr2 : isB r2) (x3 : Int) {σ : Mem} {K : Int → Mem → Prop} (h : TT m_X0_growth 6 [vR r0, vI x1, vR r2, vI x3, vI 1, vI 0, vU, vU, vU, vU] [] σ (PI K)) : TT m_X0_growth 0 [vR r0, vI x1, vR r2, vI x3, vU, vU, vU, vU, vU, vU] [] σ (PI K) := by
  refine TT_iconst dX0_growth_0 ?_
  refine TT_istore dX0_growth_1 (Nat.le_of_ble_eq_true rfl) rfl rfl ?_
  refine TT_iconst dX0_growth_3 ?_
  refine TT_istore dX0_growth_4 (Nat.le_of_ble_eq_true rfl) rfl rfl ?_
  exact h
theorem e_X0_growth (r0 : Nat) (hr0 : isB r0) (x1 : Int) (r2 : Nat) (hr2 : isB r2) (x3 : Int) {σ : Mem} {K : Int → Mem → Prop} (h : TT m_X0_growth 6 [vR r0, vI x1, vR r2, vI x3, vI 1, vI 0, vU, vU, vU, vU] [] σ (PI K)) : CC m_X0_growth [vR r0, vI x1, vR r2, vI x3] σ (PI K) := CC_of (by decide) rfl rfl rfl (Nat.le_of_ble_eq_true rfl) (w_X0_growth_0 r0 hr0 x1 r2 hr2 x3 h)
set_option maxRecDepth 4000 in
theorem w_X0_growth_6 (r0 : Nat) (hr0 : isB r0) (x1 : Int) (r2 : Nat) (hr2 : isB r2) (x3 : Int) (x4 : Int) (x5 : Int) {σ : Mem} {K : Int → Mem → Prop} (h : R32 x5 ∧ ((6 ≤ x5 → CC m_X0_sizeOf [vR r0, vI x1] σ (PI (fun y3 s4 => K (x4 - y3) s4))) ∧ (¬ 6 ≤ x5 → (0 ≤ ((x1 * 6) + x5) ∧ ((x1 * 6) + x5) < (bln r0)) ∧ (0 ≤ ((x3 * 6) + x5) ∧ ((x3 * 6) + x5) < (bln r2)) ∧ R32 (σ (r0 + 1) ((x1 * 6) + x5).toNat) ∧ R32 (σ (r2 + 1) ((x3 * 6) + x5).toNat) ∧ (∀ v9 : Int, v9 = (min (σ (r0 + 1) ((x1 * 6) + x5).toNat) (σ (r2 + 1) ((x3 * 6) + x5).toNat)) → (0 ≤ (((x1 * 6) + x5) + 1) ∧ (((x1 * 6) + x5) + 1) < (bln r0)) ∧ (0 ≤ (((x3 * 6) + x5) + 1) ∧ (((x3 * 6) + x5) + 1) < (bln r2)) ∧ R32 (σ (r0 + 1) (((x1 * 6) + x5) + 1).toNat) ∧ R32 (σ (r2 + 1) (((x3 * 6) + x5) + 1).toNat) ∧ (∀ v15 : Int, v15 = (max (σ (r0 + 1) (((x1 * 6) + x5) + 1).toNat) (σ (r2 + 1) (((x3 * 6) + x5) + 1).toNat)) → TT m_X0_growth 6 [vR r0, vI x1, vR r2, vI x3, vI (x4 * ((v15 - v9) + 1)), vI (x5 + 2), vU, vU, vU, vU] [] σ (PI K)))))) : TT m_X0_growth 6 [vR r0, vI x1, vR r2, vI x3, vI x4, vI x5, vU, vU, vU, vU] [] σ (PI K) := by
  refine TT_iload dX0_growth_6 rfl ?_
  refine TT_bipush dX0_growth_8 (by decide) ?_
  obtain ⟨o1, h⟩ := h
  refine TT_icmp_ge (tgt := 91) dX0_growth_10 rfl o1 (by decide) (fun c2 => ?_) (fun c2 => ?_)
  · replace h := h.1 c2
    refine TT_iload dX0_growth_91 rfl ?_
    refine TT_aload_n dX0_growth_93 rfl ?_
    refine TT_iload_n dX0_growth_94 rfl ?_
    refine TT_callVI (M' := m_X0_sizeOf) (as := [vI x1]) (rest := [vI x4]) dX0_growth_95 mo_X0_sizeOf ml_X0_22 im_X0_sizeOf se_X0_sizeOf (Nat.le_of_ble_eq_true rfl) (Nat.le_of_ble_eq_true rfl) ⟨rfl, rfl, rfl⟩ rfl rfl (Nat.le_of_ble_eq_true rfl) (ltB hr0) (shB hr0) rfl (by decide) h (fun y3 s4 h => ?_)
    refine TT_isub dX0_growth_98 ?_
    exact TT_iret dX0_growth_99 rfl rfl h
  · replace h := h.2 c2
    refine TT_iload_n dX0_growth_13 rfl ?_
    refine TT_bipush dX0_growth_14 (by decide) ?_
    refine TT_imul dX0_growth_16 ?_
    refine TT_iload dX0_growth_17 rfl ?_
    refine TT_iadd dX0_growth_19 ?_
    refine TT_istore dX0_growth_20 (Nat.le_of_ble_eq_true rfl) rfl rfl ?_
    refine TT_iload_n dX0_growth_22 rfl ?_
    refine TT_bipush dX0_growth_23 (by decide) ?_
    refine TT_imul dX0_growth_25 ?_
    refine TT_iload dX0_growth_26 rfl ?_
    refine TT_iadd dX0_growth_28 ?_
    refine TT_istore dX0_growth_29 (Nat.le_of_ble_eq_true rfl) rfl rfl ?_
    refine TT_aload_n dX0_growth_31 rfl ?_
    refine TT_getR (r := (r0 + 1)) dX0_growth_32 fd_X0_15 (by decide) rfl (ltB hr0) (shB hr0) (rsB hr0) ?_
    refine TT_iload dX0_growth_35 rfl ?_
    obtain ⟨o5, h⟩ := h
    refine TT_iald dX0_growth_37 (ltB1 hr0) (shB1 hr0) (lnB hr0) o5 ?_
    refine TT_aload_n dX0_growth_38 rfl ?_
    refine TT_getR (r := (r2 + 1)) dX0_growth_39 fd_X0_15 (by decide) rfl (ltB hr2) (shB hr2) (rsB hr2) ?_
    refine TT_iload dX0_growth_42 rfl ?_
    obtain ⟨o6, h⟩ := h
    refine TT_iald dX0_growth_44 (ltB1 hr2) (shB1 hr2) (lnB hr2) o6 ?_
    obtain ⟨o7, h⟩ := h
    obtain ⟨o8, h⟩ := h
    refine TT_min dX0_growth_45 ml_X0_19 (Nat.le_of_ble_eq_true rfl) (Nat.le_of_ble_eq_true rfl) ⟨o7, o8⟩ ?_
    refine TT_nmI (fun v9 e10 => ?_)
    replace h := h v9 e10
    refine TT_istore dX0_growth_48 (Nat.le_of_ble_eq_true rfl) rfl rfl ?_
    refine TT_aload_n dX0_growth_50 rfl ?_
    refine TT_getR (r := (r0 + 1)) dX0_growth_51 fd_X0_15 (by decide) rfl (ltB hr0) (shB hr0) (rsB hr0) ?_
    refine TT_iload dX0_growth_54 rfl ?_
    refine TT_iconst dX0_growth_56 ?_
    refine TT_iadd dX0_growth_57 ?_
    obtain ⟨o11, h⟩ := h
    refine TT_iald dX0_growth_58 (ltB1 hr0) (shB1 hr0) (lnB hr0) o11 ?_
    refine TT_aload_n dX0_growth_59 rfl ?_
    refine TT_getR (r := (r2 + 1)) dX0_growth_60 fd_X0_15 (by decide) rfl (ltB hr2) (shB hr2) (rsB hr2) ?_
    refine TT_iload dX0_growth_63 rfl ?_
    refine TT_iconst dX0_growth_65 ?_
    refine TT_iadd dX0_growth_66 ?_
    obtain ⟨o12, h⟩ := h
    refine TT_iald dX0_growth_67 (ltB1 hr2) (shB1 hr2) (lnB hr2) o12 ?_
    obtain ⟨o13, h⟩ := h
    obtain ⟨o14, h⟩ := h
    refine TT_max dX0_growth_68 ml_X0_7 (Nat.le_of_ble_eq_true rfl) (Nat.le_of_ble_eq_true rfl) ⟨o13, o14⟩ ?_
    refine TT_nmI (fun v15 e16 => ?_)
    replace h := h v15 e16
    refine TT_istore dX0_growth_71 (Nat.le_of_ble_eq_true rfl) rfl rfl ?_
    refine TT_iload dX0_growth_73 rfl ?_
    refine TT_iload dX0_growth_75 rfl ?_
    refine TT_iload dX0_growth_77 rfl ?_
    refine TT_isub dX0_growth_79 ?_
    refine TT_iconst dX0_growth_80 ?_
    refine TT_iadd dX0_growth_81 ?_
    refine TT_imul dX0_growth_82 ?_
    refine TT_istore dX0_growth_83 (Nat.le_of_ble_eq_true rfl) rfl rfl ?_
    refine TT_iinc dX0_growth_85 (Nat.le_of_ble_eq_true rfl) rfl rfl rfl ?_
    refine TT_goto (tgt := 6) dX0_growth_88 rfl ?_
    refine TT_kill 6 rfl ?_
    refine TT_kill 7 rfl ?_
    refine TT_kill 8 rfl ?_
    refine TT_kill 9 rfl ?_
    exact h
set_option maxRecDepth 4000 in
theorem w_X0_touch_0 (r0 : Nat) (hr0 : isB r0) (x1 : Int) (r2 : Nat) (hr2 : isB r2) (x3 : Int) {σ : Mem} {A B : Mem → Prop} (h : TT m_X0_touch 3 [vR r0, vI x1, vR r2, vI x3, vI 0, vU, vU] [] σ (PZ A B)) : TT m_X0_touch 0 [vR r0, vI x1, vR r2, vI x3, vU, vU, vU] [] σ (PZ A B) := by
  refine TT_iconst dX0_touch_0 ?_
  refine TT_istore dX0_touch_1 (Nat.le_of_ble_eq_true rfl) rfl rfl ?_
  exact h
theorem e_X0_touch (r0 : Nat) (hr0 : isB r0) (x1 : Int) (r2 : Nat) (hr2 : isB r2) (x3 : Int) {σ : Mem} {A B : Mem → Prop} (h : TT m_X0_touch 3 [vR r0, vI x1, vR r2, vI x3, vI 0, vU, vU] [] σ (PZ A B)) : CC m_X0_touch [vR r0, vI x1, vR r2, vI x3] σ (PZ A B) := CC_of (by decide) rfl rfl rfl (Nat.le_of_ble_eq_true rfl) (w_X0_touch_0 r0 hr0 x1 r2 hr2 x3 h)
set_option maxRecDepth 4000 in
theorem w_X0_touch_3 (r0 : Nat) (hr0 : isB r0) (x1 : Int) (r2 : Nat) (hr2 : isB r2) (x3 : Int) (x4 : Int) {σ : Mem} {A B : Mem → Prop} (h : R32 x4 ∧ ((6 ≤ x4 → A σ) ∧ (¬ 6 ≤ x4 → (0 ≤ ((x1 * 6) + x4) ∧ ((x1 * 6) + x4) < (bln r0)) ∧ (0 ≤ (((x3 * 6) + x4) + 1) ∧ (((x3 * 6) + x4) + 1) < (bln r2)) ∧ R32 (σ (r0 + 1) ((x1 * 6) + x4).toNat) ∧ R32 (σ (r2 + 1) (((x3 * 6) + x4) + 1).toNat) ∧ (((σ (r2 + 1) (((x3 * 6) + x4) + 1).toNat) < (σ (r0 + 1) ((x1 * 6) + x4).toNat) → B σ) ∧ (¬ (σ (r2 + 1) (((x3 * 6) + x4) + 1).toNat) < (σ (r0 + 1) ((x1 * 6) + x4).toNat) → (0 ≤ ((x3 * 6) + x4) ∧ ((x3 * 6) + x4) < (bln r2)) ∧ (0 ≤ (((x1 * 6) + x4) + 1) ∧ (((x1 * 6) + x4) + 1) < (bln r0)) ∧ R32 (σ (r2 + 1) ((x3 * 6) + x4).toNat) ∧ R32 (σ (r0 + 1) (((x1 * 6) + x4) + 1).toNat) ∧ (((σ (r2 + 1) ((x3 * 6) + x4).toNat) ≤ (σ (r0 + 1) (((x1 * 6) + x4) + 1).toNat) → TT m_X0_touch 3 [vR r0, vI x1, vR r2, vI x3, vI (x4 + 2), vU, vU] [] σ (PZ A B)) ∧ (¬ (σ (r2 + 1) ((x3 * 6) + x4).toNat) ≤ (σ (r0 + 1) (((x1 * 6) + x4) + 1).toNat) → B σ))))))) : TT m_X0_touch 3 [vR r0, vI x1, vR r2, vI x3, vI x4, vU, vU] [] σ (PZ A B) := by
  refine TT_iload dX0_touch_3 rfl ?_
  refine TT_bipush dX0_touch_5 (by decide) ?_
  obtain ⟨o1, h⟩ := h
  refine TT_icmp_ge (tgt := 74) dX0_touch_7 rfl o1 (by decide) (fun c2 => ?_) (fun c2 => ?_)
  · replace h := h.1 c2
    refine TT_iconst dX0_touch_74 ?_
    exact TT_z1 dX0_touch_75 rfl rfl h
  · replace h := h.2 c2
    refine TT_iload_n dX0_touch_10 rfl ?_
    refine TT_bipush dX0_touch_11 (by decide) ?_
    refine TT_imul dX0_touch_13 ?_
    refine TT_iload dX0_touch_14 rfl ?_
    refine TT_iadd dX0_touch_16 ?_
    refine TT_istore dX0_touch_17 (Nat.le_of_ble_eq_true rfl) rfl rfl ?_
    refine TT_iload_n dX0_touch_19 rfl ?_
    refine TT_bipush dX0_touch_20 (by decide) ?_
    refine TT_imul dX0_touch_22 ?_
    refine TT_iload dX0_touch_23 rfl ?_
    refine TT_iadd dX0_touch_25 ?_
    refine TT_istore dX0_touch_26 (Nat.le_of_ble_eq_true rfl) rfl rfl ?_
    refine TT_aload_n dX0_touch_28 rfl ?_
    refine TT_getR (r := (r0 + 1)) dX0_touch_29 fd_X0_15 (by decide) rfl (ltB hr0) (shB hr0) (rsB hr0) ?_
    refine TT_iload dX0_touch_32 rfl ?_
    obtain ⟨o3, h⟩ := h
    refine TT_iald dX0_touch_34 (ltB1 hr0) (shB1 hr0) (lnB hr0) o3 ?_
    refine TT_aload_n dX0_touch_35 rfl ?_
    refine TT_getR (r := (r2 + 1)) dX0_touch_36 fd_X0_15 (by decide) rfl (ltB hr2) (shB hr2) (rsB hr2) ?_
    refine TT_iload dX0_touch_39 rfl ?_
    refine TT_iconst dX0_touch_41 ?_
    refine TT_iadd dX0_touch_42 ?_
    obtain ⟨o4, h⟩ := h
    refine TT_iald dX0_touch_43 (ltB1 hr2) (shB1 hr2) (lnB hr2) o4 ?_
    obtain ⟨o5, h⟩ := h
    obtain ⟨o6, h⟩ := h
    refine TT_icmp_gt (tgt := 66) dX0_touch_44 rfl o5 o6 (fun c7 => ?_) (fun c7 => ?_)
    · replace h := h.1 c7
      refine TT_iconst dX0_touch_66 ?_
      exact TT_z0 dX0_touch_67 rfl rfl h
    · replace h := h.2 c7
      refine TT_aload_n dX0_touch_47 rfl ?_
      refine TT_getR (r := (r2 + 1)) dX0_touch_48 fd_X0_15 (by decide) rfl (ltB hr2) (shB hr2) (rsB hr2) ?_
      refine TT_iload dX0_touch_51 rfl ?_
      obtain ⟨o8, h⟩ := h
      refine TT_iald dX0_touch_53 (ltB1 hr2) (shB1 hr2) (lnB hr2) o8 ?_
      refine TT_aload_n dX0_touch_54 rfl ?_
      refine TT_getR (r := (r0 + 1)) dX0_touch_55 fd_X0_15 (by decide) rfl (ltB hr0) (shB hr0) (rsB hr0) ?_
      refine TT_iload dX0_touch_58 rfl ?_
      refine TT_iconst dX0_touch_60 ?_
      refine TT_iadd dX0_touch_61 ?_
      obtain ⟨o9, h⟩ := h
      refine TT_iald dX0_touch_62 (ltB1 hr0) (shB1 hr0) (lnB hr0) o9 ?_
      obtain ⟨o10, h⟩ := h
      obtain ⟨o11, h⟩ := h
      refine TT_icmp_le (tgt := 68) dX0_touch_63 rfl o10 o11 (fun c12 => ?_) (fun c12 => ?_)
      · replace h := h.1 c12
        refine TT_iinc dX0_touch_68 (Nat.le_of_ble_eq_true rfl) rfl rfl rfl ?_
        refine TT_goto (tgt := 3) dX0_touch_71 rfl ?_
        refine TT_kill 5 rfl ?_
        refine TT_kill 6 rfl ?_
        exact h
      · replace h := h.2 c12
        refine TT_iconst dX0_touch_66 ?_
        exact TT_z0 dX0_touch_67 rfl rfl h
set_option maxRecDepth 4000 in
theorem w_X0_endsSum_0 (r0 : Nat) (hr0 : isB r0) (x1 : Int) (x2 : Int) {σ : Mem} {K : Int → Mem → Prop} (h : (0 ≤ ((x1 * 6) + (2 * x2)) ∧ ((x1 * 6) + (2 * x2)) < (bln r0)) ∧ (0 ≤ (((x1 * 6) + (2 * x2)) + 1) ∧ (((x1 * 6) + (2 * x2)) + 1) < (bln r0)) ∧ K ((σ (r0 + 1) ((x1 * 6) + (2 * x2)).toNat) + (σ (r0 + 1) (((x1 * 6) + (2 * x2)) + 1).toNat)) σ) : TT m_X0_endsSum 0 [vR r0, vI x1, vI x2, vU] [] σ (PI K) := by
  refine TT_iload_n dX0_endsSum_0 rfl ?_
  refine TT_bipush dX0_endsSum_1 (by decide) ?_
  refine TT_imul dX0_endsSum_3 ?_
  refine TT_iconst dX0_endsSum_4 ?_
  refine TT_iload_n dX0_endsSum_5 rfl ?_
  refine TT_imul dX0_endsSum_6 ?_
  refine TT_iadd dX0_endsSum_7 ?_
  refine TT_istore_n dX0_endsSum_8 (Nat.le_of_ble_eq_true rfl) rfl rfl ?_
  refine TT_aload_n dX0_endsSum_9 rfl ?_
  refine TT_getR (r := (r0 + 1)) dX0_endsSum_10 fd_X0_15 (by decide) rfl (ltB hr0) (shB hr0) (rsB hr0) ?_
  refine TT_iload_n dX0_endsSum_13 rfl ?_
  obtain ⟨o1, h⟩ := h
  refine TT_iald dX0_endsSum_14 (ltB1 hr0) (shB1 hr0) (lnB hr0) o1 ?_
  refine TT_aload_n dX0_endsSum_15 rfl ?_
  refine TT_getR (r := (r0 + 1)) dX0_endsSum_16 fd_X0_15 (by decide) rfl (ltB hr0) (shB hr0) (rsB hr0) ?_
  refine TT_iload_n dX0_endsSum_19 rfl ?_
  refine TT_iconst dX0_endsSum_20 ?_
  refine TT_iadd dX0_endsSum_21 ?_
  obtain ⟨o2, h⟩ := h
  refine TT_iald dX0_endsSum_22 (ltB1 hr0) (shB1 hr0) (lnB hr0) o2 ?_
  refine TT_iadd dX0_endsSum_23 ?_
  exact TT_iret dX0_endsSum_24 rfl rfl h
theorem e_X0_endsSum (r0 : Nat) (hr0 : isB r0) (x1 : Int) (x2 : Int) {σ : Mem} {K : Int → Mem → Prop} (h : (0 ≤ ((x1 * 6) + (2 * x2)) ∧ ((x1 * 6) + (2 * x2)) < (bln r0)) ∧ (0 ≤ (((x1 * 6) + (2 * x2)) + 1) ∧ (((x1 * 6) + (2 * x2)) + 1) < (bln r0)) ∧ K ((σ (r0 + 1) ((x1 * 6) + (2 * x2)).toNat) + (σ (r0 + 1) (((x1 * 6) + (2 * x2)) + 1).toNat)) σ) : CC m_X0_endsSum [vR r0, vI x1, vI x2] σ (PI K) := CC_of (by decide) rfl rfl rfl (Nat.le_of_ble_eq_true rfl) (w_X0_endsSum_0 r0 hr0 x1 x2 h)
set_option maxRecDepth 4000 in
theorem w_X1_clear_0  {σ : Mem} {K : Mem → Prop} (h : TT m_X1_clear 2 [vR 32, vI 0] [] σ (PN K)) : TT m_X1_clear 0 [vR 32, vU] [] σ (PN K) := by
  refine TT_iconst dX1_clear_0 ?_
  refine TT_istore_n dX1_clear_1 (Nat.le_of_ble_eq_true rfl) rfl rfl ?_
  exact h
theorem e_X1_clear  {σ : Mem} {K : Mem → Prop} (h : TT m_X1_clear 2 [vR 32, vI 0] [] σ (PN K)) : CC m_X1_clear [vR 32] σ (PN K) := CC_of (by decide) rfl rfl rfl (Nat.le_of_ble_eq_true rfl) (w_X1_clear_0  h)
set_option maxRecDepth 4000 in
theorem w_X1_clear_2 (x1 : Int) {σ : Mem} {K : Mem → Prop} (h : R32 x1 ∧ ((10 ≤ x1 → K σ) ∧ (¬ 10 ≤ x1 → (0 ≤ x1 ∧ x1 < 10) ∧ (∀ s4 : Mem, s4 = up σ 33 (x1).toNat 0 → TT m_X1_clear 2 [vR 32, vI (x1 + 1)] [] s4 (PN K))))) : TT m_X1_clear 2 [vR 32, vI x1] [] σ (PN K) := by
  refine TT_iload_n dX1_clear_2 rfl ?_
  refine TT_bipush dX1_clear_3 (by decide) ?_
  obtain ⟨o1, h⟩ := h
  refine TT_icmp_ge (tgt := 21) dX1_clear_5 rfl o1 (by decide) (fun c2 => ?_) (fun c2 => ?_)
  · replace h := h.1 c2
    exact TT_vret dX1_clear_21 rfl rfl h
  · replace h := h.2 c2
    refine TT_aload_n dX1_clear_8 rfl ?_
    refine TT_getR (r := 33) dX1_clear_9 fd_X1_9 (by decide) rfl (by decide) rfl rfl ?_
    refine TT_iload_n dX1_clear_12 rfl ?_
    refine TT_iconst dX1_clear_13 ?_
    obtain ⟨o3, h⟩ := h
    refine TT_iast dX1_clear_14 (by decide) rfl (by decide) o3 ?_
    refine TT_nmM (fun s4 e5 => ?_)
    replace h := h s4 e5
    refine TT_iinc dX1_clear_15 (Nat.le_of_ble_eq_true rfl) rfl rfl rfl ?_
    refine TT_goto (tgt := 2) dX1_clear_18 rfl ?_
    exact h
set_option maxRecDepth 4000 in
theorem w_X1_add_0 (x1 : Int) {σ : Mem} {K : Mem → Prop} (h : CC m_X9_isWithin [vI x1, vI 0, vI 9] σ (PZ (fun s2 => (0 ≤ x1 ∧ x1 < 10) ∧ (∀ s6 : Mem, s6 = up s2 33 (x1).toNat ((s2 33 (x1).toNat) + 1) → K s6)) (fun s3 => K s3))) : TT m_X1_add 0 [vR 32, vI x1] [] σ (PN K) := by
  refine TT_iload_n dX1_add_0 rfl ?_
  refine TT_iconst dX1_add_1 ?_
  refine TT_bipush dX1_add_2 (by decide) ?_
  refine TT_callSNZ (M' := m_X9_isWithin) (as := [vI x1, vI 0, vI 9]) (rest := []) dX1_add_4 mo_X9_isWithin (by decide +kernel) sm_X9_isWithin (Nat.le_of_ble_eq_true rfl) (Nat.le_of_ble_eq_true rfl) ⟨rfl, rfl, rfl⟩ rfl rfl (Nat.le_of_ble_eq_true rfl) h (fun s2 h => ?_) (fun s3 h => ?_)
  · refine TT_if_eq (tgt := 20) dX1_add_7 rfl (by decide) (fun c4 => absurd c4 (by decide)) (fun c4 => ?_)
    refine TT_aload_n dX1_add_10 rfl ?_
    refine TT_getR (r := 33) dX1_add_11 fd_X1_9 (by decide) rfl (by decide) rfl rfl ?_
    refine TT_iload_n dX1_add_14 rfl ?_
    refine TT_dup2 dX1_add_15 rfl rfl ?_
    obtain ⟨o5, h⟩ := h
    refine TT_iald dX1_add_16 (by decide) rfl (by decide) o5 ?_
    refine TT_iconst dX1_add_17 ?_
    refine TT_iadd dX1_add_18 ?_
    refine TT_iast dX1_add_19 (by decide) rfl (by decide) o5 ?_
    refine TT_nmM (fun s6 e7 => ?_)
    replace h := h s6 e7
    exact TT_vret dX1_add_20 rfl rfl h
  · refine TT_if_eq (tgt := 20) dX1_add_7 rfl (by decide) (fun c8 => ?_) (fun c8 => absurd c8 (by decide))
    exact TT_vret dX1_add_20 rfl rfl h
theorem e_X1_add (x1 : Int) {σ : Mem} {K : Mem → Prop} (h : CC m_X9_isWithin [vI x1, vI 0, vI 9] σ (PZ (fun s2 => (0 ≤ x1 ∧ x1 < 10) ∧ (∀ s6 : Mem, s6 = up s2 33 (x1).toNat ((s2 33 (x1).toNat) + 1) → K s6)) (fun s3 => K s3))) : CC m_X1_add [vR 32, vI x1] σ (PN K) := CC_of (by decide) rfl rfl rfl (Nat.le_of_ble_eq_true rfl) (w_X1_add_0 x1 h)
set_option maxRecDepth 4000 in
theorem w_X1_leastGreatest_0 (x1 : Int) {σ : Mem} {K : Int → Mem → Prop} (h : TT m_X1_leastGreatest 2 [vR 32, vI x1, vI 0] [] σ (PI K)) : TT m_X1_leastGreatest 0 [vR 32, vI x1, vU] [] σ (PI K) := by
  refine TT_iconst dX1_leastGreatest_0 ?_
  refine TT_istore_n dX1_leastGreatest_1 (Nat.le_of_ble_eq_true rfl) rfl rfl ?_
  exact h
theorem e_X1_leastGreatest (x1 : Int) {σ : Mem} {K : Int → Mem → Prop} (h : TT m_X1_leastGreatest 2 [vR 32, vI x1, vI 0] [] σ (PI K)) : CC m_X1_leastGreatest [vR 32, vI x1] σ (PI K) := CC_of (by decide) rfl rfl rfl (Nat.le_of_ble_eq_true rfl) (w_X1_leastGreatest_0 x1 h)
set_option maxRecDepth 4000 in
theorem w_X1_leastGreatest_2 (x1 : Int) (x2 : Int) {σ : Mem} {K : Int → Mem → Prop} (h : R32 x2 ∧ ((240 ≤ x2 → K x2 σ) ∧ (¬ 240 ≤ x2 → CC m_X1_fits [vR 32, vI 0, vI x1, vI x2] σ (PZ (fun s4 => K x2 s4) (fun s5 => TT m_X1_leastGreatest 2 [vR 32, vI x1, vI (x2 + 1)] [] s5 (PI K)))))) : TT m_X1_leastGreatest 2 [vR 32, vI x1, vI x2] [] σ (PI K) := by
  refine TT_iload_n dX1_leastGreatest_2 rfl ?_
  refine TT_sipush dX1_leastGreatest_3 (by decide) ?_
  obtain ⟨o1, h⟩ := h
  refine TT_icmp_ge (tgt := 28) dX1_leastGreatest_6 rfl o1 (by decide) (fun c2 => ?_) (fun c2 => ?_)
  · replace h := h.1 c2
    refine TT_iload_n dX1_leastGreatest_28 rfl ?_
    exact TT_iret dX1_leastGreatest_29 rfl rfl h
  · replace h := h.2 c2
    refine TT_aload_n dX1_leastGreatest_9 rfl ?_
    refine TT_iconst dX1_leastGreatest_10 ?_
    refine TT_iload_n dX1_leastGreatest_11 rfl ?_
    refine TT_iload_n dX1_leastGreatest_12 rfl ?_
    refine TT_callVZ (M' := m_X1_fits) (as := [vI 0, vI x1, vI x2]) (rest := []) dX1_leastGreatest_13 mo_X1_fits ml_X1_19 im_X1_fits se_X1_fits (Nat.le_of_ble_eq_true rfl) (Nat.le_of_ble_eq_true rfl) ⟨rfl, rfl, rfl⟩ rfl rfl (Nat.le_of_ble_eq_true rfl) (by decide) rfl rfl (by decide) h (fun s4 h => ?_) (fun s5 h => ?_)
    · refine TT_if_eq (tgt := 22) dX1_leastGreatest_16 rfl (by decide) (fun c6 => absurd c6 (by decide)) (fun c6 => ?_)
      refine TT_goto (tgt := 28) dX1_leastGreatest_19 rfl ?_
      refine TT_iload_n dX1_leastGreatest_28 rfl ?_
      exact TT_iret dX1_leastGreatest_29 rfl rfl h
    · refine TT_if_eq (tgt := 22) dX1_leastGreatest_16 rfl (by decide) (fun c7 => ?_) (fun c7 => absurd c7 (by decide))
      refine TT_iinc dX1_leastGreatest_22 (Nat.le_of_ble_eq_true rfl) rfl rfl rfl ?_
      refine TT_goto (tgt := 2) dX1_leastGreatest_25 rfl ?_
      exact h
set_option maxRecDepth 4000 in
theorem w_X1_partOf_0 (x1 : Int) (x2 : Int) {σ : Mem} {K : Int → Mem → Prop} (h : CC m_X1_leastGreatest [vR 32, vI x1] σ (PI (fun y1 s2 => TT m_X1_partOf 15 [vR 32, vI x1, vI x2, vI y1, vI 0, vI 0, vI 0] [] s2 (PI K)))) : TT m_X1_partOf 0 [vR 32, vI x1, vI x2, vU, vU, vU, vU] [] σ (PI K) := by
  refine TT_aload_n dX1_partOf_0 rfl ?_
  refine TT_iload_n dX1_partOf_1 rfl ?_
  refine TT_callVI (M' := m_X1_leastGreatest) (as := [vI x1]) (rest := []) dX1_partOf_2 mo_X1_leastGreatest ml_X1_22 im_X1_leastGreatest se_X1_leastGreatest (Nat.le_of_ble_eq_true rfl) (Nat.le_of_ble_eq_true rfl) ⟨rfl, rfl, rfl⟩ rfl rfl (Nat.le_of_ble_eq_true rfl) (by decide) rfl rfl (by decide) h (fun y1 s2 h => ?_)
  refine TT_istore_n dX1_partOf_5 (Nat.le_of_ble_eq_true rfl) rfl rfl ?_
  refine TT_iconst dX1_partOf_6 ?_
  refine TT_istore dX1_partOf_7 (Nat.le_of_ble_eq_true rfl) rfl rfl ?_
  refine TT_iconst dX1_partOf_9 ?_
  refine TT_istore dX1_partOf_10 (Nat.le_of_ble_eq_true rfl) rfl rfl ?_
  refine TT_iconst dX1_partOf_12 ?_
  refine TT_istore dX1_partOf_13 (Nat.le_of_ble_eq_true rfl) rfl rfl ?_
  exact h
theorem e_X1_partOf (x1 : Int) (x2 : Int) {σ : Mem} {K : Int → Mem → Prop} (h : CC m_X1_leastGreatest [vR 32, vI x1] σ (PI (fun y1 s2 => TT m_X1_partOf 15 [vR 32, vI x1, vI x2, vI y1, vI 0, vI 0, vI 0] [] s2 (PI K)))) : CC m_X1_partOf [vR 32, vI x1, vI x2] σ (PI K) := CC_of (by decide) rfl rfl rfl (Nat.le_of_ble_eq_true rfl) (w_X1_partOf_0 x1 x2 h)
set_option maxRecDepth 4000 in
theorem w_X1_partOf_15 (x1 : Int) (x2 : Int) (x3 : Int) (x4 : Int) (x5 : Int) (x6 : Int) {σ : Mem} {K : Int → Mem → Prop} (h : R32 x6 ∧ R32 x2 ∧ ((x2 < x6 → K (x5 - x4) σ) ∧ (¬ x2 < x6 → TT m_X1_partOf 25 [vR 32, vI x1, vI x2, vI x3, vI x5, vI x5, vI x6] [] σ (PI K)))) : TT m_X1_partOf 15 [vR 32, vI x1, vI x2, vI x3, vI x4, vI x5, vI x6] [] σ (PI K) := by
  refine TT_iload dX1_partOf_15 rfl ?_
  refine TT_iload_n dX1_partOf_17 rfl ?_
  obtain ⟨o3, h⟩ := h
  obtain ⟨o4, h⟩ := h
  refine TT_icmp_gt (tgt := 60) dX1_partOf_18 rfl o3 o4 (fun c5 => ?_) (fun c5 => ?_)
  · replace h := h.1 c5
    refine TT_iload dX1_partOf_60 rfl ?_
    refine TT_iload dX1_partOf_62 rfl ?_
    refine TT_isub dX1_partOf_64 ?_
    exact TT_iret dX1_partOf_65 rfl rfl h
  · replace h := h.2 c5
    refine TT_iload dX1_partOf_21 rfl ?_
    refine TT_istore dX1_partOf_23 (Nat.le_of_ble_eq_true rfl) rfl rfl ?_
    exact h
set_option maxRecDepth 4000 in
theorem w_X1_partOf_25 (x1 : Int) (x2 : Int) (x3 : Int) (x4 : Int) (x5 : Int) (x6 : Int) {σ : Mem} {K : Int → Mem → Prop} (h : R32 x5 ∧ ((10 ≤ x5 → TT m_X1_partOf 15 [vR 32, vI x1, vI x2, vI x3, vI x4, vI x5, vI (x6 + 1)] [] σ (PI K)) ∧ (¬ 10 ≤ x5 → CC m_X1_fits [vR 32, vI x5, vI ((x1 - x6) - 1), vI x3] σ (PZ (fun s9 => TT m_X1_partOf 15 [vR 32, vI x1, vI x2, vI x3, vI x4, vI x5, vI (x6 + 1)] [] s9 (PI K)) (fun s10 => TT m_X1_partOf 25 [vR 32, vI x1, vI x2, vI x3, vI x4, vI (x5 + 1), vI x6] [] s10 (PI K)))))) : TT m_X1_partOf 25 [vR 32, vI x1, vI x2, vI x3, vI x4, vI x5, vI x6] [] σ (PI K) := by
  refine TT_iload dX1_partOf_25 rfl ?_
  refine TT_bipush dX1_partOf_27 (by decide) ?_
  obtain ⟨o6, h⟩ := h
  refine TT_icmp_ge (tgt := 54) dX1_partOf_29 rfl o6 (by decide) (fun c7 => ?_) (fun c7 => ?_)
  · replace h := h.1 c7
    refine TT_iinc dX1_partOf_54 (Nat.le_of_ble_eq_true rfl) rfl rfl rfl ?_
    refine TT_goto (tgt := 15) dX1_partOf_57 rfl ?_
    exact h
  · replace h := h.2 c7
    refine TT_aload_n dX1_partOf_32 rfl ?_
    refine TT_iload dX1_partOf_33 rfl ?_
    refine TT_iload_n dX1_partOf_35 rfl ?_
    refine TT_iload dX1_partOf_36 rfl ?_
    refine TT_isub dX1_partOf_38 ?_
    refine TT_iconst dX1_partOf_39 ?_
    refine TT_isub dX1_partOf_40 ?_
    refine TT_iload_n dX1_partOf_41 rfl ?_
    refine TT_callVZ (M' := m_X1_fits) (as := [vI x5, vI ((x1 - x6) - 1), vI x3]) (rest := []) dX1_partOf_42 mo_X1_fits ml_X1_19 im_X1_fits se_X1_fits (Nat.le_of_ble_eq_true rfl) (Nat.le_of_ble_eq_true rfl) ⟨rfl, rfl, rfl⟩ rfl rfl (Nat.le_of_ble_eq_true rfl) (by decide) rfl rfl (by decide) h (fun s9 h => ?_) (fun s10 h => ?_)
    · refine TT_if_ne (tgt := 54) dX1_partOf_45 rfl (by decide) (fun c11 => ?_) (fun c11 => absurd c11 (by decide))
      refine TT_iinc dX1_partOf_54 (Nat.le_of_ble_eq_true rfl) rfl rfl rfl ?_
      refine TT_goto (tgt := 15) dX1_partOf_57 rfl ?_
      exact h
    · refine TT_if_ne (tgt := 54) dX1_partOf_45 rfl (by decide) (fun c12 => absurd c12 (by decide)) (fun c12 => ?_)
      refine TT_iinc dX1_partOf_48 (Nat.le_of_ble_eq_true rfl) rfl rfl rfl ?_
      refine TT_goto (tgt := 25) dX1_partOf_51 rfl ?_
      exact h
set_option maxRecDepth 4000 in
theorem w_X1_fits_0 (x1 : Int) (x2 : Int) (x3 : Int) {σ : Mem} {A B : Mem → Prop} (h : R32 x1 ∧ ((10 ≤ x1 → TT m_X1_fits 22 [vR 32, vU, vU, vI x3, vI x2, vI 0, vI x1] [] σ (PZ A B)) ∧ (¬ 10 ≤ x1 → R32 x2 ∧ ((1 ≤ x2 → TT m_X1_fits 22 [vR 32, vU, vU, vI x3, vI x2, vI 0, vI x1] [] σ (PZ A B)) ∧ (¬ 1 ≤ x2 → B σ))))) : TT m_X1_fits 0 [vR 32, vI x1, vI x2, vI x3, vU, vU, vU] [] σ (PZ A B) := by
  refine TT_iload_n dX1_fits_0 rfl ?_
  refine TT_bipush dX1_fits_1 (by decide) ?_
  obtain ⟨o1, h⟩ := h
  refine TT_icmp_ge (tgt := 13) dX1_fits_3 rfl o1 (by decide) (fun c2 => ?_) (fun c2 => ?_)
  · replace h := h.1 c2
    refine TT_iload_n dX1_fits_13 rfl ?_
    refine TT_istore dX1_fits_14 (Nat.le_of_ble_eq_true rfl) rfl rfl ?_
    refine TT_iconst dX1_fits_16 ?_
    refine TT_istore dX1_fits_17 (Nat.le_of_ble_eq_true rfl) rfl rfl ?_
    refine TT_iload_n dX1_fits_19 rfl ?_
    refine TT_istore dX1_fits_20 (Nat.le_of_ble_eq_true rfl) rfl rfl ?_
    refine TT_kill 1 rfl ?_
    refine TT_kill 2 rfl ?_
    exact h
  · replace h := h.2 c2
    refine TT_iload_n dX1_fits_6 rfl ?_
    refine TT_iconst dX1_fits_7 ?_
    obtain ⟨o3, h⟩ := h
    refine TT_icmp_ge (tgt := 13) dX1_fits_8 rfl o3 (by decide) (fun c4 => ?_) (fun c4 => ?_)
    · replace h := h.1 c4
      refine TT_iload_n dX1_fits_13 rfl ?_
      refine TT_istore dX1_fits_14 (Nat.le_of_ble_eq_true rfl) rfl rfl ?_
      refine TT_iconst dX1_fits_16 ?_
      refine TT_istore dX1_fits_17 (Nat.le_of_ble_eq_true rfl) rfl rfl ?_
      refine TT_iload_n dX1_fits_19 rfl ?_
      refine TT_istore dX1_fits_20 (Nat.le_of_ble_eq_true rfl) rfl rfl ?_
      refine TT_kill 1 rfl ?_
      refine TT_kill 2 rfl ?_
      exact h
    · replace h := h.2 c4
      refine TT_iconst dX1_fits_11 ?_
      exact TT_z0 dX1_fits_12 rfl rfl h
theorem e_X1_fits (x1 : Int) (x2 : Int) (x3 : Int) {σ : Mem} {A B : Mem → Prop} (h : R32 x1 ∧ ((10 ≤ x1 → TT m_X1_fits 22 [vR 32, vU, vU, vI x3, vI x2, vI 0, vI x1] [] σ (PZ A B)) ∧ (¬ 10 ≤ x1 → R32 x2 ∧ ((1 ≤ x2 → TT m_X1_fits 22 [vR 32, vU, vU, vI x3, vI x2, vI 0, vI x1] [] σ (PZ A B)) ∧ (¬ 1 ≤ x2 → B σ))))) : CC m_X1_fits [vR 32, vI x1, vI x2, vI x3] σ (PZ A B) := CC_of (by decide) rfl rfl rfl (Nat.le_of_ble_eq_true rfl) (w_X1_fits_0 x1 x2 x3 h)
set_option maxRecDepth 4000 in
theorem w_X1_fits_22 (x3 : Int) (x4 : Int) (x5 : Int) (x6 : Int) {σ : Mem} {A B : Mem → Prop} (h : R32 x6 ∧ ((10 ≤ x6 → A σ) ∧ (¬ 10 ≤ x6 → (0 ≤ x6 ∧ x6 < 10) ∧ R32 (σ 33 (x6).toNat) ∧ R32 x5 ∧ (((σ 33 (x6).toNat) ≤ x5 → TT m_X1_fits 66 [vR 32, vU, vU, vI x3, vI x4, vI x5, vI x6] [] σ (PZ A B)) ∧ (¬ (σ 33 (x6).toNat) ≤ x5 → R32 x3 ∧ ((x3 < (σ 33 (x6).toNat) → B σ) ∧ (¬ x3 < (σ 33 (x6).toNat) → R32 x4 ∧ ((1 ≤ x4 → TT m_X1_fits 66 [vR 32, vU, vU, vI x3, vI (x4 + (-1)), vI x3, vI x6] [] σ (PZ A B)) ∧ (¬ 1 ≤ x4 → B σ))))))))) : TT m_X1_fits 22 [vR 32, vU, vU, vI x3, vI x4, vI x5, vI x6] [] σ (PZ A B) := by
  refine TT_iload dX1_fits_22 rfl ?_
  refine TT_bipush dX1_fits_24 (by decide) ?_
  obtain ⟨o5, h⟩ := h
  refine TT_icmp_ge (tgt := 84) dX1_fits_26 rfl o5 (by decide) (fun c6 => ?_) (fun c6 => ?_)
  · replace h := h.1 c6
    refine TT_iconst dX1_fits_84 ?_
    exact TT_z1 dX1_fits_85 rfl rfl h
  · replace h := h.2 c6
    refine TT_aload_n dX1_fits_29 rfl ?_
    refine TT_getR (r := 33) dX1_fits_30 fd_X1_9 (by decide) rfl (by decide) rfl rfl ?_
    refine TT_iload dX1_fits_33 rfl ?_
    obtain ⟨o7, h⟩ := h
    refine TT_iald dX1_fits_35 (by decide) rfl (by decide) o7 ?_
    refine TT_iload dX1_fits_36 rfl ?_
    obtain ⟨o8, h⟩ := h
    obtain ⟨o9, h⟩ := h
    refine TT_icmp_le (tgt := 66) dX1_fits_38 rfl o8 o9 (fun c10 => ?_) (fun c10 => ?_)
    · replace h := h.1 c10
      exact h
    · replace h := h.2 c10
      refine TT_aload_n dX1_fits_41 rfl ?_
      refine TT_getR (r := 33) dX1_fits_42 fd_X1_9 (by decide) rfl (by decide) rfl rfl ?_
      refine TT_iload dX1_fits_45 rfl ?_
      refine TT_iald dX1_fits_47 (by decide) rfl (by decide) o7 ?_
      refine TT_iload_n dX1_fits_48 rfl ?_
      obtain ⟨o11, h⟩ := h
      refine TT_icmp_gt (tgt := 58) dX1_fits_49 rfl o8 o11 (fun c12 => ?_) (fun c12 => ?_)
      · replace h := h.1 c12
        refine TT_iconst dX1_fits_58 ?_
        exact TT_z0 dX1_fits_59 rfl rfl h
      · replace h := h.2 c12
        refine TT_iload dX1_fits_52 rfl ?_
        refine TT_iconst dX1_fits_54 ?_
        obtain ⟨o13, h⟩ := h
        refine TT_icmp_ge (tgt := 60) dX1_fits_55 rfl o13 (by decide) (fun c14 => ?_) (fun c14 => ?_)
        · replace h := h.1 c14
          refine TT_iinc dX1_fits_60 (Nat.le_of_ble_eq_true rfl) rfl rfl rfl ?_
          refine TT_iload_n dX1_fits_63 rfl ?_
          refine TT_istore dX1_fits_64 (Nat.le_of_ble_eq_true rfl) rfl rfl ?_
          exact h
        · replace h := h.2 c14
          refine TT_iconst dX1_fits_58 ?_
          exact TT_z0 dX1_fits_59 rfl rfl h
set_option maxRecDepth 4000 in
theorem w_X1_fits_66 (x3 : Int) (x4 : Int) (x5 : Int) (x6 : Int) {σ : Mem} {A B : Mem → Prop} (h : (0 ≤ x6 ∧ x6 < 10) ∧ TT m_X1_fits 22 [vR 32, vU, vU, vI x3, vI x4, vI (x5 - (σ 33 (x6).toNat)), vI (x6 + 1)] [] σ (PZ A B)) : TT m_X1_fits 66 [vR 32, vU, vU, vI x3, vI x4, vI x5, vI x6] [] σ (PZ A B) := by
  refine TT_iload dX1_fits_66 rfl ?_
  refine TT_aload_n dX1_fits_68 rfl ?_
  refine TT_getR (r := 33) dX1_fits_69 fd_X1_9 (by decide) rfl (by decide) rfl rfl ?_
  refine TT_iload dX1_fits_72 rfl ?_
  obtain ⟨o15, h⟩ := h
  refine TT_iald dX1_fits_74 (by decide) rfl (by decide) o15 ?_
  refine TT_isub dX1_fits_75 ?_
  refine TT_istore dX1_fits_76 (Nat.le_of_ble_eq_true rfl) rfl rfl ?_
  refine TT_iinc dX1_fits_78 (Nat.le_of_ble_eq_true rfl) rfl rfl rfl ?_
  refine TT_goto (tgt := 22) dX1_fits_81 rfl ?_
  exact h
set_option maxRecDepth 4000 in
theorem w_X2_clear_0  {σ : Mem} {K : Mem → Prop} (h : (∀ s1 : Mem, s1 = up σ 13 11 0 → (∀ s3 : Mem, s3 = up s1 13 12 0 → CC m_X2_addLeaf [vR 13] s3 (PN (fun s6 => K s6))))) : TT m_X2_clear 0 [vR 13] [] σ (PN K) := by
  refine TT_aload_n dX2_clear_0 rfl ?_
  refine TT_iconst dX2_clear_1 ?_
  refine TT_putI dX2_clear_2 fd_X2_52 (by decide) rfl (by decide) rfl ?_
  refine TT_nmM (fun s1 e2 => ?_)
  replace h := h s1 e2
  refine TT_aload_n dX2_clear_5 rfl ?_
  refine TT_iconst dX2_clear_6 ?_
  refine TT_putI dX2_clear_7 fd_X2_56 (by decide) rfl (by decide) rfl ?_
  refine TT_nmM (fun s3 e4 => ?_)
  replace h := h s3 e4
  refine TT_aload_n dX2_clear_10 rfl ?_
  refine TT_callVN (M' := m_X2_addLeaf) (as := []) (rest := []) dX2_clear_11 mo_X2_addLeaf ml_X2_65 im_X2_addLeaf se_X2_addLeaf (Nat.le_of_ble_eq_true rfl) (Nat.le_of_ble_eq_true rfl) ⟨rfl, rfl, rfl⟩ rfl rfl (Nat.le_of_ble_eq_true rfl) (by decide) rfl rfl (by decide) h (fun s6 h => ?_)
  exact TT_vret dX2_clear_14 rfl rfl h
theorem e_X2_clear  {σ : Mem} {K : Mem → Prop} (h : (∀ s1 : Mem, s1 = up σ 13 11 0 → (∀ s3 : Mem, s3 = up s1 13 12 0 → CC m_X2_addLeaf [vR 13] s3 (PN (fun s6 => K s6))))) : CC m_X2_clear [vR 13] σ (PN K) := CC_of (by decide) rfl rfl rfl (Nat.le_of_ble_eq_true rfl) (w_X2_clear_0  h)
set_option maxRecDepth 4000 in
theorem w_X2_addLeaf_0  {σ : Mem} {K : Mem → Prop} (h : (0 ≤ (σ 13 12) ∧ (σ 13 12) < 230) ∧ (∀ s2 : Mem, s2 = up σ 18 (σ 13 12).toNat 0 → (0 ≤ (s2 13 12) ∧ (s2 13 12) < 230) ∧ (∀ s5 : Mem, s5 = up s2 20 (s2 13 12).toNat 0 → (∀ s7 : Mem, s7 = up s5 13 12 ((s5 13 12) + 1) → K s7)))) : TT m_X2_addLeaf 0 [vR 13] [] σ (PN K) := by
  refine TT_aload_n dX2_addLeaf_0 rfl ?_
  refine TT_getR (r := 18) dX2_addLeaf_1 fd_X2_23 (by decide) rfl (by decide) rfl rfl ?_
  refine TT_aload_n dX2_addLeaf_4 rfl ?_
  refine TT_getI dX2_addLeaf_5 fd_X2_56 (by decide) (Or.inl rfl) (by decide) rfl ?_
  refine TT_iconst dX2_addLeaf_8 ?_
  obtain ⟨o1, h⟩ := h
  refine TT_iast dX2_addLeaf_9 (by decide) rfl (by decide) o1 ?_
  refine TT_nmM (fun s2 e3 => ?_)
  replace h := h s2 e3
  refine TT_aload_n dX2_addLeaf_10 rfl ?_
  refine TT_getR (r := 20) dX2_addLeaf_11 fd_X2_30 (by decide) rfl (by decide) rfl rfl ?_
  refine TT_aload_n dX2_addLeaf_14 rfl ?_
  refine TT_getI dX2_addLeaf_15 fd_X2_56 (by decide) (Or.inl rfl) (by decide) rfl ?_
  refine TT_iconst dX2_addLeaf_18 ?_
  obtain ⟨o4, h⟩ := h
  refine TT_iast dX2_addLeaf_19 (by decide) rfl (by decide) o4 ?_
  refine TT_nmM (fun s5 e6 => ?_)
  replace h := h s5 e6
  refine TT_aload_n dX2_addLeaf_20 rfl ?_
  refine TT_dup dX2_addLeaf_21 rfl ?_
  refine TT_getI dX2_addLeaf_22 fd_X2_56 (by decide) (Or.inl rfl) (by decide) rfl ?_
  refine TT_iconst dX2_addLeaf_25 ?_
  refine TT_iadd dX2_addLeaf_26 ?_
  refine TT_putI dX2_addLeaf_27 fd_X2_56 (by decide) rfl (by decide) rfl ?_
  refine TT_nmM (fun s7 e8 => ?_)
  replace h := h s7 e8
  exact TT_vret dX2_addLeaf_30 rfl rfl h
theorem e_X2_addLeaf  {σ : Mem} {K : Mem → Prop} (h : (0 ≤ (σ 13 12) ∧ (σ 13 12) < 230) ∧ (∀ s2 : Mem, s2 = up σ 18 (σ 13 12).toNat 0 → (0 ≤ (s2 13 12) ∧ (s2 13 12) < 230) ∧ (∀ s5 : Mem, s5 = up s2 20 (s2 13 12).toNat 0 → (∀ s7 : Mem, s7 = up s5 13 12 ((s5 13 12) + 1) → K s7)))) : CC m_X2_addLeaf [vR 13] σ (PN K) := CC_of (by decide) rfl rfl rfl (Nat.le_of_ble_eq_true rfl) (w_X2_addLeaf_0  h)
set_option maxRecDepth 4000 in
theorem w_X2_takeLeg_0 (r1 : Nat) (hr1 : isT r1) (x2 : Int) {σ : Mem} {K : Int → Mem → Prop} (h : R32 (σ 13 11) ∧ (((σ 13 11) < 230 → (∀ s3 : Mem, s3 = up σ 13 11 ((σ 13 11) + 1) → CC m_X2_setLegAxis [vR 13, vI (σ 13 11), vI 0, vR (r1 + 2), vI x2] s3 (PN (fun s6 => CC m_X2_setLegAxis [vR 13, vI (σ 13 11), vI 1, vR (r1 + 3), vI x2] s6 (PN (fun s8 => CC m_X2_setLegAxis [vR 13, vI (σ 13 11), vI 2, vR (r1 + 1), vI x2] s8 (PN (fun s10 => TT m_X2_takeLeg 66 [vR 13, vU, vU, vI (σ 13 11), vI 0, vI 0] [] s10 (PI K))))))))) ∧ (¬ (σ 13 11) < 230 → K 0 σ))) : TT m_X2_takeLeg 0 [vR 13, vR r1, vI x2, vU, vU, vU] [] σ (PI K) := by
  refine TT_aload_n dX2_takeLeg_0 rfl ?_
  refine TT_getI dX2_takeLeg_1 fd_X2_52 (by decide) (Or.inl rfl) (by decide) rfl ?_
  refine TT_sipush dX2_takeLeg_4 (by decide) ?_
  obtain ⟨o1, h⟩ := h
  refine TT_icmp_lt (tgt := 12) dX2_takeLeg_7 rfl o1 (by decide) (fun c2 => ?_) (fun c2 => ?_)
  · replace h := h.1 c2
    refine TT_aload_n dX2_takeLeg_12 rfl ?_
    refine TT_getI dX2_takeLeg_13 fd_X2_52 (by decide) (Or.inl rfl) (by decide) rfl ?_
    refine TT_istore_n dX2_takeLeg_16 (Nat.le_of_ble_eq_true rfl) rfl rfl ?_
    refine TT_aload_n dX2_takeLeg_17 rfl ?_
    refine TT_dup dX2_takeLeg_18 rfl ?_
    refine TT_getI dX2_takeLeg_19 fd_X2_52 (by decide) (Or.inl rfl) (by decide) rfl ?_
    refine TT_iconst dX2_takeLeg_22 ?_
    refine TT_iadd dX2_takeLeg_23 ?_
    refine TT_putI dX2_takeLeg_24 fd_X2_52 (by decide) rfl (by decide) rfl ?_
    refine TT_nmM (fun s3 e4 => ?_)
    replace h := h s3 e4
    refine TT_aload_n dX2_takeLeg_27 rfl ?_
    refine TT_iload_n dX2_takeLeg_28 rfl ?_
    refine TT_iconst dX2_takeLeg_29 ?_
    refine TT_aload_n dX2_takeLeg_30 rfl ?_
    refine TT_getR (r := (r1 + 2)) dX2_takeLeg_31 fd_X2_68 (by decide) rfl (ltT hr1) (shT hr1) (rsT1 hr1) ?_
    refine TT_iload_n dX2_takeLeg_34 rfl ?_
    refine TT_callVN (M' := m_X2_setLegAxis) (as := [vI (σ 13 11), vI 0, vR (r1 + 2), vI x2]) (rest := []) dX2_takeLeg_35 mo_X2_setLegAxis ml_X2_73 im_X2_setLegAxis se_X2_setLegAxis (Nat.le_of_ble_eq_true rfl) (Nat.le_of_ble_eq_true rfl) ⟨rfl, rfl, rfl⟩ rfl rfl (Nat.le_of_ble_eq_true rfl) (by decide) rfl rfl (by decide) h (fun s6 h => ?_)
    refine TT_aload_n dX2_takeLeg_38 rfl ?_
    refine TT_iload_n dX2_takeLeg_39 rfl ?_
    refine TT_iconst dX2_takeLeg_40 ?_
    refine TT_aload_n dX2_takeLeg_41 rfl ?_
    refine TT_getR (r := (r1 + 3)) dX2_takeLeg_42 fd_X2_77 (by decide) rfl (ltT hr1) (shT hr1) (rsT2 hr1) ?_
    refine TT_iload_n dX2_takeLeg_45 rfl ?_
    refine TT_callVN (M' := m_X2_setLegAxis) (as := [vI (σ 13 11), vI 1, vR (r1 + 3), vI x2]) (rest := []) dX2_takeLeg_46 mo_X2_setLegAxis ml_X2_73 im_X2_setLegAxis se_X2_setLegAxis (Nat.le_of_ble_eq_true rfl) (Nat.le_of_ble_eq_true rfl) ⟨rfl, rfl, rfl⟩ rfl rfl (Nat.le_of_ble_eq_true rfl) (by decide) rfl rfl (by decide) h (fun s8 h => ?_)
    refine TT_aload_n dX2_takeLeg_49 rfl ?_
    refine TT_iload_n dX2_takeLeg_50 rfl ?_
    refine TT_iconst dX2_takeLeg_51 ?_
    refine TT_aload_n dX2_takeLeg_52 rfl ?_
    refine TT_getR (r := (r1 + 1)) dX2_takeLeg_53 fd_X2_80 (by decide) rfl (ltT hr1) (shT hr1) (rsT0 hr1) ?_
    refine TT_iload_n dX2_takeLeg_56 rfl ?_
    refine TT_callVN (M' := m_X2_setLegAxis) (as := [vI (σ 13 11), vI 2, vR (r1 + 1), vI x2]) (rest := []) dX2_takeLeg_57 mo_X2_setLegAxis ml_X2_73 im_X2_setLegAxis se_X2_setLegAxis (Nat.le_of_ble_eq_true rfl) (Nat.le_of_ble_eq_true rfl) ⟨rfl, rfl, rfl⟩ rfl rfl (Nat.le_of_ble_eq_true rfl) (by decide) rfl rfl (by decide) h (fun s10 h => ?_)
    refine TT_iconst dX2_takeLeg_60 ?_
    refine TT_istore dX2_takeLeg_61 (Nat.le_of_ble_eq_true rfl) rfl rfl ?_
    refine TT_iconst dX2_takeLeg_63 ?_
    refine TT_istore dX2_takeLeg_64 (Nat.le_of_ble_eq_true rfl) rfl rfl ?_
    refine TT_kill 1 rfl ?_
    refine TT_kill 2 rfl ?_
    exact h
  · replace h := h.2 c2
    refine TT_iconst dX2_takeLeg_10 ?_
    exact TT_iret dX2_takeLeg_11 rfl rfl h
theorem e_X2_takeLeg (r1 : Nat) (hr1 : isT r1) (x2 : Int) {σ : Mem} {K : Int → Mem → Prop} (h : R32 (σ 13 11) ∧ (((σ 13 11) < 230 → (∀ s3 : Mem, s3 = up σ 13 11 ((σ 13 11) + 1) → CC m_X2_setLegAxis [vR 13, vI (σ 13 11), vI 0, vR (r1 + 2), vI x2] s3 (PN (fun s6 => CC m_X2_setLegAxis [vR 13, vI (σ 13 11), vI 1, vR (r1 + 3), vI x2] s6 (PN (fun s8 => CC m_X2_setLegAxis [vR 13, vI (σ 13 11), vI 2, vR (r1 + 1), vI x2] s8 (PN (fun s10 => TT m_X2_takeLeg 66 [vR 13, vU, vU, vI (σ 13 11), vI 0, vI 0] [] s10 (PI K))))))))) ∧ (¬ (σ 13 11) < 230 → K 0 σ))) : CC m_X2_takeLeg [vR 13, vR r1, vI x2] σ (PI K) := CC_of (by decide) rfl rfl rfl (Nat.le_of_ble_eq_true rfl) (w_X2_takeLeg_0 r1 hr1 x2 h)
set_option maxRecDepth 4000 in
theorem w_X2_takeLeg_66 (x3 : Int) (x4 : Int) (x5 : Int) {σ : Mem} {K : Int → Mem → Prop} (h : R32 x5 ∧ ((230 ≤ x5 → TT m_X2_takeLeg 113 [vR 13, vU, vU, vI x3, vI x4, vU] [] σ (PI K)) ∧ (¬ 230 ≤ x5 → (0 ≤ x4 ∧ x4 < 230) ∧ R32 (σ 18 (x4).toNat) ∧ (((σ 18 (x4).toNat) = 0 → TT m_X2_takeLeg 113 [vR 13, vU, vU, vI x3, vI x4, vU] [] σ (PI K)) ∧ (¬ (σ 18 (x4).toNat) = 0 → CC m_X0_widen [vR 16, vI x4, vR 14, vI x3] σ (PN (fun s17 => CC m_X2_partFor [vR 13, vI x4, vI x3] s17 (PI (fun y18 s19 => TT m_X2_takeLeg 66 [vR 13, vU, vU, vI x3, vI y18, vI (x5 + 1)] [] s19 (PI K)))))))))) : TT m_X2_takeLeg 66 [vR 13, vU, vU, vI x3, vI x4, vI x5] [] σ (PI K) := by
  refine TT_iload dX2_takeLeg_66 rfl ?_
  refine TT_sipush dX2_takeLeg_68 (by decide) ?_
  obtain ⟨o11, h⟩ := h
  refine TT_icmp_ge (tgt := 113) dX2_takeLeg_71 rfl o11 (by decide) (fun c12 => ?_) (fun c12 => ?_)
  · replace h := h.1 c12
    refine TT_kill 5 rfl ?_
    exact h
  · replace h := h.2 c12
    refine TT_aload_n dX2_takeLeg_74 rfl ?_
    refine TT_getR (r := 18) dX2_takeLeg_75 fd_X2_23 (by decide) rfl (by decide) rfl rfl ?_
    refine TT_iload dX2_takeLeg_78 rfl ?_
    obtain ⟨o13, h⟩ := h
    refine TT_iald dX2_takeLeg_80 (by decide) rfl (by decide) o13 ?_
    obtain ⟨o14, h⟩ := h
    refine TT_if_eq (tgt := 113) dX2_takeLeg_81 rfl o14 (fun c15 => ?_) (fun c15 => ?_)
    · replace h := h.1 c15
      refine TT_kill 5 rfl ?_
      exact h
    · replace h := h.2 c15
      refine TT_aload_n dX2_takeLeg_84 rfl ?_
      refine TT_getR (r := 16) dX2_takeLeg_85 fd_X2_20 (by decide) rfl (by decide) rfl rfl ?_
      refine TT_iload dX2_takeLeg_88 rfl ?_
      refine TT_aload_n dX2_takeLeg_90 rfl ?_
      refine TT_getR (r := 14) dX2_takeLeg_91 fd_X2_16 (by decide) rfl (by decide) rfl rfl ?_
      refine TT_iload_n dX2_takeLeg_94 rfl ?_
      refine TT_callVN (M' := m_X0_widen) (as := [vI x4, vR 14, vI x3]) (rest := []) dX2_takeLeg_95 mo_X0_widen ml_X2_83 im_X0_widen se_X0_widen (Nat.le_of_ble_eq_true rfl) (Nat.le_of_ble_eq_true rfl) ⟨rfl, rfl, rfl⟩ rfl rfl (Nat.le_of_ble_eq_true rfl) (by decide) rfl rfl (by decide) h (fun s17 h => ?_)
      refine TT_aload_n dX2_takeLeg_98 rfl ?_
      refine TT_iload dX2_takeLeg_99 rfl ?_
      refine TT_iload_n dX2_takeLeg_101 rfl ?_
      refine TT_callVI (M' := m_X2_partFor) (as := [vI x4, vI x3]) (rest := []) dX2_takeLeg_102 mo_X2_partFor ml_X2_87 im_X2_partFor se_X2_partFor (Nat.le_of_ble_eq_true rfl) (Nat.le_of_ble_eq_true rfl) ⟨rfl, rfl, rfl⟩ rfl rfl (Nat.le_of_ble_eq_true rfl) (by decide) rfl rfl (by decide) h (fun y18 s19 h => ?_)
      refine TT_istore dX2_takeLeg_105 (Nat.le_of_ble_eq_true rfl) rfl rfl ?_
      refine TT_iinc dX2_takeLeg_107 (Nat.le_of_ble_eq_true rfl) rfl rfl rfl ?_
      refine TT_goto (tgt := 66) dX2_takeLeg_110 rfl ?_
      exact h
set_option maxRecDepth 4000 in
theorem w_X2_takeLeg_113 (x3 : Int) (x4 : Int) {σ : Mem} {K : Int → Mem → Prop} (h : CC m_X2_hold [vR 13, vI x4, vI x3] σ (PN (fun s21 => K x4 s21))) : TT m_X2_takeLeg 113 [vR 13, vU, vU, vI x3, vI x4, vU] [] σ (PI K) := by
  refine TT_aload_n dX2_takeLeg_113 rfl ?_
  refine TT_iload dX2_takeLeg_114 rfl ?_
  refine TT_iload_n dX2_takeLeg_116 rfl ?_
  refine TT_callVN (M' := m_X2_hold) (as := [vI x4, vI x3]) (rest := []) dX2_takeLeg_117 mo_X2_hold ml_X2_91 im_X2_hold se_X2_hold (Nat.le_of_ble_eq_true rfl) (Nat.le_of_ble_eq_true rfl) ⟨rfl, rfl, rfl⟩ rfl rfl (Nat.le_of_ble_eq_true rfl) (by decide) rfl rfl (by decide) h (fun s21 h => ?_)
  refine TT_iload dX2_takeLeg_120 rfl ?_
  exact TT_iret dX2_takeLeg_122 rfl rfl h
set_option maxRecDepth 4000 in
theorem w_X2_setLegAxis_0 (x1 : Int) (x2 : Int) (r3 : Nat) (hr3 : r3 < N0 ∧ SH r3 = (20, 24)) (x4 : Int) {σ : Mem} {K : Mem → Prop} (h : (0 ≤ x4 ∧ x4 < 24) ∧ (0 ≤ (x4 + 1) ∧ (x4 + 1) < 24) ∧ R32 (σ r3 (x4).toNat) ∧ R32 (σ r3 (x4 + 1).toNat) ∧ CC m_X0_setAxis [vR 14, vI x1, vI x2, vI (min (σ r3 (x4).toNat) (σ r3 (x4 + 1).toNat)), vI (max (σ r3 (x4).toNat) (σ r3 (x4 + 1).toNat))] σ (PN (fun s6 => K s6))) : TT m_X2_setLegAxis 0 [vR 13, vI x1, vI x2, vR r3, vI x4, vU, vU] [] σ (PN K) := by
  refine TT_aload_n dX2_setLegAxis_0 rfl ?_
  refine TT_iload dX2_setLegAxis_1 rfl ?_
  obtain ⟨o1, h⟩ := h
  refine TT_iald dX2_setLegAxis_3 hr3.1 hr3.2 (by decide) o1 ?_
  refine TT_istore dX2_setLegAxis_4 (Nat.le_of_ble_eq_true rfl) rfl rfl ?_
  refine TT_aload_n dX2_setLegAxis_6 rfl ?_
  refine TT_iload dX2_setLegAxis_7 rfl ?_
  refine TT_iconst dX2_setLegAxis_9 ?_
  refine TT_iadd dX2_setLegAxis_10 ?_
  obtain ⟨o2, h⟩ := h
  refine TT_iald dX2_setLegAxis_11 hr3.1 hr3.2 (by decide) o2 ?_
  refine TT_istore dX2_setLegAxis_12 (Nat.le_of_ble_eq_true rfl) rfl rfl ?_
  refine TT_aload_n dX2_setLegAxis_14 rfl ?_
  refine TT_getR (r := 14) dX2_setLegAxis_15 fd_X2_16 (by decide) rfl (by decide) rfl rfl ?_
  refine TT_iload_n dX2_setLegAxis_18 rfl ?_
  refine TT_iload_n dX2_setLegAxis_19 rfl ?_
  refine TT_iload dX2_setLegAxis_20 rfl ?_
  refine TT_iload dX2_setLegAxis_22 rfl ?_
  obtain ⟨o3, h⟩ := h
  obtain ⟨o4, h⟩ := h
  refine TT_min dX2_setLegAxis_24 ml_X2_95 (Nat.le_of_ble_eq_true rfl) (Nat.le_of_ble_eq_true rfl) ⟨o3, o4⟩ ?_
  refine TT_iload dX2_setLegAxis_27 rfl ?_
  refine TT_iload dX2_setLegAxis_29 rfl ?_
  refine TT_max dX2_setLegAxis_31 ml_X2_100 (Nat.le_of_ble_eq_true rfl) (Nat.le_of_ble_eq_true rfl) ⟨o3, o4⟩ ?_
  refine TT_callVN (M' := m_X0_setAxis) (as := [vI x1, vI x2, vI (min (σ r3 (x4).toNat) (σ r3 (x4 + 1).toNat)), vI (max (σ r3 (x4).toNat) (σ r3 (x4 + 1).toNat))]) (rest := []) dX2_setLegAxis_34 mo_X0_setAxis ml_X2_103 im_X0_setAxis se_X0_setAxis (Nat.le_of_ble_eq_true rfl) (Nat.le_of_ble_eq_true rfl) ⟨rfl, rfl, rfl⟩ rfl rfl (Nat.le_of_ble_eq_true rfl) (by decide) rfl rfl (by decide) h (fun s6 h => ?_)
  exact TT_vret dX2_setLegAxis_37 rfl rfl h
theorem e_X2_setLegAxis (x1 : Int) (x2 : Int) (r3 : Nat) (hr3 : r3 < N0 ∧ SH r3 = (20, 24)) (x4 : Int) {σ : Mem} {K : Mem → Prop} (h : (0 ≤ x4 ∧ x4 < 24) ∧ (0 ≤ (x4 + 1) ∧ (x4 + 1) < 24) ∧ R32 (σ r3 (x4).toNat) ∧ R32 (σ r3 (x4 + 1).toNat) ∧ CC m_X0_setAxis [vR 14, vI x1, vI x2, vI (min (σ r3 (x4).toNat) (σ r3 (x4 + 1).toNat)), vI (max (σ r3 (x4).toNat) (σ r3 (x4 + 1).toNat))] σ (PN (fun s6 => K s6))) : CC m_X2_setLegAxis [vR 13, vI x1, vI x2, vR r3, vI x4] σ (PN K) := CC_of (by decide) rfl rfl rfl (Nat.le_of_ble_eq_true rfl) (w_X2_setLegAxis_0 x1 x2 r3 hr3 x4 h)
set_option maxRecDepth 4000 in
theorem w_X2_partFor_0 (x1 : Int) (x2 : Int) {σ : Mem} {K : Int → Mem → Prop} (h : (0 ≤ x1 ∧ x1 < 230) ∧ CC m_X0_growth [vR 16, vI (σ 18 (x1).toNat), vR 14, vI x2] σ (PI (fun y2 s3 => CC m_X0_growth [vR 16, vI ((σ 18 (x1).toNat) + 1), vR 14, vI x2] s3 (PI (fun y4 s5 => R32 y4 ∧ R32 y2 ∧ K (if y2 ≤ y4 then (σ 18 (x1).toNat) else ((σ 18 (x1).toNat) + 1) : Int) s5))))) : TT m_X2_partFor 0 [vR 13, vI x1, vI x2, vU, vU, vU] [] σ (PI K) := by
  refine TT_aload_n dX2_partFor_0 rfl ?_
  refine TT_getR (r := 18) dX2_partFor_1 fd_X2_23 (by decide) rfl (by decide) rfl rfl ?_
  refine TT_iload_n dX2_partFor_4 rfl ?_
  obtain ⟨o1, h⟩ := h
  refine TT_iald dX2_partFor_5 (by decide) rfl (by decide) o1 ?_
  refine TT_istore_n dX2_partFor_6 (Nat.le_of_ble_eq_true rfl) rfl rfl ?_
  refine TT_aload_n dX2_partFor_7 rfl ?_
  refine TT_getR (r := 16) dX2_partFor_8 fd_X2_20 (by decide) rfl (by decide) rfl rfl ?_
  refine TT_iload_n dX2_partFor_11 rfl ?_
  refine TT_aload_n dX2_partFor_12 rfl ?_
  refine TT_getR (r := 14) dX2_partFor_13 fd_X2_16 (by decide) rfl (by decide) rfl rfl ?_
  refine TT_iload_n dX2_partFor_16 rfl ?_
  refine TT_callVI (M' := m_X0_growth) (as := [vI (σ 18 (x1).toNat), vR 14, vI x2]) (rest := []) dX2_partFor_17 mo_X0_growth ml_X2_107 im_X0_growth se_X0_growth (Nat.le_of_ble_eq_true rfl) (Nat.le_of_ble_eq_true rfl) ⟨rfl, rfl, rfl⟩ rfl rfl (Nat.le_of_ble_eq_true rfl) (by decide) rfl rfl (by decide) h (fun y2 s3 h => ?_)
  refine TT_istore dX2_partFor_20 (Nat.le_of_ble_eq_true rfl) rfl rfl ?_
  refine TT_aload_n dX2_partFor_22 rfl ?_
  refine TT_getR (r := 16) dX2_partFor_23 fd_X2_20 (by decide) rfl (by decide) rfl rfl ?_
  refine TT_iload_n dX2_partFor_26 rfl ?_
  refine TT_iconst dX2_partFor_27 ?_
  refine TT_iadd dX2_partFor_28 ?_
  refine TT_aload_n dX2_partFor_29 rfl ?_
  refine TT_getR (r := 14) dX2_partFor_30 fd_X2_16 (by decide) rfl (by decide) rfl rfl ?_
  refine TT_iload_n dX2_partFor_33 rfl ?_
  refine TT_callVI (M' := m_X0_growth) (as := [vI ((σ 18 (x1).toNat) + 1), vR 14, vI x2]) (rest := []) dX2_partFor_34 mo_X0_growth ml_X2_107 im_X0_growth se_X0_growth (Nat.le_of_ble_eq_true rfl) (Nat.le_of_ble_eq_true rfl) ⟨rfl, rfl, rfl⟩ rfl rfl (Nat.le_of_ble_eq_true rfl) (by decide) rfl rfl (by decide) h (fun y4 s5 h => ?_)
  refine TT_istore dX2_partFor_37 (Nat.le_of_ble_eq_true rfl) rfl rfl ?_
  refine TT_iload dX2_partFor_39 rfl ?_
  refine TT_iload dX2_partFor_41 rfl ?_
  obtain ⟨o6, h⟩ := h
  obtain ⟨o7, h⟩ := h
  have j9 : TT m_X2_partFor 53 [vR 13, vI x1, vI x2, vI (σ 18 (x1).toNat), vI y2, vI y4] [vI (if y2 ≤ y4 then (σ 18 (x1).toNat) else ((σ 18 (x1).toNat) + 1) : Int)] s5 (PI K) := by
    exact TT_iret dX2_partFor_53 rfl rfl h
  refine TT_icmp_ge (tgt := 52) dX2_partFor_43 rfl o6 o7 (fun c8 => ?_) (fun c8 => ?_)
  · refine TT_iload_n dX2_partFor_52 rfl ?_
    exact TT.cast j9 (by first | rfl | (simp only [if_pos c8] <;> rfl)) (by first | rfl | (simp only [if_pos c8] <;> rfl))
  · refine TT_iload_n dX2_partFor_46 rfl ?_
    refine TT_iconst dX2_partFor_47 ?_
    refine TT_iadd dX2_partFor_48 ?_
    refine TT_goto (tgt := 53) dX2_partFor_49 rfl ?_
    exact TT.cast j9 (by first | rfl | (simp only [if_neg c8] <;> rfl)) (by first | rfl | (simp only [if_neg c8] <;> rfl))
theorem e_X2_partFor (x1 : Int) (x2 : Int) {σ : Mem} {K : Int → Mem → Prop} (h : (0 ≤ x1 ∧ x1 < 230) ∧ CC m_X0_growth [vR 16, vI (σ 18 (x1).toNat), vR 14, vI x2] σ (PI (fun y2 s3 => CC m_X0_growth [vR 16, vI ((σ 18 (x1).toNat) + 1), vR 14, vI x2] s3 (PI (fun y4 s5 => R32 y4 ∧ R32 y2 ∧ K (if y2 ≤ y4 then (σ 18 (x1).toNat) else ((σ 18 (x1).toNat) + 1) : Int) s5))))) : CC m_X2_partFor [vR 13, vI x1, vI x2] σ (PI K) := CC_of (by decide) rfl rfl rfl (Nat.le_of_ble_eq_true rfl) (w_X2_partFor_0 x1 x2 h)
set_option maxRecDepth 4000 in
theorem w_X2_hold_0 (x1 : Int) (x2 : Int) {σ : Mem} {K : Mem → Prop} (h : (0 ≤ x1 ∧ x1 < 230) ∧ R32 (σ 20 (x1).toNat) ∧ (((σ 20 (x1).toNat) < 5 → ((¬ (σ 20 (x1).toNat) = 0 → CC m_X0_widen [vR 16, vI x1, vR 14, vI x2] σ (PN (fun s6 => TT m_X2_hold 49 [vR 13, vI x1, vI x2] [] s6 (PN K)))) ∧ ((σ 20 (x1).toNat) = 0 → CC m_X0_copyFrom [vR 16, vI x1, vR 14, vI x2] σ (PN (fun s8 => TT m_X2_hold 49 [vR 13, vI x1, vI x2] [] s8 (PN K)))))) ∧ (¬ (σ 20 (x1).toNat) < 5 → K σ))) : TT m_X2_hold 0 [vR 13, vI x1, vI x2] [] σ (PN K) := by
  refine TT_aload_n dX2_hold_0 rfl ?_
  refine TT_getR (r := 20) dX2_hold_1 fd_X2_30 (by decide) rfl (by decide) rfl rfl ?_
  refine TT_iload_n dX2_hold_4 rfl ?_
  obtain ⟨o1, h⟩ := h
  refine TT_iald dX2_hold_5 (by decide) rfl (by decide) o1 ?_
  refine TT_iconst dX2_hold_6 ?_
  obtain ⟨o2, h⟩ := h
  refine TT_icmp_lt (tgt := 11) dX2_hold_7 rfl o2 (by decide) (fun c3 => ?_) (fun c3 => ?_)
  · replace h := h.1 c3
    refine TT_aload_n dX2_hold_11 rfl ?_
    refine TT_getR (r := 20) dX2_hold_12 fd_X2_30 (by decide) rfl (by decide) rfl rfl ?_
    refine TT_iload_n dX2_hold_15 rfl ?_
    refine TT_iald dX2_hold_16 (by decide) rfl (by decide) o1 ?_
    refine TT_if_ne (tgt := 36) dX2_hold_17 rfl o2 (fun c4 => ?_) (fun c4 => ?_)
    · replace h := h.1 c4
      refine TT_aload_n dX2_hold_36 rfl ?_
      refine TT_getR (r := 16) dX2_hold_37 fd_X2_20 (by decide) rfl (by decide) rfl rfl ?_
      refine TT_iload_n dX2_hold_40 rfl ?_
      refine TT_aload_n dX2_hold_41 rfl ?_
      refine TT_getR (r := 14) dX2_hold_42 fd_X2_16 (by decide) rfl (by decide) rfl rfl ?_
      refine TT_iload_n dX2_hold_45 rfl ?_
      refine TT_callVN (M' := m_X0_widen) (as := [vI x1, vR 14, vI x2]) (rest := []) dX2_hold_46 mo_X0_widen ml_X2_83 im_X0_widen se_X0_widen (Nat.le_of_ble_eq_true rfl) (Nat.le_of_ble_eq_true rfl) ⟨rfl, rfl, rfl⟩ rfl rfl (Nat.le_of_ble_eq_true rfl) (by decide) rfl rfl (by decide) h (fun s6 h => ?_)
      exact h
    · replace h := h.2 c4
      refine TT_aload_n dX2_hold_20 rfl ?_
      refine TT_getR (r := 16) dX2_hold_21 fd_X2_20 (by decide) rfl (by decide) rfl rfl ?_
      refine TT_iload_n dX2_hold_24 rfl ?_
      refine TT_aload_n dX2_hold_25 rfl ?_
      refine TT_getR (r := 14) dX2_hold_26 fd_X2_16 (by decide) rfl (by decide) rfl rfl ?_
      refine TT_iload_n dX2_hold_29 rfl ?_
      refine TT_callVN (M' := m_X0_copyFrom) (as := [vI x1, vR 14, vI x2]) (rest := []) dX2_hold_30 mo_X0_copyFrom ml_X2_111 im_X0_copyFrom se_X0_copyFrom (Nat.le_of_ble_eq_true rfl) (Nat.le_of_ble_eq_true rfl) ⟨rfl, rfl, rfl⟩ rfl rfl (Nat.le_of_ble_eq_true rfl) (by decide) rfl rfl (by decide) h (fun s8 h => ?_)
      refine TT_goto (tgt := 49) dX2_hold_33 rfl ?_
      exact h
  · replace h := h.2 c3
    exact TT_vret dX2_hold_10 rfl rfl h
theorem e_X2_hold (x1 : Int) (x2 : Int) {σ : Mem} {K : Mem → Prop} (h : (0 ≤ x1 ∧ x1 < 230) ∧ R32 (σ 20 (x1).toNat) ∧ (((σ 20 (x1).toNat) < 5 → ((¬ (σ 20 (x1).toNat) = 0 → CC m_X0_widen [vR 16, vI x1, vR 14, vI x2] σ (PN (fun s6 => TT m_X2_hold 49 [vR 13, vI x1, vI x2] [] s6 (PN K)))) ∧ ((σ 20 (x1).toNat) = 0 → CC m_X0_copyFrom [vR 16, vI x1, vR 14, vI x2] σ (PN (fun s8 => TT m_X2_hold 49 [vR 13, vI x1, vI x2] [] s8 (PN K)))))) ∧ (¬ (σ 20 (x1).toNat) < 5 → K σ))) : CC m_X2_hold [vR 13, vI x1, vI x2] σ (PN K) := CC_of (by decide) rfl rfl rfl (Nat.le_of_ble_eq_true rfl) (w_X2_hold_0 x1 x2 h)
set_option maxRecDepth 4000 in
theorem w_X2_hold_49 (x1 : Int) (x2 : Int) {σ : Mem} {K : Mem → Prop} (h : (0 ≤ x1 ∧ x1 < 230) ∧ (0 ≤ ((x1 * 5) + (σ 20 (x1).toNat)) ∧ ((x1 * 5) + (σ 20 (x1).toNat)) < 1150) ∧ (∀ s11 : Mem, s11 = up σ 19 ((x1 * 5) + (σ 20 (x1).toNat)).toNat x2 → (∀ s13 : Mem, s13 = up s11 20 (x1).toNat ((s11 20 (x1).toNat) + 1) → K s13))) : TT m_X2_hold 49 [vR 13, vI x1, vI x2] [] σ (PN K) := by
  refine TT_aload_n dX2_hold_49 rfl ?_
  refine TT_getR (r := 19) dX2_hold_50 fd_X2_27 (by decide) rfl (by decide) rfl rfl ?_
  refine TT_iload_n dX2_hold_53 rfl ?_
  refine TT_iconst dX2_hold_54 ?_
  refine TT_imul dX2_hold_55 ?_
  refine TT_aload_n dX2_hold_56 rfl ?_
  refine TT_getR (r := 20) dX2_hold_57 fd_X2_30 (by decide) rfl (by decide) rfl rfl ?_
  refine TT_iload_n dX2_hold_60 rfl ?_
  obtain ⟨o9, h⟩ := h
  refine TT_iald dX2_hold_61 (by decide) rfl (by decide) o9 ?_
  refine TT_iadd dX2_hold_62 ?_
  refine TT_iload_n dX2_hold_63 rfl ?_
  obtain ⟨o10, h⟩ := h
  refine TT_iast dX2_hold_64 (by decide) rfl (by decide) o10 ?_
  refine TT_nmM (fun s11 e12 => ?_)
  replace h := h s11 e12
  refine TT_aload_n dX2_hold_65 rfl ?_
  refine TT_getR (r := 20) dX2_hold_66 fd_X2_30 (by decide) rfl (by decide) rfl rfl ?_
  refine TT_iload_n dX2_hold_69 rfl ?_
  refine TT_dup2 dX2_hold_70 rfl rfl ?_
  refine TT_iald dX2_hold_71 (by decide) rfl (by decide) o9 ?_
  refine TT_iconst dX2_hold_72 ?_
  refine TT_iadd dX2_hold_73 ?_
  refine TT_iast dX2_hold_74 (by decide) rfl (by decide) o9 ?_
  refine TT_nmM (fun s13 e14 => ?_)
  replace h := h s13 e14
  exact TT_vret dX2_hold_75 rfl rfl h
set_option maxRecDepth 4000 in
theorem w_X2_cutIfOverfull_0 (x1 : Int) {σ : Mem} {K : Mem → Prop} (h : (0 ≤ x1 ∧ x1 < 230) ∧ R32 (σ 18 (x1).toNat) ∧ ((¬ (σ 18 (x1).toNat) = 0 → K σ) ∧ ((σ 18 (x1).toNat) = 0 → R32 (σ 20 (x1).toNat) ∧ (((σ 20 (x1).toNat) ≤ 4 → K σ) ∧ (¬ (σ 20 (x1).toNat) ≤ 4 → R32 ((σ 13 12) + 2) ∧ ((((σ 13 12) + 2) ≤ 230 → CC m_X2_chooseCut [vR 13, vI x1] σ (PI (fun y8 s9 => (∀ s10 : Mem, s10 = up s9 18 (x1).toNat (s9 13 12) → CC m_X2_addLeaf [vR 13] s10 (PN (fun s13 => CC m_X2_addLeaf [vR 13] s13 (PN (fun s15 => TT m_X2_cutIfOverfull 58 [vR 13, vU, vI y8, vI 0] [] s15 (PN K))))))))) ∧ (¬ ((σ 13 12) + 2) ≤ 230 → K σ))))))) : TT m_X2_cutIfOverfull 0 [vR 13, vI x1, vU, vU] [] σ (PN K) := by
  refine TT_aload_n dX2_cutIfOverfull_0 rfl ?_
  refine TT_getR (r := 18) dX2_cutIfOverfull_1 fd_X2_23 (by decide) rfl (by decide) rfl rfl ?_
  refine TT_iload_n dX2_cutIfOverfull_4 rfl ?_
  obtain ⟨o1, h⟩ := h
  refine TT_iald dX2_cutIfOverfull_5 (by decide) rfl (by decide) o1 ?_
  obtain ⟨o2, h⟩ := h
  refine TT_if_ne (tgt := 31) dX2_cutIfOverfull_6 rfl o2 (fun c3 => ?_) (fun c3 => ?_)
  · replace h := h.1 c3
    exact TT_vret dX2_cutIfOverfull_31 rfl rfl h
  · replace h := h.2 c3
    refine TT_aload_n dX2_cutIfOverfull_9 rfl ?_
    refine TT_getR (r := 20) dX2_cutIfOverfull_10 fd_X2_30 (by decide) rfl (by decide) rfl rfl ?_
    refine TT_iload_n dX2_cutIfOverfull_13 rfl ?_
    refine TT_iald dX2_cutIfOverfull_14 (by decide) rfl (by decide) o1 ?_
    refine TT_iconst dX2_cutIfOverfull_15 ?_
    obtain ⟨o4, h⟩ := h
    refine TT_icmp_le (tgt := 31) dX2_cutIfOverfull_16 rfl o4 (by decide) (fun c5 => ?_) (fun c5 => ?_)
    · replace h := h.1 c5
      exact TT_vret dX2_cutIfOverfull_31 rfl rfl h
    · replace h := h.2 c5
      refine TT_aload_n dX2_cutIfOverfull_19 rfl ?_
      refine TT_getI dX2_cutIfOverfull_20 fd_X2_56 (by decide) (Or.inl rfl) (by decide) rfl ?_
      refine TT_iconst dX2_cutIfOverfull_23 ?_
      refine TT_iadd dX2_cutIfOverfull_24 ?_
      refine TT_sipush dX2_cutIfOverfull_25 (by decide) ?_
      obtain ⟨o6, h⟩ := h
      refine TT_icmp_le (tgt := 32) dX2_cutIfOverfull_28 rfl o6 (by decide) (fun c7 => ?_) (fun c7 => ?_)
      · replace h := h.1 c7
        refine TT_aload_n dX2_cutIfOverfull_32 rfl ?_
        refine TT_iload_n dX2_cutIfOverfull_33 rfl ?_
        refine TT_callVI (M' := m_X2_chooseCut) (as := [vI x1]) (rest := []) dX2_cutIfOverfull_34 mo_X2_chooseCut ml_X2_114 im_X2_chooseCut se_X2_chooseCut (Nat.le_of_ble_eq_true rfl) (Nat.le_of_ble_eq_true rfl) ⟨rfl, rfl, rfl⟩ rfl rfl (Nat.le_of_ble_eq_true rfl) (by decide) rfl rfl (by decide) h (fun y8 s9 h => ?_)
        refine TT_istore_n dX2_cutIfOverfull_37 (Nat.le_of_ble_eq_true rfl) rfl rfl ?_
        refine TT_aload_n dX2_cutIfOverfull_38 rfl ?_
        refine TT_getR (r := 18) dX2_cutIfOverfull_39 fd_X2_23 (by decide) rfl (by decide) rfl rfl ?_
        refine TT_iload_n dX2_cutIfOverfull_42 rfl ?_
        refine TT_aload_n dX2_cutIfOverfull_43 rfl ?_
        refine TT_getI dX2_cutIfOverfull_44 fd_X2_56 (by decide) (Or.inl rfl) (by decide) rfl ?_
        refine TT_iast dX2_cutIfOverfull_47 (by decide) rfl (by decide) o1 ?_
        refine TT_nmM (fun s10 e11 => ?_)
        replace h := h s10 e11
        refine TT_aload_n dX2_cutIfOverfull_48 rfl ?_
        refine TT_callVN (M' := m_X2_addLeaf) (as := []) (rest := []) dX2_cutIfOverfull_49 mo_X2_addLeaf ml_X2_65 im_X2_addLeaf se_X2_addLeaf (Nat.le_of_ble_eq_true rfl) (Nat.le_of_ble_eq_true rfl) ⟨rfl, rfl, rfl⟩ rfl rfl (Nat.le_of_ble_eq_true rfl) (by decide) rfl rfl (by decide) h (fun s13 h => ?_)
        refine TT_aload_n dX2_cutIfOverfull_52 rfl ?_
        refine TT_callVN (M' := m_X2_addLeaf) (as := []) (rest := []) dX2_cutIfOverfull_53 mo_X2_addLeaf ml_X2_65 im_X2_addLeaf se_X2_addLeaf (Nat.le_of_ble_eq_true rfl) (Nat.le_of_ble_eq_true rfl) ⟨rfl, rfl, rfl⟩ rfl rfl (Nat.le_of_ble_eq_true rfl) (by decide) rfl rfl (by decide) h (fun s15 h => ?_)
        refine TT_iconst dX2_cutIfOverfull_56 ?_
        refine TT_istore_n dX2_cutIfOverfull_57 (Nat.le_of_ble_eq_true rfl) rfl rfl ?_
        refine TT_kill 1 rfl ?_
        exact h
      · replace h := h.2 c7
        exact TT_vret dX2_cutIfOverfull_31 rfl rfl h
theorem e_X2_cutIfOverfull (x1 : Int) {σ : Mem} {K : Mem → Prop} (h : (0 ≤ x1 ∧ x1 < 230) ∧ R32 (σ 18 (x1).toNat) ∧ ((¬ (σ 18 (x1).toNat) = 0 → K σ) ∧ ((σ 18 (x1).toNat) = 0 → R32 (σ 20 (x1).toNat) ∧ (((σ 20 (x1).toNat) ≤ 4 → K σ) ∧ (¬ (σ 20 (x1).toNat) ≤ 4 → R32 ((σ 13 12) + 2) ∧ ((((σ 13 12) + 2) ≤ 230 → CC m_X2_chooseCut [vR 13, vI x1] σ (PI (fun y8 s9 => (∀ s10 : Mem, s10 = up s9 18 (x1).toNat (s9 13 12) → CC m_X2_addLeaf [vR 13] s10 (PN (fun s13 => CC m_X2_addLeaf [vR 13] s13 (PN (fun s15 => TT m_X2_cutIfOverfull 58 [vR 13, vU, vI y8, vI 0] [] s15 (PN K))))))))) ∧ (¬ ((σ 13 12) + 2) ≤ 230 → K σ))))))) : CC m_X2_cutIfOverfull [vR 13, vI x1] σ (PN K) := CC_of (by decide) rfl rfl rfl (Nat.le_of_ble_eq_true rfl) (w_X2_cutIfOverfull_0 x1 h)
set_option maxRecDepth 4000 in
theorem w_X2_cutIfOverfull_58 (x2 : Int) (x3 : Int) {σ : Mem} {K : Mem → Prop} (h : R32 x3 ∧ ((5 ≤ x3 → K σ) ∧ (¬ 5 ≤ x3 → R32 x2 ∧ (0 ≤ x3 ∧ x3 < 5) ∧ CC m_X2_hold [vR 13, vI (if x2 ≤ x3 then ((σ 13 12) - 1) else ((σ 13 12) - 2) : Int), vI (σ 24 (x3).toNat)] σ (PN (fun s23 => TT m_X2_cutIfOverfull 58 [vR 13, vU, vI x2, vI (x3 + 1)] [] s23 (PN K)))))) : TT m_X2_cutIfOverfull 58 [vR 13, vU, vI x2, vI x3] [] σ (PN K) := by
  refine TT_iload_n dX2_cutIfOverfull_58 rfl ?_
  refine TT_iconst dX2_cutIfOverfull_59 ?_
  obtain ⟨o16, h⟩ := h
  refine TT_icmp_ge (tgt := 99) dX2_cutIfOverfull_60 rfl o16 (by decide) (fun c17 => ?_) (fun c17 => ?_)
  · replace h := h.1 c17
    exact TT_vret dX2_cutIfOverfull_99 rfl rfl h
  · replace h := h.2 c17
    refine TT_aload_n dX2_cutIfOverfull_63 rfl ?_
    refine TT_iload_n dX2_cutIfOverfull_64 rfl ?_
    refine TT_iload_n dX2_cutIfOverfull_65 rfl ?_
    obtain ⟨o18, h⟩ := h
    have j20 : TT m_X2_cutIfOverfull 84 [vR 13, vU, vI x2, vI x3] [vI (if x2 ≤ x3 then ((σ 13 12) - 1) else ((σ 13 12) - 2) : Int), vR 13] σ (PN K) := by
      refine TT_aload_n dX2_cutIfOverfull_84 rfl ?_
      refine TT_getR (r := 24) dX2_cutIfOverfull_85 fd_X2_43 (by decide) rfl (by decide) rfl rfl ?_
      refine TT_iload_n dX2_cutIfOverfull_88 rfl ?_
      obtain ⟨o21, h⟩ := h
      refine TT_iald dX2_cutIfOverfull_89 (by decide) rfl (by decide) o21 ?_
      refine TT_callVN (M' := m_X2_hold) (as := [vI (if x2 ≤ x3 then ((σ 13 12) - 1) else ((σ 13 12) - 2) : Int), vI (σ 24 (x3).toNat)]) (rest := []) dX2_cutIfOverfull_90 mo_X2_hold ml_X2_91 im_X2_hold se_X2_hold (Nat.le_of_ble_eq_true rfl) (Nat.le_of_ble_eq_true rfl) ⟨rfl, rfl, rfl⟩ rfl rfl (Nat.le_of_ble_eq_true rfl) (by decide) rfl rfl (by decide) h (fun s23 h => ?_)
      refine TT_iinc dX2_cutIfOverfull_93 (Nat.le_of_ble_eq_true rfl) rfl rfl rfl ?_
      refine TT_goto (tgt := 58) dX2_cutIfOverfull_96 rfl ?_
      exact h
    refine TT_icmp_ge (tgt := 78) dX2_cutIfOverfull_66 rfl o16 o18 (fun c19 => ?_) (fun c19 => ?_)
    · refine TT_aload_n dX2_cutIfOverfull_78 rfl ?_
      refine TT_getI dX2_cutIfOverfull_79 fd_X2_56 (by decide) (Or.inl rfl) (by decide) rfl ?_
      refine TT_iconst dX2_cutIfOverfull_82 ?_
      refine TT_isub dX2_cutIfOverfull_83 ?_
      exact TT.cast j20 (by first | rfl | (simp only [if_pos c19] <;> rfl)) (by first | rfl | (simp only [if_pos c19] <;> rfl))
    · refine TT_aload_n dX2_cutIfOverfull_69 rfl ?_
      refine TT_getI dX2_cutIfOverfull_70 fd_X2_56 (by decide) (Or.inl rfl) (by decide) rfl ?_
      refine TT_iconst dX2_cutIfOverfull_73 ?_
      refine TT_isub dX2_cutIfOverfull_74 ?_
      refine TT_goto (tgt := 84) dX2_cutIfOverfull_75 rfl ?_
      exact TT.cast j20 (by first | rfl | (simp only [if_neg c19] <;> rfl)) (by first | rfl | (simp only [if_neg c19] <;> rfl))
set_option maxRecDepth 4000 in
theorem w_X2_chooseCut_0 (x1 : Int) {σ : Mem} {K : Int → Mem → Prop} (h : TT m_X2_chooseCut 7 [vR 13, vI x1, vI 0, vI 0, vI 0, vU, vU] [] σ (PI K)) : TT m_X2_chooseCut 0 [vR 13, vI x1, vU, vU, vU, vU, vU] [] σ (PI K) := by
  refine TT_iconst dX2_chooseCut_0 ?_
  refine TT_istore_n dX2_chooseCut_1 (Nat.le_of_ble_eq_true rfl) rfl rfl ?_
  refine TT_iconst dX2_chooseCut_2 ?_
  refine TT_istore_n dX2_chooseCut_3 (Nat.le_of_ble_eq_true rfl) rfl rfl ?_
  refine TT_iconst dX2_chooseCut_4 ?_
  refine TT_istore dX2_chooseCut_5 (Nat.le_of_ble_eq_true rfl) rfl rfl ?_
  exact h
theorem e_X2_chooseCut (x1 : Int) {σ : Mem} {K : Int → Mem → Prop} (h : TT m_X2_chooseCut 7 [vR 13, vI x1, vI 0, vI 0, vI 0, vU, vU] [] σ (PI K)) : CC m_X2_chooseCut [vR 13, vI x1] σ (PI K) := CC_of (by decide) rfl rfl rfl (Nat.le_of_ble_eq_true rfl) (w_X2_chooseCut_0 x1 h)
set_option maxRecDepth 4000 in
theorem w_X2_chooseCut_7 (x1 : Int) (x2 : Int) (x3 : Int) (x4 : Int) {σ : Mem} {K : Int → Mem → Prop} (h : R32 x4 ∧ ((3 ≤ x4 → K x2 σ) ∧ (¬ 3 ≤ x4 → CC m_X2_sortAlong [vR 13, vI x1, vI x4] σ (PN (fun s4 => TT m_X2_chooseCut 23 [vR 13, vI x1, vI x2, vI x3, vI x4, vI 2, vU] [] s4 (PI K)))))) : TT m_X2_chooseCut 7 [vR 13, vI x1, vI x2, vI x3, vI x4, vU, vU] [] σ (PI K) := by
  refine TT_iload dX2_chooseCut_7 rfl ?_
  refine TT_iconst dX2_chooseCut_9 ?_
  obtain ⟨o1, h⟩ := h
  refine TT_icmp_ge (tgt := 88) dX2_chooseCut_10 rfl o1 (by decide) (fun c2 => ?_) (fun c2 => ?_)
  · replace h := h.1 c2
    refine TT_iload_n dX2_chooseCut_88 rfl ?_
    exact TT_iret dX2_chooseCut_89 rfl rfl h
  · replace h := h.2 c2
    refine TT_aload_n dX2_chooseCut_13 rfl ?_
    refine TT_iload_n dX2_chooseCut_14 rfl ?_
    refine TT_iload dX2_chooseCut_15 rfl ?_
    refine TT_callVN (M' := m_X2_sortAlong) (as := [vI x1, vI x4]) (rest := []) dX2_chooseCut_17 mo_X2_sortAlong ml_X2_118 im_X2_sortAlong se_X2_sortAlong (Nat.le_of_ble_eq_true rfl) (Nat.le_of_ble_eq_true rfl) ⟨rfl, rfl, rfl⟩ rfl rfl (Nat.le_of_ble_eq_true rfl) (by decide) rfl rfl (by decide) h (fun s4 h => ?_)
    refine TT_iconst dX2_chooseCut_20 ?_
    refine TT_istore dX2_chooseCut_21 (Nat.le_of_ble_eq_true rfl) rfl rfl ?_
    exact h
set_option maxRecDepth 4000 in
theorem w_X2_chooseCut_23 (x1 : Int) (x2 : Int) (x3 : Int) (x4 : Int) (x5 : Int) {σ : Mem} {K : Int → Mem → Prop} (h : R32 x5 ∧ ((3 < x5 → TT m_X2_chooseCut 7 [vR 13, vI x1, vI x2, vI x3, vI (x4 + 1), vU, vU] [] σ (PI K)) ∧ (¬ 3 < x5 → CC m_X2_sizeTogether [vR 13, vI 0, vI x5] σ (PI (fun y7 s8 => CC m_X2_sizeTogether [vR 13, vI x5, vI 5] s8 (PI (fun y9 s10 => R32 x2 ∧ ((x2 = 0 → TT m_X2_chooseCut 56 [vR 13, vI x1, vU, vU, vI x4, vI x5, vI (y7 + y9)] [] s10 (PI K)) ∧ (¬ x2 = 0 → R32 (y7 + y9) ∧ R32 x3 ∧ ((x3 ≤ (y7 + y9) → TT m_X2_chooseCut 23 [vR 13, vI x1, vI x2, vI x3, vI x4, vI (x5 + 1), vU] [] s10 (PI K)) ∧ (¬ x3 ≤ (y7 + y9) → TT m_X2_chooseCut 56 [vR 13, vI x1, vU, vU, vI x4, vI x5, vI (y7 + y9)] [] s10 (PI K)))))))))))) : TT m_X2_chooseCut 23 [vR 13, vI x1, vI x2, vI x3, vI x4, vI x5, vU] [] σ (PI K) := by
  refine TT_iload dX2_chooseCut_23 rfl ?_
  refine TT_iconst dX2_chooseCut_25 ?_
  obtain ⟨o5, h⟩ := h
  refine TT_icmp_gt (tgt := 82) dX2_chooseCut_26 rfl o5 (by decide) (fun c6 => ?_) (fun c6 => ?_)
  · replace h := h.1 c6
    refine TT_iinc dX2_chooseCut_82 (Nat.le_of_ble_eq_true rfl) rfl rfl rfl ?_
    refine TT_goto (tgt := 7) dX2_chooseCut_85 rfl ?_
    refine TT_kill 5 rfl ?_
    exact h
  · replace h := h.2 c6
    refine TT_aload_n dX2_chooseCut_29 rfl ?_
    refine TT_iconst dX2_chooseCut_30 ?_
    refine TT_iload dX2_chooseCut_31 rfl ?_
    refine TT_callVI (M' := m_X2_sizeTogether) (as := [vI 0, vI x5]) (rest := []) dX2_chooseCut_33 mo_X2_sizeTogether ml_X2_121 im_X2_sizeTogether se_X2_sizeTogether (Nat.le_of_ble_eq_true rfl) (Nat.le_of_ble_eq_true rfl) ⟨rfl, rfl, rfl⟩ rfl rfl (Nat.le_of_ble_eq_true rfl) (by decide) rfl rfl (by decide) h (fun y7 s8 h => ?_)
    refine TT_aload_n dX2_chooseCut_36 rfl ?_
    refine TT_iload dX2_chooseCut_37 rfl ?_
    refine TT_iconst dX2_chooseCut_39 ?_
    refine TT_callVI (M' := m_X2_sizeTogether) (as := [vI x5, vI 5]) (rest := [vI y7]) dX2_chooseCut_40 mo_X2_sizeTogether ml_X2_121 im_X2_sizeTogether se_X2_sizeTogether (Nat.le_of_ble_eq_true rfl) (Nat.le_of_ble_eq_true rfl) ⟨rfl, rfl, rfl⟩ rfl rfl (Nat.le_of_ble_eq_true rfl) (by decide) rfl rfl (by decide) h (fun y9 s10 h => ?_)
    refine TT_iadd dX2_chooseCut_43 ?_
    refine TT_istore dX2_chooseCut_44 (Nat.le_of_ble_eq_true rfl) rfl rfl ?_
    refine TT_iload_n dX2_chooseCut_46 rfl ?_
    obtain ⟨o11, h⟩ := h
    refine TT_if_eq (tgt := 56) dX2_chooseCut_47 rfl o11 (fun c12 => ?_) (fun c12 => ?_)
    · replace h := h.1 c12
      refine TT_kill 2 rfl ?_
      refine TT_kill 3 rfl ?_
      exact h
    · replace h := h.2 c12
      refine TT_iload dX2_chooseCut_50 rfl ?_
      refine TT_iload_n dX2_chooseCut_52 rfl ?_
      obtain ⟨o13, h⟩ := h
      obtain ⟨o14, h⟩ := h
      refine TT_icmp_ge (tgt := 76) dX2_chooseCut_53 rfl o13 o14 (fun c15 => ?_) (fun c15 => ?_)
      · replace h := h.1 c15
        refine TT_iinc dX2_chooseCut_76 (Nat.le_of_ble_eq_true rfl) rfl rfl rfl ?_
        refine TT_goto (tgt := 23) dX2_chooseCut_79 rfl ?_
        refine TT_kill 6 rfl ?_
        exact h
      · replace h := h.2 c15
        refine TT_kill 2 rfl ?_
        refine TT_kill 3 rfl ?_
        exact h
set_option maxRecDepth 4000 in
theorem w_X2_chooseCut_56 (x1 : Int) (x4 : Int) (x5 : Int) (x6 : Int) {σ : Mem} {K : Int → Mem → Prop} (h : (∀ s16 : Mem, s16 = mcpy σ 23 24 0 0 5 → TT m_X2_chooseCut 23 [vR 13, vI x1, vI x5, vI x6, vI x4, vI (x5 + 1), vU] [] s16 (PI K))) : TT m_X2_chooseCut 56 [vR 13, vI x1, vU, vU, vI x4, vI x5, vI x6] [] σ (PI K) := by
  refine TT_iload dX2_chooseCut_56 rfl ?_
  refine TT_istore_n dX2_chooseCut_58 (Nat.le_of_ble_eq_true rfl) rfl rfl ?_
  refine TT_iload dX2_chooseCut_59 rfl ?_
  refine TT_istore_n dX2_chooseCut_61 (Nat.le_of_ble_eq_true rfl) rfl rfl ?_
  refine TT_aload_n dX2_chooseCut_62 rfl ?_
  refine TT_getR (r := 23) dX2_chooseCut_63 fd_X2_40 (by decide) rfl (by decide) rfl rfl ?_
  refine TT_iconst dX2_chooseCut_66 ?_
  refine TT_aload_n dX2_chooseCut_67 rfl ?_
  refine TT_getR (r := 24) dX2_chooseCut_68 fd_X2_43 (by decide) rfl (by decide) rfl rfl ?_
  refine TT_iconst dX2_chooseCut_71 ?_
  refine TT_iconst dX2_chooseCut_72 ?_
  refine TT_copy dX2_chooseCut_73 ml_X2_124 (Nat.le_of_ble_eq_true rfl) (Nat.le_of_ble_eq_true rfl) (by decide) rfl (by decide) rfl (by decide) (by decide) (by decide) ?_
  refine TT_nmM (fun s16 e17 => ?_)
  replace h := h s16 e17
  refine TT_iinc dX2_chooseCut_76 (Nat.le_of_ble_eq_true rfl) rfl rfl rfl ?_
  refine TT_goto (tgt := 23) dX2_chooseCut_79 rfl ?_
  refine TT_kill 6 rfl ?_
  exact h
set_option maxRecDepth 4000 in
theorem w_X2_sortAlong_0 (x1 : Int) (x2 : Int) {σ : Mem} {K : Mem → Prop} (h : TT m_X2_sortAlong 2 [vR 13, vI x1, vI x2, vI 0, vU, vU] [] σ (PN K)) : TT m_X2_sortAlong 0 [vR 13, vI x1, vI x2, vU, vU, vU] [] σ (PN K) := by
  refine TT_iconst dX2_sortAlong_0 ?_
  refine TT_istore_n dX2_sortAlong_1 (Nat.le_of_ble_eq_true rfl) rfl rfl ?_
  exact h
theorem e_X2_sortAlong (x1 : Int) (x2 : Int) {σ : Mem} {K : Mem → Prop} (h : TT m_X2_sortAlong 2 [vR 13, vI x1, vI x2, vI 0, vU, vU] [] σ (PN K)) : CC m_X2_sortAlong [vR 13, vI x1, vI x2] σ (PN K) := CC_of (by decide) rfl rfl rfl (Nat.le_of_ble_eq_true rfl) (w_X2_sortAlong_0 x1 x2 h)
set_option maxRecDepth 4000 in
theorem w_X2_sortAlong_2 (x1 : Int) (x2 : Int) (x3 : Int) {σ : Mem} {K : Mem → Prop} (h : R32 x3 ∧ ((5 ≤ x3 → K σ) ∧ (¬ 5 ≤ x3 → (0 ≤ ((x1 * 5) + x3) ∧ ((x1 * 5) + x3) < 1150) ∧ TT m_X2_sortAlong 22 [vR 13, vI x1, vI x2, vI x3, vI (σ 19 ((x1 * 5) + x3).toNat), vI x3] [] σ (PN K)))) : TT m_X2_sortAlong 2 [vR 13, vI x1, vI x2, vI x3, vU, vU] [] σ (PN K) := by
  refine TT_iload_n dX2_sortAlong_2 rfl ?_
  refine TT_iconst dX2_sortAlong_3 ?_
  obtain ⟨o1, h⟩ := h
  refine TT_icmp_ge (tgt := 83) dX2_sortAlong_4 rfl o1 (by decide) (fun c2 => ?_) (fun c2 => ?_)
  · replace h := h.1 c2
    exact TT_vret dX2_sortAlong_83 rfl rfl h
  · replace h := h.2 c2
    refine TT_aload_n dX2_sortAlong_7 rfl ?_
    refine TT_getR (r := 19) dX2_sortAlong_8 fd_X2_27 (by decide) rfl (by decide) rfl rfl ?_
    refine TT_iload_n dX2_sortAlong_11 rfl ?_
    refine TT_iconst dX2_sortAlong_12 ?_
    refine TT_imul dX2_sortAlong_13 ?_
    refine TT_iload_n dX2_sortAlong_14 rfl ?_
    refine TT_iadd dX2_sortAlong_15 ?_
    obtain ⟨o3, h⟩ := h
    refine TT_iald dX2_sortAlong_16 (by decide) rfl (by decide) o3 ?_
    refine TT_istore dX2_sortAlong_17 (Nat.le_of_ble_eq_true rfl) rfl rfl ?_
    refine TT_iload_n dX2_sortAlong_19 rfl ?_
    refine TT_istore dX2_sortAlong_20 (Nat.le_of_ble_eq_true rfl) rfl rfl ?_
    exact h
set_option maxRecDepth 4000 in
theorem w_X2_sortAlong_22 (x1 : Int) (x2 : Int) (x3 : Int) (x4 : Int) (x5 : Int) {σ : Mem} {K : Mem → Prop} (h : R32 x5 ∧ ((x5 ≤ 0 → (0 ≤ x5 ∧ x5 < 5) ∧ (∀ s7 : Mem, s7 = up σ 23 (x5).toNat x4 → TT m_X2_sortAlong 2 [vR 13, vI x1, vI x2, vI (x3 + 1), vU, vU] [] s7 (PN K))) ∧ (¬ x5 ≤ 0 → (0 ≤ (x5 - 1) ∧ (x5 - 1) < 5) ∧ CC m_X2_isAhead [vR 13, vI x4, vI (σ 23 (x5 - 1).toNat), vI x2] σ (PZ (fun s11 => (0 ≤ x5 ∧ x5 < 5) ∧ (∀ s15 : Mem, s15 = up s11 23 (x5).toNat (s11 23 (x5 - 1).toNat) → TT m_X2_sortAlong 22 [vR 13, vI x1, vI x2, vI x3, vI x4, vI (x5 + (-1))] [] s15 (PN K))) (fun s12 => (0 ≤ x5 ∧ x5 < 5) ∧ (∀ s19 : Mem, s19 = up s12 23 (x5).toNat x4 → TT m_X2_sortAlong 2 [vR 13, vI x1, vI x2, vI (x3 + 1), vU, vU] [] s19 (PN K))))))) : TT m_X2_sortAlong 22 [vR 13, vI x1, vI x2, vI x3, vI x4, vI x5] [] σ (PN K) := by
  refine TT_iload dX2_sortAlong_22 rfl ?_
  obtain ⟨o4, h⟩ := h
  refine TT_if_le (tgt := 68) dX2_sortAlong_24 rfl o4 (fun c5 => ?_) (fun c5 => ?_)
  · replace h := h.1 c5
    refine TT_aload_n dX2_sortAlong_68 rfl ?_
    refine TT_getR (r := 23) dX2_sortAlong_69 fd_X2_40 (by decide) rfl (by decide) rfl rfl ?_
    refine TT_iload dX2_sortAlong_72 rfl ?_
    refine TT_iload dX2_sortAlong_74 rfl ?_
    obtain ⟨o6, h⟩ := h
    refine TT_iast dX2_sortAlong_76 (by decide) rfl (by decide) o6 ?_
    refine TT_nmM (fun s7 e8 => ?_)
    replace h := h s7 e8
    refine TT_iinc dX2_sortAlong_77 (Nat.le_of_ble_eq_true rfl) rfl rfl rfl ?_
    refine TT_goto (tgt := 2) dX2_sortAlong_80 rfl ?_
    refine TT_kill 4 rfl ?_
    refine TT_kill 5 rfl ?_
    exact h
  · replace h := h.2 c5
    refine TT_aload_n dX2_sortAlong_27 rfl ?_
    refine TT_iload dX2_sortAlong_28 rfl ?_
    refine TT_aload_n dX2_sortAlong_30 rfl ?_
    refine TT_getR (r := 23) dX2_sortAlong_31 fd_X2_40 (by decide) rfl (by decide) rfl rfl ?_
    refine TT_iload dX2_sortAlong_34 rfl ?_
    refine TT_iconst dX2_sortAlong_36 ?_
    refine TT_isub dX2_sortAlong_37 ?_
    obtain ⟨o9, h⟩ := h
    refine TT_iald dX2_sortAlong_38 (by decide) rfl (by decide) o9 ?_
    refine TT_iload_n dX2_sortAlong_39 rfl ?_
    refine TT_callVZ (M' := m_X2_isAhead) (as := [vI x4, vI (σ 23 (x5 - 1).toNat), vI x2]) (rest := []) dX2_sortAlong_40 mo_X2_isAhead ml_X2_130 im_X2_isAhead se_X2_isAhead (Nat.le_of_ble_eq_true rfl) (Nat.le_of_ble_eq_true rfl) ⟨rfl, rfl, rfl⟩ rfl rfl (Nat.le_of_ble_eq_true rfl) (by decide) rfl rfl (by decide) h (fun s11 h => ?_) (fun s12 h => ?_)
    · refine TT_if_eq (tgt := 68) dX2_sortAlong_43 rfl (by decide) (fun c13 => absurd c13 (by decide)) (fun c13 => ?_)
      refine TT_aload_n dX2_sortAlong_46 rfl ?_
      refine TT_getR (r := 23) dX2_sortAlong_47 fd_X2_40 (by decide) rfl (by decide) rfl rfl ?_
      refine TT_iload dX2_sortAlong_50 rfl ?_
      refine TT_aload_n dX2_sortAlong_52 rfl ?_
      refine TT_getR (r := 23) dX2_sortAlong_53 fd_X2_40 (by decide) rfl (by decide) rfl rfl ?_
      refine TT_iload dX2_sortAlong_56 rfl ?_
      refine TT_iconst dX2_sortAlong_58 ?_
      refine TT_isub dX2_sortAlong_59 ?_
      refine TT_iald dX2_sortAlong_60 (by decide) rfl (by decide) o9 ?_
      obtain ⟨o14, h⟩ := h
      refine TT_iast dX2_sortAlong_61 (by decide) rfl (by decide) o14 ?_
      refine TT_nmM (fun s15 e16 => ?_)
      replace h := h s15 e16
      refine TT_iinc dX2_sortAlong_62 (Nat.le_of_ble_eq_true rfl) rfl rfl rfl ?_
      refine TT_goto (tgt := 22) dX2_sortAlong_65 rfl ?_
      exact h
    · refine TT_if_eq (tgt := 68) dX2_sortAlong_43 rfl (by decide) (fun c17 => ?_) (fun c17 => absurd c17 (by decide))
      refine TT_aload_n dX2_sortAlong_68 rfl ?_
      refine TT_getR (r := 23) dX2_sortAlong_69 fd_X2_40 (by decide) rfl (by decide) rfl rfl ?_
      refine TT_iload dX2_sortAlong_72 rfl ?_
      refine TT_iload dX2_sortAlong_74 rfl ?_
      obtain ⟨o18, h⟩ := h
      refine TT_iast dX2_sortAlong_76 (by decide) rfl (by decide) o18 ?_
      refine TT_nmM (fun s19 e20 => ?_)
      replace h := h s19 e20
      refine TT_iinc dX2_sortAlong_77 (Nat.le_of_ble_eq_true rfl) rfl rfl rfl ?_
      refine TT_goto (tgt := 2) dX2_sortAlong_80 rfl ?_
      refine TT_kill 4 rfl ?_
      refine TT_kill 5 rfl ?_
      exact h
set_option maxRecDepth 4000 in
theorem w_X2_isAhead_0 (x1 : Int) (x2 : Int) (x3 : Int) {σ : Mem} {A B : Mem → Prop} (h : CC m_X0_endsSum [vR 14, vI x1, vI x3] σ (PI (fun y1 s2 => CC m_X0_endsSum [vR 14, vI x2, vI x3] s2 (PI (fun y3 s4 => R32 y1 ∧ R32 y3 ∧ ((y1 < y3 → A s4) ∧ (¬ y1 < y3 → ((¬ y1 = y3 → B s4) ∧ (y1 = y3 → R32 x1 ∧ R32 x2 ∧ ((x2 ≤ x1 → B s4) ∧ (¬ x2 ≤ x1 → A s4))))))))))) : TT m_X2_isAhead 0 [vR 13, vI x1, vI x2, vI x3, vU, vU] [] σ (PZ A B) := by
  refine TT_aload_n dX2_isAhead_0 rfl ?_
  refine TT_getR (r := 14) dX2_isAhead_1 fd_X2_16 (by decide) rfl (by decide) rfl rfl ?_
  refine TT_iload_n dX2_isAhead_4 rfl ?_
  refine TT_iload_n dX2_isAhead_5 rfl ?_
  refine TT_callVI (M' := m_X0_endsSum) (as := [vI x1, vI x3]) (rest := []) dX2_isAhead_6 mo_X0_endsSum ml_X2_134 im_X0_endsSum se_X0_endsSum (Nat.le_of_ble_eq_true rfl) (Nat.le_of_ble_eq_true rfl) ⟨rfl, rfl, rfl⟩ rfl rfl (Nat.le_of_ble_eq_true rfl) (by decide) rfl rfl (by decide) h (fun y1 s2 h => ?_)
  refine TT_istore dX2_isAhead_9 (Nat.le_of_ble_eq_true rfl) rfl rfl ?_
  refine TT_aload_n dX2_isAhead_11 rfl ?_
  refine TT_getR (r := 14) dX2_isAhead_12 fd_X2_16 (by decide) rfl (by decide) rfl rfl ?_
  refine TT_iload_n dX2_isAhead_15 rfl ?_
  refine TT_iload_n dX2_isAhead_16 rfl ?_
  refine TT_callVI (M' := m_X0_endsSum) (as := [vI x2, vI x3]) (rest := []) dX2_isAhead_17 mo_X0_endsSum ml_X2_134 im_X0_endsSum se_X0_endsSum (Nat.le_of_ble_eq_true rfl) (Nat.le_of_ble_eq_true rfl) ⟨rfl, rfl, rfl⟩ rfl rfl (Nat.le_of_ble_eq_true rfl) (by decide) rfl rfl (by decide) h (fun y3 s4 h => ?_)
  refine TT_istore dX2_isAhead_20 (Nat.le_of_ble_eq_true rfl) rfl rfl ?_
  refine TT_iload dX2_isAhead_22 rfl ?_
  refine TT_iload dX2_isAhead_24 rfl ?_
  obtain ⟨o5, h⟩ := h
  obtain ⟨o6, h⟩ := h
  refine TT_icmp_lt (tgt := 41) dX2_isAhead_26 rfl o5 o6 (fun c7 => ?_) (fun c7 => ?_)
  · replace h := h.1 c7
    refine TT_iconst dX2_isAhead_41 ?_
    refine TT_goto (tgt := 46) dX2_isAhead_42 rfl ?_
    exact TT_z1 dX2_isAhead_46 rfl rfl h
  · replace h := h.2 c7
    refine TT_iload dX2_isAhead_29 rfl ?_
    refine TT_iload dX2_isAhead_31 rfl ?_
    refine TT_icmp_ne (tgt := 45) dX2_isAhead_33 rfl o5 o6 (fun c8 => ?_) (fun c8 => ?_)
    · replace h := h.1 c8
      refine TT_iconst dX2_isAhead_45 ?_
      exact TT_z0 dX2_isAhead_46 rfl rfl h
    · replace h := h.2 c8
      refine TT_iload_n dX2_isAhead_36 rfl ?_
      refine TT_iload_n dX2_isAhead_37 rfl ?_
      obtain ⟨o9, h⟩ := h
      obtain ⟨o10, h⟩ := h
      refine TT_icmp_ge (tgt := 45) dX2_isAhead_38 rfl o9 o10 (fun c11 => ?_) (fun c11 => ?_)
      · replace h := h.1 c11
        refine TT_iconst dX2_isAhead_45 ?_
        exact TT_z0 dX2_isAhead_46 rfl rfl h
      · replace h := h.2 c11
        refine TT_iconst dX2_isAhead_41 ?_
        refine TT_goto (tgt := 46) dX2_isAhead_42 rfl ?_
        exact TT_z1 dX2_isAhead_46 rfl rfl h
theorem e_X2_isAhead (x1 : Int) (x2 : Int) (x3 : Int) {σ : Mem} {A B : Mem → Prop} (h : CC m_X0_endsSum [vR 14, vI x1, vI x3] σ (PI (fun y1 s2 => CC m_X0_endsSum [vR 14, vI x2, vI x3] s2 (PI (fun y3 s4 => R32 y1 ∧ R32 y3 ∧ ((y1 < y3 → A s4) ∧ (¬ y1 < y3 → ((¬ y1 = y3 → B s4) ∧ (y1 = y3 → R32 x1 ∧ R32 x2 ∧ ((x2 ≤ x1 → B s4) ∧ (¬ x2 ≤ x1 → A s4))))))))))) : CC m_X2_isAhead [vR 13, vI x1, vI x2, vI x3] σ (PZ A B) := CC_of (by decide) rfl rfl rfl (Nat.le_of_ble_eq_true rfl) (w_X2_isAhead_0 x1 x2 x3 h)
set_option maxRecDepth 4000 in
theorem w_X2_sizeTogether_0 (x1 : Int) (x2 : Int) {σ : Mem} {K : Int → Mem → Prop} (h : (0 ≤ x1 ∧ x1 < 5) ∧ CC m_X0_copyFrom [vR 25, vI 0, vR 14, vI (σ 23 (x1).toNat)] σ (PN (fun s3 => TT m_X2_sizeTogether 22 [vR 13, vU, vI x2, vI (x1 + 1)] [] s3 (PI K)))) : TT m_X2_sizeTogether 0 [vR 13, vI x1, vI x2, vU] [] σ (PI K) := by
  refine TT_aload_n dX2_sizeTogether_0 rfl ?_
  refine TT_getR (r := 25) dX2_sizeTogether_1 fd_X2_46 (by decide) rfl (by decide) rfl rfl ?_
  refine TT_iconst dX2_sizeTogether_4 ?_
  refine TT_aload_n dX2_sizeTogether_5 rfl ?_
  refine TT_getR (r := 14) dX2_sizeTogether_6 fd_X2_16 (by decide) rfl (by decide) rfl rfl ?_
  refine TT_aload_n dX2_sizeTogether_9 rfl ?_
  refine TT_getR (r := 23) dX2_sizeTogether_10 fd_X2_40 (by decide) rfl (by decide) rfl rfl ?_
  refine TT_iload_n dX2_sizeTogether_13 rfl ?_
  obtain ⟨o1, h⟩ := h
  refine TT_iald dX2_sizeTogether_14 (by decide) rfl (by decide) o1 ?_
  refine TT_callVN (M' := m_X0_copyFrom) (as := [vI 0, vR 14, vI (σ 23 (x1).toNat)]) (rest := []) dX2_sizeTogether_15 mo_X0_copyFrom ml_X2_111 im_X0_copyFrom se_X0_copyFrom (Nat.le_of_ble_eq_true rfl) (Nat.le_of_ble_eq_true rfl) ⟨rfl, rfl, rfl⟩ rfl rfl (Nat.le_of_ble_eq_true rfl) (by decide) rfl rfl (by decide) h (fun s3 h => ?_)
  refine TT_iload_n dX2_sizeTogether_18 rfl ?_
  refine TT_iconst dX2_sizeTogether_19 ?_
  refine TT_iadd dX2_sizeTogether_20 ?_
  refine TT_istore_n dX2_sizeTogether_21 (Nat.le_of_ble_eq_true rfl) rfl rfl ?_
  refine TT_kill 1 rfl ?_
  exact h
theorem e_X2_sizeTogether (x1 : Int) (x2 : Int) {σ : Mem} {K : Int → Mem → Prop} (h : (0 ≤ x1 ∧ x1 < 5) ∧ CC m_X0_copyFrom [vR 25, vI 0, vR 14, vI (σ 23 (x1).toNat)] σ (PN (fun s3 => TT m_X2_sizeTogether 22 [vR 13, vU, vI x2, vI (x1 + 1)] [] s3 (PI K)))) : CC m_X2_sizeTogether [vR 13, vI x1, vI x2] σ (PI K) := CC_of (by decide) rfl rfl rfl (Nat.le_of_ble_eq_true rfl) (w_X2_sizeTogether_0 x1 x2 h)
set_option maxRecDepth 4000 in
theorem w_X2_sizeTogether_22 (x2 : Int) (x3 : Int) {σ : Mem} {K : Int → Mem → Prop} (h : R32 x3 ∧ R32 x2 ∧ ((x2 ≤ x3 → CC m_X0_sizeOf [vR 25, vI 0] σ (PI (fun y7 s8 => K y7 s8))) ∧ (¬ x2 ≤ x3 → (0 ≤ x3 ∧ x3 < 5) ∧ CC m_X0_widen [vR 25, vI 0, vR 14, vI (σ 23 (x3).toNat)] σ (PN (fun s11 => TT m_X2_sizeTogether 22 [vR 13, vU, vI x2, vI (x3 + 1)] [] s11 (PI K)))))) : TT m_X2_sizeTogether 22 [vR 13, vU, vI x2, vI x3] [] σ (PI K) := by
  refine TT_iload_n dX2_sizeTogether_22 rfl ?_
  refine TT_iload_n dX2_sizeTogether_23 rfl ?_
  obtain ⟨o4, h⟩ := h
  obtain ⟨o5, h⟩ := h
  refine TT_icmp_ge (tgt := 51) dX2_sizeTogether_24 rfl o4 o5 (fun c6 => ?_) (fun c6 => ?_)
  · replace h := h.1 c6
    refine TT_aload_n dX2_sizeTogether_51 rfl ?_
    refine TT_getR (r := 25) dX2_sizeTogether_52 fd_X2_46 (by decide) rfl (by decide) rfl rfl ?_
    refine TT_iconst dX2_sizeTogether_55 ?_
    refine TT_callVI (M' := m_X0_sizeOf) (as := [vI 0]) (rest := []) dX2_sizeTogether_56 mo_X0_sizeOf ml_X2_137 im_X0_sizeOf se_X0_sizeOf (Nat.le_of_ble_eq_true rfl) (Nat.le_of_ble_eq_true rfl) ⟨rfl, rfl, rfl⟩ rfl rfl (Nat.le_of_ble_eq_true rfl) (by decide) rfl rfl (by decide) h (fun y7 s8 h => ?_)
    exact TT_iret dX2_sizeTogether_59 rfl rfl h
  · replace h := h.2 c6
    refine TT_aload_n dX2_sizeTogether_27 rfl ?_
    refine TT_getR (r := 25) dX2_sizeTogether_28 fd_X2_46 (by decide) rfl (by decide) rfl rfl ?_
    refine TT_iconst dX2_sizeTogether_31 ?_
    refine TT_aload_n dX2_sizeTogether_32 rfl ?_
    refine TT_getR (r := 14) dX2_sizeTogether_33 fd_X2_16 (by decide) rfl (by decide) rfl rfl ?_
    refine TT_aload_n dX2_sizeTogether_36 rfl ?_
    refine TT_getR (r := 23) dX2_sizeTogether_37 fd_X2_40 (by decide) rfl (by decide) rfl rfl ?_
    refine TT_iload_n dX2_sizeTogether_40 rfl ?_
    obtain ⟨o9, h⟩ := h
    refine TT_iald dX2_sizeTogether_41 (by decide) rfl (by decide) o9 ?_
    refine TT_callVN (M' := m_X0_widen) (as := [vI 0, vR 14, vI (σ 23 (x3).toNat)]) (rest := []) dX2_sizeTogether_42 mo_X0_widen ml_X2_83 im_X0_widen se_X0_widen (Nat.le_of_ble_eq_true rfl) (Nat.le_of_ble_eq_true rfl) ⟨rfl, rfl, rfl⟩ rfl rfl (Nat.le_of_ble_eq_true rfl) (by decide) rfl rfl (by decide) h (fun s11 h => ?_)
    refine TT_iinc dX2_sizeTogether_45 (Nat.le_of_ble_eq_true rfl) rfl rfl rfl ?_
    refine TT_goto (tgt := 22) dX2_sizeTogether_48 rfl ?_
    exact h
set_option maxRecDepth 4000 in
theorem w_X2_leaves_0  {σ : Mem} {K : Int → Mem → Prop} (h : R32 ((σ 13 12) + 1) ∧ K (Int.tdiv ((σ 13 12) + 1) 2) σ) : TT m_X2_leaves 0 [vR 13] [] σ (PI K) := by
  refine TT_aload_n dX2_leaves_0 rfl ?_
  refine TT_getI dX2_leaves_1 fd_X2_56 (by decide) (Or.inl rfl) (by decide) rfl ?_
  refine TT_iconst dX2_leaves_4 ?_
  refine TT_iadd dX2_leaves_5 ?_
  refine TT_iconst dX2_leaves_6 ?_
  obtain ⟨o1, h⟩ := h
  refine TT_idiv dX2_leaves_7 o1 (by decide) (by decide) ?_
  exact TT_iret dX2_leaves_8 rfl rfl h
theorem e_X2_leaves  {σ : Mem} {K : Int → Mem → Prop} (h : R32 ((σ 13 12) + 1) ∧ K (Int.tdiv ((σ 13 12) + 1) 2) σ) : CC m_X2_leaves [vR 13] σ (PI K) := CC_of (by decide) rfl rfl rfl (Nat.le_of_ble_eq_true rfl) (w_X2_leaves_0  h)
set_option maxRecDepth 4000 in
theorem w_X2_deepest_0  {σ : Mem} {K : Int → Mem → Prop} (h : (∀ s1 : Mem, s1 = up σ 21 0 1 → TT m_X2_deepest 11 [vR 13, vI 1, vI 0, vU] [] s1 (PI K))) : TT m_X2_deepest 0 [vR 13, vU, vU, vU] [] σ (PI K) := by
  refine TT_iconst dX2_deepest_0 ?_
  refine TT_istore_n dX2_deepest_1 (Nat.le_of_ble_eq_true rfl) rfl rfl ?_
  refine TT_aload_n dX2_deepest_2 rfl ?_
  refine TT_getR (r := 21) dX2_deepest_3 fd_X2_33 (by decide) rfl (by decide) rfl rfl ?_
  refine TT_iconst dX2_deepest_6 ?_
  refine TT_iconst dX2_deepest_7 ?_
  refine TT_iast dX2_deepest_8 (by decide) rfl (by decide) (by decide) ?_
  refine TT_nmM (fun s1 e2 => ?_)
  replace h := h s1 e2
  refine TT_iconst dX2_deepest_9 ?_
  refine TT_istore_n dX2_deepest_10 (Nat.le_of_ble_eq_true rfl) rfl rfl ?_
  exact h
theorem e_X2_deepest  {σ : Mem} {K : Int → Mem → Prop} (h : (∀ s1 : Mem, s1 = up σ 21 0 1 → TT m_X2_deepest 11 [vR 13, vI 1, vI 0, vU] [] s1 (PI K))) : CC m_X2_deepest [vR 13] σ (PI K) := CC_of (by decide) rfl rfl rfl (Nat.le_of_ble_eq_true rfl) (w_X2_deepest_0  h)
set_option maxRecDepth 4000 in
theorem w_X2_deepest_11 (x1 : Int) (x2 : Int) {σ : Mem} {K : Int → Mem → Prop} (h : R32 x2 ∧ R32 (σ 13 12) ∧ (((σ 13 12) ≤ x2 → K x1 σ) ∧ (¬ (σ 13 12) ≤ x2 → (0 ≤ x2 ∧ x2 < 230) ∧ R32 (σ 18 (x2).toNat) ∧ (((σ 18 (x2).toNat) = 0 → TT m_X2_deepest 11 [vR 13, vI x1, vI (x2 + 1), vU] [] σ (PI K)) ∧ (¬ (σ 18 (x2).toNat) = 0 → (0 ≤ (σ 18 (x2).toNat) ∧ (σ 18 (x2).toNat) < 230) ∧ (∀ s10 : Mem, s10 = up σ 21 (σ 18 (x2).toNat).toNat ((σ 21 (x2).toNat) + 1) → (0 ≤ ((σ 18 (x2).toNat) + 1) ∧ ((σ 18 (x2).toNat) + 1) < 230) ∧ (∀ s13 : Mem, s13 = up s10 21 ((σ 18 (x2).toNat) + 1).toNat ((s10 21 (x2).toNat) + 1) → R32 x1 ∧ R32 (s13 21 (σ 18 (x2).toNat).toNat) ∧ (∀ v17 : Int, v17 = (max x1 (s13 21 (σ 18 (x2).toNat).toNat)) → TT m_X2_deepest 11 [vR 13, vI v17, vI (x2 + 1), vU] [] s13 (PI K))))))))) : TT m_X2_deepest 11 [vR 13, vI x1, vI x2, vU] [] σ (PI K) := by
  refine TT_iload_n dX2_deepest_11 rfl ?_
  refine TT_aload_n dX2_deepest_12 rfl ?_
  refine TT_getI dX2_deepest_13 fd_X2_56 (by decide) (Or.inl rfl) (by decide) rfl ?_
  obtain ⟨o3, h⟩ := h
  obtain ⟨o4, h⟩ := h
  refine TT_icmp_ge (tgt := 77) dX2_deepest_16 rfl o3 o4 (fun c5 => ?_) (fun c5 => ?_)
  · replace h := h.1 c5
    refine TT_iload_n dX2_deepest_77 rfl ?_
    exact TT_iret dX2_deepest_78 rfl rfl h
  · replace h := h.2 c5
    refine TT_aload_n dX2_deepest_19 rfl ?_
    refine TT_getR (r := 18) dX2_deepest_20 fd_X2_23 (by decide) rfl (by decide) rfl rfl ?_
    refine TT_iload_n dX2_deepest_23 rfl ?_
    obtain ⟨o6, h⟩ := h
    refine TT_iald dX2_deepest_24 (by decide) rfl (by decide) o6 ?_
    refine TT_istore_n dX2_deepest_25 (Nat.le_of_ble_eq_true rfl) rfl rfl ?_
    refine TT_iload_n dX2_deepest_26 rfl ?_
    obtain ⟨o7, h⟩ := h
    refine TT_if_eq (tgt := 71) dX2_deepest_27 rfl o7 (fun c8 => ?_) (fun c8 => ?_)
    · replace h := h.1 c8
      refine TT_iinc dX2_deepest_71 (Nat.le_of_ble_eq_true rfl) rfl rfl rfl ?_
      refine TT_goto (tgt := 11) dX2_deepest_74 rfl ?_
      refine TT_kill 3 rfl ?_
      exact h
    · replace h := h.2 c8
      refine TT_aload_n dX2_deepest_30 rfl ?_
      refine TT_getR (r := 21) dX2_deepest_31 fd_X2_33 (by decide) rfl (by decide) rfl rfl ?_
      refine TT_iload_n dX2_deepest_34 rfl ?_
      refine TT_aload_n dX2_deepest_35 rfl ?_
      refine TT_getR (r := 21) dX2_deepest_36 fd_X2_33 (by decide) rfl (by decide) rfl rfl ?_
      refine TT_iload_n dX2_deepest_39 rfl ?_
      refine TT_iald dX2_deepest_40 (by decide) rfl (by decide) o6 ?_
      refine TT_iconst dX2_deepest_41 ?_
      refine TT_iadd dX2_deepest_42 ?_
      obtain ⟨o9, h⟩ := h
      refine TT_iast dX2_deepest_43 (by decide) rfl (by decide) o9 ?_
      refine TT_nmM (fun s10 e11 => ?_)
      replace h := h s10 e11
      refine TT_aload_n dX2_deepest_44 rfl ?_
      refine TT_getR (r := 21) dX2_deepest_45 fd_X2_33 (by decide) rfl (by decide) rfl rfl ?_
      refine TT_iload_n dX2_deepest_48 rfl ?_
      refine TT_iconst dX2_deepest_49 ?_
      refine TT_iadd dX2_deepest_50 ?_
      refine TT_aload_n dX2_deepest_51 rfl ?_
      refine TT_getR (r := 21) dX2_deepest_52 fd_X2_33 (by decide) rfl (by decide) rfl rfl ?_
      refine TT_iload_n dX2_deepest_55 rfl ?_
      refine TT_iald dX2_deepest_56 (by decide) rfl (by decide) o6 ?_
      refine TT_iconst dX2_deepest_57 ?_
      refine TT_iadd dX2_deepest_58 ?_
      obtain ⟨o12, h⟩ := h
      refine TT_iast dX2_deepest_59 (by decide) rfl (by decide) o12 ?_
      refine TT_nmM (fun s13 e14 => ?_)
      replace h := h s13 e14
      refine TT_iload_n dX2_deepest_60 rfl ?_
      refine TT_aload_n dX2_deepest_61 rfl ?_
      refine TT_getR (r := 21) dX2_deepest_62 fd_X2_33 (by decide) rfl (by decide) rfl rfl ?_
      refine TT_iload_n dX2_deepest_65 rfl ?_
      refine TT_iald dX2_deepest_66 (by decide) rfl (by decide) o9 ?_
      obtain ⟨o15, h⟩ := h
      obtain ⟨o16, h⟩ := h
      refine TT_max dX2_deepest_67 ml_X2_100 (Nat.le_of_ble_eq_true rfl) (Nat.le_of_ble_eq_true rfl) ⟨o15, o16⟩ ?_
      refine TT_nmI (fun v17 e18 => ?_)
      replace h := h v17 e18
      refine TT_istore_n dX2_deepest_70 (Nat.le_of_ble_eq_true rfl) rfl rfl ?_
      refine TT_iinc dX2_deepest_71 (Nat.le_of_ble_eq_true rfl) rfl rfl rfl ?_
      refine TT_goto (tgt := 11) dX2_deepest_74 rfl ?_
      refine TT_kill 3 rfl ?_
      exact h
set_option maxRecDepth 4000 in
theorem w_X2_leafSizes_0  {σ : Mem} {K : Int → Mem → Prop} (h : TT m_X2_leafSizes 4 [vR 13, vL 0, vU, vI 0] [] σ (PJ K)) : TT m_X2_leafSizes 0 [vR 13, vU, vU, vU] [] σ (PJ K) := by
  refine TT_lconst dX2_leafSizes_0 (x := 0) rfl ?_
  refine TT_lstore_n dX2_leafSizes_1 (Nat.le_of_ble_eq_true rfl) rfl rfl ?_
  refine TT_iconst dX2_leafSizes_2 ?_
  refine TT_istore_n dX2_leafSizes_3 (Nat.le_of_ble_eq_true rfl) rfl rfl ?_
  exact h
theorem e_X2_leafSizes  {σ : Mem} {K : Int → Mem → Prop} (h : TT m_X2_leafSizes 4 [vR 13, vL 0, vU, vI 0] [] σ (PJ K)) : CC m_X2_leafSizes [vR 13] σ (PJ K) := CC_of (by decide) rfl rfl rfl (Nat.le_of_ble_eq_true rfl) (w_X2_leafSizes_0  h)
set_option maxRecDepth 4000 in
theorem w_X2_leafSizes_4 (x1 : Int) (x3 : Int) {σ : Mem} {K : Int → Mem → Prop} (h : R32 x3 ∧ R32 (σ 13 12) ∧ (((σ 13 12) ≤ x3 → K x1 σ) ∧ (¬ (σ 13 12) ≤ x3 → (0 ≤ x3 ∧ x3 < 230) ∧ R32 (σ 18 (x3).toNat) ∧ ((¬ (σ 18 (x3).toNat) = 0 → TT m_X2_leafSizes 4 [vR 13, vL x1, vU, vI (x3 + 1)] [] σ (PJ K)) ∧ ((σ 18 (x3).toNat) = 0 → R32 (σ 20 (x3).toNat) ∧ (((σ 20 (x3).toNat) ≤ 0 → TT m_X2_leafSizes 4 [vR 13, vL x1, vU, vI (x3 + 1)] [] σ (PJ K)) ∧ (¬ (σ 20 (x3).toNat) ≤ 0 → CC m_X0_sizeOf [vR 16, vI x3] σ (PI (fun y9 s10 => R32 y9 ∧ TT m_X2_leafSizes 4 [vR 13, vL (x1 + y9), vU, vI (x3 + 1)] [] s10 (PJ K)))))))))) : TT m_X2_leafSizes 4 [vR 13, vL x1, vU, vI x3] [] σ (PJ K) := by
  refine TT_iload_n dX2_leafSizes_4 rfl ?_
  refine TT_aload_n dX2_leafSizes_5 rfl ?_
  refine TT_getI dX2_leafSizes_6 fd_X2_56 (by decide) (Or.inl rfl) (by decide) rfl ?_
  obtain ⟨o1, h⟩ := h
  obtain ⟨o2, h⟩ := h
  refine TT_icmp_ge (tgt := 48) dX2_leafSizes_9 rfl o1 o2 (fun c3 => ?_) (fun c3 => ?_)
  · replace h := h.1 c3
    refine TT_lload_n dX2_leafSizes_48 rfl ?_
    exact TT_lret dX2_leafSizes_49 rfl rfl h
  · replace h := h.2 c3
    refine TT_aload_n dX2_leafSizes_12 rfl ?_
    refine TT_getR (r := 18) dX2_leafSizes_13 fd_X2_23 (by decide) rfl (by decide) rfl rfl ?_
    refine TT_iload_n dX2_leafSizes_16 rfl ?_
    obtain ⟨o4, h⟩ := h
    refine TT_iald dX2_leafSizes_17 (by decide) rfl (by decide) o4 ?_
    obtain ⟨o5, h⟩ := h
    refine TT_if_ne (tgt := 42) dX2_leafSizes_18 rfl o5 (fun c6 => ?_) (fun c6 => ?_)
    · replace h := h.1 c6
      refine TT_iinc dX2_leafSizes_42 (Nat.le_of_ble_eq_true rfl) rfl rfl rfl ?_
      refine TT_goto (tgt := 4) dX2_leafSizes_45 rfl ?_
      exact h
    · replace h := h.2 c6
      refine TT_aload_n dX2_leafSizes_21 rfl ?_
      refine TT_getR (r := 20) dX2_leafSizes_22 fd_X2_30 (by decide) rfl (by decide) rfl rfl ?_
      refine TT_iload_n dX2_leafSizes_25 rfl ?_
      refine TT_iald dX2_leafSizes_26 (by decide) rfl (by decide) o4 ?_
      obtain ⟨o7, h⟩ := h
      refine TT_if_le (tgt := 42) dX2_leafSizes_27 rfl o7 (fun c8 => ?_) (fun c8 => ?_)
      · replace h := h.1 c8
        refine TT_iinc dX2_leafSizes_42 (Nat.le_of_ble_eq_true rfl) rfl rfl rfl ?_
        refine TT_goto (tgt := 4) dX2_leafSizes_45 rfl ?_
        exact h
      · replace h := h.2 c8
        refine TT_lload_n dX2_leafSizes_30 rfl ?_
        refine TT_aload_n dX2_leafSizes_31 rfl ?_
        refine TT_getR (r := 16) dX2_leafSizes_32 fd_X2_20 (by decide) rfl (by decide) rfl rfl ?_
        refine TT_iload_n dX2_leafSizes_35 rfl ?_
        refine TT_callVI (M' := m_X0_sizeOf) (as := [vI x3]) (rest := [vL x1]) dX2_leafSizes_36 mo_X0_sizeOf ml_X2_137 im_X0_sizeOf se_X0_sizeOf (Nat.le_of_ble_eq_true rfl) (Nat.le_of_ble_eq_true rfl) ⟨rfl, rfl, rfl⟩ rfl rfl (Nat.le_of_ble_eq_true rfl) (by decide) rfl rfl (by decide) h (fun y9 s10 h => ?_)
        obtain ⟨o11, h⟩ := h
        refine TT_i2l dX2_leafSizes_39 o11 ?_
        refine TT_ladd dX2_leafSizes_40 ?_
        refine TT_lstore_n dX2_leafSizes_41 (Nat.le_of_ble_eq_true rfl) rfl rfl ?_
        refine TT_iinc dX2_leafSizes_42 (Nat.le_of_ble_eq_true rfl) rfl rfl rfl ?_
        refine TT_goto (tgt := 4) dX2_leafSizes_45 rfl ?_
        exact h
set_option maxRecDepth 4000 in
theorem w_X2_ask_0 (x2 : Int) (x3 : Int) {σ : Mem} {K : Mem → Prop} (h : CC m_X0_setAxis [vR 27, vI 0, vI 0, vI (σ 3 0), vI (σ 3 1)] σ (PN (fun s2 => CC m_X0_setAxis [vR 27, vI 0, vI 1, vI (s2 3 2), vI (s2 3 3)] s2 (PN (fun s4 => CC m_X0_setAxis [vR 27, vI 0, vI 2, vI x2, vI x3] s4 (PN (fun s6 => (∀ s7 : Mem, s7 = up s6 13 13 0 → (∀ s9 : Mem, s9 = up s7 13 14 0 → R32 (s9 13 11) ∧ (((s9 13 11) ≤ 0 → (∀ s13 : Mem, s13 = up s9 22 0 0 → TT m_X2_ask 92 [vR 13, vU, vU, vU, vI 0, vU] [] s13 (PN K))) ∧ (¬ (s9 13 11) ≤ 0 → CC m_X0_touch [vR 16, vI 0, vR 27, vI 0] s9 (PZ (fun s16 => (∀ s19 : Mem, s19 = up s16 22 0 1 → TT m_X2_ask 92 [vR 13, vU, vU, vU, vI 0, vU] [] s19 (PN K))) (fun s17 => (∀ s22 : Mem, s22 = up s17 22 0 0 → TT m_X2_ask 92 [vR 13, vU, vU, vU, vI 0, vU] [] s22 (PN K))))))))))))))) : TT m_X2_ask 0 [vR 13, vR 3, vI x2, vI x3, vU, vU] [] σ (PN K) := by
  refine TT_aload_n dX2_ask_0 rfl ?_
  refine TT_getR (r := 27) dX2_ask_1 fd_X2_49 (by decide) rfl (by decide) rfl rfl ?_
  refine TT_iconst dX2_ask_4 ?_
  refine TT_iconst dX2_ask_5 ?_
  refine TT_aload_n dX2_ask_6 rfl ?_
  refine TT_getI dX2_ask_7 fd_X2_140 (by decide) (Or.inl rfl) (by decide) rfl ?_
  refine TT_aload_n dX2_ask_10 rfl ?_
  refine TT_getI dX2_ask_11 fd_X2_145 (by decide) (Or.inl rfl) (by decide) rfl ?_
  refine TT_callVN (M' := m_X0_setAxis) (as := [vI 0, vI 0, vI (σ 3 0), vI (σ 3 1)]) (rest := []) dX2_ask_14 mo_X0_setAxis ml_X2_103 im_X0_setAxis se_X0_setAxis (Nat.le_of_ble_eq_true rfl) (Nat.le_of_ble_eq_true rfl) ⟨rfl, rfl, rfl⟩ rfl rfl (Nat.le_of_ble_eq_true rfl) (by decide) rfl rfl (by decide) h (fun s2 h => ?_)
  refine TT_aload_n dX2_ask_17 rfl ?_
  refine TT_getR (r := 27) dX2_ask_18 fd_X2_49 (by decide) rfl (by decide) rfl rfl ?_
  refine TT_iconst dX2_ask_21 ?_
  refine TT_iconst dX2_ask_22 ?_
  refine TT_aload_n dX2_ask_23 rfl ?_
  refine TT_getI dX2_ask_24 fd_X2_148 (by decide) (Or.inl rfl) (by decide) rfl ?_
  refine TT_aload_n dX2_ask_27 rfl ?_
  refine TT_getI dX2_ask_28 fd_X2_151 (by decide) (Or.inl rfl) (by decide) rfl ?_
  refine TT_callVN (M' := m_X0_setAxis) (as := [vI 0, vI 1, vI (s2 3 2), vI (s2 3 3)]) (rest := []) dX2_ask_31 mo_X0_setAxis ml_X2_103 im_X0_setAxis se_X0_setAxis (Nat.le_of_ble_eq_true rfl) (Nat.le_of_ble_eq_true rfl) ⟨rfl, rfl, rfl⟩ rfl rfl (Nat.le_of_ble_eq_true rfl) (by decide) rfl rfl (by decide) h (fun s4 h => ?_)
  refine TT_aload_n dX2_ask_34 rfl ?_
  refine TT_getR (r := 27) dX2_ask_35 fd_X2_49 (by decide) rfl (by decide) rfl rfl ?_
  refine TT_iconst dX2_ask_38 ?_
  refine TT_iconst dX2_ask_39 ?_
  refine TT_iload_n dX2_ask_40 rfl ?_
  refine TT_iload_n dX2_ask_41 rfl ?_
  refine TT_callVN (M' := m_X0_setAxis) (as := [vI 0, vI 2, vI x2, vI x3]) (rest := []) dX2_ask_42 mo_X0_setAxis ml_X2_103 im_X0_setAxis se_X0_setAxis (Nat.le_of_ble_eq_true rfl) (Nat.le_of_ble_eq_true rfl) ⟨rfl, rfl, rfl⟩ rfl rfl (Nat.le_of_ble_eq_true rfl) (by decide) rfl rfl (by decide) h (fun s6 h => ?_)
  refine TT_aload_n dX2_ask_45 rfl ?_
  refine TT_iconst dX2_ask_46 ?_
  refine TT_putI dX2_ask_47 fd_X2_59 (by decide) rfl (by decide) rfl ?_
  refine TT_nmM (fun s7 e8 => ?_)
  replace h := h s7 e8
  refine TT_aload_n dX2_ask_50 rfl ?_
  refine TT_iconst dX2_ask_51 ?_
  refine TT_putI dX2_ask_52 fd_X2_62 (by decide) rfl (by decide) rfl ?_
  refine TT_nmM (fun s9 e10 => ?_)
  replace h := h s9 e10
  refine TT_aload_n dX2_ask_55 rfl ?_
  refine TT_getR (r := 22) dX2_ask_56 fd_X2_36 (by decide) rfl (by decide) rfl rfl ?_
  refine TT_iconst dX2_ask_59 ?_
  refine TT_aload_n dX2_ask_60 rfl ?_
  refine TT_getI dX2_ask_61 fd_X2_52 (by decide) (Or.inl rfl) (by decide) rfl ?_
  obtain ⟨o11, h⟩ := h
  refine TT_if_le (tgt := 87) dX2_ask_64 rfl o11 (fun c12 => ?_) (fun c12 => ?_)
  · replace h := h.1 c12
    refine TT_iconst dX2_ask_87 ?_
    refine TT_zast dX2_ask_88 (Or.inl rfl) (by decide) rfl (by decide) (by decide) ?_
    refine TT_nmM (fun s13 e14 => ?_)
    replace h := h s13 e14
    refine TT_iconst dX2_ask_89 ?_
    refine TT_istore dX2_ask_90 (Nat.le_of_ble_eq_true rfl) rfl rfl ?_
    refine TT_kill 1 rfl ?_
    refine TT_kill 2 rfl ?_
    refine TT_kill 3 rfl ?_
    exact h
  · replace h := h.2 c12
    refine TT_aload_n dX2_ask_67 rfl ?_
    refine TT_getR (r := 16) dX2_ask_68 fd_X2_20 (by decide) rfl (by decide) rfl rfl ?_
    refine TT_iconst dX2_ask_71 ?_
    refine TT_aload_n dX2_ask_72 rfl ?_
    refine TT_getR (r := 27) dX2_ask_73 fd_X2_49 (by decide) rfl (by decide) rfl rfl ?_
    refine TT_iconst dX2_ask_76 ?_
    refine TT_callVZ (M' := m_X0_touch) (as := [vI 0, vR 27, vI 0]) (rest := [vI 0, vR 22]) dX2_ask_77 mo_X0_touch ml_X2_154 im_X0_touch se_X0_touch (Nat.le_of_ble_eq_true rfl) (Nat.le_of_ble_eq_true rfl) ⟨rfl, rfl, rfl⟩ rfl rfl (Nat.le_of_ble_eq_true rfl) (by decide) rfl rfl (by decide) h (fun s16 h => ?_) (fun s17 h => ?_)
    · refine TT_if_eq (tgt := 87) dX2_ask_80 rfl (by decide) (fun c18 => absurd c18 (by decide)) (fun c18 => ?_)
      refine TT_iconst dX2_ask_83 ?_
      refine TT_goto (tgt := 88) dX2_ask_84 rfl ?_
      refine TT_zast dX2_ask_88 (Or.inr rfl) (by decide) rfl (by decide) (by decide) ?_
      refine TT_nmM (fun s19 e20 => ?_)
      replace h := h s19 e20
      refine TT_iconst dX2_ask_89 ?_
      refine TT_istore dX2_ask_90 (Nat.le_of_ble_eq_true rfl) rfl rfl ?_
      refine TT_kill 1 rfl ?_
      refine TT_kill 2 rfl ?_
      refine TT_kill 3 rfl ?_
      exact h
    · refine TT_if_eq (tgt := 87) dX2_ask_80 rfl (by decide) (fun c21 => ?_) (fun c21 => absurd c21 (by decide))
      refine TT_iconst dX2_ask_87 ?_
      refine TT_zast dX2_ask_88 (Or.inl rfl) (by decide) rfl (by decide) (by decide) ?_
      refine TT_nmM (fun s22 e23 => ?_)
      replace h := h s22 e23
      refine TT_iconst dX2_ask_89 ?_
      refine TT_istore dX2_ask_90 (Nat.le_of_ble_eq_true rfl) rfl rfl ?_
      refine TT_kill 1 rfl ?_
      refine TT_kill 2 rfl ?_
      refine TT_kill 3 rfl ?_
      exact h
theorem e_X2_ask (x2 : Int) (x3 : Int) {σ : Mem} {K : Mem → Prop} (h : CC m_X0_setAxis [vR 27, vI 0, vI 0, vI (σ 3 0), vI (σ 3 1)] σ (PN (fun s2 => CC m_X0_setAxis [vR 27, vI 0, vI 1, vI (s2 3 2), vI (s2 3 3)] s2 (PN (fun s4 => CC m_X0_setAxis [vR 27, vI 0, vI 2, vI x2, vI x3] s4 (PN (fun s6 => (∀ s7 : Mem, s7 = up s6 13 13 0 → (∀ s9 : Mem, s9 = up s7 13 14 0 → R32 (s9 13 11) ∧ (((s9 13 11) ≤ 0 → (∀ s13 : Mem, s13 = up s9 22 0 0 → TT m_X2_ask 92 [vR 13, vU, vU, vU, vI 0, vU] [] s13 (PN K))) ∧ (¬ (s9 13 11) ≤ 0 → CC m_X0_touch [vR 16, vI 0, vR 27, vI 0] s9 (PZ (fun s16 => (∀ s19 : Mem, s19 = up s16 22 0 1 → TT m_X2_ask 92 [vR 13, vU, vU, vU, vI 0, vU] [] s19 (PN K))) (fun s17 => (∀ s22 : Mem, s22 = up s17 22 0 0 → TT m_X2_ask 92 [vR 13, vU, vU, vU, vI 0, vU] [] s22 (PN K))))))))))))))) : CC m_X2_ask [vR 13, vR 3, vI x2, vI x3] σ (PN K) := CC_of (by decide) rfl rfl rfl (Nat.le_of_ble_eq_true rfl) (w_X2_ask_0 x2 x3 h)
set_option maxRecDepth 4000 in
theorem w_X2_ask_92 (x4 : Int) {σ : Mem} {K : Mem → Prop} (h : R32 x4 ∧ R32 (σ 13 12) ∧ (((σ 13 12) ≤ x4 → K σ) ∧ (¬ (σ 13 12) ≤ x4 → (0 ≤ x4 ∧ x4 < 230) ∧ R32 (σ 18 (x4).toNat) ∧ (((σ 18 (x4).toNat) = 0 → TT m_X2_ask 197 [vR 13, vU, vU, vU, vI x4, vI (σ 18 (x4).toNat)] [] σ (PN K)) ∧ (¬ (σ 18 (x4).toNat) = 0 → R32 (σ 22 (x4).toNat) ∧ (((σ 22 (x4).toNat) = 0 → TT m_X2_ask 153 [vR 13, vU, vU, vU, vI x4, vI (σ 18 (x4).toNat)] [vI 0, vI (σ 18 (x4).toNat), vR 22] σ (PN K)) ∧ (¬ (σ 22 (x4).toNat) = 0 → CC m_X0_touch [vR 16, vI (σ 18 (x4).toNat), vR 27, vI 0] σ (PZ (fun s33 => TT m_X2_ask 153 [vR 13, vU, vU, vU, vI x4, vI (σ 18 (x4).toNat)] [vI 1, vI (σ 18 (x4).toNat), vR 22] s33 (PN K)) (fun s34 => TT m_X2_ask 153 [vR 13, vU, vU, vU, vI x4, vI (σ 18 (x4).toNat)] [vI 0, vI (σ 18 (x4).toNat), vR 22] s34 (PN K)))))))))) : TT m_X2_ask 92 [vR 13, vU, vU, vU, vI x4, vU] [] σ (PN K) := by
  refine TT_iload dX2_ask_92 rfl ?_
  refine TT_aload_n dX2_ask_94 rfl ?_
  refine TT_getI dX2_ask_95 fd_X2_56 (by decide) (Or.inl rfl) (by decide) rfl ?_
  obtain ⟨o24, h⟩ := h
  obtain ⟨o25, h⟩ := h
  refine TT_icmp_ge (tgt := 247) dX2_ask_98 rfl o24 o25 (fun c26 => ?_) (fun c26 => ?_)
  · replace h := h.1 c26
    exact TT_vret dX2_ask_247 rfl rfl h
  · replace h := h.2 c26
    refine TT_aload_n dX2_ask_101 rfl ?_
    refine TT_getR (r := 18) dX2_ask_102 fd_X2_23 (by decide) rfl (by decide) rfl rfl ?_
    refine TT_iload dX2_ask_105 rfl ?_
    obtain ⟨o27, h⟩ := h
    refine TT_iald dX2_ask_107 (by decide) rfl (by decide) o27 ?_
    refine TT_istore dX2_ask_108 (Nat.le_of_ble_eq_true rfl) rfl rfl ?_
    refine TT_iload dX2_ask_110 rfl ?_
    obtain ⟨o28, h⟩ := h
    refine TT_if_eq (tgt := 197) dX2_ask_112 rfl o28 (fun c29 => ?_) (fun c29 => ?_)
    · replace h := h.1 c29
      exact h
    · replace h := h.2 c29
      refine TT_aload_n dX2_ask_115 rfl ?_
      refine TT_getR (r := 22) dX2_ask_116 fd_X2_36 (by decide) rfl (by decide) rfl rfl ?_
      refine TT_iload dX2_ask_119 rfl ?_
      refine TT_aload_n dX2_ask_121 rfl ?_
      refine TT_getR (r := 22) dX2_ask_122 fd_X2_36 (by decide) rfl (by decide) rfl rfl ?_
      refine TT_iload dX2_ask_125 rfl ?_
      refine TT_zald dX2_ask_127 (by decide) rfl (by decide) o27 ?_
      obtain ⟨o30, h⟩ := h
      refine TT_if_eq (tgt := 152) dX2_ask_128 rfl o30 (fun c31 => ?_) (fun c31 => ?_)
      · replace h := h.1 c31
        refine TT_iconst dX2_ask_152 ?_
        exact h
      · replace h := h.2 c31
        refine TT_aload_n dX2_ask_131 rfl ?_
        refine TT_getR (r := 16) dX2_ask_132 fd_X2_20 (by decide) rfl (by decide) rfl rfl ?_
        refine TT_iload dX2_ask_135 rfl ?_
        refine TT_aload_n dX2_ask_137 rfl ?_
        refine TT_getR (r := 27) dX2_ask_138 fd_X2_49 (by decide) rfl (by decide) rfl rfl ?_
        refine TT_iconst dX2_ask_141 ?_
        refine TT_callVZ (M' := m_X0_touch) (as := [vI (σ 18 (x4).toNat), vR 27, vI 0]) (rest := [vI (σ 18 (x4).toNat), vR 22]) dX2_ask_142 mo_X0_touch ml_X2_154 im_X0_touch se_X0_touch (Nat.le_of_ble_eq_true rfl) (Nat.le_of_ble_eq_true rfl) ⟨rfl, rfl, rfl⟩ rfl rfl (Nat.le_of_ble_eq_true rfl) (by decide) rfl rfl (by decide) h (fun s33 h => ?_) (fun s34 h => ?_)
        · refine TT_if_eq (tgt := 152) dX2_ask_145 rfl (by decide) (fun c35 => absurd c35 (by decide)) (fun c35 => ?_)
          refine TT_iconst dX2_ask_148 ?_
          refine TT_goto (tgt := 153) dX2_ask_149 rfl ?_
          exact h
        · refine TT_if_eq (tgt := 152) dX2_ask_145 rfl (by decide) (fun c36 => ?_) (fun c36 => absurd c36 (by decide))
          refine TT_iconst dX2_ask_152 ?_
          exact h
set_option maxRecDepth 4000 in
theorem w_X2_ask_197 (x4 : Int) (x5 : Int) {σ : Mem} {K : Mem → Prop} (h : (0 ≤ x4 ∧ x4 < 230) ∧ R32 (σ 22 (x4).toNat) ∧ (((σ 22 (x4).toNat) = 0 → TT m_X2_ask 92 [vR 13, vU, vU, vU, vI (x4 + 1), vU] [] σ (PN K)) ∧ (¬ (σ 22 (x4).toNat) = 0 → (∀ s40 : Mem, s40 = up σ 13 13 ((σ 13 13) + 1) → R32 x5 ∧ ((¬ x5 = 0 → (∀ s44 : Mem, s44 = up s40 13 14 ((s40 13 14) + 0) → TT m_X2_ask 92 [vR 13, vU, vU, vU, vI (x4 + 1), vU] [] s44 (PN K))) ∧ (x5 = 0 → CC m_X2_touchedIn [vR 13, vI x4] s40 (PI (fun y46 s47 => (∀ s48 : Mem, s48 = up s47 13 14 ((s40 13 14) + y46) → TT m_X2_ask 92 [vR 13, vU, vU, vU, vI (x4 + 1), vU] [] s48 (PN K)))))))))) : TT m_X2_ask 197 [vR 13, vU, vU, vU, vI x4, vI x5] [] σ (PN K) := by
  refine TT_aload_n dX2_ask_197 rfl ?_
  refine TT_getR (r := 22) dX2_ask_198 fd_X2_36 (by decide) rfl (by decide) rfl rfl ?_
  refine TT_iload dX2_ask_201 rfl ?_
  obtain ⟨o37, h⟩ := h
  refine TT_zald dX2_ask_203 (by decide) rfl (by decide) o37 ?_
  obtain ⟨o38, h⟩ := h
  refine TT_if_eq (tgt := 241) dX2_ask_204 rfl o38 (fun c39 => ?_) (fun c39 => ?_)
  · replace h := h.1 c39
    refine TT_iinc dX2_ask_241 (Nat.le_of_ble_eq_true rfl) rfl rfl rfl ?_
    refine TT_goto (tgt := 92) dX2_ask_244 rfl ?_
    refine TT_kill 5 rfl ?_
    exact h
  · replace h := h.2 c39
    refine TT_aload_n dX2_ask_207 rfl ?_
    refine TT_dup dX2_ask_208 rfl ?_
    refine TT_getI dX2_ask_209 fd_X2_59 (by decide) (Or.inl rfl) (by decide) rfl ?_
    refine TT_iconst dX2_ask_212 ?_
    refine TT_iadd dX2_ask_213 ?_
    refine TT_putI dX2_ask_214 fd_X2_59 (by decide) rfl (by decide) rfl ?_
    refine TT_nmM (fun s40 e41 => ?_)
    replace h := h s40 e41
    refine TT_aload_n dX2_ask_217 rfl ?_
    refine TT_dup dX2_ask_218 rfl ?_
    refine TT_getI dX2_ask_219 fd_X2_62 (by decide) (Or.inl rfl) (by decide) rfl ?_
    refine TT_iload dX2_ask_222 rfl ?_
    obtain ⟨o42, h⟩ := h
    refine TT_if_ne (tgt := 236) dX2_ask_224 rfl o42 (fun c43 => ?_) (fun c43 => ?_)
    · replace h := h.1 c43
      refine TT_iconst dX2_ask_236 ?_
      refine TT_iadd dX2_ask_237 ?_
      refine TT_putI dX2_ask_238 fd_X2_62 (by decide) rfl (by decide) rfl ?_
      refine TT_nmM (fun s44 e45 => ?_)
      replace h := h s44 e45
      refine TT_iinc dX2_ask_241 (Nat.le_of_ble_eq_true rfl) rfl rfl rfl ?_
      refine TT_goto (tgt := 92) dX2_ask_244 rfl ?_
      refine TT_kill 5 rfl ?_
      exact h
    · replace h := h.2 c43
      refine TT_aload_n dX2_ask_227 rfl ?_
      refine TT_iload dX2_ask_228 rfl ?_
      refine TT_callVI (M' := m_X2_touchedIn) (as := [vI x4]) (rest := [vI (s40 13 14), vR 13]) dX2_ask_230 mo_X2_touchedIn ml_X2_158 im_X2_touchedIn se_X2_touchedIn (Nat.le_of_ble_eq_true rfl) (Nat.le_of_ble_eq_true rfl) ⟨rfl, rfl, rfl⟩ rfl rfl (Nat.le_of_ble_eq_true rfl) (by decide) rfl rfl (by decide) h (fun y46 s47 h => ?_)
      refine TT_goto (tgt := 237) dX2_ask_233 rfl ?_
      refine TT_iadd dX2_ask_237 ?_
      refine TT_putI dX2_ask_238 fd_X2_62 (by decide) rfl (by decide) rfl ?_
      refine TT_nmM (fun s48 e49 => ?_)
      replace h := h s48 e49
      refine TT_iinc dX2_ask_241 (Nat.le_of_ble_eq_true rfl) rfl rfl rfl ?_
      refine TT_goto (tgt := 92) dX2_ask_244 rfl ?_
      refine TT_kill 5 rfl ?_
      exact h
set_option maxRecDepth 4000 in
theorem w_X2_ask_153 (x4 : Int) (x5 : Int) (w1 : Int) (w2 : Int) {σ : Mem} {K : Mem → Prop} (h : (0 ≤ w1 ∧ w1 < 230) ∧ (w2 = 0 ∨ w2 = 1) ∧ (∀ s52 : Mem, s52 = up σ 22 (w1).toNat w2 → (0 ≤ x4 ∧ x4 < 230) ∧ R32 (s52 22 (x4).toNat) ∧ (((s52 22 (x4).toNat) = 0 → TT m_X2_ask 196 [vR 13, vU, vU, vU, vI x4, vI x5] [vI 0, vI (x5 + 1), vR 22] s52 (PN K)) ∧ (¬ (s52 22 (x4).toNat) = 0 → CC m_X0_touch [vR 16, vI (x5 + 1), vR 27, vI 0] s52 (PZ (fun s58 => TT m_X2_ask 196 [vR 13, vU, vU, vU, vI x4, vI x5] [vI 1, vI (x5 + 1), vR 22] s58 (PN K)) (fun s59 => TT m_X2_ask 196 [vR 13, vU, vU, vU, vI x4, vI x5] [vI 0, vI (x5 + 1), vR 22] s59 (PN K))))))) : TT m_X2_ask 153 [vR 13, vU, vU, vU, vI x4, vI x5] [vI w2, vI w1, vR 22] σ (PN K) := by
  obtain ⟨o50, h⟩ := h
  obtain ⟨o51, h⟩ := h
  refine TT_zast dX2_ask_153 o51 (by decide) rfl (by decide) o50 ?_
  refine TT_nmM (fun s52 e53 => ?_)
  replace h := h s52 e53
  refine TT_aload_n dX2_ask_154 rfl ?_
  refine TT_getR (r := 22) dX2_ask_155 fd_X2_36 (by decide) rfl (by decide) rfl rfl ?_
  refine TT_iload dX2_ask_158 rfl ?_
  refine TT_iconst dX2_ask_160 ?_
  refine TT_iadd dX2_ask_161 ?_
  refine TT_aload_n dX2_ask_162 rfl ?_
  refine TT_getR (r := 22) dX2_ask_163 fd_X2_36 (by decide) rfl (by decide) rfl rfl ?_
  refine TT_iload dX2_ask_166 rfl ?_
  obtain ⟨o54, h⟩ := h
  refine TT_zald dX2_ask_168 (by decide) rfl (by decide) o54 ?_
  obtain ⟨o55, h⟩ := h
  refine TT_if_eq (tgt := 195) dX2_ask_169 rfl o55 (fun c56 => ?_) (fun c56 => ?_)
  · replace h := h.1 c56
    refine TT_iconst dX2_ask_195 ?_
    exact h
  · replace h := h.2 c56
    refine TT_aload_n dX2_ask_172 rfl ?_
    refine TT_getR (r := 16) dX2_ask_173 fd_X2_20 (by decide) rfl (by decide) rfl rfl ?_
    refine TT_iload dX2_ask_176 rfl ?_
    refine TT_iconst dX2_ask_178 ?_
    refine TT_iadd dX2_ask_179 ?_
    refine TT_aload_n dX2_ask_180 rfl ?_
    refine TT_getR (r := 27) dX2_ask_181 fd_X2_49 (by decide) rfl (by decide) rfl rfl ?_
    refine TT_iconst dX2_ask_184 ?_
    refine TT_callVZ (M' := m_X0_touch) (as := [vI (x5 + 1), vR 27, vI 0]) (rest := [vI (x5 + 1), vR 22]) dX2_ask_185 mo_X0_touch ml_X2_154 im_X0_touch se_X0_touch (Nat.le_of_ble_eq_true rfl) (Nat.le_of_ble_eq_true rfl) ⟨rfl, rfl, rfl⟩ rfl rfl (Nat.le_of_ble_eq_true rfl) (by decide) rfl rfl (by decide) h (fun s58 h => ?_) (fun s59 h => ?_)
    · refine TT_if_eq (tgt := 195) dX2_ask_188 rfl (by decide) (fun c60 => absurd c60 (by decide)) (fun c60 => ?_)
      refine TT_iconst dX2_ask_191 ?_
      refine TT_goto (tgt := 196) dX2_ask_192 rfl ?_
      exact h
    · refine TT_if_eq (tgt := 195) dX2_ask_188 rfl (by decide) (fun c61 => ?_) (fun c61 => absurd c61 (by decide))
      refine TT_iconst dX2_ask_195 ?_
      exact h
set_option maxRecDepth 4000 in
theorem w_X2_ask_196 (x4 : Int) (x5 : Int) (w1 : Int) (w2 : Int) {σ : Mem} {K : Mem → Prop} (h : (0 ≤ w1 ∧ w1 < 230) ∧ (w2 = 0 ∨ w2 = 1) ∧ (∀ s64 : Mem, s64 = up σ 22 (w1).toNat w2 → TT m_X2_ask 197 [vR 13, vU, vU, vU, vI x4, vI x5] [] s64 (PN K))) : TT m_X2_ask 196 [vR 13, vU, vU, vU, vI x4, vI x5] [vI w2, vI w1, vR 22] σ (PN K) := by
  obtain ⟨o62, h⟩ := h
  obtain ⟨o63, h⟩ := h
  refine TT_zast dX2_ask_196 o63 (by decide) rfl (by decide) o62 ?_
  refine TT_nmM (fun s64 e65 => ?_)
  replace h := h s64 e65
  exact h
set_option maxRecDepth 4000 in
theorem w_X2_touchedIn_0 (x1 : Int) {σ : Mem} {K : Int → Mem → Prop} (h : TT m_X2_touchedIn 4 [vR 13, vI x1, vI 0, vI 0] [] σ (PI K)) : TT m_X2_touchedIn 0 [vR 13, vI x1, vU, vU] [] σ (PI K) := by
  refine TT_iconst dX2_touchedIn_0 ?_
  refine TT_istore_n dX2_touchedIn_1 (Nat.le_of_ble_eq_true rfl) rfl rfl ?_
  refine TT_iconst dX2_touchedIn_2 ?_
  refine TT_istore_n dX2_touchedIn_3 (Nat.le_of_ble_eq_true rfl) rfl rfl ?_
  exact h
theorem e_X2_touchedIn (x1 : Int) {σ : Mem} {K : Int → Mem → Prop} (h : TT m_X2_touchedIn 4 [vR 13, vI x1, vI 0, vI 0] [] σ (PI K)) : CC m_X2_touchedIn [vR 13, vI x1] σ (PI K) := CC_of (by decide) rfl rfl rfl (Nat.le_of_ble_eq_true rfl) (w_X2_touchedIn_0 x1 h)
set_option maxRecDepth 4000 in
theorem w_X2_touchedIn_4 (x1 : Int) (x2 : Int) (x3 : Int) {σ : Mem} {K : Int → Mem → Prop} (h : (0 ≤ x1 ∧ x1 < 230) ∧ R32 x3 ∧ R32 (σ 20 (x1).toNat) ∧ (((σ 20 (x1).toNat) ≤ x3 → K x2 σ) ∧ (¬ (σ 20 (x1).toNat) ≤ x3 → (0 ≤ ((x1 * 5) + x3) ∧ ((x1 * 5) + x3) < 1150) ∧ CC m_X0_touch [vR 14, vI (σ 19 ((x1 * 5) + x3).toNat), vR 27, vI 0] σ (PZ (fun s7 => TT m_X2_touchedIn 4 [vR 13, vI x1, vI (x2 + 1), vI (x3 + 1)] [] s7 (PI K)) (fun s8 => TT m_X2_touchedIn 4 [vR 13, vI x1, vI x2, vI (x3 + 1)] [] s8 (PI K)))))) : TT m_X2_touchedIn 4 [vR 13, vI x1, vI x2, vI x3] [] σ (PI K) := by
  refine TT_iload_n dX2_touchedIn_4 rfl ?_
  refine TT_aload_n dX2_touchedIn_5 rfl ?_
  refine TT_getR (r := 20) dX2_touchedIn_6 fd_X2_30 (by decide) rfl (by decide) rfl rfl ?_
  refine TT_iload_n dX2_touchedIn_9 rfl ?_
  obtain ⟨o1, h⟩ := h
  refine TT_iald dX2_touchedIn_10 (by decide) rfl (by decide) o1 ?_
  obtain ⟨o2, h⟩ := h
  obtain ⟨o3, h⟩ := h
  refine TT_icmp_ge (tgt := 48) dX2_touchedIn_11 rfl o2 o3 (fun c4 => ?_) (fun c4 => ?_)
  · replace h := h.1 c4
    refine TT_iload_n dX2_touchedIn_48 rfl ?_
    exact TT_iret dX2_touchedIn_49 rfl rfl h
  · replace h := h.2 c4
    refine TT_aload_n dX2_touchedIn_14 rfl ?_
    refine TT_getR (r := 14) dX2_touchedIn_15 fd_X2_16 (by decide) rfl (by decide) rfl rfl ?_
    refine TT_aload_n dX2_touchedIn_18 rfl ?_
    refine TT_getR (r := 19) dX2_touchedIn_19 fd_X2_27 (by decide) rfl (by decide) rfl rfl ?_
    refine TT_iload_n dX2_touchedIn_22 rfl ?_
    refine TT_iconst dX2_touchedIn_23 ?_
    refine TT_imul dX2_touchedIn_24 ?_
    refine TT_iload_n dX2_touchedIn_25 rfl ?_
    refine TT_iadd dX2_touchedIn_26 ?_
    obtain ⟨o5, h⟩ := h
    refine TT_iald dX2_touchedIn_27 (by decide) rfl (by decide) o5 ?_
    refine TT_aload_n dX2_touchedIn_28 rfl ?_
    refine TT_getR (r := 27) dX2_touchedIn_29 fd_X2_49 (by decide) rfl (by decide) rfl rfl ?_
    refine TT_iconst dX2_touchedIn_32 ?_
    refine TT_callVZ (M' := m_X0_touch) (as := [vI (σ 19 ((x1 * 5) + x3).toNat), vR 27, vI 0]) (rest := []) dX2_touchedIn_33 mo_X0_touch ml_X2_154 im_X0_touch se_X0_touch (Nat.le_of_ble_eq_true rfl) (Nat.le_of_ble_eq_true rfl) ⟨rfl, rfl, rfl⟩ rfl rfl (Nat.le_of_ble_eq_true rfl) (by decide) rfl rfl (by decide) h (fun s7 h => ?_) (fun s8 h => ?_)
    · refine TT_if_eq (tgt := 42) dX2_touchedIn_36 rfl (by decide) (fun c9 => absurd c9 (by decide)) (fun c9 => ?_)
      refine TT_iinc dX2_touchedIn_39 (Nat.le_of_ble_eq_true rfl) rfl rfl rfl ?_
      refine TT_iinc dX2_touchedIn_42 (Nat.le_of_ble_eq_true rfl) rfl rfl rfl ?_
      refine TT_goto (tgt := 4) dX2_touchedIn_45 rfl ?_
      exact h
    · refine TT_if_eq (tgt := 42) dX2_touchedIn_36 rfl (by decide) (fun c10 => ?_) (fun c10 => absurd c10 (by decide))
      refine TT_iinc dX2_touchedIn_42 (Nat.le_of_ble_eq_true rfl) rfl rfl rfl ?_
      refine TT_goto (tgt := 4) dX2_touchedIn_45 rfl ?_
      exact h
set_option maxRecDepth 4000 in
theorem w_X3_set_0 (r0 : Nat) (hr0 : isP r0) (x1 : Int) (x2 : Int) (x3 : Int) (x4 : Int) {σ : Mem} {K : Mem → Prop} (h : (∀ s1 : Mem, s1 = up σ r0 0 x1 → (∀ s3 : Mem, s3 = up s1 r0 1 x2 → (∀ s5 : Mem, s5 = up s3 r0 2 x3 → (∀ s7 : Mem, s7 = up s5 r0 3 x4 → K s7))))) : TT m_X3_set 0 [vR r0, vI x1, vI x2, vI x3, vI x4] [] σ (PN K) := by
  refine TT_aload_n dX3_set_0 rfl ?_
  refine TT_iload_n dX3_set_1 rfl ?_
  refine TT_putI dX3_set_2 fd_X3_7 (by decide) rfl (ltP hr0) (shP hr0) ?_
  refine TT_nmM (fun s1 e2 => ?_)
  replace h := h s1 e2
  refine TT_aload_n dX3_set_5 rfl ?_
  refine TT_iload_n dX3_set_6 rfl ?_
  refine TT_putI dX3_set_7 fd_X3_13 (by decide) rfl (ltP hr0) (shP hr0) ?_
  refine TT_nmM (fun s3 e4 => ?_)
  replace h := h s3 e4
  refine TT_aload_n dX3_set_10 rfl ?_
  refine TT_iload_n dX3_set_11 rfl ?_
  refine TT_putI dX3_set_12 fd_X3_16 (by decide) rfl (ltP hr0) (shP hr0) ?_
  refine TT_nmM (fun s5 e6 => ?_)
  replace h := h s5 e6
  refine TT_aload_n dX3_set_15 rfl ?_
  refine TT_iload dX3_set_16 rfl ?_
  refine TT_putI dX3_set_18 fd_X3_19 (by decide) rfl (ltP hr0) (shP hr0) ?_
  refine TT_nmM (fun s7 e8 => ?_)
  replace h := h s7 e8
  exact TT_vret dX3_set_21 rfl rfl h
theorem e_X3_set (r0 : Nat) (hr0 : isP r0) (x1 : Int) (x2 : Int) (x3 : Int) (x4 : Int) {σ : Mem} {K : Mem → Prop} (h : (∀ s1 : Mem, s1 = up σ r0 0 x1 → (∀ s3 : Mem, s3 = up s1 r0 1 x2 → (∀ s5 : Mem, s5 = up s3 r0 2 x3 → (∀ s7 : Mem, s7 = up s5 r0 3 x4 → K s7))))) : CC m_X3_set [vR r0, vI x1, vI x2, vI x3, vI x4] σ (PN K) := CC_of (by decide) rfl rfl rfl (Nat.le_of_ble_eq_true rfl) (w_X3_set_0 r0 hr0 x1 x2 x3 x4 h)
set_option maxRecDepth 4000 in
theorem w_X3_holds_0 (r0 : Nat) (hr0 : isP r0) (r1 : Nat) (hr1 : isO r1) {σ : Mem} {A B : Mem → Prop} (h : R32 ((σ r0 0) * (σ r1 2)) ∧ R32 (σ r1 0) ∧ (((σ r1 0) < ((σ r0 0) * (σ r1 2)) → B σ) ∧ (¬ (σ r1 0) < ((σ r0 0) * (σ r1 2)) → R32 ((σ r0 1) * (σ r1 2)) ∧ ((((σ r0 1) * (σ r1 2)) < (σ r1 0) → B σ) ∧ (¬ ((σ r0 1) * (σ r1 2)) < (σ r1 0) → R32 ((σ r0 2) * (σ r1 2)) ∧ R32 (σ r1 1) ∧ (((σ r1 1) < ((σ r0 2) * (σ r1 2)) → B σ) ∧ (¬ (σ r1 1) < ((σ r0 2) * (σ r1 2)) → R32 ((σ r0 3) * (σ r1 2)) ∧ ((((σ r0 3) * (σ r1 2)) < (σ r1 1) → B σ) ∧ (¬ ((σ r0 3) * (σ r1 2)) < (σ r1 1) → A σ))))))))) : TT m_X3_holds 0 [vR r0, vR r1] [] σ (PZ A B) := by
  refine TT_aload_n dX3_holds_0 rfl ?_
  refine TT_getI dX3_holds_1 fd_X3_7 (by decide) (Or.inl rfl) (ltP hr0) (shP hr0) ?_
  refine TT_aload_n dX3_holds_4 rfl ?_
  refine TT_getI dX3_holds_5 fd_X3_22 (by decide) (Or.inl rfl) (ltO hr1) (shO hr1) ?_
  refine TT_imul dX3_holds_8 ?_
  refine TT_aload_n dX3_holds_9 rfl ?_
  refine TT_getI dX3_holds_10 fd_X3_27 (by decide) (Or.inl rfl) (ltO hr1) (shO hr1) ?_
  obtain ⟨o1, h⟩ := h
  obtain ⟨o2, h⟩ := h
  refine TT_icmp_gt (tgt := 68) dX3_holds_13 rfl o1 o2 (fun c3 => ?_) (fun c3 => ?_)
  · replace h := h.1 c3
    refine TT_iconst dX3_holds_68 ?_
    exact TT_z0 dX3_holds_69 rfl rfl h
  · replace h := h.2 c3
    refine TT_aload_n dX3_holds_16 rfl ?_
    refine TT_getI dX3_holds_17 fd_X3_27 (by decide) (Or.inl rfl) (ltO hr1) (shO hr1) ?_
    refine TT_aload_n dX3_holds_20 rfl ?_
    refine TT_getI dX3_holds_21 fd_X3_13 (by decide) (Or.inl rfl) (ltP hr0) (shP hr0) ?_
    refine TT_aload_n dX3_holds_24 rfl ?_
    refine TT_getI dX3_holds_25 fd_X3_22 (by decide) (Or.inl rfl) (ltO hr1) (shO hr1) ?_
    refine TT_imul dX3_holds_28 ?_
    obtain ⟨o4, h⟩ := h
    refine TT_icmp_gt (tgt := 68) dX3_holds_29 rfl o2 o4 (fun c5 => ?_) (fun c5 => ?_)
    · replace h := h.1 c5
      refine TT_iconst dX3_holds_68 ?_
      exact TT_z0 dX3_holds_69 rfl rfl h
    · replace h := h.2 c5
      refine TT_aload_n dX3_holds_32 rfl ?_
      refine TT_getI dX3_holds_33 fd_X3_16 (by decide) (Or.inl rfl) (ltP hr0) (shP hr0) ?_
      refine TT_aload_n dX3_holds_36 rfl ?_
      refine TT_getI dX3_holds_37 fd_X3_22 (by decide) (Or.inl rfl) (ltO hr1) (shO hr1) ?_
      refine TT_imul dX3_holds_40 ?_
      refine TT_aload_n dX3_holds_41 rfl ?_
      refine TT_getI dX3_holds_42 fd_X3_30 (by decide) (Or.inl rfl) (ltO hr1) (shO hr1) ?_
      obtain ⟨o6, h⟩ := h
      obtain ⟨o7, h⟩ := h
      refine TT_icmp_gt (tgt := 68) dX3_holds_45 rfl o6 o7 (fun c8 => ?_) (fun c8 => ?_)
      · replace h := h.1 c8
        refine TT_iconst dX3_holds_68 ?_
        exact TT_z0 dX3_holds_69 rfl rfl h
      · replace h := h.2 c8
        refine TT_aload_n dX3_holds_48 rfl ?_
        refine TT_getI dX3_holds_49 fd_X3_30 (by decide) (Or.inl rfl) (ltO hr1) (shO hr1) ?_
        refine TT_aload_n dX3_holds_52 rfl ?_
        refine TT_getI dX3_holds_53 fd_X3_19 (by decide) (Or.inl rfl) (ltP hr0) (shP hr0) ?_
        refine TT_aload_n dX3_holds_56 rfl ?_
        refine TT_getI dX3_holds_57 fd_X3_22 (by decide) (Or.inl rfl) (ltO hr1) (shO hr1) ?_
        refine TT_imul dX3_holds_60 ?_
        obtain ⟨o9, h⟩ := h
        refine TT_icmp_gt (tgt := 68) dX3_holds_61 rfl o7 o9 (fun c10 => ?_) (fun c10 => ?_)
        · replace h := h.1 c10
          refine TT_iconst dX3_holds_68 ?_
          exact TT_z0 dX3_holds_69 rfl rfl h
        · replace h := h.2 c10
          refine TT_iconst dX3_holds_64 ?_
          refine TT_goto (tgt := 69) dX3_holds_65 rfl ?_
          exact TT_z1 dX3_holds_69 rfl rfl h
theorem e_X3_holds (r0 : Nat) (hr0 : isP r0) (r1 : Nat) (hr1 : isO r1) {σ : Mem} {A B : Mem → Prop} (h : R32 ((σ r0 0) * (σ r1 2)) ∧ R32 (σ r1 0) ∧ (((σ r1 0) < ((σ r0 0) * (σ r1 2)) → B σ) ∧ (¬ (σ r1 0) < ((σ r0 0) * (σ r1 2)) → R32 ((σ r0 1) * (σ r1 2)) ∧ ((((σ r0 1) * (σ r1 2)) < (σ r1 0) → B σ) ∧ (¬ ((σ r0 1) * (σ r1 2)) < (σ r1 0) → R32 ((σ r0 2) * (σ r1 2)) ∧ R32 (σ r1 1) ∧ (((σ r1 1) < ((σ r0 2) * (σ r1 2)) → B σ) ∧ (¬ (σ r1 1) < ((σ r0 2) * (σ r1 2)) → R32 ((σ r0 3) * (σ r1 2)) ∧ ((((σ r0 3) * (σ r1 2)) < (σ r1 1) → B σ) ∧ (¬ ((σ r0 3) * (σ r1 2)) < (σ r1 1) → A σ))))))))) : CC m_X3_holds [vR r0, vR r1] σ (PZ A B) := CC_of (by decide) rfl rfl rfl (Nat.le_of_ble_eq_true rfl) (w_X3_holds_0 r0 hr0 r1 hr1 h)
set_option maxRecDepth 4000 in
theorem w_X4_clear_0  {σ : Mem} {K : Mem → Prop} (h : (∀ s1 : Mem, s1 = up σ 9 3 0 → K s1)) : TT m_X4_clear 0 [vR 9] [] σ (PN K) := by
  refine TT_aload_n dX4_clear_0 rfl ?_
  refine TT_iconst dX4_clear_1 ?_
  refine TT_putI dX4_clear_2 fd_X4_22 (by decide) rfl (by decide) rfl ?_
  refine TT_nmM (fun s1 e2 => ?_)
  replace h := h s1 e2
  exact TT_vret dX4_clear_5 rfl rfl h
theorem e_X4_clear  {σ : Mem} {K : Mem → Prop} (h : (∀ s1 : Mem, s1 = up σ 9 3 0 → K s1)) : CC m_X4_clear [vR 9] σ (PN K) := CC_of (by decide) rfl rfl rfl (Nat.le_of_ble_eq_true rfl) (w_X4_clear_0  h)
set_option maxRecDepth 4000 in
theorem w_X4_put_0 (x1 : Int) (x2 : Int) (x4 : Int) {σ : Mem} {K : Mem → Prop} (h : R32 (σ 9 3) ∧ (((σ 9 3) < 10 → TT m_X4_put 16 [vR 9, vI x1, vL x2, vU, vL x4, vU, vI (σ 9 3)] [] σ (PN K)) ∧ (¬ (σ 9 3) < 10 → K σ))) : TT m_X4_put 0 [vR 9, vI x1, vL x2, vU, vL x4, vU, vU] [] σ (PN K) := by
  refine TT_aload_n dX4_put_0 rfl ?_
  refine TT_getI dX4_put_1 fd_X4_22 (by decide) (Or.inl rfl) (by decide) rfl ?_
  refine TT_bipush dX4_put_4 (by decide) ?_
  obtain ⟨o1, h⟩ := h
  refine TT_icmp_lt (tgt := 10) dX4_put_6 rfl o1 (by decide) (fun c2 => ?_) (fun c2 => ?_)
  · replace h := h.1 c2
    refine TT_aload_n dX4_put_10 rfl ?_
    refine TT_getI dX4_put_11 fd_X4_22 (by decide) (Or.inl rfl) (by decide) rfl ?_
    refine TT_istore dX4_put_14 (Nat.le_of_ble_eq_true rfl) rfl rfl ?_
    exact h
  · replace h := h.2 c2
    exact TT_vret dX4_put_9 rfl rfl h
theorem e_X4_put (x1 : Int) (x2 : Int) (x4 : Int) {σ : Mem} {K : Mem → Prop} (h : R32 (σ 9 3) ∧ (((σ 9 3) < 10 → TT m_X4_put 16 [vR 9, vI x1, vL x2, vU, vL x4, vU, vI (σ 9 3)] [] σ (PN K)) ∧ (¬ (σ 9 3) < 10 → K σ))) : CC m_X4_put [vR 9, vI x1, vL x2, vL x4] σ (PN K) := CC_of (by decide) rfl rfl rfl (Nat.le_of_ble_eq_true rfl) (w_X4_put_0 x1 x2 x4 h)
set_option maxRecDepth 4000 in
theorem w_X4_put_16 (x1 : Int) (x2 : Int) (x4 : Int) (x6 : Int) {σ : Mem} {K : Mem → Prop} (h : R32 x6 ∧ ((x6 ≤ 0 → TT m_X4_put 102 [vR 9, vI x1, vL x2, vU, vL x4, vU, vI x6] [] σ (PN K)) ∧ (¬ x6 ≤ 0 → (0 ≤ (x6 - 1) ∧ (x6 - 1) < 10) ∧ R64 (x2 * (σ 12 (x6 - 1).toNat)) ∧ R64 ((σ 11 (x6 - 1).toNat) * x4) ∧ ((((σ 11 (x6 - 1).toNat) * x4) ≤ (x2 * (σ 12 (x6 - 1).toNat)) → TT m_X4_put 102 [vR 9, vI x1, vL x2, vU, vL x4, vU, vI x6] [] σ (PN K)) ∧ (¬ ((σ 11 (x6 - 1).toNat) * x4) ≤ (x2 * (σ 12 (x6 - 1).toNat)) → (0 ≤ x6 ∧ x6 < 10) ∧ (∀ s10 : Mem, s10 = up σ 10 (x6).toNat (σ 10 (x6 - 1).toNat) → (∀ s12 : Mem, s12 = up s10 11 (x6).toNat (s10 11 (x6 - 1).toNat) → (∀ s14 : Mem, s14 = up s12 12 (x6).toNat (s12 12 (x6 - 1).toNat) → TT m_X4_put 16 [vR 9, vI x1, vL x2, vU, vL x4, vU, vI (x6 + (-1))] [] s14 (PN K))))))))) : TT m_X4_put 16 [vR 9, vI x1, vL x2, vU, vL x4, vU, vI x6] [] σ (PN K) := by
  refine TT_iload dX4_put_16 rfl ?_
  obtain ⟨o3, h⟩ := h
  refine TT_if_le (tgt := 102) dX4_put_18 rfl o3 (fun c4 => ?_) (fun c4 => ?_)
  · replace h := h.1 c4
    exact h
  · replace h := h.2 c4
    refine TT_lload_n dX4_put_21 rfl ?_
    refine TT_aload_n dX4_put_22 rfl ?_
    refine TT_getR (r := 12) dX4_put_23 fd_X4_19 (by decide) rfl (by decide) rfl rfl ?_
    refine TT_iload dX4_put_26 rfl ?_
    refine TT_iconst dX4_put_28 ?_
    refine TT_isub dX4_put_29 ?_
    obtain ⟨o5, h⟩ := h
    refine TT_lald dX4_put_30 (by decide) rfl (by decide) o5 ?_
    refine TT_lmul dX4_put_31 ?_
    refine TT_aload_n dX4_put_32 rfl ?_
    refine TT_getR (r := 11) dX4_put_33 fd_X4_15 (by decide) rfl (by decide) rfl rfl ?_
    refine TT_iload dX4_put_36 rfl ?_
    refine TT_iconst dX4_put_38 ?_
    refine TT_isub dX4_put_39 ?_
    refine TT_lald dX4_put_40 (by decide) rfl (by decide) o5 ?_
    refine TT_lload dX4_put_41 rfl ?_
    refine TT_lmul dX4_put_43 ?_
    obtain ⟨o6, h⟩ := h
    obtain ⟨o7, h⟩ := h
    refine TT_lc_ge (tgt := 102) dX4_put_44 dX4_put_45 rfl o6 o7 (fun c8 => ?_) (fun c8 => ?_)
    · replace h := h.1 c8
      exact h
    · replace h := h.2 c8
      refine TT_aload_n dX4_put_48 rfl ?_
      refine TT_getR (r := 10) dX4_put_49 fd_X4_9 (by decide) rfl (by decide) rfl rfl ?_
      refine TT_iload dX4_put_52 rfl ?_
      refine TT_aload_n dX4_put_54 rfl ?_
      refine TT_getR (r := 10) dX4_put_55 fd_X4_9 (by decide) rfl (by decide) rfl rfl ?_
      refine TT_iload dX4_put_58 rfl ?_
      refine TT_iconst dX4_put_60 ?_
      refine TT_isub dX4_put_61 ?_
      refine TT_iald dX4_put_62 (by decide) rfl (by decide) o5 ?_
      obtain ⟨o9, h⟩ := h
      refine TT_iast dX4_put_63 (by decide) rfl (by decide) o9 ?_
      refine TT_nmM (fun s10 e11 => ?_)
      replace h := h s10 e11
      refine TT_aload_n dX4_put_64 rfl ?_
      refine TT_getR (r := 11) dX4_put_65 fd_X4_15 (by decide) rfl (by decide) rfl rfl ?_
      refine TT_iload dX4_put_68 rfl ?_
      refine TT_aload_n dX4_put_70 rfl ?_
      refine TT_getR (r := 11) dX4_put_71 fd_X4_15 (by decide) rfl (by decide) rfl rfl ?_
      refine TT_iload dX4_put_74 rfl ?_
      refine TT_iconst dX4_put_76 ?_
      refine TT_isub dX4_put_77 ?_
      refine TT_lald dX4_put_78 (by decide) rfl (by decide) o5 ?_
      refine TT_last dX4_put_79 (by decide) rfl (by decide) o9 ?_
      refine TT_nmM (fun s12 e13 => ?_)
      replace h := h s12 e13
      refine TT_aload_n dX4_put_80 rfl ?_
      refine TT_getR (r := 12) dX4_put_81 fd_X4_19 (by decide) rfl (by decide) rfl rfl ?_
      refine TT_iload dX4_put_84 rfl ?_
      refine TT_aload_n dX4_put_86 rfl ?_
      refine TT_getR (r := 12) dX4_put_87 fd_X4_19 (by decide) rfl (by decide) rfl rfl ?_
      refine TT_iload dX4_put_90 rfl ?_
      refine TT_iconst dX4_put_92 ?_
      refine TT_isub dX4_put_93 ?_
      refine TT_lald dX4_put_94 (by decide) rfl (by decide) o5 ?_
      refine TT_last dX4_put_95 (by decide) rfl (by decide) o9 ?_
      refine TT_nmM (fun s14 e15 => ?_)
      replace h := h s14 e15
      refine TT_iinc dX4_put_96 (Nat.le_of_ble_eq_true rfl) rfl rfl rfl ?_
      refine TT_goto (tgt := 16) dX4_put_99 rfl ?_
      exact h
set_option maxRecDepth 4000 in
theorem w_X4_put_102 (x1 : Int) (x2 : Int) (x4 : Int) (x6 : Int) {σ : Mem} {K : Mem → Prop} (h : (0 ≤ x6 ∧ x6 < 10) ∧ (∀ s17 : Mem, s17 = up σ 10 (x6).toNat x1 → (∀ s19 : Mem, s19 = up s17 11 (x6).toNat x2 → (∀ s21 : Mem, s21 = up s19 12 (x6).toNat x4 → (∀ s23 : Mem, s23 = up s21 9 3 ((s21 9 3) + 1) → K s23))))) : TT m_X4_put 102 [vR 9, vI x1, vL x2, vU, vL x4, vU, vI x6] [] σ (PN K) := by
  refine TT_aload_n dX4_put_102 rfl ?_
  refine TT_getR (r := 10) dX4_put_103 fd_X4_9 (by decide) rfl (by decide) rfl rfl ?_
  refine TT_iload dX4_put_106 rfl ?_
  refine TT_iload_n dX4_put_108 rfl ?_
  obtain ⟨o16, h⟩ := h
  refine TT_iast dX4_put_109 (by decide) rfl (by decide) o16 ?_
  refine TT_nmM (fun s17 e18 => ?_)
  replace h := h s17 e18
  refine TT_aload_n dX4_put_110 rfl ?_
  refine TT_getR (r := 11) dX4_put_111 fd_X4_15 (by decide) rfl (by decide) rfl rfl ?_
  refine TT_iload dX4_put_114 rfl ?_
  refine TT_lload_n dX4_put_116 rfl ?_
  refine TT_last dX4_put_117 (by decide) rfl (by decide) o16 ?_
  refine TT_nmM (fun s19 e20 => ?_)
  replace h := h s19 e20
  refine TT_aload_n dX4_put_118 rfl ?_
  refine TT_getR (r := 12) dX4_put_119 fd_X4_19 (by decide) rfl (by decide) rfl rfl ?_
  refine TT_iload dX4_put_122 rfl ?_
  refine TT_lload dX4_put_124 rfl ?_
  refine TT_last dX4_put_126 (by decide) rfl (by decide) o16 ?_
  refine TT_nmM (fun s21 e22 => ?_)
  replace h := h s21 e22
  refine TT_aload_n dX4_put_127 rfl ?_
  refine TT_dup dX4_put_128 rfl ?_
  refine TT_getI dX4_put_129 fd_X4_22 (by decide) (Or.inl rfl) (by decide) rfl ?_
  refine TT_iconst dX4_put_132 ?_
  refine TT_iadd dX4_put_133 ?_
  refine TT_putI dX4_put_134 fd_X4_22 (by decide) rfl (by decide) rfl ?_
  refine TT_nmM (fun s23 e24 => ?_)
  replace h := h s23 e24
  exact TT_vret dX4_put_137 rfl rfl h
set_option maxRecDepth 4000 in
theorem w_X4_numberAt_0 (x1 : Int) {σ : Mem} {K : Int → Mem → Prop} (h : CC m_X9_isWithin [vI x1, vI 0, vI ((σ 9 3) - 1)] σ (PZ (fun s2 => (0 ≤ x1 ∧ x1 < 10) ∧ K (s2 10 (x1).toNat) s2) (fun s3 => K (-900009) s3))) : TT m_X4_numberAt 0 [vR 9, vI x1] [] σ (PI K) := by
  refine TT_iload_n dX4_numberAt_0 rfl ?_
  refine TT_iconst dX4_numberAt_1 ?_
  refine TT_aload_n dX4_numberAt_2 rfl ?_
  refine TT_getI dX4_numberAt_3 fd_X4_22 (by decide) (Or.inl rfl) (by decide) rfl ?_
  refine TT_iconst dX4_numberAt_6 ?_
  refine TT_isub dX4_numberAt_7 ?_
  refine TT_callSNZ (M' := m_X9_isWithin) (as := [vI x1, vI 0, vI ((σ 9 3) - 1)]) (rest := []) dX4_numberAt_8 mo_X9_isWithin (by decide +kernel) sm_X9_isWithin (Nat.le_of_ble_eq_true rfl) (Nat.le_of_ble_eq_true rfl) ⟨rfl, rfl, rfl⟩ rfl rfl (Nat.le_of_ble_eq_true rfl) h (fun s2 h => ?_) (fun s3 h => ?_)
  · refine TT_if_eq (tgt := 23) dX4_numberAt_11 rfl (by decide) (fun c4 => absurd c4 (by decide)) (fun c4 => ?_)
    refine TT_aload_n dX4_numberAt_14 rfl ?_
    refine TT_getR (r := 10) dX4_numberAt_15 fd_X4_9 (by decide) rfl (by decide) rfl rfl ?_
    refine TT_iload_n dX4_numberAt_18 rfl ?_
    obtain ⟨o5, h⟩ := h
    refine TT_iald dX4_numberAt_19 (by decide) rfl (by decide) o5 ?_
    refine TT_goto (tgt := 25) dX4_numberAt_20 rfl ?_
    exact TT_iret dX4_numberAt_25 rfl rfl h
  · refine TT_if_eq (tgt := 23) dX4_numberAt_11 rfl (by decide) (fun c6 => ?_) (fun c6 => absurd c6 (by decide))
    refine TT_ldc dX4_numberAt_23 kc_X4_30 (x := (-900009)) rfl ?_
    exact TT_iret dX4_numberAt_25 rfl rfl h
theorem e_X4_numberAt (x1 : Int) {σ : Mem} {K : Int → Mem → Prop} (h : CC m_X9_isWithin [vI x1, vI 0, vI ((σ 9 3) - 1)] σ (PZ (fun s2 => (0 ≤ x1 ∧ x1 < 10) ∧ K (s2 10 (x1).toNat) s2) (fun s3 => K (-900009) s3))) : CC m_X4_numberAt [vR 9, vI x1] σ (PI K) := CC_of (by decide) rfl rfl rfl (Nat.le_of_ble_eq_true rfl) (w_X4_numberAt_0 x1 h)
set_option maxRecDepth 4000 in
theorem w_X5_clear_0  {σ : Mem} {K : Mem → Prop} (h : (∀ s1 : Mem, s1 = up σ 6 2 0 → K s1)) : TT m_X5_clear 0 [vR 6] [] σ (PN K) := by
  refine TT_aload_n dX5_clear_0 rfl ?_
  refine TT_iconst dX5_clear_1 ?_
  refine TT_putI dX5_clear_2 fd_X5_18 (by decide) rfl (by decide) rfl ?_
  refine TT_nmM (fun s1 e2 => ?_)
  replace h := h s1 e2
  exact TT_vret dX5_clear_5 rfl rfl h
theorem e_X5_clear  {σ : Mem} {K : Mem → Prop} (h : (∀ s1 : Mem, s1 = up σ 6 2 0 → K s1)) : CC m_X5_clear [vR 6] σ (PN K) := CC_of (by decide) rfl rfl rfl (Nat.le_of_ble_eq_true rfl) (w_X5_clear_0  h)
set_option maxRecDepth 4000 in
theorem w_X5_add_0 (x1 : Int) {σ : Mem} {K : Mem → Prop} (h : R32 (σ 6 2) ∧ (((σ 6 2) ≤ 0 → TT m_X5_add 39 [vR 6, vI x1] [] σ (PN K)) ∧ (¬ (σ 6 2) ≤ 0 → (0 ≤ ((σ 6 2) - 1) ∧ ((σ 6 2) - 1) < 100) ∧ R32 (σ 8 ((σ 6 2) - 1).toNat) ∧ R32 (x1 - 1) ∧ ((¬ (σ 8 ((σ 6 2) - 1).toNat) = (x1 - 1) → TT m_X5_add 39 [vR 6, vI x1] [] σ (PN K)) ∧ ((σ 8 ((σ 6 2) - 1).toNat) = (x1 - 1) → (∀ s7 : Mem, s7 = up σ 8 ((σ 6 2) - 1).toNat x1 → K s7)))))) : TT m_X5_add 0 [vR 6, vI x1] [] σ (PN K) := by
  refine TT_aload_n dX5_add_0 rfl ?_
  refine TT_getI dX5_add_1 fd_X5_18 (by decide) (Or.inl rfl) (by decide) rfl ?_
  obtain ⟨o1, h⟩ := h
  refine TT_if_le (tgt := 39) dX5_add_4 rfl o1 (fun c2 => ?_) (fun c2 => ?_)
  · replace h := h.1 c2
    exact h
  · replace h := h.2 c2
    refine TT_aload_n dX5_add_7 rfl ?_
    refine TT_getR (r := 8) dX5_add_8 fd_X5_15 (by decide) rfl (by decide) rfl rfl ?_
    refine TT_aload_n dX5_add_11 rfl ?_
    refine TT_getI dX5_add_12 fd_X5_18 (by decide) (Or.inl rfl) (by decide) rfl ?_
    refine TT_iconst dX5_add_15 ?_
    refine TT_isub dX5_add_16 ?_
    obtain ⟨o3, h⟩ := h
    refine TT_iald dX5_add_17 (by decide) rfl (by decide) o3 ?_
    refine TT_iload_n dX5_add_18 rfl ?_
    refine TT_iconst dX5_add_19 ?_
    refine TT_isub dX5_add_20 ?_
    obtain ⟨o4, h⟩ := h
    obtain ⟨o5, h⟩ := h
    refine TT_icmp_ne (tgt := 39) dX5_add_21 rfl o4 o5 (fun c6 => ?_) (fun c6 => ?_)
    · replace h := h.1 c6
      exact h
    · replace h := h.2 c6
      refine TT_aload_n dX5_add_24 rfl ?_
      refine TT_getR (r := 8) dX5_add_25 fd_X5_15 (by decide) rfl (by decide) rfl rfl ?_
      refine TT_aload_n dX5_add_28 rfl ?_
      refine TT_getI dX5_add_29 fd_X5_18 (by decide) (Or.inl rfl) (by decide) rfl ?_
      refine TT_iconst dX5_add_32 ?_
      refine TT_isub dX5_add_33 ?_
      refine TT_iload_n dX5_add_34 rfl ?_
      refine TT_iast dX5_add_35 (by decide) rfl (by decide) o3 ?_
      refine TT_nmM (fun s7 e8 => ?_)
      replace h := h s7 e8
      refine TT_goto (tgt := 81) dX5_add_36 rfl ?_
      exact TT_vret dX5_add_81 rfl rfl h
theorem e_X5_add (x1 : Int) {σ : Mem} {K : Mem → Prop} (h : R32 (σ 6 2) ∧ (((σ 6 2) ≤ 0 → TT m_X5_add 39 [vR 6, vI x1] [] σ (PN K)) ∧ (¬ (σ 6 2) ≤ 0 → (0 ≤ ((σ 6 2) - 1) ∧ ((σ 6 2) - 1) < 100) ∧ R32 (σ 8 ((σ 6 2) - 1).toNat) ∧ R32 (x1 - 1) ∧ ((¬ (σ 8 ((σ 6 2) - 1).toNat) = (x1 - 1) → TT m_X5_add 39 [vR 6, vI x1] [] σ (PN K)) ∧ ((σ 8 ((σ 6 2) - 1).toNat) = (x1 - 1) → (∀ s7 : Mem, s7 = up σ 8 ((σ 6 2) - 1).toNat x1 → K s7)))))) : CC m_X5_add [vR 6, vI x1] σ (PN K) := CC_of (by decide) rfl rfl rfl (Nat.le_of_ble_eq_true rfl) (w_X5_add_0 x1 h)
set_option maxRecDepth 4000 in
theorem w_X5_add_39 (x1 : Int) {σ : Mem} {K : Mem → Prop} (h : R32 (σ 6 2) ∧ ((100 ≤ (σ 6 2) → K σ) ∧ (¬ 100 ≤ (σ 6 2) → (0 ≤ (σ 6 2) ∧ (σ 6 2) < 100) ∧ (∀ s12 : Mem, s12 = up σ 7 (σ 6 2).toNat x1 → (0 ≤ (s12 6 2) ∧ (s12 6 2) < 100) ∧ (∀ s15 : Mem, s15 = up s12 8 (s12 6 2).toNat x1 → (∀ s17 : Mem, s17 = up s15 6 2 ((s15 6 2) + 1) → K s17)))))) : TT m_X5_add 39 [vR 6, vI x1] [] σ (PN K) := by
  refine TT_aload_n dX5_add_39 rfl ?_
  refine TT_getI dX5_add_40 fd_X5_18 (by decide) (Or.inl rfl) (by decide) rfl ?_
  refine TT_aload_n dX5_add_43 rfl ?_
  refine TT_getR (r := 7) dX5_add_44 fd_X5_9 (by decide) rfl (by decide) rfl rfl ?_
  refine TT_alen dX5_add_47 (by decide) rfl ?_
  obtain ⟨o9, h⟩ := h
  refine TT_icmp_ge (tgt := 81) dX5_add_48 rfl o9 (by decide) (fun c10 => ?_) (fun c10 => ?_)
  · replace h := h.1 c10
    exact TT_vret dX5_add_81 rfl rfl h
  · replace h := h.2 c10
    refine TT_aload_n dX5_add_51 rfl ?_
    refine TT_getR (r := 7) dX5_add_52 fd_X5_9 (by decide) rfl (by decide) rfl rfl ?_
    refine TT_aload_n dX5_add_55 rfl ?_
    refine TT_getI dX5_add_56 fd_X5_18 (by decide) (Or.inl rfl) (by decide) rfl ?_
    refine TT_iload_n dX5_add_59 rfl ?_
    obtain ⟨o11, h⟩ := h
    refine TT_iast dX5_add_60 (by decide) rfl (by decide) o11 ?_
    refine TT_nmM (fun s12 e13 => ?_)
    replace h := h s12 e13
    refine TT_aload_n dX5_add_61 rfl ?_
    refine TT_getR (r := 8) dX5_add_62 fd_X5_15 (by decide) rfl (by decide) rfl rfl ?_
    refine TT_aload_n dX5_add_65 rfl ?_
    refine TT_getI dX5_add_66 fd_X5_18 (by decide) (Or.inl rfl) (by decide) rfl ?_
    refine TT_iload_n dX5_add_69 rfl ?_
    obtain ⟨o14, h⟩ := h
    refine TT_iast dX5_add_70 (by decide) rfl (by decide) o14 ?_
    refine TT_nmM (fun s15 e16 => ?_)
    replace h := h s15 e16
    refine TT_aload_n dX5_add_71 rfl ?_
    refine TT_dup dX5_add_72 rfl ?_
    refine TT_getI dX5_add_73 fd_X5_18 (by decide) (Or.inl rfl) (by decide) rfl ?_
    refine TT_iconst dX5_add_76 ?_
    refine TT_iadd dX5_add_77 ?_
    refine TT_putI dX5_add_78 fd_X5_18 (by decide) rfl (by decide) rfl ?_
    refine TT_nmM (fun s17 e18 => ?_)
    replace h := h s17 e18
    exact TT_vret dX5_add_81 rfl rfl h
set_option maxRecDepth 4000 in
theorem w_X5_lengthOf_0 (x1 : Int) {σ : Mem} {K : Int → Mem → Prop} (h : (0 ≤ x1 ∧ x1 < 100) ∧ K (((σ 8 (x1).toNat) - (σ 7 (x1).toNat)) + 1) σ) : TT m_X5_lengthOf 0 [vR 6, vI x1] [] σ (PI K) := by
  refine TT_aload_n dX5_lengthOf_0 rfl ?_
  refine TT_getR (r := 8) dX5_lengthOf_1 fd_X5_15 (by decide) rfl (by decide) rfl rfl ?_
  refine TT_iload_n dX5_lengthOf_4 rfl ?_
  obtain ⟨o1, h⟩ := h
  refine TT_iald dX5_lengthOf_5 (by decide) rfl (by decide) o1 ?_
  refine TT_aload_n dX5_lengthOf_6 rfl ?_
  refine TT_getR (r := 7) dX5_lengthOf_7 fd_X5_9 (by decide) rfl (by decide) rfl rfl ?_
  refine TT_iload_n dX5_lengthOf_10 rfl ?_
  refine TT_iald dX5_lengthOf_11 (by decide) rfl (by decide) o1 ?_
  refine TT_isub dX5_lengthOf_12 ?_
  refine TT_iconst dX5_lengthOf_13 ?_
  refine TT_iadd dX5_lengthOf_14 ?_
  exact TT_iret dX5_lengthOf_15 rfl rfl h
theorem e_X5_lengthOf (x1 : Int) {σ : Mem} {K : Int → Mem → Prop} (h : (0 ≤ x1 ∧ x1 < 100) ∧ K (((σ 8 (x1).toNat) - (σ 7 (x1).toNat)) + 1) σ) : CC m_X5_lengthOf [vR 6, vI x1] σ (PI K) := CC_of (by decide) rfl rfl rfl (Nat.le_of_ble_eq_true rfl) (w_X5_lengthOf_0 x1 h)
set_option maxRecDepth 4000 in
theorem w_X5_longestOne_0  {σ : Mem} {K : Int → Mem → Prop} (h : TT m_X5_longestOne 4 [vR 6, vI (-1), vI 0] [] σ (PI K)) : TT m_X5_longestOne 0 [vR 6, vU, vU] [] σ (PI K) := by
  refine TT_iconst dX5_longestOne_0 ?_
  refine TT_istore_n dX5_longestOne_1 (Nat.le_of_ble_eq_true rfl) rfl rfl ?_
  refine TT_iconst dX5_longestOne_2 ?_
  refine TT_istore_n dX5_longestOne_3 (Nat.le_of_ble_eq_true rfl) rfl rfl ?_
  exact h
theorem e_X5_longestOne  {σ : Mem} {K : Int → Mem → Prop} (h : TT m_X5_longestOne 4 [vR 6, vI (-1), vI 0] [] σ (PI K)) : CC m_X5_longestOne [vR 6] σ (PI K) := CC_of (by decide) rfl rfl rfl (Nat.le_of_ble_eq_true rfl) (w_X5_longestOne_0  h)
set_option maxRecDepth 4000 in
theorem w_X5_longestOne_4 (x1 : Int) (x2 : Int) {σ : Mem} {K : Int → Mem → Prop} (h : R32 x2 ∧ R32 (σ 6 2) ∧ (((σ 6 2) ≤ x2 → K x1 σ) ∧ (¬ (σ 6 2) ≤ x2 → R32 x1 ∧ ((x1 < 0 → TT m_X5_longestOne 4 [vR 6, vI x2, vI (x2 + 1)] [] σ (PI K)) ∧ (¬ x1 < 0 → CC m_X5_lengthOf [vR 6, vI x2] σ (PI (fun y6 s7 => CC m_X5_lengthOf [vR 6, vI x1] s7 (PI (fun y8 s9 => R32 y6 ∧ R32 y8 ∧ TT m_X5_longestOne 4 [vR 6, vI (if y6 ≤ y8 then x1 else x2 : Int), vI (x2 + 1)] [] s9 (PI K)))))))))) : TT m_X5_longestOne 4 [vR 6, vI x1, vI x2] [] σ (PI K) := by
  refine TT_iload_n dX5_longestOne_4 rfl ?_
  refine TT_aload_n dX5_longestOne_5 rfl ?_
  refine TT_getI dX5_longestOne_6 fd_X5_18 (by decide) (Or.inl rfl) (by decide) rfl ?_
  obtain ⟨o1, h⟩ := h
  obtain ⟨o2, h⟩ := h
  refine TT_icmp_ge (tgt := 37) dX5_longestOne_9 rfl o1 o2 (fun c3 => ?_) (fun c3 => ?_)
  · replace h := h.1 c3
    refine TT_iload_n dX5_longestOne_37 rfl ?_
    exact TT_iret dX5_longestOne_38 rfl rfl h
  · replace h := h.2 c3
    refine TT_iload_n dX5_longestOne_12 rfl ?_
    obtain ⟨o4, h⟩ := h
    refine TT_if_lt (tgt := 29) dX5_longestOne_13 rfl o4 (fun c5 => ?_) (fun c5 => ?_)
    · replace h := h.1 c5
      refine TT_iload_n dX5_longestOne_29 rfl ?_
      refine TT_istore_n dX5_longestOne_30 (Nat.le_of_ble_eq_true rfl) rfl rfl ?_
      refine TT_iinc dX5_longestOne_31 (Nat.le_of_ble_eq_true rfl) rfl rfl rfl ?_
      refine TT_goto (tgt := 4) dX5_longestOne_34 rfl ?_
      exact h
    · replace h := h.2 c5
      refine TT_aload_n dX5_longestOne_16 rfl ?_
      refine TT_iload_n dX5_longestOne_17 rfl ?_
      refine TT_callVI (M' := m_X5_lengthOf) (as := [vI x2]) (rest := []) dX5_longestOne_18 mo_X5_lengthOf ml_X5_22 im_X5_lengthOf se_X5_lengthOf (Nat.le_of_ble_eq_true rfl) (Nat.le_of_ble_eq_true rfl) ⟨rfl, rfl, rfl⟩ rfl rfl (Nat.le_of_ble_eq_true rfl) (by decide) rfl rfl (by decide) h (fun y6 s7 h => ?_)
      refine TT_aload_n dX5_longestOne_21 rfl ?_
      refine TT_iload_n dX5_longestOne_22 rfl ?_
      refine TT_callVI (M' := m_X5_lengthOf) (as := [vI x1]) (rest := [vI y6]) dX5_longestOne_23 mo_X5_lengthOf ml_X5_22 im_X5_lengthOf se_X5_lengthOf (Nat.le_of_ble_eq_true rfl) (Nat.le_of_ble_eq_true rfl) ⟨rfl, rfl, rfl⟩ rfl rfl (Nat.le_of_ble_eq_true rfl) (by decide) rfl rfl (by decide) h (fun y8 s9 h => ?_)
      obtain ⟨o10, h⟩ := h
      obtain ⟨o11, h⟩ := h
      have j13 : TT m_X5_longestOne 31 [vR 6, vI (if y6 ≤ y8 then x1 else x2 : Int), vI x2] [] s9 (PI K) := by
        refine TT_iinc dX5_longestOne_31 (Nat.le_of_ble_eq_true rfl) rfl rfl rfl ?_
        refine TT_goto (tgt := 4) dX5_longestOne_34 rfl ?_
        exact h
      refine TT_icmp_le (tgt := 31) dX5_longestOne_26 rfl o10 o11 (fun c12 => ?_) (fun c12 => ?_)
      · exact TT.cast j13 (by first | rfl | (simp only [if_pos c12] <;> rfl)) (by first | rfl | (simp only [if_pos c12] <;> rfl))
      · refine TT_iload_n dX5_longestOne_29 rfl ?_
        refine TT_istore_n dX5_longestOne_30 (Nat.le_of_ble_eq_true rfl) rfl rfl ?_
        exact TT.cast j13 (by first | rfl | (simp only [if_neg c12] <;> rfl)) (by first | rfl | (simp only [if_neg c12] <;> rfl))
