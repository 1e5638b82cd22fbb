set_option maxRecDepth 4000 in
theorem w_X7_plan_0 (r1 : Nat) (hr1 : isT r1) (x2 : Int) {σ : Mem} {K : Mem → Prop} (h : (∀ s1 : Mem, s1 = up σ 29 2 0 → R32 (s1 r1 3) ∧ ((¬ (s1 r1 3) = 0 → CC m_X7_countBackwards [vR 29, vR r1, vI x2] s1 (PN (fun s6 => CC m_X7_keep [vR 29, vI 0] s6 (PN (fun s8 => TT m_X7_plan 26 [vR 29, vR r1, vI x2, vI 1, vU] [] s8 (PN K)))))) ∧ ((s1 r1 3) = 0 → K s1)))) : TT m_X7_plan 0 [vR 29, vR r1, vI x2, vU, vU] [] σ (PN K) := by
  refine TT_aload_n dX7_plan_0 rfl ?_
  refine TT_iconst dX7_plan_1 ?_
  refine TT_putI dX7_plan_2 fd_X7_18 (by decide) rfl (by decide) rfl ?_
  refine TT_nmM (fun s1 e2 => ?_)
  replace h := h s1 e2
  refine TT_aload_n dX7_plan_5 rfl ?_
  refine TT_getI dX7_plan_6 fd_X7_22 (by decide) (Or.inl rfl) (ltT hr1) (shT hr1) ?_
  obtain ⟨o3, h⟩ := h
  refine TT_if_ne (tgt := 13) dX7_plan_9 rfl o3 (fun c4 => ?_) (fun c4 => ?_)
  · replace h := h.1 c4
    refine TT_aload_n dX7_plan_13 rfl ?_
    refine TT_aload_n dX7_plan_14 rfl ?_
    refine TT_iload_n dX7_plan_15 rfl ?_
    refine TT_callVN (M' := m_X7_countBackwards) (as := [vR r1, vI x2]) (rest := []) dX7_plan_16 mo_X7_countBackwards ml_X7_27 im_X7_countBackwards se_X7_countBackwards (Nat.le_of_ble_eq_true rfl) (Nat.le_of_ble_eq_true rfl) ⟨rfl, rfl, rfl⟩ rfl rfl (Nat.le_of_ble_eq_true rfl) (by decide) rfl rfl (by decide) h (fun s6 h => ?_)
    refine TT_aload_n dX7_plan_19 rfl ?_
    refine TT_iconst dX7_plan_20 ?_
    refine TT_callVN (M' := m_X7_keep) (as := [vI 0]) (rest := []) dX7_plan_21 mo_X7_keep ml_X7_31 im_X7_keep se_X7_keep (Nat.le_of_ble_eq_true rfl) (Nat.le_of_ble_eq_true rfl) ⟨rfl, rfl, rfl⟩ rfl rfl (Nat.le_of_ble_eq_true rfl) (by decide) rfl rfl (by decide) h (fun s8 h => ?_)
    refine TT_iconst dX7_plan_24 ?_
    refine TT_istore_n dX7_plan_25 (Nat.le_of_ble_eq_true rfl) rfl rfl ?_
    exact h
  · replace h := h.2 c4
    exact TT_vret dX7_plan_12 rfl rfl h
theorem e_X7_plan (r1 : Nat) (hr1 : isT r1) (x2 : Int) {σ : Mem} {K : Mem → Prop} (h : (∀ s1 : Mem, s1 = up σ 29 2 0 → R32 (s1 r1 3) ∧ ((¬ (s1 r1 3) = 0 → CC m_X7_countBackwards [vR 29, vR r1, vI x2] s1 (PN (fun s6 => CC m_X7_keep [vR 29, vI 0] s6 (PN (fun s8 => TT m_X7_plan 26 [vR 29, vR r1, vI x2, vI 1, vU] [] s8 (PN K)))))) ∧ ((s1 r1 3) = 0 → K s1)))) : CC m_X7_plan [vR 29, vR r1, vI x2] σ (PN K) := CC_of (by decide) rfl rfl rfl (Nat.le_of_ble_eq_true rfl) (w_X7_plan_0 r1 hr1 x2 h)
set_option maxRecDepth 4000 in
theorem w_X7_plan_26 (r1 : Nat) (hr1 : isT r1) (x2 : Int) (x3 : Int) {σ : Mem} {K : Mem → Prop} (h : R32 x3 ∧ R32 (σ r1 3) ∧ (((σ r1 3) ≤ x3 → K σ) ∧ (¬ (σ r1 3) ≤ x3 → (0 ≤ ((σ 29 2) - 1) ∧ ((σ 29 2) - 1) < 24) ∧ (0 ≤ x3 ∧ x3 < 24) ∧ (0 ≤ (σ 30 ((σ 29 2) - 1).toNat) ∧ (σ 30 ((σ 29 2) - 1).toNat) < 24) ∧ R32 (σ 31 (x3).toNat) ∧ R32 ((σ 31 (σ 30 ((σ 29 2) - 1).toNat).toNat) - 1) ∧ ((¬ (σ 31 (x3).toNat) = ((σ 31 (σ 30 ((σ 29 2) - 1).toNat).toNat) - 1) → TT m_X7_plan 26 [vR 29, vR r1, vI x2, vI (x3 + 1), vU] [] σ (PN K)) ∧ ((σ 31 (x3).toNat) = ((σ 31 (σ 30 ((σ 29 2) - 1).toNat).toNat) - 1) → CC m_X7_mayFollow [vR r1, vI (σ 30 ((σ 29 2) - 1).toNat), vI x3, vI x2] σ (PZ (fun s19 => CC m_X7_keep [vR 29, vI x3] s19 (PN (fun s23 => TT m_X7_plan 26 [vR 29, vR r1, vI x2, vI (x3 + 1), vU] [] s23 (PN K)))) (fun s20 => TT m_X7_plan 26 [vR 29, vR r1, vI x2, vI (x3 + 1), vU] [] s20 (PN K)))))))) : TT m_X7_plan 26 [vR 29, vR r1, vI x2, vI x3, vU] [] σ (PN K) := by
  refine TT_iload_n dX7_plan_26 rfl ?_
  refine TT_aload_n dX7_plan_27 rfl ?_
  refine TT_getI dX7_plan_28 fd_X7_22 (by decide) (Or.inl rfl) (ltT hr1) (shT hr1) ?_
  obtain ⟨o9, h⟩ := h
  obtain ⟨o10, h⟩ := h
  refine TT_icmp_ge (tgt := 87) dX7_plan_31 rfl o9 o10 (fun c11 => ?_) (fun c11 => ?_)
  · replace h := h.1 c11
    exact TT_vret dX7_plan_87 rfl rfl h
  · replace h := h.2 c11
    refine TT_aload_n dX7_plan_34 rfl ?_
    refine TT_getR (r := 30) dX7_plan_35 fd_X7_9 (by decide) rfl (by decide) rfl rfl ?_
    refine TT_aload_n dX7_plan_38 rfl ?_
    refine TT_getI dX7_plan_39 fd_X7_18 (by decide) (Or.inl rfl) (by decide) rfl ?_
    refine TT_iconst dX7_plan_42 ?_
    refine TT_isub dX7_plan_43 ?_
    obtain ⟨o12, h⟩ := h
    refine TT_iald dX7_plan_44 (by decide) rfl (by decide) o12 ?_
    refine TT_istore dX7_plan_45 (Nat.le_of_ble_eq_true rfl) rfl rfl ?_
    refine TT_aload_n dX7_plan_47 rfl ?_
    refine TT_getR (r := 31) dX7_plan_48 fd_X7_15 (by decide) rfl (by decide) rfl rfl ?_
    refine TT_iload_n dX7_plan_51 rfl ?_
    obtain ⟨o13, h⟩ := h
    refine TT_iald dX7_plan_52 (by decide) rfl (by decide) o13 ?_
    refine TT_aload_n dX7_plan_53 rfl ?_
    refine TT_getR (r := 31) dX7_plan_54 fd_X7_15 (by decide) rfl (by decide) rfl rfl ?_
    refine TT_iload dX7_plan_57 rfl ?_
    obtain ⟨o14, h⟩ := h
    refine TT_iald dX7_plan_59 (by decide) rfl (by decide) o14 ?_
    refine TT_iconst dX7_plan_60 ?_
    refine TT_isub dX7_plan_61 ?_
    obtain ⟨o15, h⟩ := h
    obtain ⟨o16, h⟩ := h
    refine TT_icmp_ne (tgt := 81) dX7_plan_62 rfl o15 o16 (fun c17 => ?_) (fun c17 => ?_)
    · replace h := h.1 c17
      refine TT_iinc dX7_plan_81 (Nat.le_of_ble_eq_true rfl) rfl rfl rfl ?_
      refine TT_goto (tgt := 26) dX7_plan_84 rfl ?_
      refine TT_kill 4 rfl ?_
      exact h
    · replace h := h.2 c17
      refine TT_aload_n dX7_plan_65 rfl ?_
      refine TT_iload dX7_plan_66 rfl ?_
      refine TT_iload_n dX7_plan_68 rfl ?_
      refine TT_iload_n dX7_plan_69 rfl ?_
      refine TT_callSZ (M' := m_X7_mayFollow) (as := [vR r1, vI (σ 30 ((σ 29 2) - 1).toNat), vI x3, vI x2]) (rest := []) dX7_plan_70 mo_X7_mayFollow ml_X7_35 sm_X7_mayFollow (Nat.le_of_ble_eq_true rfl) (Nat.le_of_ble_eq_true rfl) ⟨rfl, rfl, rfl⟩ rfl rfl (Nat.le_of_ble_eq_true rfl) h (fun s19 h => ?_) (fun s20 h => ?_)
      · refine TT_if_eq (tgt := 81) dX7_plan_73 rfl (by decide) (fun c21 => absurd c21 (by decide)) (fun c21 => ?_)
        refine TT_aload_n dX7_plan_76 rfl ?_
        refine TT_iload_n dX7_plan_77 rfl ?_
        refine TT_callVN (M' := m_X7_keep) (as := [vI x3]) (rest := []) dX7_plan_78 mo_X7_keep ml_X7_31 im_X7_keep se_X7_keep (Nat.le_of_ble_eq_true rfl) (Nat.le_of_ble_eq_true rfl) ⟨rfl, rfl, rfl⟩ rfl rfl (Nat.le_of_ble_eq_true rfl) (by decide) rfl rfl (by decide) h (fun s23 h => ?_)
        refine TT_iinc dX7_plan_81 (Nat.le_of_ble_eq_true rfl) rfl rfl rfl ?_
        refine TT_goto (tgt := 26) dX7_plan_84 rfl ?_
        refine TT_kill 4 rfl ?_
        exact h
      · refine TT_if_eq (tgt := 81) dX7_plan_73 rfl (by decide) (fun c24 => ?_) (fun c24 => absurd c24 (by decide))
        refine TT_iinc dX7_plan_81 (Nat.le_of_ble_eq_true rfl) rfl rfl rfl ?_
        refine TT_goto (tgt := 26) dX7_plan_84 rfl ?_
        refine TT_kill 4 rfl ?_
        exact h
set_option maxRecDepth 4000 in
theorem w_X7_keep_0 (x1 : Int) {σ : Mem} {K : Mem → Prop} (h : (0 ≤ (σ 29 2) ∧ (σ 29 2) < 24) ∧ (∀ s2 : Mem, s2 = up σ 30 (σ 29 2).toNat x1 → (∀ s4 : Mem, s4 = up s2 29 2 ((s2 29 2) + 1) → K s4))) : TT m_X7_keep 0 [vR 29, vI x1] [] σ (PN K) := by
  refine TT_aload_n dX7_keep_0 rfl ?_
  refine TT_getR (r := 30) dX7_keep_1 fd_X7_9 (by decide) rfl (by decide) rfl rfl ?_
  refine TT_aload_n dX7_keep_4 rfl ?_
  refine TT_getI dX7_keep_5 fd_X7_18 (by decide) (Or.inl rfl) (by decide) rfl ?_
  refine TT_iload_n dX7_keep_8 rfl ?_
  obtain ⟨o1, h⟩ := h
  refine TT_iast dX7_keep_9 (by decide) rfl (by decide) o1 ?_
  refine TT_nmM (fun s2 e3 => ?_)
  replace h := h s2 e3
  refine TT_aload_n dX7_keep_10 rfl ?_
  refine TT_dup dX7_keep_11 rfl ?_
  refine TT_getI dX7_keep_12 fd_X7_18 (by decide) (Or.inl rfl) (by decide) rfl ?_
  refine TT_iconst dX7_keep_15 ?_
  refine TT_iadd dX7_keep_16 ?_
  refine TT_putI dX7_keep_17 fd_X7_18 (by decide) rfl (by decide) rfl ?_
  refine TT_nmM (fun s4 e5 => ?_)
  replace h := h s4 e5
  exact TT_vret dX7_keep_20 rfl rfl h
theorem e_X7_keep (x1 : Int) {σ : Mem} {K : Mem → Prop} (h : (0 ≤ (σ 29 2) ∧ (σ 29 2) < 24) ∧ (∀ s2 : Mem, s2 = up σ 30 (σ 29 2).toNat x1 → (∀ s4 : Mem, s4 = up s2 29 2 ((s2 29 2) + 1) → K s4))) : CC m_X7_keep [vR 29, vI x1] σ (PN K) := CC_of (by decide) rfl rfl rfl (Nat.le_of_ble_eq_true rfl) (w_X7_keep_0 x1 h)
set_option maxRecDepth 4000 in
theorem w_X7_countBackwards_0 (r1 : Nat) (hr1 : isT r1) (x2 : Int) {σ : Mem} {K : Mem → Prop} (h : (0 ≤ ((σ r1 3) - 1) ∧ ((σ r1 3) - 1) < 24) ∧ (∀ s2 : Mem, s2 = up σ 31 ((σ r1 3) - 1).toNat 1 → TT m_X7_countBackwards 19 [vR 29, vR r1, vI x2, vI ((s2 r1 3) - 2), vU, vU] [] s2 (PN K))) : TT m_X7_countBackwards 0 [vR 29, vR r1, vI x2, vU, vU, vU] [] σ (PN K) := by
  refine TT_aload_n dX7_countBackwards_0 rfl ?_
  refine TT_getR (r := 31) dX7_countBackwards_1 fd_X7_15 (by decide) rfl (by decide) rfl rfl ?_
  refine TT_aload_n dX7_countBackwards_4 rfl ?_
  refine TT_getI dX7_countBackwards_5 fd_X7_22 (by decide) (Or.inl rfl) (ltT hr1) (shT hr1) ?_
  refine TT_iconst dX7_countBackwards_8 ?_
  refine TT_isub dX7_countBackwards_9 ?_
  refine TT_iconst dX7_countBackwards_10 ?_
  obtain ⟨o1, h⟩ := h
  refine TT_iast dX7_countBackwards_11 (by decide) rfl (by decide) o1 ?_
  refine TT_nmM (fun s2 e3 => ?_)
  replace h := h s2 e3
  refine TT_aload_n dX7_countBackwards_12 rfl ?_
  refine TT_getI dX7_countBackwards_13 fd_X7_22 (by decide) (Or.inl rfl) (ltT hr1) (shT hr1) ?_
  refine TT_iconst dX7_countBackwards_16 ?_
  refine TT_isub dX7_countBackwards_17 ?_
  refine TT_istore_n dX7_countBackwards_18 (Nat.le_of_ble_eq_true rfl) rfl rfl ?_
  exact h
theorem e_X7_countBackwards (r1 : Nat) (hr1 : isT r1) (x2 : Int) {σ : Mem} {K : Mem → Prop} (h : (0 ≤ ((σ r1 3) - 1) ∧ ((σ r1 3) - 1) < 24) ∧ (∀ s2 : Mem, s2 = up σ 31 ((σ r1 3) - 1).toNat 1 → TT m_X7_countBackwards 19 [vR 29, vR r1, vI x2, vI ((s2 r1 3) - 2), vU, vU] [] s2 (PN K))) : CC m_X7_countBackwards [vR 29, vR r1, vI x2] σ (PN K) := CC_of (by decide) rfl rfl rfl (Nat.le_of_ble_eq_true rfl) (w_X7_countBackwards_0 r1 hr1 x2 h)
set_option maxRecDepth 4000 in
theorem w_X7_countBackwards_19 (r1 : Nat) (hr1 : isT r1) (x2 : Int) (x3 : Int) {σ : Mem} {K : Mem → Prop} (h : R32 x3 ∧ ((x3 < 0 → K σ) ∧ (¬ x3 < 0 → (0 ≤ (x3 + 1) ∧ (x3 + 1) < 24) ∧ TT m_X7_countBackwards 38 [vR 29, vR r1, vI x2, vI x3, vI (σ 31 (x3 + 1).toNat), vI (x3 + 2)] [] σ (PN K)))) : TT m_X7_countBackwards 19 [vR 29, vR r1, vI x2, vI x3, vU, vU] [] σ (PN K) := by
  refine TT_iload_n dX7_countBackwards_19 rfl ?_
  obtain ⟨o4, h⟩ := h
  refine TT_if_lt (tgt := 101) dX7_countBackwards_20 rfl o4 (fun c5 => ?_) (fun c5 => ?_)
  · replace h := h.1 c5
    exact TT_vret dX7_countBackwards_101 rfl rfl h
  · replace h := h.2 c5
    refine TT_aload_n dX7_countBackwards_23 rfl ?_
    refine TT_getR (r := 31) dX7_countBackwards_24 fd_X7_15 (by decide) rfl (by decide) rfl rfl ?_
    refine TT_iload_n dX7_countBackwards_27 rfl ?_
    refine TT_iconst dX7_countBackwards_28 ?_
    refine TT_iadd dX7_countBackwards_29 ?_
    obtain ⟨o6, h⟩ := h
    refine TT_iald dX7_countBackwards_30 (by decide) rfl (by decide) o6 ?_
    refine TT_istore dX7_countBackwards_31 (Nat.le_of_ble_eq_true rfl) rfl rfl ?_
    refine TT_iload_n dX7_countBackwards_33 rfl ?_
    refine TT_iconst dX7_countBackwards_34 ?_
    refine TT_iadd dX7_countBackwards_35 ?_
    refine TT_istore dX7_countBackwards_36 (Nat.le_of_ble_eq_true rfl) rfl rfl ?_
    exact h
set_option maxRecDepth 4000 in
theorem w_X7_countBackwards_38 (r1 : Nat) (hr1 : isT r1) (x2 : Int) (x3 : Int) (x4 : Int) (x5 : Int) {σ : Mem} {K : Mem → Prop} (h : R32 x5 ∧ R32 (σ r1 3) ∧ (((σ r1 3) ≤ x5 → (0 ≤ x3 ∧ x3 < 24) ∧ (∀ s11 : Mem, s11 = up σ 31 (x3).toNat (x4 + 1) → TT m_X7_countBackwards 19 [vR 29, vR r1, vI x2, vI (x3 + (-1)), vU, vU] [] s11 (PN K))) ∧ (¬ (σ r1 3) ≤ x5 → (0 ≤ x5 ∧ x5 < 24) ∧ R32 (σ 31 (x5).toNat) ∧ R32 x4 ∧ ((x4 ≤ (σ 31 (x5).toNat) → TT m_X7_countBackwards 38 [vR 29, vR r1, vI x2, vI x3, vI x4, vI (x5 + 1)] [] σ (PN K)) ∧ (¬ x4 ≤ (σ 31 (x5).toNat) → CC m_X7_mayFollow [vR r1, vI x3, vI x5, vI x2] σ (PZ (fun s18 => TT m_X7_countBackwards 38 [vR 29, vR r1, vI x2, vI x3, vI (s18 31 (x5).toNat), vI (x5 + 1)] [] s18 (PN K)) (fun s19 => TT m_X7_countBackwards 38 [vR 29, vR r1, vI x2, vI x3, vI x4, vI (x5 + 1)] [] s19 (PN K)))))))) : TT m_X7_countBackwards 38 [vR 29, vR r1, vI x2, vI x3, vI x4, vI x5] [] σ (PN K) := by
  refine TT_iload dX7_countBackwards_38 rfl ?_
  refine TT_aload_n dX7_countBackwards_40 rfl ?_
  refine TT_getI dX7_countBackwards_41 fd_X7_22 (by decide) (Or.inl rfl) (ltT hr1) (shT hr1) ?_
  obtain ⟨o7, h⟩ := h
  obtain ⟨o8, h⟩ := h
  refine TT_icmp_ge (tgt := 85) dX7_countBackwards_44 rfl o7 o8 (fun c9 => ?_) (fun c9 => ?_)
  · replace h := h.1 c9
    refine TT_aload_n dX7_countBackwards_85 rfl ?_
    refine TT_getR (r := 31) dX7_countBackwards_86 fd_X7_15 (by decide) rfl (by decide) rfl rfl ?_
    refine TT_iload_n dX7_countBackwards_89 rfl ?_
    refine TT_iload dX7_countBackwards_90 rfl ?_
    refine TT_iconst dX7_countBackwards_92 ?_
    refine TT_iadd dX7_countBackwards_93 ?_
    obtain ⟨o10, h⟩ := h
    refine TT_iast dX7_countBackwards_94 (by decide) rfl (by decide) o10 ?_
    refine TT_nmM (fun s11 e12 => ?_)
    replace h := h s11 e12
    refine TT_iinc dX7_countBackwards_95 (Nat.le_of_ble_eq_true rfl) rfl rfl rfl ?_
    refine TT_goto (tgt := 19) dX7_countBackwards_98 rfl ?_
    refine TT_kill 4 rfl ?_
    refine TT_kill 5 rfl ?_
    exact h
  · replace h := h.2 c9
    refine TT_aload_n dX7_countBackwards_47 rfl ?_
    refine TT_getR (r := 31) dX7_countBackwards_48 fd_X7_15 (by decide) rfl (by decide) rfl rfl ?_
    refine TT_iload dX7_countBackwards_51 rfl ?_
    obtain ⟨o13, h⟩ := h
    refine TT_iald dX7_countBackwards_53 (by decide) rfl (by decide) o13 ?_
    refine TT_iload dX7_countBackwards_54 rfl ?_
    obtain ⟨o14, h⟩ := h
    obtain ⟨o15, h⟩ := h
    refine TT_icmp_ge (tgt := 79) dX7_countBackwards_56 rfl o14 o15 (fun c16 => ?_) (fun c16 => ?_)
    · replace h := h.1 c16
      refine TT_iinc dX7_countBackwards_79 (Nat.le_of_ble_eq_true rfl) rfl rfl rfl ?_
      refine TT_goto (tgt := 38) dX7_countBackwards_82 rfl ?_
      exact h
    · replace h := h.2 c16
      refine TT_aload_n dX7_countBackwards_59 rfl ?_
      refine TT_iload_n dX7_countBackwards_60 rfl ?_
      refine TT_iload dX7_countBackwards_61 rfl ?_
      refine TT_iload_n dX7_countBackwards_63 rfl ?_
      refine TT_callSZ (M' := m_X7_mayFollow) (as := [vR r1, vI x3, vI x5, vI x2]) (rest := []) dX7_countBackwards_64 mo_X7_mayFollow ml_X7_35 sm_X7_mayFollow (Nat.le_of_ble_eq_true rfl) (Nat.le_of_ble_eq_true rfl) ⟨rfl, rfl, rfl⟩ rfl rfl (Nat.le_of_ble_eq_true rfl) h (fun s18 h => ?_) (fun s19 h => ?_)
      · refine TT_if_eq (tgt := 79) dX7_countBackwards_67 rfl (by decide) (fun c20 => absurd c20 (by decide)) (fun c20 => ?_)
        refine TT_aload_n dX7_countBackwards_70 rfl ?_
        refine TT_getR (r := 31) dX7_countBackwards_71 fd_X7_15 (by decide) rfl (by decide) rfl rfl ?_
        refine TT_iload dX7_countBackwards_74 rfl ?_
        refine TT_iald dX7_countBackwards_76 (by decide) rfl (by decide) o13 ?_
        refine TT_istore dX7_countBackwards_77 (Nat.le_of_ble_eq_true rfl) rfl rfl ?_
        refine TT_iinc dX7_countBackwards_79 (Nat.le_of_ble_eq_true rfl) rfl rfl rfl ?_
        refine TT_goto (tgt := 38) dX7_countBackwards_82 rfl ?_
        exact h
      · refine TT_if_eq (tgt := 79) dX7_countBackwards_67 rfl (by decide) (fun c21 => ?_) (fun c21 => absurd c21 (by decide))
        refine TT_iinc dX7_countBackwards_79 (Nat.le_of_ble_eq_true rfl) rfl rfl rfl ?_
        refine TT_goto (tgt := 38) dX7_countBackwards_82 rfl ?_
        exact h
set_option maxRecDepth 4000 in
theorem w_X7_mayFollow_0 (r0 : Nat) (hr0 : isT r0) (x1 : Int) (x2 : Int) (x3 : Int) {σ : Mem} {A B : Mem → Prop} (h : R32 x2 ∧ R32 (x1 + 1) ∧ ((¬ x2 = (x1 + 1) → (0 ≤ x2 ∧ x2 < 24) ∧ (0 ≤ x1 ∧ x1 < 24) ∧ R32 ((σ (r0 + 1) (x2).toNat) - (σ (r0 + 1) (x1).toNat)) ∧ ((((σ (r0 + 1) (x2).toNat) - (σ (r0 + 1) (x1).toNat)) ≤ 16 → TT m_X7_mayFollow 34 [vR r0, vI x1, vI x2, vI x3, vI (x1 + 1)] [] σ (PZ A B)) ∧ (¬ ((σ (r0 + 1) (x2).toNat) - (σ (r0 + 1) (x1).toNat)) ≤ 16 → B σ))) ∧ (x2 = (x1 + 1) → A σ))) : TT m_X7_mayFollow 0 [vR r0, vI x1, vI x2, vI x3, vU] [] σ (PZ A B) := by
  refine TT_iload_n dX7_mayFollow_0 rfl ?_
  refine TT_iload_n dX7_mayFollow_1 rfl ?_
  refine TT_iconst dX7_mayFollow_2 ?_
  refine TT_iadd dX7_mayFollow_3 ?_
  obtain ⟨o1, h⟩ := h
  obtain ⟨o2, h⟩ := h
  refine TT_icmp_ne (tgt := 9) dX7_mayFollow_4 rfl o1 o2 (fun c3 => ?_) (fun c3 => ?_)
  · replace h := h.1 c3
    refine TT_aload_n dX7_mayFollow_9 rfl ?_
    refine TT_getR (r := (r0 + 1)) dX7_mayFollow_10 fd_X7_39 (by decide) rfl (ltT hr0) (shT hr0) (rsT0 hr0) ?_
    refine TT_iload_n dX7_mayFollow_13 rfl ?_
    obtain ⟨o4, h⟩ := h
    refine TT_iald dX7_mayFollow_14 (ltT1 hr0) (shT1 hr0) (by decide) o4 ?_
    refine TT_aload_n dX7_mayFollow_15 rfl ?_
    refine TT_getR (r := (r0 + 1)) dX7_mayFollow_16 fd_X7_39 (by decide) rfl (ltT hr0) (shT hr0) (rsT0 hr0) ?_
    refine TT_iload_n dX7_mayFollow_19 rfl ?_
    obtain ⟨o5, h⟩ := h
    refine TT_iald dX7_mayFollow_20 (ltT1 hr0) (shT1 hr0) (by decide) o5 ?_
    refine TT_isub dX7_mayFollow_21 ?_
    refine TT_bipush dX7_mayFollow_22 (by decide) ?_
    obtain ⟨o6, h⟩ := h
    refine TT_icmp_le (tgt := 29) dX7_mayFollow_24 rfl o6 (by decide) (fun c7 => ?_) (fun c7 => ?_)
    · replace h := h.1 c7
      refine TT_iload_n dX7_mayFollow_29 rfl ?_
      refine TT_iconst dX7_mayFollow_30 ?_
      refine TT_iadd dX7_mayFollow_31 ?_
      refine TT_istore dX7_mayFollow_32 (Nat.le_of_ble_eq_true rfl) rfl rfl ?_
      exact h
    · replace h := h.2 c7
      refine TT_iconst dX7_mayFollow_27 ?_
      exact TT_z0 dX7_mayFollow_28 rfl rfl h
  · replace h := h.2 c3
    refine TT_iconst dX7_mayFollow_7 ?_
    exact TT_z1 dX7_mayFollow_8 rfl rfl h
theorem e_X7_mayFollow (r0 : Nat) (hr0 : isT r0) (x1 : Int) (x2 : Int) (x3 : Int) {σ : Mem} {A B : Mem → Prop} (h : R32 x2 ∧ R32 (x1 + 1) ∧ ((¬ x2 = (x1 + 1) → (0 ≤ x2 ∧ x2 < 24) ∧ (0 ≤ x1 ∧ x1 < 24) ∧ R32 ((σ (r0 + 1) (x2).toNat) - (σ (r0 + 1) (x1).toNat)) ∧ ((((σ (r0 + 1) (x2).toNat) - (σ (r0 + 1) (x1).toNat)) ≤ 16 → TT m_X7_mayFollow 34 [vR r0, vI x1, vI x2, vI x3, vI (x1 + 1)] [] σ (PZ A B)) ∧ (¬ ((σ (r0 + 1) (x2).toNat) - (σ (r0 + 1) (x1).toNat)) ≤ 16 → B σ))) ∧ (x2 = (x1 + 1) → A σ))) : CC m_X7_mayFollow [vR r0, vI x1, vI x2, vI x3] σ (PZ A B) := CC_of (by decide) rfl rfl rfl (Nat.le_of_ble_eq_true rfl) (w_X7_mayFollow_0 r0 hr0 x1 x2 x3 h)
set_option maxRecDepth 4000 in
theorem w_X7_mayFollow_34 (r0 : Nat) (hr0 : isT r0) (x1 : Int) (x2 : Int) (x3 : Int) (x4 : Int) {σ : Mem} {A B : Mem → Prop} (h : R32 x4 ∧ R32 x2 ∧ ((x2 ≤ x4 → A σ) ∧ (¬ x2 ≤ x4 → CC m_X7_isNearLine [vR (r0 + 2), vR (r0 + 1), vI x1, vI x2, vI x4, vI x3] σ (PZ (fun s12 => CC m_X7_isNearLine [vR (r0 + 3), vR (r0 + 1), vI x1, vI x2, vI x4, vI x3] s12 (PZ (fun s16 => TT m_X7_mayFollow 34 [vR r0, vI x1, vI x2, vI x3, vI (x4 + 1)] [] s16 (PZ A B)) (fun s17 => B s17))) (fun s13 => B s13))))) : TT m_X7_mayFollow 34 [vR r0, vI x1, vI x2, vI x3, vI x4] [] σ (PZ A B) := by
  refine TT_iload dX7_mayFollow_34 rfl ?_
  refine TT_iload_n dX7_mayFollow_36 rfl ?_
  obtain ⟨o8, h⟩ := h
  obtain ⟨o9, h⟩ := h
  refine TT_icmp_ge (tgt := 86) dX7_mayFollow_37 rfl o8 o9 (fun c10 => ?_) (fun c10 => ?_)
  · replace h := h.1 c10
    refine TT_iconst dX7_mayFollow_86 ?_
    exact TT_z1 dX7_mayFollow_87 rfl rfl h
  · replace h := h.2 c10
    refine TT_aload_n dX7_mayFollow_40 rfl ?_
    refine TT_getR (r := (r0 + 2)) dX7_mayFollow_41 fd_X7_42 (by decide) rfl (ltT hr0) (shT hr0) (rsT1 hr0) ?_
    refine TT_aload_n dX7_mayFollow_44 rfl ?_
    refine TT_getR (r := (r0 + 1)) dX7_mayFollow_45 fd_X7_39 (by decide) rfl (ltT hr0) (shT hr0) (rsT0 hr0) ?_
    refine TT_iload_n dX7_mayFollow_48 rfl ?_
    refine TT_iload_n dX7_mayFollow_49 rfl ?_
    refine TT_iload dX7_mayFollow_50 rfl ?_
    refine TT_iload_n dX7_mayFollow_52 rfl ?_
    refine TT_callSZ (M' := m_X7_isNearLine) (as := [vR (r0 + 2), vR (r0 + 1), vI x1, vI x2, vI x4, vI x3]) (rest := []) dX7_mayFollow_53 mo_X7_isNearLine ml_X7_45 sm_X7_isNearLine (Nat.le_of_ble_eq_true rfl) (Nat.le_of_ble_eq_true rfl) ⟨rfl, rfl, rfl⟩ rfl rfl (Nat.le_of_ble_eq_true rfl) h (fun s12 h => ?_) (fun s13 h => ?_)
    · refine TT_if_eq (tgt := 78) dX7_mayFollow_56 rfl (by decide) (fun c14 => absurd c14 (by decide)) (fun c14 => ?_)
      refine TT_aload_n dX7_mayFollow_59 rfl ?_
      refine TT_getR (r := (r0 + 3)) dX7_mayFollow_60 fd_X7_49 (by decide) rfl (ltT hr0) (shT hr0) (rsT2 hr0) ?_
      refine TT_aload_n dX7_mayFollow_63 rfl ?_
      refine TT_getR (r := (r0 + 1)) dX7_mayFollow_64 fd_X7_39 (by decide) rfl (ltT hr0) (shT hr0) (rsT0 hr0) ?_
      refine TT_iload_n dX7_mayFollow_67 rfl ?_
      refine TT_iload_n dX7_mayFollow_68 rfl ?_
      refine TT_iload dX7_mayFollow_69 rfl ?_
      refine TT_iload_n dX7_mayFollow_71 rfl ?_
      refine TT_callSZ (M' := m_X7_isNearLine) (as := [vR (r0 + 3), vR (r0 + 1), vI x1, vI x2, vI x4, vI x3]) (rest := []) dX7_mayFollow_72 mo_X7_isNearLine ml_X7_45 sm_X7_isNearLine (Nat.le_of_ble_eq_true rfl) (Nat.le_of_ble_eq_true rfl) ⟨rfl, rfl, rfl⟩ rfl rfl (Nat.le_of_ble_eq_true rfl) h (fun s16 h => ?_) (fun s17 h => ?_)
      · refine TT_if_ne (tgt := 80) dX7_mayFollow_75 rfl (by decide) (fun c18 => ?_) (fun c18 => absurd c18 (by decide))
        refine TT_iinc dX7_mayFollow_80 (Nat.le_of_ble_eq_true rfl) rfl rfl rfl ?_
        refine TT_goto (tgt := 34) dX7_mayFollow_83 rfl ?_
        exact h
      · refine TT_if_ne (tgt := 80) dX7_mayFollow_75 rfl (by decide) (fun c19 => absurd c19 (by decide)) (fun c19 => ?_)
        refine TT_iconst dX7_mayFollow_78 ?_
        exact TT_z0 dX7_mayFollow_79 rfl rfl h
    · refine TT_if_eq (tgt := 78) dX7_mayFollow_56 rfl (by decide) (fun c20 => ?_) (fun c20 => absurd c20 (by decide))
      refine TT_iconst dX7_mayFollow_78 ?_
      exact TT_z0 dX7_mayFollow_79 rfl rfl h
set_option maxRecDepth 4000 in
theorem w_X7_isNearLine_0 (r0 : Nat) (hr0 : r0 < N0 ∧ SH r0 = (20, 24)) (r1 : Nat) (hr1 : r1 < N0 ∧ SH r1 = (20, 24)) (x2 : Int) (x3 : Int) (x4 : Int) (x5 : Int) {σ : Mem} {A B : Mem → Prop} (h : (0 ≤ x3 ∧ x3 < 24) ∧ (0 ≤ x2 ∧ x2 < 24) ∧ (∀ v3 : Int, v3 = ((σ r1 (x3).toNat) - (σ r1 (x2).toNat)) → (0 ≤ x4 ∧ x4 < 24) ∧ (∀ v6 : Int, v6 = ((σ r1 (x4).toNat) - (σ r1 (x2).toNat)) → (∀ v8 : Int, v8 = (((σ r0 (x2).toNat) * v3) + (((σ r0 (x3).toNat) - (σ r0 (x2).toNat)) * v6)) → R32 (((σ r0 (x4).toNat) * v3) - v8) ∧ R32 (iabs (((σ r0 (x4).toNat) * v3) - v8)) ∧ R32 (x5 * v3) ∧ (((x5 * v3) < (iabs (((σ r0 (x4).toNat) * v3) - v8)) → B σ) ∧ (¬ (x5 * v3) < (iabs (((σ r0 (x4).toNat) * v3) - v8)) → A σ)))))) : TT m_X7_isNearLine 0 [vR r0, vR r1, vI x2, vI x3, vI x4, vI x5, vU, vU, vU] [] σ (PZ A B) := by
  refine TT_aload_n dX7_isNearLine_0 rfl ?_
  refine TT_iload_n dX7_isNearLine_1 rfl ?_
  obtain ⟨o1, h⟩ := h
  refine TT_iald dX7_isNearLine_2 hr1.1 hr1.2 (by decide) o1 ?_
  refine TT_aload_n dX7_isNearLine_3 rfl ?_
  refine TT_iload_n dX7_isNearLine_4 rfl ?_
  obtain ⟨o2, h⟩ := h
  refine TT_iald dX7_isNearLine_5 hr1.1 hr1.2 (by decide) o2 ?_
  refine TT_isub dX7_isNearLine_6 ?_
  refine TT_nmI (fun v3 e4 => ?_)
  replace h := h v3 e4
  refine TT_istore dX7_isNearLine_7 (Nat.le_of_ble_eq_true rfl) rfl rfl ?_
  refine TT_aload_n dX7_isNearLine_9 rfl ?_
  refine TT_iload dX7_isNearLine_10 rfl ?_
  obtain ⟨o5, h⟩ := h
  refine TT_iald dX7_isNearLine_12 hr1.1 hr1.2 (by decide) o5 ?_
  refine TT_aload_n dX7_isNearLine_13 rfl ?_
  refine TT_iload_n dX7_isNearLine_14 rfl ?_
  refine TT_iald dX7_isNearLine_15 hr1.1 hr1.2 (by decide) o2 ?_
  refine TT_isub dX7_isNearLine_16 ?_
  refine TT_nmI (fun v6 e7 => ?_)
  replace h := h v6 e7
  refine TT_istore dX7_isNearLine_17 (Nat.le_of_ble_eq_true rfl) rfl rfl ?_
  refine TT_aload_n dX7_isNearLine_19 rfl ?_
  refine TT_iload_n dX7_isNearLine_20 rfl ?_
  refine TT_iald dX7_isNearLine_21 hr0.1 hr0.2 (by decide) o2 ?_
  refine TT_iload dX7_isNearLine_22 rfl ?_
  refine TT_imul dX7_isNearLine_24 ?_
  refine TT_aload_n dX7_isNearLine_25 rfl ?_
  refine TT_iload_n dX7_isNearLine_26 rfl ?_
  refine TT_iald dX7_isNearLine_27 hr0.1 hr0.2 (by decide) o1 ?_
  refine TT_aload_n dX7_isNearLine_28 rfl ?_
  refine TT_iload_n dX7_isNearLine_29 rfl ?_
  refine TT_iald dX7_isNearLine_30 hr0.1 hr0.2 (by decide) o2 ?_
  refine TT_isub dX7_isNearLine_31 ?_
  refine TT_iload dX7_isNearLine_32 rfl ?_
  refine TT_imul dX7_isNearLine_34 ?_
  refine TT_iadd dX7_isNearLine_35 ?_
  refine TT_nmI (fun v8 e9 => ?_)
  replace h := h v8 e9
  refine TT_istore dX7_isNearLine_36 (Nat.le_of_ble_eq_true rfl) rfl rfl ?_
  refine TT_aload_n dX7_isNearLine_38 rfl ?_
  refine TT_iload dX7_isNearLine_39 rfl ?_
  refine TT_iald dX7_isNearLine_41 hr0.1 hr0.2 (by decide) o5 ?_
  refine TT_iload dX7_isNearLine_42 rfl ?_
  refine TT_imul dX7_isNearLine_44 ?_
  refine TT_iload dX7_isNearLine_45 rfl ?_
  refine TT_isub dX7_isNearLine_47 ?_
  obtain ⟨o10, h⟩ := h
  refine TT_abs dX7_isNearLine_48 ml_X7_52 (Nat.le_of_ble_eq_true rfl) (Nat.le_of_ble_eq_true rfl) o10 ?_
  refine TT_iload dX7_isNearLine_51 rfl ?_
  refine TT_iload dX7_isNearLine_53 rfl ?_
  refine TT_imul dX7_isNearLine_55 ?_
  obtain ⟨o11, h⟩ := h
  obtain ⟨o12, h⟩ := h
  refine TT_icmp_gt (tgt := 63) dX7_isNearLine_56 rfl o11 o12 (fun c13 => ?_) (fun c13 => ?_)
  · replace h := h.1 c13
    refine TT_iconst dX7_isNearLine_63 ?_
    exact TT_z0 dX7_isNearLine_64 rfl rfl h
  · replace h := h.2 c13
    refine TT_iconst dX7_isNearLine_59 ?_
    refine TT_goto (tgt := 64) dX7_isNearLine_60 rfl ?_
    exact TT_z1 dX7_isNearLine_64 rfl rfl h
theorem e_X7_isNearLine (r0 : Nat) (hr0 : r0 < N0 ∧ SH r0 = (20, 24)) (r1 : Nat) (hr1 : r1 < N0 ∧ SH r1 = (20, 24)) (x2 : Int) (x3 : Int) (x4 : Int) (x5 : Int) {σ : Mem} {A B : Mem → Prop} (h : (0 ≤ x3 ∧ x3 < 24) ∧ (0 ≤ x2 ∧ x2 < 24) ∧ (∀ v3 : Int, v3 = ((σ r1 (x3).toNat) - (σ r1 (x2).toNat)) → (0 ≤ x4 ∧ x4 < 24) ∧ (∀ v6 : Int, v6 = ((σ r1 (x4).toNat) - (σ r1 (x2).toNat)) → (∀ v8 : Int, v8 = (((σ r0 (x2).toNat) * v3) + (((σ r0 (x3).toNat) - (σ r0 (x2).toNat)) * v6)) → R32 (((σ r0 (x4).toNat) * v3) - v8) ∧ R32 (iabs (((σ r0 (x4).toNat) * v3) - v8)) ∧ R32 (x5 * v3) ∧ (((x5 * v3) < (iabs (((σ r0 (x4).toNat) * v3) - v8)) → B σ) ∧ (¬ (x5 * v3) < (iabs (((σ r0 (x4).toNat) * v3) - v8)) → A σ)))))) : CC m_X7_isNearLine [vR r0, vR r1, vI x2, vI x3, vI x4, vI x5] σ (PZ A B) := CC_of (by decide) rfl rfl rfl (Nat.le_of_ble_eq_true rfl) (w_X7_isNearLine_0 r0 hr0 r1 hr1 x2 x3 x4 x5 h)
set_option maxRecDepth 4000 in
theorem w_X8_lastRowUpTo_0 (r0 : Nat) (hr0 : isT r0) (x1 : Int) {σ : Mem} {K : Int → Mem → Prop} (h : TT m_X8_lastRowUpTo 10 [vR r0, vI x1, vI 0, vI (σ r0 3), vI 0, vU] [] σ (PI K)) : TT m_X8_lastRowUpTo 0 [vR r0, vI x1, vU, vU, vU, vU] [] σ (PI K) := by
  refine TT_iconst dX8_lastRowUpTo_0 ?_
  refine TT_istore_n dX8_lastRowUpTo_1 (Nat.le_of_ble_eq_true rfl) rfl rfl ?_
  refine TT_aload_n dX8_lastRowUpTo_2 rfl ?_
  refine TT_getI dX8_lastRowUpTo_3 fd_X8_21 (by decide) (Or.inl rfl) (ltT hr0) (shT hr0) ?_
  refine TT_istore_n dX8_lastRowUpTo_6 (Nat.le_of_ble_eq_true rfl) rfl rfl ?_
  refine TT_iconst dX8_lastRowUpTo_7 ?_
  refine TT_istore dX8_lastRowUpTo_8 (Nat.le_of_ble_eq_true rfl) rfl rfl ?_
  exact h
theorem e_X8_lastRowUpTo (r0 : Nat) (hr0 : isT r0) (x1 : Int) {σ : Mem} {K : Int → Mem → Prop} (h : TT m_X8_lastRowUpTo 10 [vR r0, vI x1, vI 0, vI (σ r0 3), vI 0, vU] [] σ (PI K)) : CC m_X8_lastRowUpTo [vR r0, vI x1] σ (PI K) := CC_of (by decide) rfl rfl rfl (Nat.le_of_ble_eq_true rfl) (w_X8_lastRowUpTo_0 r0 hr0 x1 h)
set_option maxRecDepth 4000 in
theorem w_X8_lastRowUpTo_10 (r0 : Nat) (hr0 : isT r0) (x1 : Int) (x2 : Int) (x3 : Int) (x4 : Int) {σ : Mem} {K : Int → Mem → Prop} (h : R32 x4 ∧ ((24 ≤ x4 → K (x2 - 1) σ) ∧ (¬ 24 ≤ x4 → R32 x2 ∧ R32 x3 ∧ ((x3 ≤ x2 → K (x2 - 1) σ) ∧ (¬ x3 ≤ x2 → R32 (x2 + x3) ∧ (0 ≤ (Int.tdiv (x2 + x3) 2) ∧ (Int.tdiv (x2 + x3) 2) < 24) ∧ R32 (σ (r0 + 1) (Int.tdiv (x2 + x3) 2).toNat) ∧ R32 x1 ∧ TT m_X8_lastRowUpTo 10 [vR r0, vI x1, vI (if x1 < (σ (r0 + 1) (Int.tdiv (x2 + x3) 2).toNat) then x2 else ((Int.tdiv (x2 + x3) 2) + 1) : Int), vI (if x1 < (σ (r0 + 1) (Int.tdiv (x2 + x3) 2).toNat) then (Int.tdiv (x2 + x3) 2) else x3 : Int), vI (x4 + 1), vU] [] σ (PI K)))))) : TT m_X8_lastRowUpTo 10 [vR r0, vI x1, vI x2, vI x3, vI x4, vU] [] σ (PI K) := by
  refine TT_iload dX8_lastRowUpTo_10 rfl ?_
  refine TT_bipush dX8_lastRowUpTo_12 (by decide) ?_
  obtain ⟨o1, h⟩ := h
  refine TT_icmp_ge (tgt := 57) dX8_lastRowUpTo_14 rfl o1 (by decide) (fun c2 => ?_) (fun c2 => ?_)
  · replace h := h.1 c2
    refine TT_iload_n dX8_lastRowUpTo_57 rfl ?_
    refine TT_iconst dX8_lastRowUpTo_58 ?_
    refine TT_isub dX8_lastRowUpTo_59 ?_
    exact TT_iret dX8_lastRowUpTo_60 rfl rfl h
  · replace h := h.2 c2
    refine TT_iload_n dX8_lastRowUpTo_17 rfl ?_
    refine TT_iload_n dX8_lastRowUpTo_18 rfl ?_
    obtain ⟨o3, h⟩ := h
    obtain ⟨o4, h⟩ := h
    refine TT_icmp_ge (tgt := 57) dX8_lastRowUpTo_19 rfl o3 o4 (fun c5 => ?_) (fun c5 => ?_)
    · replace h := h.1 c5
      refine TT_iload_n dX8_lastRowUpTo_57 rfl ?_
      refine TT_iconst dX8_lastRowUpTo_58 ?_
      refine TT_isub dX8_lastRowUpTo_59 ?_
      exact TT_iret dX8_lastRowUpTo_60 rfl rfl h
    · replace h := h.2 c5
      refine TT_iload_n dX8_lastRowUpTo_22 rfl ?_
      refine TT_iload_n dX8_lastRowUpTo_23 rfl ?_
      refine TT_iadd dX8_lastRowUpTo_24 ?_
      refine TT_iconst dX8_lastRowUpTo_25 ?_
      obtain ⟨o6, h⟩ := h
      refine TT_idiv dX8_lastRowUpTo_26 o6 (by decide) (by decide) ?_
      refine TT_istore dX8_lastRowUpTo_27 (Nat.le_of_ble_eq_true rfl) rfl rfl ?_
      refine TT_aload_n dX8_lastRowUpTo_29 rfl ?_
      refine TT_getR (r := (r0 + 1)) dX8_lastRowUpTo_30 fd_X8_9 (by decide) rfl (ltT hr0) (shT hr0) (rsT0 hr0) ?_
      refine TT_iload dX8_lastRowUpTo_33 rfl ?_
      obtain ⟨o7, h⟩ := h
      refine TT_iald dX8_lastRowUpTo_35 (ltT1 hr0) (shT1 hr0) (by decide) o7 ?_
      refine TT_iload_n dX8_lastRowUpTo_36 rfl ?_
      obtain ⟨o8, h⟩ := h
      obtain ⟨o9, h⟩ := h
      have j11 : TT m_X8_lastRowUpTo 51 [vR r0, vI x1, vI (if x1 < (σ (r0 + 1) (Int.tdiv (x2 + x3) 2).toNat) then x2 else ((Int.tdiv (x2 + x3) 2) + 1) : Int), vI (if x1 < (σ (r0 + 1) (Int.tdiv (x2 + x3) 2).toNat) then (Int.tdiv (x2 + x3) 2) else x3 : Int), vI x4, vI (Int.tdiv (x2 + x3) 2)] [] σ (PI K) := by
        refine TT_iinc dX8_lastRowUpTo_51 (Nat.le_of_ble_eq_true rfl) rfl rfl rfl ?_
        refine TT_goto (tgt := 10) dX8_lastRowUpTo_54 rfl ?_
        refine TT_kill 5 rfl ?_
        exact h
      refine TT_icmp_gt (tgt := 48) dX8_lastRowUpTo_37 rfl o8 o9 (fun c10 => ?_) (fun c10 => ?_)
      · refine TT_iload dX8_lastRowUpTo_48 rfl ?_
        refine TT_istore_n dX8_lastRowUpTo_50 (Nat.le_of_ble_eq_true rfl) rfl rfl ?_
        exact TT.cast j11 (by first | rfl | (simp only [if_pos c10] <;> rfl)) (by first | rfl | (simp only [if_pos c10] <;> rfl))
      · refine TT_iload dX8_lastRowUpTo_40 rfl ?_
        refine TT_iconst dX8_lastRowUpTo_42 ?_
        refine TT_iadd dX8_lastRowUpTo_43 ?_
        refine TT_istore_n dX8_lastRowUpTo_44 (Nat.le_of_ble_eq_true rfl) rfl rfl ?_
        refine TT_goto (tgt := 51) dX8_lastRowUpTo_45 rfl ?_
        exact TT.cast j11 (by first | rfl | (simp only [if_neg c10] <;> rfl)) (by first | rfl | (simp only [if_neg c10] <;> rfl))
set_option maxRecDepth 4000 in
theorem w_X8_hasRowAt_0 (r0 : Nat) (hr0 : isT r0) (x1 : Int) {σ : Mem} {A B : Mem → Prop} (h : CC m_X8_lastRowUpTo [vR r0, vI x1] σ (PI (fun y1 s2 => R32 y1 ∧ ((y1 < 0 → B s2) ∧ (¬ y1 < 0 → (0 ≤ y1 ∧ y1 < 24) ∧ R32 (s2 (r0 + 1) (y1).toNat) ∧ R32 x1 ∧ ((¬ (s2 (r0 + 1) (y1).toNat) = x1 → B s2) ∧ ((s2 (r0 + 1) (y1).toNat) = x1 → A s2))))))) : TT m_X8_hasRowAt 0 [vR r0, vI x1, vU] [] σ (PZ A B) := by
  refine TT_aload_n dX8_hasRowAt_0 rfl ?_
  refine TT_iload_n dX8_hasRowAt_1 rfl ?_
  refine TT_callVI (M' := m_X8_lastRowUpTo) (as := [vI x1]) (rest := []) dX8_hasRowAt_2 mo_X8_lastRowUpTo ml_X8_29 im_X8_lastRowUpTo se_X8_lastRowUpTo (Nat.le_of_ble_eq_true rfl) (Nat.le_of_ble_eq_true rfl) ⟨rfl, rfl, rfl⟩ rfl rfl (Nat.le_of_ble_eq_true rfl) (ltT hr0) (shT hr0) rfl (by decide) h (fun y1 s2 h => ?_)
  refine TT_istore_n dX8_hasRowAt_5 (Nat.le_of_ble_eq_true rfl) rfl rfl ?_
  refine TT_iload_n dX8_hasRowAt_6 rfl ?_
  obtain ⟨o3, h⟩ := h
  refine TT_if_lt (tgt := 24) dX8_hasRowAt_7 rfl o3 (fun c4 => ?_) (fun c4 => ?_)
  · replace h := h.1 c4
    refine TT_iconst dX8_hasRowAt_24 ?_
    exact TT_z0 dX8_hasRowAt_25 rfl rfl h
  · replace h := h.2 c4
    refine TT_aload_n dX8_hasRowAt_10 rfl ?_
    refine TT_getR (r := (r0 + 1)) dX8_hasRowAt_11 fd_X8_9 (by decide) rfl (ltT hr0) (shT hr0) (rsT0 hr0) ?_
    refine TT_iload_n dX8_hasRowAt_14 rfl ?_
    obtain ⟨o5, h⟩ := h
    refine TT_iald dX8_hasRowAt_15 (ltT1 hr0) (shT1 hr0) (by decide) o5 ?_
    refine TT_iload_n dX8_hasRowAt_16 rfl ?_
    obtain ⟨o6, h⟩ := h
    obtain ⟨o7, h⟩ := h
    refine TT_icmp_ne (tgt := 24) dX8_hasRowAt_17 rfl o6 o7 (fun c8 => ?_) (fun c8 => ?_)
    · replace h := h.1 c8
      refine TT_iconst dX8_hasRowAt_24 ?_
      exact TT_z0 dX8_hasRowAt_25 rfl rfl h
    · replace h := h.2 c8
      refine TT_iconst dX8_hasRowAt_20 ?_
      refine TT_goto (tgt := 25) dX8_hasRowAt_21 rfl ?_
      exact TT_z1 dX8_hasRowAt_25 rfl rfl h
theorem e_X8_hasRowAt (r0 : Nat) (hr0 : isT r0) (x1 : Int) {σ : Mem} {A B : Mem → Prop} (h : CC m_X8_lastRowUpTo [vR r0, vI x1] σ (PI (fun y1 s2 => R32 y1 ∧ ((y1 < 0 → B s2) ∧ (¬ y1 < 0 → (0 ≤ y1 ∧ y1 < 24) ∧ R32 (s2 (r0 + 1) (y1).toNat) ∧ R32 x1 ∧ ((¬ (s2 (r0 + 1) (y1).toNat) = x1 → B s2) ∧ ((s2 (r0 + 1) (y1).toNat) = x1 → A s2))))))) : CC m_X8_hasRowAt [vR r0, vI x1] σ (PZ A B) := CC_of (by decide) rfl rfl rfl (Nat.le_of_ble_eq_true rfl) (w_X8_hasRowAt_0 r0 hr0 x1 h)
set_option maxRecDepth 4000 in
theorem w_X8_put_0 (r0 : Nat) (hr0 : isT r0) (x1 : Int) (x2 : Int) (x3 : Int) {σ : Mem} {K : Mem → Prop} (h : CC m_X8_lastRowUpTo [vR r0, vI x1] σ (PI (fun y1 s2 => R32 y1 ∧ ((y1 < 0 → TT m_X8_put 23 [vR r0, vI x1, vI x2, vI x3, vI y1, vU] [] s2 (PN K)) ∧ (¬ y1 < 0 → (0 ≤ y1 ∧ y1 < 24) ∧ R32 (s2 (r0 + 1) (y1).toNat) ∧ R32 x1 ∧ (((s2 (r0 + 1) (y1).toNat) = x1 → TT m_X8_put 75 [vR r0, vI x1, vI x2, vI x3, vI y1, vU] [] s2 (PN K)) ∧ (¬ (s2 (r0 + 1) (y1).toNat) = x1 → TT m_X8_put 23 [vR r0, vI x1, vI x2, vI x3, vI y1, vU] [] s2 (PN K)))))))) : TT m_X8_put 0 [vR r0, vI x1, vI x2, vI x3, vU, vU] [] σ (PN K) := by
  refine TT_aload_n dX8_put_0 rfl ?_
  refine TT_iload_n dX8_put_1 rfl ?_
  refine TT_callVI (M' := m_X8_lastRowUpTo) (as := [vI x1]) (rest := []) dX8_put_2 mo_X8_lastRowUpTo ml_X8_29 im_X8_lastRowUpTo se_X8_lastRowUpTo (Nat.le_of_ble_eq_true rfl) (Nat.le_of_ble_eq_true rfl) ⟨rfl, rfl, rfl⟩ rfl rfl (Nat.le_of_ble_eq_true rfl) (ltT hr0) (shT hr0) rfl (by decide) h (fun y1 s2 h => ?_)
  refine TT_istore dX8_put_5 (Nat.le_of_ble_eq_true rfl) rfl rfl ?_
  refine TT_iload dX8_put_7 rfl ?_
  obtain ⟨o3, h⟩ := h
  refine TT_if_lt (tgt := 23) dX8_put_9 rfl o3 (fun c4 => ?_) (fun c4 => ?_)
  · replace h := h.1 c4
    exact h
  · replace h := h.2 c4
    refine TT_aload_n dX8_put_12 rfl ?_
    refine TT_getR (r := (r0 + 1)) dX8_put_13 fd_X8_9 (by decide) rfl (ltT hr0) (shT hr0) (rsT0 hr0) ?_
    refine TT_iload dX8_put_16 rfl ?_
    obtain ⟨o5, h⟩ := h
    refine TT_iald dX8_put_18 (ltT1 hr0) (shT1 hr0) (by decide) o5 ?_
    refine TT_iload_n dX8_put_19 rfl ?_
    obtain ⟨o6, h⟩ := h
    obtain ⟨o7, h⟩ := h
    refine TT_icmp_eq (tgt := 75) dX8_put_20 rfl o6 o7 (fun c8 => ?_) (fun c8 => ?_)
    · replace h := h.1 c8
      exact h
    · replace h := h.2 c8
      exact h
theorem e_X8_put (r0 : Nat) (hr0 : isT r0) (x1 : Int) (x2 : Int) (x3 : Int) {σ : Mem} {K : Mem → Prop} (h : CC m_X8_lastRowUpTo [vR r0, vI x1] σ (PI (fun y1 s2 => R32 y1 ∧ ((y1 < 0 → TT m_X8_put 23 [vR r0, vI x1, vI x2, vI x3, vI y1, vU] [] s2 (PN K)) ∧ (¬ y1 < 0 → (0 ≤ y1 ∧ y1 < 24) ∧ R32 (s2 (r0 + 1) (y1).toNat) ∧ R32 x1 ∧ (((s2 (r0 + 1) (y1).toNat) = x1 → TT m_X8_put 75 [vR r0, vI x1, vI x2, vI x3, vI y1, vU] [] s2 (PN K)) ∧ (¬ (s2 (r0 + 1) (y1).toNat) = x1 → TT m_X8_put 23 [vR r0, vI x1, vI x2, vI x3, vI y1, vU] [] s2 (PN K)))))))) : CC m_X8_put [vR r0, vI x1, vI x2, vI x3] σ (PN K) := CC_of (by decide) rfl rfl rfl (Nat.le_of_ble_eq_true rfl) (w_X8_put_0 r0 hr0 x1 x2 x3 h)
set_option maxRecDepth 4000 in
theorem w_X8_put_23 (r0 : Nat) (hr0 : isT r0) (x1 : Int) (x2 : Int) (x3 : Int) (x4 : Int) {σ : Mem} {K : Mem → Prop} (h : R32 (σ r0 3) ∧ (((σ r0 3) < 24 → TT m_X8_put 42 [vR r0, vI x1, vI x2, vI x3, vI (x4 + 1), vI (σ r0 3)] [] σ (PN K)) ∧ (¬ (σ r0 3) < 24 → K σ))) : TT m_X8_put 23 [vR r0, vI x1, vI x2, vI x3, vI x4, vU] [] σ (PN K) := by
  refine TT_aload_n dX8_put_23 rfl ?_
  refine TT_getI dX8_put_24 fd_X8_21 (by decide) (Or.inl rfl) (ltT hr0) (shT hr0) ?_
  refine TT_bipush dX8_put_27 (by decide) ?_
  obtain ⟨o9, h⟩ := h
  refine TT_icmp_lt (tgt := 33) dX8_put_29 rfl o9 (by decide) (fun c10 => ?_) (fun c10 => ?_)
  · replace h := h.1 c10
    refine TT_iinc dX8_put_33 (Nat.le_of_ble_eq_true rfl) rfl rfl rfl ?_
    refine TT_aload_n dX8_put_36 rfl ?_
    refine TT_getI dX8_put_37 fd_X8_21 (by decide) (Or.inl rfl) (ltT hr0) (shT hr0) ?_
    refine TT_istore dX8_put_40 (Nat.le_of_ble_eq_true rfl) rfl rfl ?_
    exact h
  · replace h := h.2 c10
    exact TT_vret dX8_put_32 rfl rfl h
set_option maxRecDepth 4000 in
theorem w_X8_put_75 (r0 : Nat) (hr0 : isT r0) (x1 : Int) (x2 : Int) (x3 : Int) (x4 : Int) {σ : Mem} {K : Mem → Prop} (h : (0 ≤ x4 ∧ x4 < 24) ∧ (∀ s12 : Mem, s12 = up σ (r0 + 1) (x4).toNat x1 → (∀ s14 : Mem, s14 = up s12 (r0 + 2) (x4).toNat x2 → (∀ s16 : Mem, s16 = up s14 (r0 + 3) (x4).toNat x3 → K s16)))) : TT m_X8_put 75 [vR r0, vI x1, vI x2, vI x3, vI x4, vU] [] σ (PN K) := by
  refine TT_aload_n dX8_put_75 rfl ?_
  refine TT_getR (r := (r0 + 1)) dX8_put_76 fd_X8_9 (by decide) rfl (ltT hr0) (shT hr0) (rsT0 hr0) ?_
  refine TT_iload dX8_put_79 rfl ?_
  refine TT_iload_n dX8_put_81 rfl ?_
  obtain ⟨o11, h⟩ := h
  refine TT_iast dX8_put_82 (ltT1 hr0) (shT1 hr0) (by decide) o11 ?_
  refine TT_nmM (fun s12 e13 => ?_)
  replace h := h s12 e13
  refine TT_aload_n dX8_put_83 rfl ?_
  refine TT_getR (r := (r0 + 2)) dX8_put_84 fd_X8_15 (by decide) rfl (ltT hr0) (shT hr0) (rsT1 hr0) ?_
  refine TT_iload dX8_put_87 rfl ?_
  refine TT_iload_n dX8_put_89 rfl ?_
  refine TT_iast dX8_put_90 (ltT2 hr0) (shT2 hr0) (by decide) o11 ?_
  refine TT_nmM (fun s14 e15 => ?_)
  replace h := h s14 e15
  refine TT_aload_n dX8_put_91 rfl ?_
  refine TT_getR (r := (r0 + 3)) dX8_put_92 fd_X8_18 (by decide) rfl (ltT hr0) (shT hr0) (rsT2 hr0) ?_
  refine TT_iload dX8_put_95 rfl ?_
  refine TT_iload_n dX8_put_97 rfl ?_
  refine TT_iast dX8_put_98 (ltT3 hr0) (shT3 hr0) (by decide) o11 ?_
  refine TT_nmM (fun s16 e17 => ?_)
  replace h := h s16 e17
  exact TT_vret dX8_put_99 rfl rfl h
set_option maxRecDepth 4000 in
theorem w_X8_put_42 (r0 : Nat) (hr0 : isT r0) (x1 : Int) (x2 : Int) (x3 : Int) (x4 : Int) (x5 : Int) {σ : Mem} {K : Mem → Prop} (h : R32 x5 ∧ R32 x4 ∧ ((x5 ≤ x4 → (∀ s21 : Mem, s21 = up σ r0 3 ((σ r0 3) + 1) → TT m_X8_put 75 [vR r0, vI x1, vI x2, vI x3, vI x4, vU] [] s21 (PN K))) ∧ (¬ x5 ≤ x4 → CC m_X8_copyRow [vR r0, vI (x5 - 1), vI x5] σ (PN (fun s24 => TT m_X8_put 42 [vR r0, vI x1, vI x2, vI x3, vI x4, vI (x5 + (-1))] [] s24 (PN K)))))) : TT m_X8_put 42 [vR r0, vI x1, vI x2, vI x3, vI x4, vI x5] [] σ (PN K) := by
  refine TT_iload dX8_put_42 rfl ?_
  refine TT_iload dX8_put_44 rfl ?_
  obtain ⟨o18, h⟩ := h
  obtain ⟨o19, h⟩ := h
  refine TT_icmp_le (tgt := 65) dX8_put_46 rfl o18 o19 (fun c20 => ?_) (fun c20 => ?_)
  · replace h := h.1 c20
    refine TT_aload_n dX8_put_65 rfl ?_
    refine TT_dup dX8_put_66 rfl ?_
    refine TT_getI dX8_put_67 fd_X8_21 (by decide) (Or.inl rfl) (ltT hr0) (shT hr0) ?_
    refine TT_iconst dX8_put_70 ?_
    refine TT_iadd dX8_put_71 ?_
    refine TT_putI dX8_put_72 fd_X8_21 (by decide) rfl (ltT hr0) (shT hr0) ?_
    refine TT_nmM (fun s21 e22 => ?_)
    replace h := h s21 e22
    refine TT_kill 5 rfl ?_
    exact h
  · replace h := h.2 c20
    refine TT_aload_n dX8_put_49 rfl ?_
    refine TT_iload dX8_put_50 rfl ?_
    refine TT_iconst dX8_put_52 ?_
    refine TT_isub dX8_put_53 ?_
    refine TT_iload dX8_put_54 rfl ?_
    refine TT_callVN (M' := m_X8_copyRow) (as := [vI (x5 - 1), vI x5]) (rest := []) dX8_put_56 mo_X8_copyRow ml_X8_33 im_X8_copyRow se_X8_copyRow (Nat.le_of_ble_eq_true rfl) (Nat.le_of_ble_eq_true rfl) ⟨rfl, rfl, rfl⟩ rfl rfl (Nat.le_of_ble_eq_true rfl) (ltT hr0) (shT hr0) rfl (by decide) h (fun s24 h => ?_)
    refine TT_iinc dX8_put_59 (Nat.le_of_ble_eq_true rfl) rfl rfl rfl ?_
    refine TT_goto (tgt := 42) dX8_put_62 rfl ?_
    exact h
set_option maxRecDepth 4000 in
theorem w_X8_drop_0 (r0 : Nat) (hr0 : isT r0) (x1 : Int) {σ : Mem} {K : Mem → Prop} (h : TT m_X8_drop 2 [vR r0, vU, vI x1] [] σ (PN K)) : TT m_X8_drop 0 [vR r0, vI x1, vU] [] σ (PN K) := by
  refine TT_iload_n dX8_drop_0 rfl ?_
  refine TT_istore_n dX8_drop_1 (Nat.le_of_ble_eq_true rfl) rfl rfl ?_
  refine TT_kill 1 rfl ?_
  exact h
theorem e_X8_drop (r0 : Nat) (hr0 : isT r0) (x1 : Int) {σ : Mem} {K : Mem → Prop} (h : TT m_X8_drop 2 [vR r0, vU, vI x1] [] σ (PN K)) : CC m_X8_drop [vR r0, vI x1] σ (PN K) := CC_of (by decide) rfl rfl rfl (Nat.le_of_ble_eq_true rfl) (w_X8_drop_0 r0 hr0 x1 h)
set_option maxRecDepth 4000 in
theorem w_X8_drop_2 (r0 : Nat) (hr0 : isT r0) (x2 : Int) {σ : Mem} {K : Mem → Prop} (h : R32 (x2 + 1) ∧ R32 (σ r0 3) ∧ (((σ r0 3) ≤ (x2 + 1) → (∀ s4 : Mem, s4 = up σ r0 3 ((σ r0 3) - 1) → K s4)) ∧ (¬ (σ r0 3) ≤ (x2 + 1) → CC m_X8_copyRow [vR r0, vI (x2 + 1), vI x2] σ (PN (fun s7 => TT m_X8_drop 2 [vR r0, vU, vI (x2 + 1)] [] s7 (PN K)))))) : TT m_X8_drop 2 [vR r0, vU, vI x2] [] σ (PN K) := by
  refine TT_iload_n dX8_drop_2 rfl ?_
  refine TT_iconst dX8_drop_3 ?_
  refine TT_iadd dX8_drop_4 ?_
  refine TT_aload_n dX8_drop_5 rfl ?_
  refine TT_getI dX8_drop_6 fd_X8_21 (by decide) (Or.inl rfl) (ltT hr0) (shT hr0) ?_
  obtain ⟨o1, h⟩ := h
  obtain ⟨o2, h⟩ := h
  refine TT_icmp_ge (tgt := 26) dX8_drop_9 rfl o1 o2 (fun c3 => ?_) (fun c3 => ?_)
  · replace h := h.1 c3
    refine TT_aload_n dX8_drop_26 rfl ?_
    refine TT_dup dX8_drop_27 rfl ?_
    refine TT_getI dX8_drop_28 fd_X8_21 (by decide) (Or.inl rfl) (ltT hr0) (shT hr0) ?_
    refine TT_iconst dX8_drop_31 ?_
    refine TT_isub dX8_drop_32 ?_
    refine TT_putI dX8_drop_33 fd_X8_21 (by decide) rfl (ltT hr0) (shT hr0) ?_
    refine TT_nmM (fun s4 e5 => ?_)
    replace h := h s4 e5
    exact TT_vret dX8_drop_36 rfl rfl h
  · replace h := h.2 c3
    refine TT_aload_n dX8_drop_12 rfl ?_
    refine TT_iload_n dX8_drop_13 rfl ?_
    refine TT_iconst dX8_drop_14 ?_
    refine TT_iadd dX8_drop_15 ?_
    refine TT_iload_n dX8_drop_16 rfl ?_
    refine TT_callVN (M' := m_X8_copyRow) (as := [vI (x2 + 1), vI x2]) (rest := []) dX8_drop_17 mo_X8_copyRow ml_X8_33 im_X8_copyRow se_X8_copyRow (Nat.le_of_ble_eq_true rfl) (Nat.le_of_ble_eq_true rfl) ⟨rfl, rfl, rfl⟩ rfl rfl (Nat.le_of_ble_eq_true rfl) (ltT hr0) (shT hr0) rfl (by decide) h (fun s7 h => ?_)
    refine TT_iinc dX8_drop_20 (Nat.le_of_ble_eq_true rfl) rfl rfl rfl ?_
    refine TT_goto (tgt := 2) dX8_drop_23 rfl ?_
    exact h
set_option maxRecDepth 4000 in
theorem w_X8_keepOnly_0 (r0 : Nat) (hr0 : isT r0) (x2 : Int) {σ : Mem} {K : Mem → Prop} (h : TT m_X8_keepOnly 2 [vR r0, vR 30, vI x2, vI 0] [] σ (PN K)) : TT m_X8_keepOnly 0 [vR r0, vR 30, vI x2, vU] [] σ (PN K) := by
  refine TT_iconst dX8_keepOnly_0 ?_
  refine TT_istore_n dX8_keepOnly_1 (Nat.le_of_ble_eq_true rfl) rfl rfl ?_
  exact h
theorem e_X8_keepOnly (r0 : Nat) (hr0 : isT r0) (x2 : Int) {σ : Mem} {K : Mem → Prop} (h : TT m_X8_keepOnly 2 [vR r0, vR 30, vI x2, vI 0] [] σ (PN K)) : CC m_X8_keepOnly [vR r0, vR 30, vI x2] σ (PN K) := CC_of (by decide) rfl rfl rfl (Nat.le_of_ble_eq_true rfl) (w_X8_keepOnly_0 r0 hr0 x2 h)
set_option maxRecDepth 4000 in
theorem w_X8_keepOnly_2 (r0 : Nat) (hr0 : isT r0) (x2 : Int) (x3 : Int) {σ : Mem} {K : Mem → Prop} (h : R32 x3 ∧ R32 x2 ∧ ((x2 ≤ x3 → (∀ s4 : Mem, s4 = up σ r0 3 x2 → K s4)) ∧ (¬ x2 ≤ x3 → (0 ≤ x3 ∧ x3 < 24) ∧ CC m_X8_copyRow [vR r0, vI (σ 30 (x3).toNat), vI x3] σ (PN (fun s8 => TT m_X8_keepOnly 2 [vR r0, vR 30, vI x2, vI (x3 + 1)] [] s8 (PN K)))))) : TT m_X8_keepOnly 2 [vR r0, vR 30, vI x2, vI x3] [] σ (PN K) := by
  refine TT_iload_n dX8_keepOnly_2 rfl ?_
  refine TT_iload_n dX8_keepOnly_3 rfl ?_
  obtain ⟨o1, h⟩ := h
  obtain ⟨o2, h⟩ := h
  refine TT_icmp_ge (tgt := 21) dX8_keepOnly_4 rfl o1 o2 (fun c3 => ?_) (fun c3 => ?_)
  · replace h := h.1 c3
    refine TT_aload_n dX8_keepOnly_21 rfl ?_
    refine TT_iload_n dX8_keepOnly_22 rfl ?_
    refine TT_putI dX8_keepOnly_23 fd_X8_21 (by decide) rfl (ltT hr0) (shT hr0) ?_
    refine TT_nmM (fun s4 e5 => ?_)
    replace h := h s4 e5
    exact TT_vret dX8_keepOnly_26 rfl rfl h
  · replace h := h.2 c3
    refine TT_aload_n dX8_keepOnly_7 rfl ?_
    refine TT_aload_n dX8_keepOnly_8 rfl ?_
    refine TT_iload_n dX8_keepOnly_9 rfl ?_
    obtain ⟨o6, h⟩ := h
    refine TT_iald dX8_keepOnly_10 (by decide) rfl (by decide) o6 ?_
    refine TT_iload_n dX8_keepOnly_11 rfl ?_
    refine TT_callVN (M' := m_X8_copyRow) (as := [vI (σ 30 (x3).toNat), vI x3]) (rest := []) dX8_keepOnly_12 mo_X8_copyRow ml_X8_33 im_X8_copyRow se_X8_copyRow (Nat.le_of_ble_eq_true rfl) (Nat.le_of_ble_eq_true rfl) ⟨rfl, rfl, rfl⟩ rfl rfl (Nat.le_of_ble_eq_true rfl) (ltT hr0) (shT hr0) rfl (by decide) h (fun s8 h => ?_)
    refine TT_iinc dX8_keepOnly_15 (Nat.le_of_ble_eq_true rfl) rfl rfl rfl ?_
    refine TT_goto (tgt := 2) dX8_keepOnly_18 rfl ?_
    exact h
set_option maxRecDepth 4000 in
theorem w_X8_copyRow_0 (r0 : Nat) (hr0 : isT r0) (x1 : Int) (x2 : Int) {σ : Mem} {K : Mem → Prop} (h : (0 ≤ x1 ∧ x1 < 24) ∧ (0 ≤ x2 ∧ x2 < 24) ∧ (∀ s3 : Mem, s3 = up σ (r0 + 1) (x2).toNat (σ (r0 + 1) (x1).toNat) → (∀ s5 : Mem, s5 = up s3 (r0 + 2) (x2).toNat (s3 (r0 + 2) (x1).toNat) → (∀ s7 : Mem, s7 = up s5 (r0 + 3) (x2).toNat (s5 (r0 + 3) (x1).toNat) → K s7)))) : TT m_X8_copyRow 0 [vR r0, vI x1, vI x2] [] σ (PN K) := by
  refine TT_aload_n dX8_copyRow_0 rfl ?_
  refine TT_getR (r := (r0 + 1)) dX8_copyRow_1 fd_X8_9 (by decide) rfl (ltT hr0) (shT hr0) (rsT0 hr0) ?_
  refine TT_iload_n dX8_copyRow_4 rfl ?_
  refine TT_aload_n dX8_copyRow_5 rfl ?_
  refine TT_getR (r := (r0 + 1)) dX8_copyRow_6 fd_X8_9 (by decide) rfl (ltT hr0) (shT hr0) (rsT0 hr0) ?_
  refine TT_iload_n dX8_copyRow_9 rfl ?_
  obtain ⟨o1, h⟩ := h
  refine TT_iald dX8_copyRow_10 (ltT1 hr0) (shT1 hr0) (by decide) o1 ?_
  obtain ⟨o2, h⟩ := h
  refine TT_iast dX8_copyRow_11 (ltT1 hr0) (shT1 hr0) (by decide) o2 ?_
  refine TT_nmM (fun s3 e4 => ?_)
  replace h := h s3 e4
  refine TT_aload_n dX8_copyRow_12 rfl ?_
  refine TT_getR (r := (r0 + 2)) dX8_copyRow_13 fd_X8_15 (by decide) rfl (ltT hr0) (shT hr0) (rsT1 hr0) ?_
  refine TT_iload_n dX8_copyRow_16 rfl ?_
  refine TT_aload_n dX8_copyRow_17 rfl ?_
  refine TT_getR (r := (r0 + 2)) dX8_copyRow_18 fd_X8_15 (by decide) rfl (ltT hr0) (shT hr0) (rsT1 hr0) ?_
  refine TT_iload_n dX8_copyRow_21 rfl ?_
  refine TT_iald dX8_copyRow_22 (ltT2 hr0) (shT2 hr0) (by decide) o1 ?_
  refine TT_iast dX8_copyRow_23 (ltT2 hr0) (shT2 hr0) (by decide) o2 ?_
  refine TT_nmM (fun s5 e6 => ?_)
  replace h := h s5 e6
  refine TT_aload_n dX8_copyRow_24 rfl ?_
  refine TT_getR (r := (r0 + 3)) dX8_copyRow_25 fd_X8_18 (by decide) rfl (ltT hr0) (shT hr0) (rsT2 hr0) ?_
  refine TT_iload_n dX8_copyRow_28 rfl ?_
  refine TT_aload_n dX8_copyRow_29 rfl ?_
  refine TT_getR (r := (r0 + 3)) dX8_copyRow_30 fd_X8_18 (by decide) rfl (ltT hr0) (shT hr0) (rsT2 hr0) ?_
  refine TT_iload_n dX8_copyRow_33 rfl ?_
  refine TT_iald dX8_copyRow_34 (ltT3 hr0) (shT3 hr0) (by decide) o1 ?_
  refine TT_iast dX8_copyRow_35 (ltT3 hr0) (shT3 hr0) (by decide) o2 ?_
  refine TT_nmM (fun s7 e8 => ?_)
  replace h := h s7 e8
  exact TT_vret dX8_copyRow_36 rfl rfl h
theorem e_X8_copyRow (r0 : Nat) (hr0 : isT r0) (x1 : Int) (x2 : Int) {σ : Mem} {K : Mem → Prop} (h : (0 ≤ x1 ∧ x1 < 24) ∧ (0 ≤ x2 ∧ x2 < 24) ∧ (∀ s3 : Mem, s3 = up σ (r0 + 1) (x2).toNat (σ (r0 + 1) (x1).toNat) → (∀ s5 : Mem, s5 = up s3 (r0 + 2) (x2).toNat (s3 (r0 + 2) (x1).toNat) → (∀ s7 : Mem, s7 = up s5 (r0 + 3) (x2).toNat (s5 (r0 + 3) (x1).toNat) → K s7)))) : CC m_X8_copyRow [vR r0, vI x1, vI x2] σ (PN K) := CC_of (by decide) rfl rfl rfl (Nat.le_of_ble_eq_true rfl) (w_X8_copyRow_0 r0 hr0 x1 x2 h)
set_option maxRecDepth 4000 in
theorem w_X8_isLeg_0 (r0 : Nat) (hr0 : isT r0) (x1 : Int) {σ : Mem} {A B : Mem → Prop} (h : R32 x1 ∧ ((x1 < 0 → B σ) ∧ (¬ x1 < 0 → R32 (x1 + 1) ∧ R32 (σ r0 3) ∧ (((σ r0 3) ≤ (x1 + 1) → B σ) ∧ (¬ (σ r0 3) ≤ (x1 + 1) → (0 ≤ (x1 + 1) ∧ (x1 + 1) < 24) ∧ (0 ≤ x1 ∧ x1 < 24) ∧ R32 ((σ (r0 + 1) (x1 + 1).toNat) - (σ (r0 + 1) (x1).toNat)) ∧ ((16 < ((σ (r0 + 1) (x1 + 1).toNat) - (σ (r0 + 1) (x1).toNat)) → B σ) ∧ (¬ 16 < ((σ (r0 + 1) (x1 + 1).toNat) - (σ (r0 + 1) (x1).toNat)) → A σ))))))) : TT m_X8_isLeg 0 [vR r0, vI x1] [] σ (PZ A B) := by
  refine TT_iload_n dX8_isLeg_0 rfl ?_
  obtain ⟨o1, h⟩ := h
  refine TT_if_lt (tgt := 38) dX8_isLeg_1 rfl o1 (fun c2 => ?_) (fun c2 => ?_)
  · replace h := h.1 c2
    refine TT_iconst dX8_isLeg_38 ?_
    exact TT_z0 dX8_isLeg_39 rfl rfl h
  · replace h := h.2 c2
    refine TT_iload_n dX8_isLeg_4 rfl ?_
    refine TT_iconst dX8_isLeg_5 ?_
    refine TT_iadd dX8_isLeg_6 ?_
    refine TT_aload_n dX8_isLeg_7 rfl ?_
    refine TT_getI dX8_isLeg_8 fd_X8_21 (by decide) (Or.inl rfl) (ltT hr0) (shT hr0) ?_
    obtain ⟨o3, h⟩ := h
    obtain ⟨o4, h⟩ := h
    refine TT_icmp_ge (tgt := 38) dX8_isLeg_11 rfl o3 o4 (fun c5 => ?_) (fun c5 => ?_)
    · replace h := h.1 c5
      refine TT_iconst dX8_isLeg_38 ?_
      exact TT_z0 dX8_isLeg_39 rfl rfl h
    · replace h := h.2 c5
      refine TT_aload_n dX8_isLeg_14 rfl ?_
      refine TT_getR (r := (r0 + 1)) dX8_isLeg_15 fd_X8_9 (by decide) rfl (ltT hr0) (shT hr0) (rsT0 hr0) ?_
      refine TT_iload_n dX8_isLeg_18 rfl ?_
      refine TT_iconst dX8_isLeg_19 ?_
      refine TT_iadd dX8_isLeg_20 ?_
      obtain ⟨o6, h⟩ := h
      refine TT_iald dX8_isLeg_21 (ltT1 hr0) (shT1 hr0) (by decide) o6 ?_
      refine TT_aload_n dX8_isLeg_22 rfl ?_
      refine TT_getR (r := (r0 + 1)) dX8_isLeg_23 fd_X8_9 (by decide) rfl (ltT hr0) (shT hr0) (rsT0 hr0) ?_
      refine TT_iload_n dX8_isLeg_26 rfl ?_
      obtain ⟨o7, h⟩ := h
      refine TT_iald dX8_isLeg_27 (ltT1 hr0) (shT1 hr0) (by decide) o7 ?_
      refine TT_isub dX8_isLeg_28 ?_
      refine TT_bipush dX8_isLeg_29 (by decide) ?_
      obtain ⟨o8, h⟩ := h
      refine TT_icmp_gt (tgt := 38) dX8_isLeg_31 rfl o8 (by decide) (fun c9 => ?_) (fun c9 => ?_)
      · replace h := h.1 c9
        refine TT_iconst dX8_isLeg_38 ?_
        exact TT_z0 dX8_isLeg_39 rfl rfl h
      · replace h := h.2 c9
        refine TT_iconst dX8_isLeg_34 ?_
        refine TT_goto (tgt := 39) dX8_isLeg_35 rfl ?_
        exact TT_z1 dX8_isLeg_39 rfl rfl h
theorem e_X8_isLeg (r0 : Nat) (hr0 : isT r0) (x1 : Int) {σ : Mem} {A B : Mem → Prop} (h : R32 x1 ∧ ((x1 < 0 → B σ) ∧ (¬ x1 < 0 → R32 (x1 + 1) ∧ R32 (σ r0 3) ∧ (((σ r0 3) ≤ (x1 + 1) → B σ) ∧ (¬ (σ r0 3) ≤ (x1 + 1) → (0 ≤ (x1 + 1) ∧ (x1 + 1) < 24) ∧ (0 ≤ x1 ∧ x1 < 24) ∧ R32 ((σ (r0 + 1) (x1 + 1).toNat) - (σ (r0 + 1) (x1).toNat)) ∧ ((16 < ((σ (r0 + 1) (x1 + 1).toNat) - (σ (r0 + 1) (x1).toNat)) → B σ) ∧ (¬ 16 < ((σ (r0 + 1) (x1 + 1).toNat) - (σ (r0 + 1) (x1).toNat)) → A σ))))))) : CC m_X8_isLeg [vR r0, vI x1] σ (PZ A B) := CC_of (by decide) rfl rfl rfl (Nat.le_of_ble_eq_true rfl) (w_X8_isLeg_0 r0 hr0 x1 h)
set_option maxRecDepth 4000 in
theorem w_X8_locate_0 (r0 : Nat) (hr0 : isT r0) (x1 : Int) (r2 : Nat) (hr2 : isO r2) {σ : Mem} {A B : Mem → Prop} (h : CC m_X8_lastRowUpTo [vR r0, vI x1] σ (PI (fun y1 s2 => R32 y1 ∧ ((0 ≤ y1 → R32 ((s2 r0 3) - 1) ∧ ((¬ y1 = ((s2 r0 3) - 1) → CC m_X8_isLeg [vR r0, vI y1] s2 (PZ (fun s8 => CC m_X8_followLeg [vR r0, vI y1, vI x1, vR r2] s8 (PN (fun s12 => A s12))) (fun s9 => CC m_X8_standAt [vR r0, vI y1, vR r2] s9 (PN (fun s15 => (0 ≤ y1 ∧ y1 < 24) ∧ R32 (s15 (r0 + 1) (y1).toNat) ∧ R32 x1 ∧ ((¬ (s15 (r0 + 1) (y1).toNat) = x1 → B s15) ∧ ((s15 (r0 + 1) (y1).toNat) = x1 → A s15))))))) ∧ (y1 = ((s2 r0 3) - 1) → CC m_X8_locateBehind [vR r0, vI y1, vI x1, vR r2] s2 (PZ (fun s21 => A s21) (fun s22 => B s22))))) ∧ (¬ 0 ≤ y1 → B s2))))) : TT m_X8_locate 0 [vR r0, vI x1, vR r2, vU] [] σ (PZ A B) := by
  refine TT_aload_n dX8_locate_0 rfl ?_
  refine TT_iload_n dX8_locate_1 rfl ?_
  refine TT_callVI (M' := m_X8_lastRowUpTo) (as := [vI x1]) (rest := []) dX8_locate_2 mo_X8_lastRowUpTo ml_X8_29 im_X8_lastRowUpTo se_X8_lastRowUpTo (Nat.le_of_ble_eq_true rfl) (Nat.le_of_ble_eq_true rfl) ⟨rfl, rfl, rfl⟩ rfl rfl (Nat.le_of_ble_eq_true rfl) (ltT hr0) (shT hr0) rfl (by decide) h (fun y1 s2 h => ?_)
  refine TT_istore_n dX8_locate_5 (Nat.le_of_ble_eq_true rfl) rfl rfl ?_
  refine TT_iload_n dX8_locate_6 rfl ?_
  obtain ⟨o3, h⟩ := h
  refine TT_if_ge (tgt := 12) dX8_locate_7 rfl o3 (fun c4 => ?_) (fun c4 => ?_)
  · replace h := h.1 c4
    refine TT_iload_n dX8_locate_12 rfl ?_
    refine TT_aload_n dX8_locate_13 rfl ?_
    refine TT_getI dX8_locate_14 fd_X8_21 (by decide) (Or.inl rfl) (ltT hr0) (shT hr0) ?_
    refine TT_iconst dX8_locate_17 ?_
    refine TT_isub dX8_locate_18 ?_
    obtain ⟨o5, h⟩ := h
    refine TT_icmp_ne (tgt := 30) dX8_locate_19 rfl o3 o5 (fun c6 => ?_) (fun c6 => ?_)
    · replace h := h.1 c6
      refine TT_aload_n dX8_locate_30 rfl ?_
      refine TT_iload_n dX8_locate_31 rfl ?_
      refine TT_callVZ (M' := m_X8_isLeg) (as := [vI y1]) (rest := []) dX8_locate_32 mo_X8_isLeg ml_X8_41 im_X8_isLeg se_X8_isLeg (Nat.le_of_ble_eq_true rfl) (Nat.le_of_ble_eq_true rfl) ⟨rfl, rfl, rfl⟩ rfl rfl (Nat.le_of_ble_eq_true rfl) (ltT hr0) (shT hr0) rfl (by decide) h (fun s8 h => ?_) (fun s9 h => ?_)
      · refine TT_if_eq (tgt := 47) dX8_locate_35 rfl (by decide) (fun c10 => absurd c10 (by decide)) (fun c10 => ?_)
        refine TT_aload_n dX8_locate_38 rfl ?_
        refine TT_iload_n dX8_locate_39 rfl ?_
        refine TT_iload_n dX8_locate_40 rfl ?_
        refine TT_aload_n dX8_locate_41 rfl ?_
        refine TT_callVN (M' := m_X8_followLeg) (as := [vI y1, vI x1, vR r2]) (rest := []) dX8_locate_42 mo_X8_followLeg ml_X8_45 im_X8_followLeg se_X8_followLeg (Nat.le_of_ble_eq_true rfl) (Nat.le_of_ble_eq_true rfl) ⟨rfl, rfl, rfl⟩ rfl rfl (Nat.le_of_ble_eq_true rfl) (ltT hr0) (shT hr0) rfl (by decide) h (fun s12 h => ?_)
        refine TT_iconst dX8_locate_45 ?_
        exact TT_z1 dX8_locate_46 rfl rfl h
      · refine TT_if_eq (tgt := 47) dX8_locate_35 rfl (by decide) (fun c13 => ?_) (fun c13 => absurd c13 (by decide))
        refine TT_aload_n dX8_locate_47 rfl ?_
        refine TT_iload_n dX8_locate_48 rfl ?_
        refine TT_aload_n dX8_locate_49 rfl ?_
        refine TT_callVN (M' := m_X8_standAt) (as := [vI y1, vR r2]) (rest := []) dX8_locate_50 mo_X8_standAt ml_X8_49 im_X8_standAt se_X8_standAt (Nat.le_of_ble_eq_true rfl) (Nat.le_of_ble_eq_true rfl) ⟨rfl, rfl, rfl⟩ rfl rfl (Nat.le_of_ble_eq_true rfl) (ltT hr0) (shT hr0) rfl (by decide) h (fun s15 h => ?_)
        refine TT_aload_n dX8_locate_53 rfl ?_
        refine TT_getR (r := (r0 + 1)) dX8_locate_54 fd_X8_9 (by decide) rfl (ltT hr0) (shT hr0) (rsT0 hr0) ?_
        refine TT_iload_n dX8_locate_57 rfl ?_
        obtain ⟨o16, h⟩ := h
        refine TT_iald dX8_locate_58 (ltT1 hr0) (shT1 hr0) (by decide) o16 ?_
        refine TT_iload_n dX8_locate_59 rfl ?_
        obtain ⟨o17, h⟩ := h
        obtain ⟨o18, h⟩ := h
        refine TT_icmp_ne (tgt := 67) dX8_locate_60 rfl o17 o18 (fun c19 => ?_) (fun c19 => ?_)
        · replace h := h.1 c19
          refine TT_iconst dX8_locate_67 ?_
          exact TT_z0 dX8_locate_68 rfl rfl h
        · replace h := h.2 c19
          refine TT_iconst dX8_locate_63 ?_
          refine TT_goto (tgt := 68) dX8_locate_64 rfl ?_
          exact TT_z1 dX8_locate_68 rfl rfl h
    · replace h := h.2 c6
      refine TT_aload_n dX8_locate_22 rfl ?_
      refine TT_iload_n dX8_locate_23 rfl ?_
      refine TT_iload_n dX8_locate_24 rfl ?_
      refine TT_aload_n dX8_locate_25 rfl ?_
      refine TT_callVZ (M' := m_X8_locateBehind) (as := [vI y1, vI x1, vR r2]) (rest := []) dX8_locate_26 mo_X8_locateBehind ml_X8_37 im_X8_locateBehind se_X8_locateBehind (Nat.le_of_ble_eq_true rfl) (Nat.le_of_ble_eq_true rfl) ⟨rfl, rfl, rfl⟩ rfl rfl (Nat.le_of_ble_eq_true rfl) (ltT hr0) (shT hr0) rfl (by decide) h (fun s21 h => ?_) (fun s22 h => ?_)
      · exact TT_z1 dX8_locate_29 rfl rfl h
      · exact TT_z0 dX8_locate_29 rfl rfl h
  · replace h := h.2 c4
    refine TT_iconst dX8_locate_10 ?_
    exact TT_z0 dX8_locate_11 rfl rfl h
theorem e_X8_locate (r0 : Nat) (hr0 : isT r0) (x1 : Int) (r2 : Nat) (hr2 : isO r2) {σ : Mem} {A B : Mem → Prop} (h : CC m_X8_lastRowUpTo [vR r0, vI x1] σ (PI (fun y1 s2 => R32 y1 ∧ ((0 ≤ y1 → R32 ((s2 r0 3) - 1) ∧ ((¬ y1 = ((s2 r0 3) - 1) → CC m_X8_isLeg [vR r0, vI y1] s2 (PZ (fun s8 => CC m_X8_followLeg [vR r0, vI y1, vI x1, vR r2] s8 (PN (fun s12 => A s12))) (fun s9 => CC m_X8_standAt [vR r0, vI y1, vR r2] s9 (PN (fun s15 => (0 ≤ y1 ∧ y1 < 24) ∧ R32 (s15 (r0 + 1) (y1).toNat) ∧ R32 x1 ∧ ((¬ (s15 (r0 + 1) (y1).toNat) = x1 → B s15) ∧ ((s15 (r0 + 1) (y1).toNat) = x1 → A s15))))))) ∧ (y1 = ((s2 r0 3) - 1) → CC m_X8_locateBehind [vR r0, vI y1, vI x1, vR r2] s2 (PZ (fun s21 => A s21) (fun s22 => B s22))))) ∧ (¬ 0 ≤ y1 → B s2))))) : CC m_X8_locate [vR r0, vI x1, vR r2] σ (PZ A B) := CC_of (by decide) rfl rfl rfl (Nat.le_of_ble_eq_true rfl) (w_X8_locate_0 r0 hr0 x1 r2 hr2 h)
set_option maxRecDepth 4000 in
theorem w_X8_locateBehind_0 (r0 : Nat) (hr0 : isT r0) (x1 : Int) (x2 : Int) (r3 : Nat) (hr3 : isO r3) {σ : Mem} {A B : Mem → Prop} (h : (0 ≤ x1 ∧ x1 < 24) ∧ R32 (x2 - (σ (r0 + 1) (x1).toNat)) ∧ (((x2 - (σ (r0 + 1) (x1).toNat)) ≤ 16 → R32 (σ r0 4) ∧ (((σ r0 4) = 0 → TT m_X8_locateBehind 44 [vR r0, vI x1, vU, vR r3] [] σ (PZ A B)) ∧ (¬ (σ r0 4) = 0 → CC m_X8_isLeg [vR r0, vI (x1 - 1)] σ (PZ (fun s7 => CC m_X8_followLeg [vR r0, vI (x1 - 1), vI x2, vR r3] s7 (PN (fun s11 => A s11))) (fun s8 => TT m_X8_locateBehind 44 [vR r0, vI x1, vU, vR r3] [] s8 (PZ A B)))))) ∧ (¬ (x2 - (σ (r0 + 1) (x1).toNat)) ≤ 16 → B σ))) : TT m_X8_locateBehind 0 [vR r0, vI x1, vI x2, vR r3] [] σ (PZ A B) := by
  refine TT_iload_n dX8_locateBehind_0 rfl ?_
  refine TT_aload_n dX8_locateBehind_1 rfl ?_
  refine TT_getR (r := (r0 + 1)) dX8_locateBehind_2 fd_X8_9 (by decide) rfl (ltT hr0) (shT hr0) (rsT0 hr0) ?_
  refine TT_iload_n dX8_locateBehind_5 rfl ?_
  obtain ⟨o1, h⟩ := h
  refine TT_iald dX8_locateBehind_6 (ltT1 hr0) (shT1 hr0) (by decide) o1 ?_
  refine TT_isub dX8_locateBehind_7 ?_
  refine TT_bipush dX8_locateBehind_8 (by decide) ?_
  obtain ⟨o2, h⟩ := h
  refine TT_icmp_le (tgt := 15) dX8_locateBehind_10 rfl o2 (by decide) (fun c3 => ?_) (fun c3 => ?_)
  · replace h := h.1 c3
    refine TT_aload_n dX8_locateBehind_15 rfl ?_
    refine TT_getI dX8_locateBehind_16 fd_X8_25 (by decide) (Or.inr rfl) (ltT hr0) (shT hr0) ?_
    obtain ⟨o4, h⟩ := h
    refine TT_if_eq (tgt := 44) dX8_locateBehind_19 rfl o4 (fun c5 => ?_) (fun c5 => ?_)
    · replace h := h.1 c5
      refine TT_kill 2 rfl ?_
      exact h
    · replace h := h.2 c5
      refine TT_aload_n dX8_locateBehind_22 rfl ?_
      refine TT_iload_n dX8_locateBehind_23 rfl ?_
      refine TT_iconst dX8_locateBehind_24 ?_
      refine TT_isub dX8_locateBehind_25 ?_
      refine TT_callVZ (M' := m_X8_isLeg) (as := [vI (x1 - 1)]) (rest := []) dX8_locateBehind_26 mo_X8_isLeg ml_X8_41 im_X8_isLeg se_X8_isLeg (Nat.le_of_ble_eq_true rfl) (Nat.le_of_ble_eq_true rfl) ⟨rfl, rfl, rfl⟩ rfl rfl (Nat.le_of_ble_eq_true rfl) (ltT hr0) (shT hr0) rfl (by decide) h (fun s7 h => ?_) (fun s8 h => ?_)
      · refine TT_if_eq (tgt := 44) dX8_locateBehind_29 rfl (by decide) (fun c9 => absurd c9 (by decide)) (fun c9 => ?_)
        refine TT_aload_n dX8_locateBehind_32 rfl ?_
        refine TT_iload_n dX8_locateBehind_33 rfl ?_
        refine TT_iconst dX8_locateBehind_34 ?_
        refine TT_isub dX8_locateBehind_35 ?_
        refine TT_iload_n dX8_locateBehind_36 rfl ?_
        refine TT_aload_n dX8_locateBehind_37 rfl ?_
        refine TT_callVN (M' := m_X8_followLeg) (as := [vI (x1 - 1), vI x2, vR r3]) (rest := []) dX8_locateBehind_38 mo_X8_followLeg ml_X8_45 im_X8_followLeg se_X8_followLeg (Nat.le_of_ble_eq_true rfl) (Nat.le_of_ble_eq_true rfl) ⟨rfl, rfl, rfl⟩ rfl rfl (Nat.le_of_ble_eq_true rfl) (ltT hr0) (shT hr0) rfl (by decide) h (fun s11 h => ?_)
        refine TT_goto (tgt := 50) dX8_locateBehind_41 rfl ?_
        refine TT_iconst dX8_locateBehind_50 ?_
        exact TT_z1 dX8_locateBehind_51 rfl rfl h
      · refine TT_if_eq (tgt := 44) dX8_locateBehind_29 rfl (by decide) (fun c12 => ?_) (fun c12 => absurd c12 (by decide))
        refine TT_kill 2 rfl ?_
        exact h
  · replace h := h.2 c3
    refine TT_iconst dX8_locateBehind_13 ?_
    exact TT_z0 dX8_locateBehind_14 rfl rfl h
theorem e_X8_locateBehind (r0 : Nat) (hr0 : isT r0) (x1 : Int) (x2 : Int) (r3 : Nat) (hr3 : isO r3) {σ : Mem} {A B : Mem → Prop} (h : (0 ≤ x1 ∧ x1 < 24) ∧ R32 (x2 - (σ (r0 + 1) (x1).toNat)) ∧ (((x2 - (σ (r0 + 1) (x1).toNat)) ≤ 16 → R32 (σ r0 4) ∧ (((σ r0 4) = 0 → TT m_X8_locateBehind 44 [vR r0, vI x1, vU, vR r3] [] σ (PZ A B)) ∧ (¬ (σ r0 4) = 0 → CC m_X8_isLeg [vR r0, vI (x1 - 1)] σ (PZ (fun s7 => CC m_X8_followLeg [vR r0, vI (x1 - 1), vI x2, vR r3] s7 (PN (fun s11 => A s11))) (fun s8 => TT m_X8_locateBehind 44 [vR r0, vI x1, vU, vR r3] [] s8 (PZ A B)))))) ∧ (¬ (x2 - (σ (r0 + 1) (x1).toNat)) ≤ 16 → B σ))) : CC m_X8_locateBehind [vR r0, vI x1, vI x2, vR r3] σ (PZ A B) := CC_of (by decide) rfl rfl rfl (Nat.le_of_ble_eq_true rfl) (w_X8_locateBehind_0 r0 hr0 x1 x2 r3 hr3 h)
set_option maxRecDepth 4000 in
theorem w_X8_locateBehind_44 (r0 : Nat) (hr0 : isT r0) (x1 : Int) (r3 : Nat) (hr3 : isO r3) {σ : Mem} {A B : Mem → Prop} (h : CC m_X8_standAt [vR r0, vI x1, vR r3] σ (PN (fun s14 => A s14))) : TT m_X8_locateBehind 44 [vR r0, vI x1, vU, vR r3] [] σ (PZ A B) := by
  refine TT_aload_n dX8_locateBehind_44 rfl ?_
  refine TT_iload_n dX8_locateBehind_45 rfl ?_
  refine TT_aload_n dX8_locateBehind_46 rfl ?_
  refine TT_callVN (M' := m_X8_standAt) (as := [vI x1, vR r3]) (rest := []) dX8_locateBehind_47 mo_X8_standAt ml_X8_49 im_X8_standAt se_X8_standAt (Nat.le_of_ble_eq_true rfl) (Nat.le_of_ble_eq_true rfl) ⟨rfl, rfl, rfl⟩ rfl rfl (Nat.le_of_ble_eq_true rfl) (ltT hr0) (shT hr0) rfl (by decide) h (fun s14 h => ?_)
  refine TT_iconst dX8_locateBehind_50 ?_
  exact TT_z1 dX8_locateBehind_51 rfl rfl h
set_option maxRecDepth 4000 in
theorem w_X8_standAt_0 (r0 : Nat) (hr0 : isT r0) (x1 : Int) (r2 : Nat) (hr2 : isO r2) {σ : Mem} {K : Mem → Prop} (h : (0 ≤ x1 ∧ x1 < 24) ∧ (∀ s2 : Mem, s2 = up σ r2 0 (σ (r0 + 2) (x1).toNat) → (∀ s4 : Mem, s4 = up s2 r2 1 (s2 (r0 + 3) (x1).toNat) → (∀ s6 : Mem, s6 = up s4 r2 2 1 → K s6)))) : TT m_X8_standAt 0 [vR r0, vI x1, vR r2] [] σ (PN K) := by
  refine TT_aload_n dX8_standAt_0 rfl ?_
  refine TT_aload_n dX8_standAt_1 rfl ?_
  refine TT_getR (r := (r0 + 2)) dX8_standAt_2 fd_X8_15 (by decide) rfl (ltT hr0) (shT hr0) (rsT1 hr0) ?_
  refine TT_iload_n dX8_standAt_5 rfl ?_
  obtain ⟨o1, h⟩ := h
  refine TT_iald dX8_standAt_6 (ltT2 hr0) (shT2 hr0) (by decide) o1 ?_
  refine TT_putI dX8_standAt_7 fd_X8_53 (by decide) rfl (ltO hr2) (shO hr2) ?_
  refine TT_nmM (fun s2 e3 => ?_)
  replace h := h s2 e3
  refine TT_aload_n dX8_standAt_10 rfl ?_
  refine TT_aload_n dX8_standAt_11 rfl ?_
  refine TT_getR (r := (r0 + 3)) dX8_standAt_12 fd_X8_18 (by decide) rfl (ltT hr0) (shT hr0) (rsT2 hr0) ?_
  refine TT_iload_n dX8_standAt_15 rfl ?_
  refine TT_iald dX8_standAt_16 (ltT3 hr0) (shT3 hr0) (by decide) o1 ?_
  refine TT_putI dX8_standAt_17 fd_X8_58 (by decide) rfl (ltO hr2) (shO hr2) ?_
  refine TT_nmM (fun s4 e5 => ?_)
  replace h := h s4 e5
  refine TT_aload_n dX8_standAt_20 rfl ?_
  refine TT_iconst dX8_standAt_21 ?_
  refine TT_putI dX8_standAt_22 fd_X8_61 (by decide) rfl (ltO hr2) (shO hr2) ?_
  refine TT_nmM (fun s6 e7 => ?_)
  replace h := h s6 e7
  exact TT_vret dX8_standAt_25 rfl rfl h
theorem e_X8_standAt (r0 : Nat) (hr0 : isT r0) (x1 : Int) (r2 : Nat) (hr2 : isO r2) {σ : Mem} {K : Mem → Prop} (h : (0 ≤ x1 ∧ x1 < 24) ∧ (∀ s2 : Mem, s2 = up σ r2 0 (σ (r0 + 2) (x1).toNat) → (∀ s4 : Mem, s4 = up s2 r2 1 (s2 (r0 + 3) (x1).toNat) → (∀ s6 : Mem, s6 = up s4 r2 2 1 → K s6)))) : CC m_X8_standAt [vR r0, vI x1, vR r2] σ (PN K) := CC_of (by decide) rfl rfl rfl (Nat.le_of_ble_eq_true rfl) (w_X8_standAt_0 r0 hr0 x1 r2 hr2 h)
set_option maxRecDepth 4000 in
theorem w_X8_followLeg_0 (r0 : Nat) (hr0 : isT r0) (x1 : Int) (x2 : Int) (r3 : Nat) (hr3 : isO r3) {σ : Mem} {K : Mem → Prop} (h : (0 ≤ x1 ∧ x1 < 24) ∧ (0 ≤ (x1 + 1) ∧ (x1 + 1) < 24) ∧ (∀ s3 : Mem, s3 = up σ r3 2 ((σ (r0 + 1) (x1 + 1).toNat) - (σ (r0 + 1) (x1).toNat)) → (∀ s5 : Mem, s5 = up s3 r3 0 (((s3 (r0 + 2) (x1).toNat) * (s3 r3 2)) + (((s3 (r0 + 2) (x1 + 1).toNat) - (s3 (r0 + 2) (x1).toNat)) * (x2 - (σ (r0 + 1) (x1).toNat)))) → (∀ s7 : Mem, s7 = up s5 r3 1 (((s5 (r0 + 3) (x1).toNat) * (s5 r3 2)) + (((s5 (r0 + 3) (x1 + 1).toNat) - (s5 (r0 + 3) (x1).toNat)) * (x2 - (σ (r0 + 1) (x1).toNat)))) → K s7)))) : TT m_X8_followLeg 0 [vR r0, vI x1, vI x2, vR r3, vU] [] σ (PN K) := by
  refine TT_iload_n dX8_followLeg_0 rfl ?_
  refine TT_aload_n dX8_followLeg_1 rfl ?_
  refine TT_getR (r := (r0 + 1)) dX8_followLeg_2 fd_X8_9 (by decide) rfl (ltT hr0) (shT hr0) (rsT0 hr0) ?_
  refine TT_iload_n dX8_followLeg_5 rfl ?_
  obtain ⟨o1, h⟩ := h
  refine TT_iald dX8_followLeg_6 (ltT1 hr0) (shT1 hr0) (by decide) o1 ?_
  refine TT_isub dX8_followLeg_7 ?_
  refine TT_istore dX8_followLeg_8 (Nat.le_of_ble_eq_true rfl) rfl rfl ?_
  refine TT_aload_n dX8_followLeg_10 rfl ?_
  refine TT_aload_n dX8_followLeg_11 rfl ?_
  refine TT_getR (r := (r0 + 1)) dX8_followLeg_12 fd_X8_9 (by decide) rfl (ltT hr0) (shT hr0) (rsT0 hr0) ?_
  refine TT_iload_n dX8_followLeg_15 rfl ?_
  refine TT_iconst dX8_followLeg_16 ?_
  refine TT_iadd dX8_followLeg_17 ?_
  obtain ⟨o2, h⟩ := h
  refine TT_iald dX8_followLeg_18 (ltT1 hr0) (shT1 hr0) (by decide) o2 ?_
  refine TT_aload_n dX8_followLeg_19 rfl ?_
  refine TT_getR (r := (r0 + 1)) dX8_followLeg_20 fd_X8_9 (by decide) rfl (ltT hr0) (shT hr0) (rsT0 hr0) ?_
  refine TT_iload_n dX8_followLeg_23 rfl ?_
  refine TT_iald dX8_followLeg_24 (ltT1 hr0) (shT1 hr0) (by decide) o1 ?_
  refine TT_isub dX8_followLeg_25 ?_
  refine TT_putI dX8_followLeg_26 fd_X8_61 (by decide) rfl (ltO hr3) (shO hr3) ?_
  refine TT_nmM (fun s3 e4 => ?_)
  replace h := h s3 e4
  refine TT_aload_n dX8_followLeg_29 rfl ?_
  refine TT_aload_n dX8_followLeg_30 rfl ?_
  refine TT_getR (r := (r0 + 2)) dX8_followLeg_31 fd_X8_15 (by decide) rfl (ltT hr0) (shT hr0) (rsT1 hr0) ?_
  refine TT_iload_n dX8_followLeg_34 rfl ?_
  refine TT_iald dX8_followLeg_35 (ltT2 hr0) (shT2 hr0) (by decide) o1 ?_
  refine TT_aload_n dX8_followLeg_36 rfl ?_
  refine TT_getI dX8_followLeg_37 fd_X8_61 (by decide) (Or.inl rfl) (ltO hr3) (shO hr3) ?_
  refine TT_imul dX8_followLeg_40 ?_
  refine TT_aload_n dX8_followLeg_41 rfl ?_
  refine TT_getR (r := (r0 + 2)) dX8_followLeg_42 fd_X8_15 (by decide) rfl (ltT hr0) (shT hr0) (rsT1 hr0) ?_
  refine TT_iload_n dX8_followLeg_45 rfl ?_
  refine TT_iconst dX8_followLeg_46 ?_
  refine TT_iadd dX8_followLeg_47 ?_
  refine TT_iald dX8_followLeg_48 (ltT2 hr0) (shT2 hr0) (by decide) o2 ?_
  refine TT_aload_n dX8_followLeg_49 rfl ?_
  refine TT_getR (r := (r0 + 2)) dX8_followLeg_50 fd_X8_15 (by decide) rfl (ltT hr0) (shT hr0) (rsT1 hr0) ?_
  refine TT_iload_n dX8_followLeg_53 rfl ?_
  refine TT_iald dX8_followLeg_54 (ltT2 hr0) (shT2 hr0) (by decide) o1 ?_
  refine TT_isub dX8_followLeg_55 ?_
  refine TT_iload dX8_followLeg_56 rfl ?_
  refine TT_imul dX8_followLeg_58 ?_
  refine TT_iadd dX8_followLeg_59 ?_
  refine TT_putI dX8_followLeg_60 fd_X8_53 (by decide) rfl (ltO hr3) (shO hr3) ?_
  refine TT_nmM (fun s5 e6 => ?_)
  replace h := h s5 e6
  refine TT_aload_n dX8_followLeg_63 rfl ?_
  refine TT_aload_n dX8_followLeg_64 rfl ?_
  refine TT_getR (r := (r0 + 3)) dX8_followLeg_65 fd_X8_18 (by decide) rfl (ltT hr0) (shT hr0) (rsT2 hr0) ?_
  refine TT_iload_n dX8_followLeg_68 rfl ?_
  refine TT_iald dX8_followLeg_69 (ltT3 hr0) (shT3 hr0) (by decide) o1 ?_
  refine TT_aload_n dX8_followLeg_70 rfl ?_
  refine TT_getI dX8_followLeg_71 fd_X8_61 (by decide) (Or.inl rfl) (ltO hr3) (shO hr3) ?_
  refine TT_imul dX8_followLeg_74 ?_
  refine TT_aload_n dX8_followLeg_75 rfl ?_
  refine TT_getR (r := (r0 + 3)) dX8_followLeg_76 fd_X8_18 (by decide) rfl (ltT hr0) (shT hr0) (rsT2 hr0) ?_
  refine TT_iload_n dX8_followLeg_79 rfl ?_
  refine TT_iconst dX8_followLeg_80 ?_
  refine TT_iadd dX8_followLeg_81 ?_
  refine TT_iald dX8_followLeg_82 (ltT3 hr0) (shT3 hr0) (by decide) o2 ?_
  refine TT_aload_n dX8_followLeg_83 rfl ?_
  refine TT_getR (r := (r0 + 3)) dX8_followLeg_84 fd_X8_18 (by decide) rfl (ltT hr0) (shT hr0) (rsT2 hr0) ?_
  refine TT_iload_n dX8_followLeg_87 rfl ?_
  refine TT_iald dX8_followLeg_88 (ltT3 hr0) (shT3 hr0) (by decide) o1 ?_
  refine TT_isub dX8_followLeg_89 ?_
  refine TT_iload dX8_followLeg_90 rfl ?_
  refine TT_imul dX8_followLeg_92 ?_
  refine TT_iadd dX8_followLeg_93 ?_
  refine TT_putI dX8_followLeg_94 fd_X8_58 (by decide) rfl (ltO hr3) (shO hr3) ?_
  refine TT_nmM (fun s7 e8 => ?_)
  replace h := h s7 e8
  exact TT_vret dX8_followLeg_97 rfl rfl h
theorem e_X8_followLeg (r0 : Nat) (hr0 : isT r0) (x1 : Int) (x2 : Int) (r3 : Nat) (hr3 : isO r3) {σ : Mem} {K : Mem → Prop} (h : (0 ≤ x1 ∧ x1 < 24) ∧ (0 ≤ (x1 + 1) ∧ (x1 + 1) < 24) ∧ (∀ s3 : Mem, s3 = up σ r3 2 ((σ (r0 + 1) (x1 + 1).toNat) - (σ (r0 + 1) (x1).toNat)) → (∀ s5 : Mem, s5 = up s3 r3 0 (((s3 (r0 + 2) (x1).toNat) * (s3 r3 2)) + (((s3 (r0 + 2) (x1 + 1).toNat) - (s3 (r0 + 2) (x1).toNat)) * (x2 - (σ (r0 + 1) (x1).toNat)))) → (∀ s7 : Mem, s7 = up s5 r3 1 (((s5 (r0 + 3) (x1).toNat) * (s5 r3 2)) + (((s5 (r0 + 3) (x1 + 1).toNat) - (s5 (r0 + 3) (x1).toNat)) * (x2 - (σ (r0 + 1) (x1).toNat)))) → K s7)))) : CC m_X8_followLeg [vR r0, vI x1, vI x2, vR r3] σ (PN K) := CC_of (by decide) rfl rfl rfl (Nat.le_of_ble_eq_true rfl) (w_X8_followLeg_0 r0 hr0 x1 x2 r3 hr3 h)
