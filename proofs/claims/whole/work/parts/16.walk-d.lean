set_option maxRecDepth 4000 in
theorem w_X10_in_0 (x0 : Int) (x2 : Int) (x4 : Int) {σ : Mem} {A B : Mem → Prop} (h : R64 x0 ∧ R64 x2 ∧ ((x0 < x2 → B σ) ∧ (¬ x0 < x2 → R64 x4 ∧ ((x4 < x0 → B σ) ∧ (¬ x4 < x0 → A σ))))) : TT m_X10_in 0 [vL x0, vU, vL x2, vU, vL x4, vU] [] σ (PZ A B) := by
  refine TT_lload_n dX10_in_0 rfl ?_
  refine TT_lload_n dX10_in_1 rfl ?_
  obtain ⟨o1, h⟩ := h
  obtain ⟨o2, h⟩ := h
  refine TT_lc_lt (tgt := 17) dX10_in_2 dX10_in_3 rfl o1 o2 (fun c3 => ?_) (fun c3 => ?_)
  · replace h := h.1 c3
    refine TT_iconst dX10_in_17 ?_
    exact TT_z0 dX10_in_18 rfl rfl h
  · replace h := h.2 c3
    refine TT_lload_n dX10_in_6 rfl ?_
    refine TT_lload dX10_in_7 rfl ?_
    obtain ⟨o4, h⟩ := h
    refine TT_lc_gt (tgt := 17) dX10_in_9 dX10_in_10 rfl o1 o4 (fun c5 => ?_) (fun c5 => ?_)
    · replace h := h.1 c5
      refine TT_iconst dX10_in_17 ?_
      exact TT_z0 dX10_in_18 rfl rfl h
    · replace h := h.2 c5
      refine TT_iconst dX10_in_13 ?_
      refine TT_goto (tgt := 18) dX10_in_14 rfl ?_
      exact TT_z1 dX10_in_18 rfl rfl h
theorem e_X10_in (x0 : Int) (x2 : Int) (x4 : Int) {σ : Mem} {A B : Mem → Prop} (h : R64 x0 ∧ R64 x2 ∧ ((x0 < x2 → B σ) ∧ (¬ x0 < x2 → R64 x4 ∧ ((x4 < x0 → B σ) ∧ (¬ x4 < x0 → A σ))))) : CC m_X10_in [vL x0, vL x2, vL x4] σ (PZ A B) := CC_of (by decide) rfl rfl rfl (Nat.le_of_ble_eq_true rfl) (w_X10_in_0 x0 x2 x4 h)
set_option maxRecDepth 4000 in
theorem w_X10_isThing_0 (x0 : Int) {σ : Mem} {A B : Mem → Prop} (h : R32 x0 ∧ CC m_X10_in [vL x0, vL 0, vL 9] σ (PZ (fun s3 => A s3) (fun s4 => B s4))) : TT m_X10_isThing 0 [vI x0] [] σ (PZ A B) := by
  refine TT_iload_n dX10_isThing_0 rfl ?_
  obtain ⟨o1, h⟩ := h
  refine TT_i2l dX10_isThing_1 o1 ?_
  refine TT_lconst dX10_isThing_2 (x := 0) rfl ?_
  refine TT_ldc2 dX10_isThing_3 kl_X10_71 (x := 9) rfl ?_
  refine TT_callSZ (M' := m_X10_in) (as := [vL x0, vL 0, vL 9]) (rest := []) dX10_isThing_6 mo_X10_in ml_X10_73 sm_X10_in (Nat.le_of_ble_eq_true rfl) (Nat.le_of_ble_eq_true rfl) ⟨rfl, rfl, rfl⟩ rfl rfl (Nat.le_of_ble_eq_true rfl) h (fun s3 h => ?_) (fun s4 h => ?_)
  · exact TT_z1 dX10_isThing_9 rfl rfl h
  · exact TT_z0 dX10_isThing_9 rfl rfl h
theorem e_X10_isThing (x0 : Int) {σ : Mem} {A B : Mem → Prop} (h : R32 x0 ∧ CC m_X10_in [vL x0, vL 0, vL 9] σ (PZ (fun s3 => A s3) (fun s4 => B s4))) : CC m_X10_isThing [vI x0] σ (PZ A B) := CC_of (by decide) rfl rfl rfl (Nat.le_of_ble_eq_true rfl) (w_X10_isThing_0 x0 h)
set_option maxRecDepth 4000 in
theorem w_X10_isMinute_0 (x0 : Int) {σ : Mem} {A B : Mem → Prop} (h : R32 x0 ∧ CC m_X10_in [vL x0, vL 0, vL 199] σ (PZ (fun s3 => A s3) (fun s4 => B s4))) : TT m_X10_isMinute 0 [vI x0] [] σ (PZ A B) := by
  refine TT_iload_n dX10_isMinute_0 rfl ?_
  obtain ⟨o1, h⟩ := h
  refine TT_i2l dX10_isMinute_1 o1 ?_
  refine TT_lconst dX10_isMinute_2 (x := 0) rfl ?_
  refine TT_ldc2 dX10_isMinute_3 kl_X10_77 (x := 199) rfl ?_
  refine TT_callSZ (M' := m_X10_in) (as := [vL x0, vL 0, vL 199]) (rest := []) dX10_isMinute_6 mo_X10_in ml_X10_73 sm_X10_in (Nat.le_of_ble_eq_true rfl) (Nat.le_of_ble_eq_true rfl) ⟨rfl, rfl, rfl⟩ rfl rfl (Nat.le_of_ble_eq_true rfl) h (fun s3 h => ?_) (fun s4 h => ?_)
  · exact TT_z1 dX10_isMinute_9 rfl rfl h
  · exact TT_z0 dX10_isMinute_9 rfl rfl h
theorem e_X10_isMinute (x0 : Int) {σ : Mem} {A B : Mem → Prop} (h : R32 x0 ∧ CC m_X10_in [vL x0, vL 0, vL 199] σ (PZ (fun s3 => A s3) (fun s4 => B s4))) : CC m_X10_isMinute [vI x0] σ (PZ A B) := CC_of (by decide) rfl rfl rfl (Nat.le_of_ble_eq_true rfl) (w_X10_isMinute_0 x0 h)
set_option maxRecDepth 4000 in
theorem w_X10_isRow_0 (x1 : Int) (x2 : Int) {σ : Mem} {A B : Mem → Prop} (h : CC m_X10_isThing [vI x1] σ (PZ (fun s2 => R32 x2 ∧ (0 ≤ x1 ∧ x1 < 10) ∧ R32 ((s2 81 (x1).toNat) - 1) ∧ CC m_X10_in [vL x2, vL 0, vL ((s2 81 (x1).toNat) - 1)] s2 (PZ (fun s9 => A s9) (fun s10 => B s10))) (fun s3 => B s3))) : TT m_X10_isRow 0 [vR 80, vI x1, vI x2] [] σ (PZ A B) := by
  refine TT_iload_n dX10_isRow_0 rfl ?_
  refine TT_callSZ (M' := m_X10_isThing) (as := [vI x1]) (rest := []) dX10_isRow_1 mo_X10_isThing ml_X10_79 sm_X10_isThing (Nat.le_of_ble_eq_true rfl) (Nat.le_of_ble_eq_true rfl) ⟨rfl, rfl, rfl⟩ rfl rfl (Nat.le_of_ble_eq_true rfl) h (fun s2 h => ?_) (fun s3 h => ?_)
  · refine TT_if_eq (tgt := 29) dX10_isRow_4 rfl (by decide) (fun c4 => absurd c4 (by decide)) (fun c4 => ?_)
    refine TT_iload_n dX10_isRow_7 rfl ?_
    obtain ⟨o5, h⟩ := h
    refine TT_i2l dX10_isRow_8 o5 ?_
    refine TT_lconst dX10_isRow_9 (x := 0) rfl ?_
    refine TT_aload_n dX10_isRow_10 rfl ?_
    refine TT_getR (r := 81) dX10_isRow_11 fd_X10_7 (by decide) rfl (by decide) rfl rfl ?_
    refine TT_iload_n dX10_isRow_14 rfl ?_
    obtain ⟨o6, h⟩ := h
    refine TT_iald dX10_isRow_15 (by decide) rfl (by decide) o6 ?_
    refine TT_iconst dX10_isRow_16 ?_
    refine TT_isub dX10_isRow_17 ?_
    obtain ⟨o7, h⟩ := h
    refine TT_i2l dX10_isRow_18 o7 ?_
    refine TT_callSZ (M' := m_X10_in) (as := [vL x2, vL 0, vL ((s2 81 (x1).toNat) - 1)]) (rest := []) dX10_isRow_19 mo_X10_in ml_X10_73 sm_X10_in (Nat.le_of_ble_eq_true rfl) (Nat.le_of_ble_eq_true rfl) ⟨rfl, rfl, rfl⟩ rfl rfl (Nat.le_of_ble_eq_true rfl) h (fun s9 h => ?_) (fun s10 h => ?_)
    · refine TT_if_eq (tgt := 29) dX10_isRow_22 rfl (by decide) (fun c11 => absurd c11 (by decide)) (fun c11 => ?_)
      refine TT_iconst dX10_isRow_25 ?_
      refine TT_goto (tgt := 30) dX10_isRow_26 rfl ?_
      exact TT_z1 dX10_isRow_30 rfl rfl h
    · refine TT_if_eq (tgt := 29) dX10_isRow_22 rfl (by decide) (fun c12 => ?_) (fun c12 => absurd c12 (by decide))
      refine TT_iconst dX10_isRow_29 ?_
      exact TT_z0 dX10_isRow_30 rfl rfl h
  · refine TT_if_eq (tgt := 29) dX10_isRow_4 rfl (by decide) (fun c13 => ?_) (fun c13 => absurd c13 (by decide))
    refine TT_iconst dX10_isRow_29 ?_
    exact TT_z0 dX10_isRow_30 rfl rfl h
theorem e_X10_isRow (x1 : Int) (x2 : Int) {σ : Mem} {A B : Mem → Prop} (h : CC m_X10_isThing [vI x1] σ (PZ (fun s2 => R32 x2 ∧ (0 ≤ x1 ∧ x1 < 10) ∧ R32 ((s2 81 (x1).toNat) - 1) ∧ CC m_X10_in [vL x2, vL 0, vL ((s2 81 (x1).toNat) - 1)] s2 (PZ (fun s9 => A s9) (fun s10 => B s10))) (fun s3 => B s3))) : CC m_X10_isRow [vR 80, vI x1, vI x2] σ (PZ A B) := CC_of (by decide) rfl rfl rfl (Nat.le_of_ble_eq_true rfl) (w_X10_isRow_0 x1 x2 h)
set_option maxRecDepth 4000 in
theorem w_X10_say_0 (x1 : Int) (x2 : Int) (x3 : Int) (x4 : Int) {σ : Mem} {K : Int → Mem → Prop} (h : CC m_X10_isThing [vI x1] σ (PZ (fun s2 => CC m_X10_isMinute [vI x2] s2 (PZ (fun s6 => R32 x3 ∧ CC m_X10_in [vL x3, vL 0, vL 99] s6 (PZ (fun s11 => R32 x4 ∧ CC m_X10_in [vL x4, vL 0, vL 99] s11 (PZ (fun s16 => TT m_X10_say 48 [vR 80, vI x1, vI x2, vI x3, vI x4, vI 0, vU, vU] [] s16 (PI K)) (fun s17 => K (-900002) s17))) (fun s12 => K (-900002) s12))) (fun s7 => K (-900002) s7))) (fun s3 => K (-900001) s3))) : TT m_X10_say 0 [vR 80, vI x1, vI x2, vI x3, vI x4, vU, vU, vU] [] σ (PI K) := by
  refine TT_iload_n dX10_say_0 rfl ?_
  refine TT_callSZ (M' := m_X10_isThing) (as := [vI x1]) (rest := []) dX10_say_1 mo_X10_isThing ml_X10_79 sm_X10_isThing (Nat.le_of_ble_eq_true rfl) (Nat.le_of_ble_eq_true rfl) ⟨rfl, rfl, rfl⟩ rfl rfl (Nat.le_of_ble_eq_true rfl) h (fun s2 h => ?_) (fun s3 h => ?_)
  · refine TT_if_ne (tgt := 10) dX10_say_4 rfl (by decide) (fun c4 => ?_) (fun c4 => absurd c4 (by decide))
    refine TT_iload_n dX10_say_10 rfl ?_
    refine TT_callSZ (M' := m_X10_isMinute) (as := [vI x2]) (rest := []) dX10_say_11 mo_X10_isMinute ml_X10_84 sm_X10_isMinute (Nat.le_of_ble_eq_true rfl) (Nat.le_of_ble_eq_true rfl) ⟨rfl, rfl, rfl⟩ rfl rfl (Nat.le_of_ble_eq_true rfl) h (fun s6 h => ?_) (fun s7 h => ?_)
    · refine TT_if_eq (tgt := 42) dX10_say_14 rfl (by decide) (fun c8 => absurd c8 (by decide)) (fun c8 => ?_)
      refine TT_iload_n dX10_say_17 rfl ?_
      obtain ⟨o9, h⟩ := h
      refine TT_i2l dX10_say_18 o9 ?_
      refine TT_lconst dX10_say_19 (x := 0) rfl ?_
      refine TT_ldc2 dX10_say_20 kl_X10_87 (x := 99) rfl ?_
      refine TT_callSZ (M' := m_X10_in) (as := [vL x3, vL 0, vL 99]) (rest := []) dX10_say_23 mo_X10_in ml_X10_73 sm_X10_in (Nat.le_of_ble_eq_true rfl) (Nat.le_of_ble_eq_true rfl) ⟨rfl, rfl, rfl⟩ rfl rfl (Nat.le_of_ble_eq_true rfl) h (fun s11 h => ?_) (fun s12 h => ?_)
      · refine TT_if_eq (tgt := 42) dX10_say_26 rfl (by decide) (fun c13 => absurd c13 (by decide)) (fun c13 => ?_)
        refine TT_iload dX10_say_29 rfl ?_
        obtain ⟨o14, h⟩ := h
        refine TT_i2l dX10_say_31 o14 ?_
        refine TT_lconst dX10_say_32 (x := 0) rfl ?_
        refine TT_ldc2 dX10_say_33 kl_X10_87 (x := 99) rfl ?_
        refine TT_callSZ (M' := m_X10_in) (as := [vL x4, vL 0, vL 99]) (rest := []) dX10_say_36 mo_X10_in ml_X10_73 sm_X10_in (Nat.le_of_ble_eq_true rfl) (Nat.le_of_ble_eq_true rfl) ⟨rfl, rfl, rfl⟩ rfl rfl (Nat.le_of_ble_eq_true rfl) h (fun s16 h => ?_) (fun s17 h => ?_)
        · refine TT_if_ne (tgt := 45) dX10_say_39 rfl (by decide) (fun c18 => ?_) (fun c18 => absurd c18 (by decide))
          refine TT_iconst dX10_say_45 ?_
          refine TT_istore dX10_say_46 (Nat.le_of_ble_eq_true rfl) rfl rfl ?_
          exact h
        · refine TT_if_ne (tgt := 45) dX10_say_39 rfl (by decide) (fun c19 => absurd c19 (by decide)) (fun c19 => ?_)
          refine TT_ldc dX10_say_42 kc_X10_89 (x := (-900002)) rfl ?_
          exact TT_iret dX10_say_44 rfl rfl h
      · refine TT_if_eq (tgt := 42) dX10_say_26 rfl (by decide) (fun c20 => ?_) (fun c20 => absurd c20 (by decide))
        refine TT_ldc dX10_say_42 kc_X10_89 (x := (-900002)) rfl ?_
        exact TT_iret dX10_say_44 rfl rfl h
    · refine TT_if_eq (tgt := 42) dX10_say_14 rfl (by decide) (fun c21 => ?_) (fun c21 => absurd c21 (by decide))
      refine TT_ldc dX10_say_42 kc_X10_89 (x := (-900002)) rfl ?_
      exact TT_iret dX10_say_44 rfl rfl h
  · refine TT_if_ne (tgt := 10) dX10_say_4 rfl (by decide) (fun c22 => absurd c22 (by decide)) (fun c22 => ?_)
    refine TT_ldc dX10_say_7 kc_X10_83 (x := (-900001)) rfl ?_
    exact TT_iret dX10_say_9 rfl rfl h
theorem e_X10_say (x1 : Int) (x2 : Int) (x3 : Int) (x4 : Int) {σ : Mem} {K : Int → Mem → Prop} (h : CC m_X10_isThing [vI x1] σ (PZ (fun s2 => CC m_X10_isMinute [vI x2] s2 (PZ (fun s6 => R32 x3 ∧ CC m_X10_in [vL x3, vL 0, vL 99] s6 (PZ (fun s11 => R32 x4 ∧ CC m_X10_in [vL x4, vL 0, vL 99] s11 (PZ (fun s16 => TT m_X10_say 48 [vR 80, vI x1, vI x2, vI x3, vI x4, vI 0, vU, vU] [] s16 (PI K)) (fun s17 => K (-900002) s17))) (fun s12 => K (-900002) s12))) (fun s7 => K (-900002) s7))) (fun s3 => K (-900001) s3))) : CC m_X10_say [vR 80, vI x1, vI x2, vI x3, vI x4] σ (PI K) := CC_of (by decide) rfl rfl rfl (Nat.le_of_ble_eq_true rfl) (w_X10_say_0 x1 x2 x3 x4 h)
set_option maxRecDepth 4000 in
theorem w_X10_say_48 (x1 : Int) (x2 : Int) (x3 : Int) (x4 : Int) (x5 : Int) {σ : Mem} {K : Int → Mem → Prop} (h : (0 ≤ x1 ∧ x1 < 10) ∧ R32 x5 ∧ R32 (σ 81 (x1).toNat) ∧ (((σ 81 (x1).toNat) ≤ x5 → TT m_X10_say 81 [vR 80, vI x1, vI x2, vI x3, vI x4, vI x5, vU, vU] [] σ (PI K)) ∧ (¬ (σ 81 (x1).toNat) ≤ x5 → (0 ≤ ((24 * x1) + x5) ∧ ((24 * x1) + x5) < 240) ∧ R32 (σ 82 ((24 * x1) + x5).toNat) ∧ R32 x2 ∧ ((x2 ≤ (σ 82 ((24 * x1) + x5).toNat) → TT m_X10_say 81 [vR 80, vI x1, vI x2, vI x3, vI x4, vI x5, vU, vU] [] σ (PI K)) ∧ (¬ x2 ≤ (σ 82 ((24 * x1) + x5).toNat) → TT m_X10_say 48 [vR 80, vI x1, vI x2, vI x3, vI x4, vI (x5 + 1), vU, vU] [] σ (PI K)))))) : TT m_X10_say 48 [vR 80, vI x1, vI x2, vI x3, vI x4, vI x5, vU, vU] [] σ (PI K) := by
  refine TT_iload dX10_say_48 rfl ?_
  refine TT_aload_n dX10_say_50 rfl ?_
  refine TT_getR (r := 81) dX10_say_51 fd_X10_7 (by decide) rfl (by decide) rfl rfl ?_
  refine TT_iload_n dX10_say_54 rfl ?_
  obtain ⟨o23, h⟩ := h
  refine TT_iald dX10_say_55 (by decide) rfl (by decide) o23 ?_
  obtain ⟨o24, h⟩ := h
  obtain ⟨o25, h⟩ := h
  refine TT_icmp_ge (tgt := 81) dX10_say_56 rfl o24 o25 (fun c26 => ?_) (fun c26 => ?_)
  · replace h := h.1 c26
    exact h
  · replace h := h.2 c26
    refine TT_aload_n dX10_say_59 rfl ?_
    refine TT_getR (r := 82) dX10_say_60 fd_X10_13 (by decide) rfl (by decide) rfl rfl ?_
    refine TT_bipush dX10_say_63 (by decide) ?_
    refine TT_iload_n dX10_say_65 rfl ?_
    refine TT_imul dX10_say_66 ?_
    refine TT_iload dX10_say_67 rfl ?_
    refine TT_iadd dX10_say_69 ?_
    obtain ⟨o27, h⟩ := h
    refine TT_iald dX10_say_70 (by decide) rfl (by decide) o27 ?_
    refine TT_iload_n dX10_say_71 rfl ?_
    obtain ⟨o28, h⟩ := h
    obtain ⟨o29, h⟩ := h
    refine TT_icmp_ge (tgt := 81) dX10_say_72 rfl o28 o29 (fun c30 => ?_) (fun c30 => ?_)
    · replace h := h.1 c30
      exact h
    · replace h := h.2 c30
      refine TT_iinc dX10_say_75 (Nat.le_of_ble_eq_true rfl) rfl rfl rfl ?_
      refine TT_goto (tgt := 48) dX10_say_78 rfl ?_
      exact h
set_option maxRecDepth 4000 in
theorem w_X10_say_81 (x1 : Int) (x2 : Int) (x3 : Int) (x4 : Int) (x5 : Int) {σ : Mem} {K : Int → Mem → Prop} (h : (0 ≤ x1 ∧ x1 < 10) ∧ R32 x5 ∧ R32 (σ 81 (x1).toNat) ∧ (¬ (σ 81 (x1).toNat) ≤ x5 → (0 ≤ ((24 * x1) + x5) ∧ ((24 * x1) + x5) < 240) ∧ R32 (σ 82 ((24 * x1) + x5).toNat) ∧ R32 x2) ∧ (∀ v41 : Int, v41 = (if (σ 81 (x1).toNat) ≤ x5 then 0 else (if ¬ (σ 82 ((24 * x1) + x5).toNat) = x2 then 0 else 1 : Int) : Int) → ((¬ v41 = 0 → TT m_X10_say 142 [vR 80, vI x1, vI x2, vI x3, vI x4, vI x5, vI v41, vI (σ 81 (x1).toNat)] [] σ (PI K)) ∧ (v41 = 0 → ((¬ (σ 81 (x1).toNat) = 24 → TT m_X10_say 142 [vR 80, vI x1, vI x2, vI x3, vI x4, vI x5, vI v41, vI (σ 81 (x1).toNat)] [] σ (PI K)) ∧ ((σ 81 (x1).toNat) = 24 → K (-900004) σ)))))) : TT m_X10_say 81 [vR 80, vI x1, vI x2, vI x3, vI x4, vI x5, vU, vU] [] σ (PI K) := by
  refine TT_iload dX10_say_81 rfl ?_
  refine TT_aload_n dX10_say_83 rfl ?_
  refine TT_getR (r := 81) dX10_say_84 fd_X10_7 (by decide) rfl (by decide) rfl rfl ?_
  refine TT_iload_n dX10_say_87 rfl ?_
  obtain ⟨o31, h⟩ := h
  refine TT_iald dX10_say_88 (by decide) rfl (by decide) o31 ?_
  obtain ⟨o32, h⟩ := h
  obtain ⟨o33, h⟩ := h
  obtain ⟨o45, h⟩ := h
  have j40 : TT m_X10_say 113 [vR 80, vI x1, vI x2, vI x3, vI x4, vI x5, vU, vU] [vI (if (σ 81 (x1).toNat) ≤ x5 then 0 else (if ¬ (σ 82 ((24 * x1) + x5).toNat) = x2 then 0 else 1 : Int) : Int)] σ (PI K) := by
    refine TT_nmI (fun v41 e42 => ?_)
    replace h := h v41 e42
    refine TT_istore dX10_say_113 (Nat.le_of_ble_eq_true rfl) rfl rfl ?_
    refine TT_iload dX10_say_115 rfl ?_
    refine TT_if_ne (tgt := 134) dX10_say_117 rfl (by rw [e42]; exact (r32_ite (by decide) (r32_ite (by decide) (by decide)))) (fun c43 => ?_) (fun c43 => ?_)
    · replace h := h.1 c43
      refine TT_aload_n dX10_say_134 rfl ?_
      refine TT_getR (r := 81) dX10_say_135 fd_X10_7 (by decide) rfl (by decide) rfl rfl ?_
      refine TT_iload_n dX10_say_138 rfl ?_
      refine TT_iald dX10_say_139 (by decide) rfl (by decide) o31 ?_
      refine TT_istore dX10_say_140 (Nat.le_of_ble_eq_true rfl) rfl rfl ?_
      exact h
    · replace h := h.2 c43
      refine TT_aload_n dX10_say_120 rfl ?_
      refine TT_getR (r := 81) dX10_say_121 fd_X10_7 (by decide) rfl (by decide) rfl rfl ?_
      refine TT_iload_n dX10_say_124 rfl ?_
      refine TT_iald dX10_say_125 (by decide) rfl (by decide) o31 ?_
      refine TT_bipush dX10_say_126 (by decide) ?_
      refine TT_icmp_ne (tgt := 134) dX10_say_128 rfl o33 (by decide) (fun c44 => ?_) (fun c44 => ?_)
      · replace h := h.1 c44
        refine TT_aload_n dX10_say_134 rfl ?_
        refine TT_getR (r := 81) dX10_say_135 fd_X10_7 (by decide) rfl (by decide) rfl rfl ?_
        refine TT_iload_n dX10_say_138 rfl ?_
        refine TT_iald dX10_say_139 (by decide) rfl (by decide) o31 ?_
        refine TT_istore dX10_say_140 (Nat.le_of_ble_eq_true rfl) rfl rfl ?_
        exact h
      · replace h := h.2 c44
        refine TT_ldc dX10_say_131 kc_X10_90 (x := (-900004)) rfl ?_
        exact TT_iret dX10_say_133 rfl rfl h
  refine TT_icmp_ge (tgt := 112) dX10_say_89 rfl o32 o33 (fun c34 => ?_) (fun c34 => ?_)
  · refine TT_iconst dX10_say_112 ?_
    exact TT.cast j40 (by first | rfl | (simp only [if_pos c34] <;> rfl)) (by first | rfl | (simp only [if_pos c34] <;> rfl))
  · have h := o45 c34
    refine TT_aload_n dX10_say_92 rfl ?_
    refine TT_getR (r := 82) dX10_say_93 fd_X10_13 (by decide) rfl (by decide) rfl rfl ?_
    refine TT_bipush dX10_say_96 (by decide) ?_
    refine TT_iload_n dX10_say_98 rfl ?_
    refine TT_imul dX10_say_99 ?_
    refine TT_iload dX10_say_100 rfl ?_
    refine TT_iadd dX10_say_102 ?_
    obtain ⟨o35, h⟩ := h
    refine TT_iald dX10_say_103 (by decide) rfl (by decide) o35 ?_
    refine TT_iload_n dX10_say_104 rfl ?_
    obtain ⟨o36, h⟩ := h
    have o37 := h
    have j39 : TT m_X10_say 113 [vR 80, vI x1, vI x2, vI x3, vI x4, vI x5, vU, vU] [vI (if ¬ (σ 82 ((24 * x1) + x5).toNat) = x2 then 0 else 1 : Int)] σ (PI K) := by
      exact TT.cast j40 (by first | rfl | (simp only [if_neg c34] <;> rfl)) (by first | rfl | (simp only [if_neg c34] <;> rfl))
    refine TT_icmp_ne (tgt := 112) dX10_say_105 rfl o36 o37 (fun c38 => ?_) (fun c38 => ?_)
    · refine TT_iconst dX10_say_112 ?_
      exact TT.cast j39 (by first | rfl | (simp only [if_pos c38] <;> rfl)) (by first | rfl | (simp only [if_pos c38] <;> rfl))
    · refine TT_iconst dX10_say_108 ?_
      refine TT_goto (tgt := 113) dX10_say_109 rfl ?_
      exact TT.cast j39 (by first | rfl | (simp only [if_neg (not_not_intro c38)] <;> rfl)) (by first | rfl | (simp only [if_neg (not_not_intro c38)] <;> rfl))
set_option maxRecDepth 4000 in
theorem w_X10_say_142 (x1 : Int) (x2 : Int) (x3 : Int) (x4 : Int) (x5 : Int) (x6 : Int) (x7 : Int) {σ : Mem} {K : Int → Mem → Prop} (h : R32 x7 ∧ R32 x5 ∧ ((x7 ≤ x5 → TT m_X10_say 171 [vR 80, vI x1, vI x2, vI x3, vI x4, vI x5, vI x6, vU] [] σ (PI K)) ∧ (¬ x7 ≤ x5 → R32 x6 ∧ ((¬ x6 = 0 → TT m_X10_say 171 [vR 80, vI x1, vI x2, vI x3, vI x4, vI x5, vI x6, vU] [] σ (PI K)) ∧ (x6 = 0 → CC m_X10_move [vR 80, vI x1, vI (x7 - 1), vI x7] σ (PN (fun s52 => TT m_X10_say 142 [vR 80, vI x1, vI x2, vI x3, vI x4, vI x5, vI x6, vI (x7 + (-1))] [] s52 (PI K)))))))) : TT m_X10_say 142 [vR 80, vI x1, vI x2, vI x3, vI x4, vI x5, vI x6, vI x7] [] σ (PI K) := by
  refine TT_iload dX10_say_142 rfl ?_
  refine TT_iload dX10_say_144 rfl ?_
  obtain ⟨o46, h⟩ := h
  obtain ⟨o47, h⟩ := h
  refine TT_icmp_le (tgt := 171) dX10_say_146 rfl o46 o47 (fun c48 => ?_) (fun c48 => ?_)
  · replace h := h.1 c48
    refine TT_kill 7 rfl ?_
    exact h
  · replace h := h.2 c48
    refine TT_iload dX10_say_149 rfl ?_
    obtain ⟨o49, h⟩ := h
    refine TT_if_ne (tgt := 171) dX10_say_151 rfl o49 (fun c50 => ?_) (fun c50 => ?_)
    · replace h := h.1 c50
      refine TT_kill 7 rfl ?_
      exact h
    · replace h := h.2 c50
      refine TT_aload_n dX10_say_154 rfl ?_
      refine TT_iload_n dX10_say_155 rfl ?_
      refine TT_iload dX10_say_156 rfl ?_
      refine TT_iconst dX10_say_158 ?_
      refine TT_isub dX10_say_159 ?_
      refine TT_iload dX10_say_160 rfl ?_
      refine TT_callVN (M' := m_X10_move) (as := [vI x1, vI (x7 - 1), vI x7]) (rest := []) dX10_say_162 mo_X10_move ml_X10_91 im_X10_move se_X10_move (Nat.le_of_ble_eq_true rfl) (Nat.le_of_ble_eq_true rfl) ⟨rfl, rfl, rfl⟩ rfl rfl (Nat.le_of_ble_eq_true rfl) (by decide) rfl rfl (by decide) h (fun s52 h => ?_)
      refine TT_iinc dX10_say_165 (Nat.le_of_ble_eq_true rfl) rfl rfl rfl ?_
      refine TT_goto (tgt := 142) dX10_say_168 rfl ?_
      exact h
set_option maxRecDepth 4000 in
theorem w_X10_say_171 (x1 : Int) (x2 : Int) (x3 : Int) (x4 : Int) (x5 : Int) (x6 : Int) {σ : Mem} {K : Int → Mem → Prop} (h : (0 ≤ ((24 * x1) + x5) ∧ ((24 * x1) + x5) < 240) ∧ (∀ s54 : Mem, s54 = up σ 82 ((24 * x1) + x5).toNat x2 → (∀ s56 : Mem, s56 = up s54 83 ((24 * x1) + x5).toNat x3 → (∀ s58 : Mem, s58 = up s56 84 ((24 * x1) + x5).toNat x4 → R32 x6 ∧ (∀ s63 : Mem, s63 = up s58 80 5 ((s58 80 5) + (if x6 = 0 then 0 else 1 : Int)) → (0 ≤ x1 ∧ x1 < 10) ∧ (∀ s68 : Mem, s68 = up s63 81 (x1).toNat ((s63 81 (x1).toNat) + (if x6 = 0 then 1 else 0 : Int)) → K (s68 81 (x1).toNat) s68)))))) : TT m_X10_say 171 [vR 80, vI x1, vI x2, vI x3, vI x4, vI x5, vI x6, vU] [] σ (PI K) := by
  refine TT_aload_n dX10_say_171 rfl ?_
  refine TT_getR (r := 82) dX10_say_172 fd_X10_13 (by decide) rfl (by decide) rfl rfl ?_
  refine TT_bipush dX10_say_175 (by decide) ?_
  refine TT_iload_n dX10_say_177 rfl ?_
  refine TT_imul dX10_say_178 ?_
  refine TT_iload dX10_say_179 rfl ?_
  refine TT_iadd dX10_say_181 ?_
  refine TT_iload_n dX10_say_182 rfl ?_
  obtain ⟨o53, h⟩ := h
  refine TT_iast dX10_say_183 (by decide) rfl (by decide) o53 ?_
  refine TT_nmM (fun s54 e55 => ?_)
  replace h := h s54 e55
  refine TT_aload_n dX10_say_184 rfl ?_
  refine TT_getR (r := 83) dX10_say_185 fd_X10_16 (by decide) rfl (by decide) rfl rfl ?_
  refine TT_bipush dX10_say_188 (by decide) ?_
  refine TT_iload_n dX10_say_190 rfl ?_
  refine TT_imul dX10_say_191 ?_
  refine TT_iload dX10_say_192 rfl ?_
  refine TT_iadd dX10_say_194 ?_
  refine TT_iload_n dX10_say_195 rfl ?_
  refine TT_iast dX10_say_196 (by decide) rfl (by decide) o53 ?_
  refine TT_nmM (fun s56 e57 => ?_)
  replace h := h s56 e57
  refine TT_aload_n dX10_say_197 rfl ?_
  refine TT_getR (r := 84) dX10_say_198 fd_X10_19 (by decide) rfl (by decide) rfl rfl ?_
  refine TT_bipush dX10_say_201 (by decide) ?_
  refine TT_iload_n dX10_say_203 rfl ?_
  refine TT_imul dX10_say_204 ?_
  refine TT_iload dX10_say_205 rfl ?_
  refine TT_iadd dX10_say_207 ?_
  refine TT_iload dX10_say_208 rfl ?_
  refine TT_iast dX10_say_210 (by decide) rfl (by decide) o53 ?_
  refine TT_nmM (fun s58 e59 => ?_)
  replace h := h s58 e59
  refine TT_aload_n dX10_say_211 rfl ?_
  refine TT_dup dX10_say_212 rfl ?_
  refine TT_getI dX10_say_213 fd_X10_95 (by decide) (Or.inl rfl) (by decide) rfl ?_
  refine TT_iload dX10_say_216 rfl ?_
  obtain ⟨o60, h⟩ := h
  have j62 : TT m_X10_say 226 [vR 80, vI x1, vI x2, vI x3, vI x4, vI x5, vI x6, vU] [vI (if x6 = 0 then 0 else 1 : Int), vI (s58 80 5), vR 80] s58 (PI K) := by
    refine TT_iadd dX10_say_226 ?_
    refine TT_putI dX10_say_227 fd_X10_95 (by decide) rfl (by decide) rfl ?_
    refine TT_nmM (fun s63 e64 => ?_)
    replace h := h s63 e64
    refine TT_aload_n dX10_say_230 rfl ?_
    refine TT_getR (r := 81) dX10_say_231 fd_X10_7 (by decide) rfl (by decide) rfl rfl ?_
    refine TT_iload_n dX10_say_234 rfl ?_
    refine TT_dup2 dX10_say_235 rfl rfl ?_
    obtain ⟨o65, h⟩ := h
    refine TT_iald dX10_say_236 (by decide) rfl (by decide) o65 ?_
    refine TT_iload dX10_say_237 rfl ?_
    have j67 : TT m_X10_say 247 [vR 80, vI x1, vI x2, vI x3, vI x4, vI x5, vI x6, vU] [vI (if x6 = 0 then 1 else 0 : Int), vI (s63 81 (x1).toNat), vI x1, vR 81] s63 (PI K) := by
      refine TT_iadd dX10_say_247 ?_
      refine TT_iast dX10_say_248 (by decide) rfl (by decide) o65 ?_
      refine TT_nmM (fun s68 e69 => ?_)
      replace h := h s68 e69
      refine TT_aload_n dX10_say_249 rfl ?_
      refine TT_getR (r := 81) dX10_say_250 fd_X10_7 (by decide) rfl (by decide) rfl rfl ?_
      refine TT_iload_n dX10_say_253 rfl ?_
      refine TT_iald dX10_say_254 (by decide) rfl (by decide) o65 ?_
      exact TT_iret dX10_say_255 rfl rfl h
    refine TT_if_eq (tgt := 246) dX10_say_239 rfl o60 (fun c66 => ?_) (fun c66 => ?_)
    · refine TT_iconst dX10_say_246 ?_
      exact TT.cast j67 (by first | rfl | (simp only [if_pos c66] <;> rfl)) (by first | rfl | (simp only [if_pos c66] <;> rfl))
    · refine TT_iconst dX10_say_242 ?_
      refine TT_goto (tgt := 247) dX10_say_243 rfl ?_
      exact TT.cast j67 (by first | rfl | (simp only [if_neg c66] <;> rfl)) (by first | rfl | (simp only [if_neg c66] <;> rfl))
  refine TT_if_eq (tgt := 225) dX10_say_218 rfl o60 (fun c61 => ?_) (fun c61 => ?_)
  · refine TT_iconst dX10_say_225 ?_
    exact TT.cast j62 (by first | rfl | (simp only [if_pos c61] <;> rfl)) (by first | rfl | (simp only [if_pos c61] <;> rfl))
  · refine TT_iconst dX10_say_221 ?_
    refine TT_goto (tgt := 226) dX10_say_222 rfl ?_
    exact TT.cast j62 (by first | rfl | (simp only [if_neg c61] <;> rfl)) (by first | rfl | (simp only [if_neg c61] <;> rfl))
set_option maxRecDepth 4000 in
theorem w_X10_move_0 (x1 : Int) (x2 : Int) (x3 : Int) {σ : Mem} {K : Mem → Prop} (h : (0 ≤ ((24 * x1) + x2) ∧ ((24 * x1) + x2) < 240) ∧ (0 ≤ ((24 * x1) + x3) ∧ ((24 * x1) + x3) < 240) ∧ (∀ s3 : Mem, s3 = up σ 82 ((24 * x1) + x3).toNat (σ 82 ((24 * x1) + x2).toNat) → (∀ s5 : Mem, s5 = up s3 83 ((24 * x1) + x3).toNat (s3 83 ((24 * x1) + x2).toNat) → (∀ s7 : Mem, s7 = up s5 84 ((24 * x1) + x3).toNat (s5 84 ((24 * x1) + x2).toNat) → K s7)))) : TT m_X10_move 0 [vR 80, vI x1, vI x2, vI x3] [] σ (PN K) := by
  refine TT_aload_n dX10_move_0 rfl ?_
  refine TT_getR (r := 82) dX10_move_1 fd_X10_13 (by decide) rfl (by decide) rfl rfl ?_
  refine TT_bipush dX10_move_4 (by decide) ?_
  refine TT_iload_n dX10_move_6 rfl ?_
  refine TT_imul dX10_move_7 ?_
  refine TT_iload_n dX10_move_8 rfl ?_
  refine TT_iadd dX10_move_9 ?_
  refine TT_aload_n dX10_move_10 rfl ?_
  refine TT_getR (r := 82) dX10_move_11 fd_X10_13 (by decide) rfl (by decide) rfl rfl ?_
  refine TT_bipush dX10_move_14 (by decide) ?_
  refine TT_iload_n dX10_move_16 rfl ?_
  refine TT_imul dX10_move_17 ?_
  refine TT_iload_n dX10_move_18 rfl ?_
  refine TT_iadd dX10_move_19 ?_
  obtain ⟨o1, h⟩ := h
  refine TT_iald dX10_move_20 (by decide) rfl (by decide) o1 ?_
  obtain ⟨o2, h⟩ := h
  refine TT_iast dX10_move_21 (by decide) rfl (by decide) o2 ?_
  refine TT_nmM (fun s3 e4 => ?_)
  replace h := h s3 e4
  refine TT_aload_n dX10_move_22 rfl ?_
  refine TT_getR (r := 83) dX10_move_23 fd_X10_16 (by decide) rfl (by decide) rfl rfl ?_
  refine TT_bipush dX10_move_26 (by decide) ?_
  refine TT_iload_n dX10_move_28 rfl ?_
  refine TT_imul dX10_move_29 ?_
  refine TT_iload_n dX10_move_30 rfl ?_
  refine TT_iadd dX10_move_31 ?_
  refine TT_aload_n dX10_move_32 rfl ?_
  refine TT_getR (r := 83) dX10_move_33 fd_X10_16 (by decide) rfl (by decide) rfl rfl ?_
  refine TT_bipush dX10_move_36 (by decide) ?_
  refine TT_iload_n dX10_move_38 rfl ?_
  refine TT_imul dX10_move_39 ?_
  refine TT_iload_n dX10_move_40 rfl ?_
  refine TT_iadd dX10_move_41 ?_
  refine TT_iald dX10_move_42 (by decide) rfl (by decide) o1 ?_
  refine TT_iast dX10_move_43 (by decide) rfl (by decide) o2 ?_
  refine TT_nmM (fun s5 e6 => ?_)
  replace h := h s5 e6
  refine TT_aload_n dX10_move_44 rfl ?_
  refine TT_getR (r := 84) dX10_move_45 fd_X10_19 (by decide) rfl (by decide) rfl rfl ?_
  refine TT_bipush dX10_move_48 (by decide) ?_
  refine TT_iload_n dX10_move_50 rfl ?_
  refine TT_imul dX10_move_51 ?_
  refine TT_iload_n dX10_move_52 rfl ?_
  refine TT_iadd dX10_move_53 ?_
  refine TT_aload_n dX10_move_54 rfl ?_
  refine TT_getR (r := 84) dX10_move_55 fd_X10_19 (by decide) rfl (by decide) rfl rfl ?_
  refine TT_bipush dX10_move_58 (by decide) ?_
  refine TT_iload_n dX10_move_60 rfl ?_
  refine TT_imul dX10_move_61 ?_
  refine TT_iload_n dX10_move_62 rfl ?_
  refine TT_iadd dX10_move_63 ?_
  refine TT_iald dX10_move_64 (by decide) rfl (by decide) o1 ?_
  refine TT_iast dX10_move_65 (by decide) rfl (by decide) o2 ?_
  refine TT_nmM (fun s7 e8 => ?_)
  replace h := h s7 e8
  exact TT_vret dX10_move_66 rfl rfl h
theorem e_X10_move (x1 : Int) (x2 : Int) (x3 : Int) {σ : Mem} {K : Mem → Prop} (h : (0 ≤ ((24 * x1) + x2) ∧ ((24 * x1) + x2) < 240) ∧ (0 ≤ ((24 * x1) + x3) ∧ ((24 * x1) + x3) < 240) ∧ (∀ s3 : Mem, s3 = up σ 82 ((24 * x1) + x3).toNat (σ 82 ((24 * x1) + x2).toNat) → (∀ s5 : Mem, s5 = up s3 83 ((24 * x1) + x3).toNat (s3 83 ((24 * x1) + x2).toNat) → (∀ s7 : Mem, s7 = up s5 84 ((24 * x1) + x3).toNat (s5 84 ((24 * x1) + x2).toNat) → K s7)))) : CC m_X10_move [vR 80, vI x1, vI x2, vI x3] σ (PN K) := CC_of (by decide) rfl rfl rfl (Nat.le_of_ble_eq_true rfl) (w_X10_move_0 x1 x2 x3 h)
set_option maxRecDepth 4000 in
theorem w_X10_drop_0 (x1 : Int) (x2 : Int) {σ : Mem} {K : Mem → Prop} (h : (0 ≤ x1 ∧ x1 < 10) ∧ (∀ s2 : Mem, s2 = up σ 81 (x1).toNat ((σ 81 (x1).toNat) - 1) → TT m_X10_drop 12 [vR 80, vI x1, vU, vI x2] [] s2 (PN K))) : TT m_X10_drop 0 [vR 80, vI x1, vI x2, vU] [] σ (PN K) := by
  refine TT_aload_n dX10_drop_0 rfl ?_
  refine TT_getR (r := 81) dX10_drop_1 fd_X10_7 (by decide) rfl (by decide) rfl rfl ?_
  refine TT_iload_n dX10_drop_4 rfl ?_
  refine TT_dup2 dX10_drop_5 rfl rfl ?_
  obtain ⟨o1, h⟩ := h
  refine TT_iald dX10_drop_6 (by decide) rfl (by decide) o1 ?_
  refine TT_iconst dX10_drop_7 ?_
  refine TT_isub dX10_drop_8 ?_
  refine TT_iast dX10_drop_9 (by decide) rfl (by decide) o1 ?_
  refine TT_nmM (fun s2 e3 => ?_)
  replace h := h s2 e3
  refine TT_iload_n dX10_drop_10 rfl ?_
  refine TT_istore_n dX10_drop_11 (Nat.le_of_ble_eq_true rfl) rfl rfl ?_
  refine TT_kill 2 rfl ?_
  exact h
theorem e_X10_drop (x1 : Int) (x2 : Int) {σ : Mem} {K : Mem → Prop} (h : (0 ≤ x1 ∧ x1 < 10) ∧ (∀ s2 : Mem, s2 = up σ 81 (x1).toNat ((σ 81 (x1).toNat) - 1) → TT m_X10_drop 12 [vR 80, vI x1, vU, vI x2] [] s2 (PN K))) : CC m_X10_drop [vR 80, vI x1, vI x2] σ (PN K) := CC_of (by decide) rfl rfl rfl (Nat.le_of_ble_eq_true rfl) (w_X10_drop_0 x1 x2 h)
set_option maxRecDepth 4000 in
theorem w_X10_drop_12 (x1 : Int) (x3 : Int) {σ : Mem} {K : Mem → Prop} (h : (0 ≤ x1 ∧ x1 < 10) ∧ R32 x3 ∧ R32 (σ 81 (x1).toNat) ∧ (((σ 81 (x1).toNat) ≤ x3 → K σ) ∧ (¬ (σ 81 (x1).toNat) ≤ x3 → CC m_X10_move [vR 80, vI x1, vI (x3 + 1), vI x3] σ (PN (fun s9 => TT m_X10_drop 12 [vR 80, vI x1, vU, vI (x3 + 1)] [] s9 (PN K)))))) : TT m_X10_drop 12 [vR 80, vI x1, vU, vI x3] [] σ (PN K) := by
  refine TT_iload_n dX10_drop_12 rfl ?_
  refine TT_aload_n dX10_drop_13 rfl ?_
  refine TT_getR (r := 81) dX10_drop_14 fd_X10_7 (by decide) rfl (by decide) rfl rfl ?_
  refine TT_iload_n dX10_drop_17 rfl ?_
  obtain ⟨o4, h⟩ := h
  refine TT_iald dX10_drop_18 (by decide) rfl (by decide) o4 ?_
  obtain ⟨o5, h⟩ := h
  obtain ⟨o6, h⟩ := h
  refine TT_icmp_ge (tgt := 37) dX10_drop_19 rfl o5 o6 (fun c7 => ?_) (fun c7 => ?_)
  · replace h := h.1 c7
    exact TT_vret dX10_drop_37 rfl rfl h
  · replace h := h.2 c7
    refine TT_aload_n dX10_drop_22 rfl ?_
    refine TT_iload_n dX10_drop_23 rfl ?_
    refine TT_iload_n dX10_drop_24 rfl ?_
    refine TT_iconst dX10_drop_25 ?_
    refine TT_iadd dX10_drop_26 ?_
    refine TT_iload_n dX10_drop_27 rfl ?_
    refine TT_callVN (M' := m_X10_move) (as := [vI x1, vI (x3 + 1), vI x3]) (rest := []) dX10_drop_28 mo_X10_move ml_X10_91 im_X10_move se_X10_move (Nat.le_of_ble_eq_true rfl) (Nat.le_of_ble_eq_true rfl) ⟨rfl, rfl, rfl⟩ rfl rfl (Nat.le_of_ble_eq_true rfl) (by decide) rfl rfl (by decide) h (fun s9 h => ?_)
    refine TT_iinc dX10_drop_31 (Nat.le_of_ble_eq_true rfl) rfl rfl rfl ?_
    refine TT_goto (tgt := 12) dX10_drop_34 rfl ?_
    exact h
set_option maxRecDepth 4000 in
theorem w_X10_forget_0 (x1 : Int) (x2 : Int) {σ : Mem} {K : Int → Mem → Prop} (h : CC m_X10_isRow [vR 80, vI x1, vI x2] σ (PZ (fun s2 => CC m_X10_drop [vR 80, vI x1, vI x2] s2 (PN (fun s6 => (0 ≤ x1 ∧ x1 < 10) ∧ K (s6 81 (x1).toNat) s6))) (fun s3 => K (-900001) s3))) : TT m_X10_forget 0 [vR 80, vI x1, vI x2] [] σ (PI K) := by
  refine TT_aload_n dX10_forget_0 rfl ?_
  refine TT_iload_n dX10_forget_1 rfl ?_
  refine TT_iload_n dX10_forget_2 rfl ?_
  refine TT_callVZ (M' := m_X10_isRow) (as := [vI x1, vI x2]) (rest := []) dX10_forget_3 mo_X10_isRow ml_X10_99 im_X10_isRow se_X10_isRow (Nat.le_of_ble_eq_true rfl) (Nat.le_of_ble_eq_true rfl) ⟨rfl, rfl, rfl⟩ rfl rfl (Nat.le_of_ble_eq_true rfl) (by decide) rfl rfl (by decide) h (fun s2 h => ?_) (fun s3 h => ?_)
  · refine TT_if_ne (tgt := 12) dX10_forget_6 rfl (by decide) (fun c4 => ?_) (fun c4 => absurd c4 (by decide))
    refine TT_aload_n dX10_forget_12 rfl ?_
    refine TT_iload_n dX10_forget_13 rfl ?_
    refine TT_iload_n dX10_forget_14 rfl ?_
    refine TT_callVN (M' := m_X10_drop) (as := [vI x1, vI x2]) (rest := []) dX10_forget_15 mo_X10_drop ml_X10_103 im_X10_drop se_X10_drop (Nat.le_of_ble_eq_true rfl) (Nat.le_of_ble_eq_true rfl) ⟨rfl, rfl, rfl⟩ rfl rfl (Nat.le_of_ble_eq_true rfl) (by decide) rfl rfl (by decide) h (fun s6 h => ?_)
    refine TT_aload_n dX10_forget_18 rfl ?_
    refine TT_getR (r := 81) dX10_forget_19 fd_X10_7 (by decide) rfl (by decide) rfl rfl ?_
    refine TT_iload_n dX10_forget_22 rfl ?_
    obtain ⟨o7, h⟩ := h
    refine TT_iald dX10_forget_23 (by decide) rfl (by decide) o7 ?_
    exact TT_iret dX10_forget_24 rfl rfl h
  · refine TT_if_ne (tgt := 12) dX10_forget_6 rfl (by decide) (fun c8 => absurd c8 (by decide)) (fun c8 => ?_)
    refine TT_ldc dX10_forget_9 kc_X10_83 (x := (-900001)) rfl ?_
    exact TT_iret dX10_forget_11 rfl rfl h
theorem e_X10_forget (x1 : Int) (x2 : Int) {σ : Mem} {K : Int → Mem → Prop} (h : CC m_X10_isRow [vR 80, vI x1, vI x2] σ (PZ (fun s2 => CC m_X10_drop [vR 80, vI x1, vI x2] s2 (PN (fun s6 => (0 ≤ x1 ∧ x1 < 10) ∧ K (s6 81 (x1).toNat) s6))) (fun s3 => K (-900001) s3))) : CC m_X10_forget [vR 80, vI x1, vI x2] σ (PI K) := CC_of (by decide) rfl rfl rfl (Nat.le_of_ble_eq_true rfl) (w_X10_forget_0 x1 x2 h)
set_option maxRecDepth 4000 in
theorem w_X10_kind_0 (x1 : Int) (x2 : Int) {σ : Mem} {K : Int → Mem → Prop} (h : CC m_X10_isThing [vI x1] σ (PZ (fun s2 => R32 x2 ∧ CC m_X10_in [vL x2, vL 0, vL 1] s2 (PZ (fun s7 => (0 ≤ x1 ∧ x1 < 10) ∧ (∀ s11 : Mem, s11 = up s7 85 (x1).toNat x2 → K (s7 85 (x1).toNat) s11)) (fun s8 => K (-900002) s8))) (fun s3 => K (-900001) s3))) : TT m_X10_kind 0 [vR 80, vI x1, vI x2, vU] [] σ (PI K) := by
  refine TT_iload_n dX10_kind_0 rfl ?_
  refine TT_callSZ (M' := m_X10_isThing) (as := [vI x1]) (rest := []) dX10_kind_1 mo_X10_isThing ml_X10_79 sm_X10_isThing (Nat.le_of_ble_eq_true rfl) (Nat.le_of_ble_eq_true rfl) ⟨rfl, rfl, rfl⟩ rfl rfl (Nat.le_of_ble_eq_true rfl) h (fun s2 h => ?_) (fun s3 h => ?_)
  · refine TT_if_ne (tgt := 10) dX10_kind_4 rfl (by decide) (fun c4 => ?_) (fun c4 => absurd c4 (by decide))
    refine TT_iload_n dX10_kind_10 rfl ?_
    obtain ⟨o5, h⟩ := h
    refine TT_i2l dX10_kind_11 o5 ?_
    refine TT_lconst dX10_kind_12 (x := 0) rfl ?_
    refine TT_lconst dX10_kind_13 (x := 1) rfl ?_
    refine TT_callSZ (M' := m_X10_in) (as := [vL x2, vL 0, vL 1]) (rest := []) dX10_kind_14 mo_X10_in ml_X10_73 sm_X10_in (Nat.le_of_ble_eq_true rfl) (Nat.le_of_ble_eq_true rfl) ⟨rfl, rfl, rfl⟩ rfl rfl (Nat.le_of_ble_eq_true rfl) h (fun s7 h => ?_) (fun s8 h => ?_)
    · refine TT_if_ne (tgt := 23) dX10_kind_17 rfl (by decide) (fun c9 => ?_) (fun c9 => absurd c9 (by decide))
      refine TT_aload_n dX10_kind_23 rfl ?_
      refine TT_getR (r := 85) dX10_kind_24 fd_X10_22 (by decide) rfl (by decide) rfl rfl ?_
      refine TT_iload_n dX10_kind_27 rfl ?_
      obtain ⟨o10, h⟩ := h
      refine TT_iald dX10_kind_28 (by decide) rfl (by decide) o10 ?_
      refine TT_istore_n dX10_kind_29 (Nat.le_of_ble_eq_true rfl) rfl rfl ?_
      refine TT_aload_n dX10_kind_30 rfl ?_
      refine TT_getR (r := 85) dX10_kind_31 fd_X10_22 (by decide) rfl (by decide) rfl rfl ?_
      refine TT_iload_n dX10_kind_34 rfl ?_
      refine TT_iload_n dX10_kind_35 rfl ?_
      refine TT_iast dX10_kind_36 (by decide) rfl (by decide) o10 ?_
      refine TT_nmM (fun s11 e12 => ?_)
      replace h := h s11 e12
      refine TT_iload_n dX10_kind_37 rfl ?_
      exact TT_iret dX10_kind_38 rfl rfl h
    · refine TT_if_ne (tgt := 23) dX10_kind_17 rfl (by decide) (fun c13 => absurd c13 (by decide)) (fun c13 => ?_)
      refine TT_ldc dX10_kind_20 kc_X10_89 (x := (-900002)) rfl ?_
      exact TT_iret dX10_kind_22 rfl rfl h
  · refine TT_if_ne (tgt := 10) dX10_kind_4 rfl (by decide) (fun c14 => absurd c14 (by decide)) (fun c14 => ?_)
    refine TT_ldc dX10_kind_7 kc_X10_83 (x := (-900001)) rfl ?_
    exact TT_iret dX10_kind_9 rfl rfl h
theorem e_X10_kind (x1 : Int) (x2 : Int) {σ : Mem} {K : Int → Mem → Prop} (h : CC m_X10_isThing [vI x1] σ (PZ (fun s2 => R32 x2 ∧ CC m_X10_in [vL x2, vL 0, vL 1] s2 (PZ (fun s7 => (0 ≤ x1 ∧ x1 < 10) ∧ (∀ s11 : Mem, s11 = up s7 85 (x1).toNat x2 → K (s7 85 (x1).toNat) s11)) (fun s8 => K (-900002) s8))) (fun s3 => K (-900001) s3))) : CC m_X10_kind [vR 80, vI x1, vI x2] σ (PI K) := CC_of (by decide) rfl rfl rfl (Nat.le_of_ble_eq_true rfl) (w_X10_kind_0 x1 x2 h)
set_option maxRecDepth 4000 in
theorem w_X10_row_0 (x1 : Int) (x2 : Int) (x3 : Int) {σ : Mem} {K : Int → Mem → Prop} (h : CC m_X10_isRow [vR 80, vI x1, vI x2] σ (PZ (fun s2 => R32 x3 ∧ (¬ x3 = 0 → (¬ x3 = 1 → (x3 = 2 → (0 ≤ ((24 * x1) + x2) ∧ ((24 * x1) + x2) < 240))) ∧ (x3 = 1 → (0 ≤ ((24 * x1) + x2) ∧ ((24 * x1) + x2) < 240))) ∧ (x3 = 0 → (0 ≤ ((24 * x1) + x2) ∧ ((24 * x1) + x2) < 240)) ∧ K (if ¬ x3 = 0 then (if ¬ x3 = 1 then (if ¬ x3 = 2 then (-900002) else (s2 84 ((24 * x1) + x2).toNat) : Int) else (s2 83 ((24 * x1) + x2).toNat) : Int) else (s2 82 ((24 * x1) + x2).toNat) : Int) s2) (fun s3 => K (-900001) s3))) : TT m_X10_row 0 [vR 80, vI x1, vI x2, vI x3, vU] [] σ (PI K) := by
  refine TT_aload_n dX10_row_0 rfl ?_
  refine TT_iload_n dX10_row_1 rfl ?_
  refine TT_iload_n dX10_row_2 rfl ?_
  refine TT_callVZ (M' := m_X10_isRow) (as := [vI x1, vI x2]) (rest := []) dX10_row_3 mo_X10_isRow ml_X10_99 im_X10_isRow se_X10_isRow (Nat.le_of_ble_eq_true rfl) (Nat.le_of_ble_eq_true rfl) ⟨rfl, rfl, rfl⟩ rfl rfl (Nat.le_of_ble_eq_true rfl) (by decide) rfl rfl (by decide) h (fun s2 h => ?_) (fun s3 h => ?_)
  · refine TT_if_ne (tgt := 12) dX10_row_6 rfl (by decide) (fun c4 => ?_) (fun c4 => absurd c4 (by decide))
    refine TT_bipush dX10_row_12 (by decide) ?_
    refine TT_iload_n dX10_row_14 rfl ?_
    refine TT_imul dX10_row_15 ?_
    refine TT_iload_n dX10_row_16 rfl ?_
    refine TT_iadd dX10_row_17 ?_
    refine TT_istore dX10_row_18 (Nat.le_of_ble_eq_true rfl) rfl rfl ?_
    refine TT_iload_n dX10_row_20 rfl ?_
    obtain ⟨o5, h⟩ := h
    obtain ⟨o18, h⟩ := h
    obtain ⟨o19, h⟩ := h
    have j17 : TT m_X10_row 66 [vR 80, vI x1, vI x2, vI x3, vI ((24 * x1) + x2)] [vI (if ¬ x3 = 0 then (if ¬ x3 = 1 then (if ¬ x3 = 2 then (-900002) else (s2 84 ((24 * x1) + x2).toNat) : Int) else (s2 83 ((24 * x1) + x2).toNat) : Int) else (s2 82 ((24 * x1) + x2).toNat) : Int)] s2 (PI K) := by
      exact TT_iret dX10_row_66 rfl rfl h
    refine TT_if_ne (tgt := 34) dX10_row_21 rfl o5 (fun c6 => ?_) (fun c6 => ?_)
    · have h := o18 c6
      refine TT_iload_n dX10_row_34 rfl ?_
      refine TT_iconst dX10_row_35 ?_
      obtain ⟨o14, h⟩ := h
      have o15 := h
      have j13 : TT m_X10_row 66 [vR 80, vI x1, vI x2, vI x3, vI ((24 * x1) + x2)] [vI (if ¬ x3 = 1 then (if ¬ x3 = 2 then (-900002) else (s2 84 ((24 * x1) + x2).toNat) : Int) else (s2 83 ((24 * x1) + x2).toNat) : Int)] s2 (PI K) := by
        exact TT.cast j17 (by first | rfl | (simp only [if_pos c6] <;> rfl)) (by first | rfl | (simp only [if_pos c6] <;> rfl))
      refine TT_icmp_ne (tgt := 49) dX10_row_36 rfl o5 (by decide) (fun c7 => ?_) (fun c7 => ?_)
      · have h := o14 c7
        refine TT_iload_n dX10_row_49 rfl ?_
        refine TT_iconst dX10_row_50 ?_
        have o11 := h
        have j10 : TT m_X10_row 66 [vR 80, vI x1, vI x2, vI x3, vI ((24 * x1) + x2)] [vI (if ¬ x3 = 2 then (-900002) else (s2 84 ((24 * x1) + x2).toNat) : Int)] s2 (PI K) := by
          exact TT.cast j13 (by first | rfl | (simp only [if_pos c7] <;> rfl)) (by first | rfl | (simp only [if_pos c7] <;> rfl))
        refine TT_icmp_ne (tgt := 64) dX10_row_51 rfl o5 (by decide) (fun c8 => ?_) (fun c8 => ?_)
        · refine TT_ldc dX10_row_64 kc_X10_89 (x := (-900002)) rfl ?_
          exact TT.cast j10 (by first | rfl | (simp only [if_pos c8] <;> rfl)) (by first | rfl | (simp only [if_pos c8] <;> rfl))
        · have h := o11 c8
          refine TT_aload_n dX10_row_54 rfl ?_
          refine TT_getR (r := 84) dX10_row_55 fd_X10_19 (by decide) rfl (by decide) rfl rfl ?_
          refine TT_iload dX10_row_58 rfl ?_
          have o9 := h
          refine TT_iald dX10_row_60 (by decide) rfl (by decide) o9 ?_
          refine TT_goto (tgt := 66) dX10_row_61 rfl ?_
          exact TT.cast j10 (by first | rfl | (simp only [if_neg (not_not_intro c8)] <;> rfl)) (by first | rfl | (simp only [if_neg (not_not_intro c8)] <;> rfl))
      · have h := o15 c7
        refine TT_aload_n dX10_row_39 rfl ?_
        refine TT_getR (r := 83) dX10_row_40 fd_X10_16 (by decide) rfl (by decide) rfl rfl ?_
        refine TT_iload dX10_row_43 rfl ?_
        have o12 := h
        refine TT_iald dX10_row_45 (by decide) rfl (by decide) o12 ?_
        refine TT_goto (tgt := 66) dX10_row_46 rfl ?_
        exact TT.cast j13 (by first | rfl | (simp only [if_neg (not_not_intro c7)] <;> rfl)) (by first | rfl | (simp only [if_neg (not_not_intro c7)] <;> rfl))
    · have h := o19 c6
      refine TT_aload_n dX10_row_24 rfl ?_
      refine TT_getR (r := 82) dX10_row_25 fd_X10_13 (by decide) rfl (by decide) rfl rfl ?_
      refine TT_iload dX10_row_28 rfl ?_
      have o16 := h
      refine TT_iald dX10_row_30 (by decide) rfl (by decide) o16 ?_
      refine TT_goto (tgt := 66) dX10_row_31 rfl ?_
      exact TT.cast j17 (by first | rfl | (simp only [if_neg (not_not_intro c6)] <;> rfl)) (by first | rfl | (simp only [if_neg (not_not_intro c6)] <;> rfl))
  · refine TT_if_ne (tgt := 12) dX10_row_6 rfl (by decide) (fun c20 => absurd c20 (by decide)) (fun c20 => ?_)
    refine TT_ldc dX10_row_9 kc_X10_83 (x := (-900001)) rfl ?_
    exact TT_iret dX10_row_11 rfl rfl h
theorem e_X10_row (x1 : Int) (x2 : Int) (x3 : Int) {σ : Mem} {K : Int → Mem → Prop} (h : CC m_X10_isRow [vR 80, vI x1, vI x2] σ (PZ (fun s2 => R32 x3 ∧ (¬ x3 = 0 → (¬ x3 = 1 → (x3 = 2 → (0 ≤ ((24 * x1) + x2) ∧ ((24 * x1) + x2) < 240))) ∧ (x3 = 1 → (0 ≤ ((24 * x1) + x2) ∧ ((24 * x1) + x2) < 240))) ∧ (x3 = 0 → (0 ≤ ((24 * x1) + x2) ∧ ((24 * x1) + x2) < 240)) ∧ K (if ¬ x3 = 0 then (if ¬ x3 = 1 then (if ¬ x3 = 2 then (-900002) else (s2 84 ((24 * x1) + x2).toNat) : Int) else (s2 83 ((24 * x1) + x2).toNat) : Int) else (s2 82 ((24 * x1) + x2).toNat) : Int) s2) (fun s3 => K (-900001) s3))) : CC m_X10_row [vR 80, vI x1, vI x2, vI x3] σ (PI K) := CC_of (by decide) rfl rfl rfl (Nat.le_of_ble_eq_true rfl) (w_X10_row_0 x1 x2 x3 h)
set_option maxRecDepth 4000 in
theorem w_X10_isLeg_0 (x1 : Int) (x2 : Int) {σ : Mem} {A B : Mem → Prop} (h : R32 x2 ∧ ((x2 ≤ 0 → B σ) ∧ (¬ x2 ≤ 0 → (0 ≤ ((24 * x1) + x2) ∧ ((24 * x1) + x2) < 240) ∧ (0 ≤ (((24 * x1) + x2) - 1) ∧ (((24 * x1) + x2) - 1) < 240) ∧ R32 ((σ 82 ((24 * x1) + x2).toNat) - (σ 82 (((24 * x1) + x2) - 1).toNat)) ∧ ((16 < ((σ 82 ((24 * x1) + x2).toNat) - (σ 82 (((24 * x1) + x2) - 1).toNat)) → B σ) ∧ (¬ 16 < ((σ 82 ((24 * x1) + x2).toNat) - (σ 82 (((24 * x1) + x2) - 1).toNat)) → A σ))))) : TT m_X10_isLeg 0 [vR 80, vI x1, vI x2] [] σ (PZ A B) := by
  refine TT_iload_n dX10_isLeg_0 rfl ?_
  obtain ⟨o1, h⟩ := h
  refine TT_if_le (tgt := 38) dX10_isLeg_1 rfl o1 (fun c2 => ?_) (fun c2 => ?_)
  · replace h := h.1 c2
    refine TT_iconst dX10_isLeg_38 ?_
    exact TT_z0 dX10_isLeg_39 rfl rfl h
  · replace h := h.2 c2
    refine TT_aload_n dX10_isLeg_4 rfl ?_
    refine TT_getR (r := 82) dX10_isLeg_5 fd_X10_13 (by decide) rfl (by decide) rfl rfl ?_
    refine TT_bipush dX10_isLeg_8 (by decide) ?_
    refine TT_iload_n dX10_isLeg_10 rfl ?_
    refine TT_imul dX10_isLeg_11 ?_
    refine TT_iload_n dX10_isLeg_12 rfl ?_
    refine TT_iadd dX10_isLeg_13 ?_
    obtain ⟨o3, h⟩ := h
    refine TT_iald dX10_isLeg_14 (by decide) rfl (by decide) o3 ?_
    refine TT_aload_n dX10_isLeg_15 rfl ?_
    refine TT_getR (r := 82) dX10_isLeg_16 fd_X10_13 (by decide) rfl (by decide) rfl rfl ?_
    refine TT_bipush dX10_isLeg_19 (by decide) ?_
    refine TT_iload_n dX10_isLeg_21 rfl ?_
    refine TT_imul dX10_isLeg_22 ?_
    refine TT_iload_n dX10_isLeg_23 rfl ?_
    refine TT_iadd dX10_isLeg_24 ?_
    refine TT_iconst dX10_isLeg_25 ?_
    refine TT_isub dX10_isLeg_26 ?_
    obtain ⟨o4, h⟩ := h
    refine TT_iald dX10_isLeg_27 (by decide) rfl (by decide) o4 ?_
    refine TT_isub dX10_isLeg_28 ?_
    refine TT_bipush dX10_isLeg_29 (by decide) ?_
    obtain ⟨o5, h⟩ := h
    refine TT_icmp_gt (tgt := 38) dX10_isLeg_31 rfl o5 (by decide) (fun c6 => ?_) (fun c6 => ?_)
    · replace h := h.1 c6
      refine TT_iconst dX10_isLeg_38 ?_
      exact TT_z0 dX10_isLeg_39 rfl rfl h
    · replace h := h.2 c6
      refine TT_iconst dX10_isLeg_34 ?_
      refine TT_goto (tgt := 39) dX10_isLeg_35 rfl ?_
      exact TT_z1 dX10_isLeg_39 rfl rfl h
theorem e_X10_isLeg (x1 : Int) (x2 : Int) {σ : Mem} {A B : Mem → Prop} (h : R32 x2 ∧ ((x2 ≤ 0 → B σ) ∧ (¬ x2 ≤ 0 → (0 ≤ ((24 * x1) + x2) ∧ ((24 * x1) + x2) < 240) ∧ (0 ≤ (((24 * x1) + x2) - 1) ∧ (((24 * x1) + x2) - 1) < 240) ∧ R32 ((σ 82 ((24 * x1) + x2).toNat) - (σ 82 (((24 * x1) + x2) - 1).toNat)) ∧ ((16 < ((σ 82 ((24 * x1) + x2).toNat) - (σ 82 (((24 * x1) + x2) - 1).toNat)) → B σ) ∧ (¬ 16 < ((σ 82 ((24 * x1) + x2).toNat) - (σ 82 (((24 * x1) + x2) - 1).toNat)) → A σ))))) : CC m_X10_isLeg [vR 80, vI x1, vI x2] σ (PZ A B) := CC_of (by decide) rfl rfl rfl (Nat.le_of_ble_eq_true rfl) (w_X10_isLeg_0 x1 x2 h)
set_option maxRecDepth 4000 in
theorem w_X10_stand_0 (x1 : Int) (x2 : Int) {σ : Mem} {K : Mem → Prop} (h : (0 ≤ ((24 * x1) + x2) ∧ ((24 * x1) + x2) < 240) ∧ R32 (σ 83 ((24 * x1) + x2).toNat) ∧ (∀ s3 : Mem, s3 = up σ 80 6 (σ 83 ((24 * x1) + x2).toNat) → R32 (s3 84 ((24 * x1) + x2).toNat) ∧ (∀ s6 : Mem, s6 = up s3 80 7 (s3 84 ((24 * x1) + x2).toNat) → (∀ s8 : Mem, s8 = up s6 80 8 1 → K s8)))) : TT m_X10_stand 0 [vR 80, vI x1, vI x2] [] σ (PN K) := by
  refine TT_aload_n dX10_stand_0 rfl ?_
  refine TT_aload_n dX10_stand_1 rfl ?_
  refine TT_getR (r := 83) dX10_stand_2 fd_X10_16 (by decide) rfl (by decide) rfl rfl ?_
  refine TT_bipush dX10_stand_5 (by decide) ?_
  refine TT_iload_n dX10_stand_7 rfl ?_
  refine TT_imul dX10_stand_8 ?_
  refine TT_iload_n dX10_stand_9 rfl ?_
  refine TT_iadd dX10_stand_10 ?_
  obtain ⟨o1, h⟩ := h
  refine TT_iald dX10_stand_11 (by decide) rfl (by decide) o1 ?_
  obtain ⟨o2, h⟩ := h
  refine TT_i2l dX10_stand_12 o2 ?_
  refine TT_putJ dX10_stand_13 fd_X10_107 (by decide) rfl (by decide) rfl ?_
  refine TT_nmM (fun s3 e4 => ?_)
  replace h := h s3 e4
  refine TT_aload_n dX10_stand_16 rfl ?_
  refine TT_aload_n dX10_stand_17 rfl ?_
  refine TT_getR (r := 84) dX10_stand_18 fd_X10_19 (by decide) rfl (by decide) rfl rfl ?_
  refine TT_bipush dX10_stand_21 (by decide) ?_
  refine TT_iload_n dX10_stand_23 rfl ?_
  refine TT_imul dX10_stand_24 ?_
  refine TT_iload_n dX10_stand_25 rfl ?_
  refine TT_iadd dX10_stand_26 ?_
  refine TT_iald dX10_stand_27 (by decide) rfl (by decide) o1 ?_
  obtain ⟨o5, h⟩ := h
  refine TT_i2l dX10_stand_28 o5 ?_
  refine TT_putJ dX10_stand_29 fd_X10_111 (by decide) rfl (by decide) rfl ?_
  refine TT_nmM (fun s6 e7 => ?_)
  replace h := h s6 e7
  refine TT_aload_n dX10_stand_32 rfl ?_
  refine TT_lconst dX10_stand_33 (x := 1) rfl ?_
  refine TT_putJ dX10_stand_34 fd_X10_114 (by decide) rfl (by decide) rfl ?_
  refine TT_nmM (fun s8 e9 => ?_)
  replace h := h s8 e9
  exact TT_vret dX10_stand_37 rfl rfl h
theorem e_X10_stand (x1 : Int) (x2 : Int) {σ : Mem} {K : Mem → Prop} (h : (0 ≤ ((24 * x1) + x2) ∧ ((24 * x1) + x2) < 240) ∧ R32 (σ 83 ((24 * x1) + x2).toNat) ∧ (∀ s3 : Mem, s3 = up σ 80 6 (σ 83 ((24 * x1) + x2).toNat) → R32 (s3 84 ((24 * x1) + x2).toNat) ∧ (∀ s6 : Mem, s6 = up s3 80 7 (s3 84 ((24 * x1) + x2).toNat) → (∀ s8 : Mem, s8 = up s6 80 8 1 → K s8)))) : CC m_X10_stand [vR 80, vI x1, vI x2] σ (PN K) := CC_of (by decide) rfl rfl rfl (Nat.le_of_ble_eq_true rfl) (w_X10_stand_0 x1 x2 h)
set_option maxRecDepth 4000 in
theorem w_X10_goBy_0 (x1 : Int) (x2 : Int) (x3 : Int) {σ : Mem} {K : Mem → Prop} (h : (0 ≤ (((24 * x1) + x2) - 1) ∧ (((24 * x1) + x2) - 1) < 240) ∧ R32 (x3 - (σ 82 (((24 * x1) + x2) - 1).toNat)) ∧ (∀ v3 : Int, v3 = (x3 - (σ 82 (((24 * x1) + x2) - 1).toNat)) → (0 ≤ ((24 * x1) + x2) ∧ ((24 * x1) + x2) < 240) ∧ R32 ((σ 82 ((24 * x1) + x2).toNat) - (σ 82 (((24 * x1) + x2) - 1).toNat)) ∧ (∀ s7 : Mem, s7 = up σ 80 8 ((σ 82 ((24 * x1) + x2).toNat) - (σ 82 (((24 * x1) + x2) - 1).toNat)) → R32 (s7 83 (((24 * x1) + x2) - 1).toNat) ∧ R32 ((s7 83 ((24 * x1) + x2).toNat) - (s7 83 (((24 * x1) + x2) - 1).toNat)) ∧ (∀ s11 : Mem, s11 = up s7 80 6 (((s7 83 (((24 * x1) + x2) - 1).toNat) * (s7 80 8)) + (((s7 83 ((24 * x1) + x2).toNat) - (s7 83 (((24 * x1) + x2) - 1).toNat)) * v3)) → R32 (s11 84 (((24 * x1) + x2) - 1).toNat) ∧ R32 ((s11 84 ((24 * x1) + x2).toNat) - (s11 84 (((24 * x1) + x2) - 1).toNat)) ∧ (∀ s15 : Mem, s15 = up s11 80 7 (((s11 84 (((24 * x1) + x2) - 1).toNat) * (s11 80 8)) + (((s11 84 ((24 * x1) + x2).toNat) - (s11 84 (((24 * x1) + x2) - 1).toNat)) * v3)) → K s15))))) : TT m_X10_goBy 0 [vR 80, vI x1, vI x2, vI x3, vU, vU, vU] [] σ (PN K) := by
  refine TT_bipush dX10_goBy_0 (by decide) ?_
  refine TT_iload_n dX10_goBy_2 rfl ?_
  refine TT_imul dX10_goBy_3 ?_
  refine TT_iload_n dX10_goBy_4 rfl ?_
  refine TT_iadd dX10_goBy_5 ?_
  refine TT_istore dX10_goBy_6 (Nat.le_of_ble_eq_true rfl) rfl rfl ?_
  refine TT_iload_n dX10_goBy_8 rfl ?_
  refine TT_aload_n dX10_goBy_9 rfl ?_
  refine TT_getR (r := 82) dX10_goBy_10 fd_X10_13 (by decide) rfl (by decide) rfl rfl ?_
  refine TT_iload dX10_goBy_13 rfl ?_
  refine TT_iconst dX10_goBy_15 ?_
  refine TT_isub dX10_goBy_16 ?_
  obtain ⟨o1, h⟩ := h
  refine TT_iald dX10_goBy_17 (by decide) rfl (by decide) o1 ?_
  refine TT_isub dX10_goBy_18 ?_
  obtain ⟨o2, h⟩ := h
  refine TT_i2l dX10_goBy_19 o2 ?_
  refine TT_nmL (fun v3 e4 => ?_)
  replace h := h v3 e4
  refine TT_lstore dX10_goBy_20 (Nat.le_of_ble_eq_true rfl) rfl rfl ?_
  refine TT_aload_n dX10_goBy_22 rfl ?_
  refine TT_aload_n dX10_goBy_23 rfl ?_
  refine TT_getR (r := 82) dX10_goBy_24 fd_X10_13 (by decide) rfl (by decide) rfl rfl ?_
  refine TT_iload dX10_goBy_27 rfl ?_
  obtain ⟨o5, h⟩ := h
  refine TT_iald dX10_goBy_29 (by decide) rfl (by decide) o5 ?_
  refine TT_aload_n dX10_goBy_30 rfl ?_
  refine TT_getR (r := 82) dX10_goBy_31 fd_X10_13 (by decide) rfl (by decide) rfl rfl ?_
  refine TT_iload dX10_goBy_34 rfl ?_
  refine TT_iconst dX10_goBy_36 ?_
  refine TT_isub dX10_goBy_37 ?_
  refine TT_iald dX10_goBy_38 (by decide) rfl (by decide) o1 ?_
  refine TT_isub dX10_goBy_39 ?_
  obtain ⟨o6, h⟩ := h
  refine TT_i2l dX10_goBy_40 o6 ?_
  refine TT_putJ dX10_goBy_41 fd_X10_114 (by decide) rfl (by decide) rfl ?_
  refine TT_nmM (fun s7 e8 => ?_)
  replace h := h s7 e8
  refine TT_aload_n dX10_goBy_44 rfl ?_
  refine TT_aload_n dX10_goBy_45 rfl ?_
  refine TT_getR (r := 83) dX10_goBy_46 fd_X10_16 (by decide) rfl (by decide) rfl rfl ?_
  refine TT_iload dX10_goBy_49 rfl ?_
  refine TT_iconst dX10_goBy_51 ?_
  refine TT_isub dX10_goBy_52 ?_
  refine TT_iald dX10_goBy_53 (by decide) rfl (by decide) o1 ?_
  obtain ⟨o9, h⟩ := h
  refine TT_i2l dX10_goBy_54 o9 ?_
  refine TT_aload_n dX10_goBy_55 rfl ?_
  refine TT_getJ dX10_goBy_56 fd_X10_114 (by decide) rfl (by decide) rfl ?_
  refine TT_lmul dX10_goBy_59 ?_
  refine TT_aload_n dX10_goBy_60 rfl ?_
  refine TT_getR (r := 83) dX10_goBy_61 fd_X10_16 (by decide) rfl (by decide) rfl rfl ?_
  refine TT_iload dX10_goBy_64 rfl ?_
  refine TT_iald dX10_goBy_66 (by decide) rfl (by decide) o5 ?_
  refine TT_aload_n dX10_goBy_67 rfl ?_
  refine TT_getR (r := 83) dX10_goBy_68 fd_X10_16 (by decide) rfl (by decide) rfl rfl ?_
  refine TT_iload dX10_goBy_71 rfl ?_
  refine TT_iconst dX10_goBy_73 ?_
  refine TT_isub dX10_goBy_74 ?_
  refine TT_iald dX10_goBy_75 (by decide) rfl (by decide) o1 ?_
  refine TT_isub dX10_goBy_76 ?_
  obtain ⟨o10, h⟩ := h
  refine TT_i2l dX10_goBy_77 o10 ?_
  refine TT_lload dX10_goBy_78 rfl ?_
  refine TT_lmul dX10_goBy_80 ?_
  refine TT_ladd dX10_goBy_81 ?_
  refine TT_putJ dX10_goBy_82 fd_X10_107 (by decide) rfl (by decide) rfl ?_
  refine TT_nmM (fun s11 e12 => ?_)
  replace h := h s11 e12
  refine TT_aload_n dX10_goBy_85 rfl ?_
  refine TT_aload_n dX10_goBy_86 rfl ?_
  refine TT_getR (r := 84) dX10_goBy_87 fd_X10_19 (by decide) rfl (by decide) rfl rfl ?_
  refine TT_iload dX10_goBy_90 rfl ?_
  refine TT_iconst dX10_goBy_92 ?_
  refine TT_isub dX10_goBy_93 ?_
  refine TT_iald dX10_goBy_94 (by decide) rfl (by decide) o1 ?_
  obtain ⟨o13, h⟩ := h
  refine TT_i2l dX10_goBy_95 o13 ?_
  refine TT_aload_n dX10_goBy_96 rfl ?_
  refine TT_getJ dX10_goBy_97 fd_X10_114 (by decide) rfl (by decide) rfl ?_
  refine TT_lmul dX10_goBy_100 ?_
  refine TT_aload_n dX10_goBy_101 rfl ?_
  refine TT_getR (r := 84) dX10_goBy_102 fd_X10_19 (by decide) rfl (by decide) rfl rfl ?_
  refine TT_iload dX10_goBy_105 rfl ?_
  refine TT_iald dX10_goBy_107 (by decide) rfl (by decide) o5 ?_
  refine TT_aload_n dX10_goBy_108 rfl ?_
  refine TT_getR (r := 84) dX10_goBy_109 fd_X10_19 (by decide) rfl (by decide) rfl rfl ?_
  refine TT_iload dX10_goBy_112 rfl ?_
  refine TT_iconst dX10_goBy_114 ?_
  refine TT_isub dX10_goBy_115 ?_
  refine TT_iald dX10_goBy_116 (by decide) rfl (by decide) o1 ?_
  refine TT_isub dX10_goBy_117 ?_
  obtain ⟨o14, h⟩ := h
  refine TT_i2l dX10_goBy_118 o14 ?_
  refine TT_lload dX10_goBy_119 rfl ?_
  refine TT_lmul dX10_goBy_121 ?_
  refine TT_ladd dX10_goBy_122 ?_
  refine TT_putJ dX10_goBy_123 fd_X10_111 (by decide) rfl (by decide) rfl ?_
  refine TT_nmM (fun s15 e16 => ?_)
  replace h := h s15 e16
  exact TT_vret dX10_goBy_126 rfl rfl h
theorem e_X10_goBy (x1 : Int) (x2 : Int) (x3 : Int) {σ : Mem} {K : Mem → Prop} (h : (0 ≤ (((24 * x1) + x2) - 1) ∧ (((24 * x1) + x2) - 1) < 240) ∧ R32 (x3 - (σ 82 (((24 * x1) + x2) - 1).toNat)) ∧ (∀ v3 : Int, v3 = (x3 - (σ 82 (((24 * x1) + x2) - 1).toNat)) → (0 ≤ ((24 * x1) + x2) ∧ ((24 * x1) + x2) < 240) ∧ R32 ((σ 82 ((24 * x1) + x2).toNat) - (σ 82 (((24 * x1) + x2) - 1).toNat)) ∧ (∀ s7 : Mem, s7 = up σ 80 8 ((σ 82 ((24 * x1) + x2).toNat) - (σ 82 (((24 * x1) + x2) - 1).toNat)) → R32 (s7 83 (((24 * x1) + x2) - 1).toNat) ∧ R32 ((s7 83 ((24 * x1) + x2).toNat) - (s7 83 (((24 * x1) + x2) - 1).toNat)) ∧ (∀ s11 : Mem, s11 = up s7 80 6 (((s7 83 (((24 * x1) + x2) - 1).toNat) * (s7 80 8)) + (((s7 83 ((24 * x1) + x2).toNat) - (s7 83 (((24 * x1) + x2) - 1).toNat)) * v3)) → R32 (s11 84 (((24 * x1) + x2) - 1).toNat) ∧ R32 ((s11 84 ((24 * x1) + x2).toNat) - (s11 84 (((24 * x1) + x2) - 1).toNat)) ∧ (∀ s15 : Mem, s15 = up s11 80 7 (((s11 84 (((24 * x1) + x2) - 1).toNat) * (s11 80 8)) + (((s11 84 ((24 * x1) + x2).toNat) - (s11 84 (((24 * x1) + x2) - 1).toNat)) * v3)) → K s15))))) : CC m_X10_goBy [vR 80, vI x1, vI x2, vI x3] σ (PN K) := CC_of (by decide) rfl rfl rfl (Nat.le_of_ble_eq_true rfl) (w_X10_goBy_0 x1 x2 x3 h)
set_option maxRecDepth 4000 in
theorem w_X10_find_0 (x1 : Int) (x2 : Int) {σ : Mem} {A B : Mem → Prop} (h : TT m_X10_find 2 [vR 80, vI x1, vI x2, vI 0] [] σ (PZ A B)) : TT m_X10_find 0 [vR 80, vI x1, vI x2, vU] [] σ (PZ A B) := by
  refine TT_iconst dX10_find_0 ?_
  refine TT_istore_n dX10_find_1 (Nat.le_of_ble_eq_true rfl) rfl rfl ?_
  exact h
theorem e_X10_find (x1 : Int) (x2 : Int) {σ : Mem} {A B : Mem → Prop} (h : TT m_X10_find 2 [vR 80, vI x1, vI x2, vI 0] [] σ (PZ A B)) : CC m_X10_find [vR 80, vI x1, vI x2] σ (PZ A B) := CC_of (by decide) rfl rfl rfl (Nat.le_of_ble_eq_true rfl) (w_X10_find_0 x1 x2 h)
set_option maxRecDepth 4000 in
theorem w_X10_find_2 (x1 : Int) (x2 : Int) (x3 : Int) {σ : Mem} {A B : Mem → Prop} (h : (0 ≤ x1 ∧ x1 < 10) ∧ R32 x3 ∧ R32 (σ 81 (x1).toNat) ∧ (((σ 81 (x1).toNat) ≤ x3 → TT m_X10_find 33 [vR 80, vI x1, vI x2, vI x3] [] σ (PZ A B)) ∧ (¬ (σ 81 (x1).toNat) ≤ x3 → (0 ≤ ((24 * x1) + x3) ∧ ((24 * x1) + x3) < 240) ∧ R32 (σ 82 ((24 * x1) + x3).toNat) ∧ R32 x2 ∧ ((x2 ≤ (σ 82 ((24 * x1) + x3).toNat) → TT m_X10_find 33 [vR 80, vI x1, vI x2, vI x3] [] σ (PZ A B)) ∧ (¬ x2 ≤ (σ 82 ((24 * x1) + x3).toNat) → TT m_X10_find 2 [vR 80, vI x1, vI x2, vI (x3 + 1)] [] σ (PZ A B)))))) : TT m_X10_find 2 [vR 80, vI x1, vI x2, vI x3] [] σ (PZ A B) := by
  refine TT_iload_n dX10_find_2 rfl ?_
  refine TT_aload_n dX10_find_3 rfl ?_
  refine TT_getR (r := 81) dX10_find_4 fd_X10_7 (by decide) rfl (by decide) rfl rfl ?_
  refine TT_iload_n dX10_find_7 rfl ?_
  obtain ⟨o1, h⟩ := h
  refine TT_iald dX10_find_8 (by decide) rfl (by decide) o1 ?_
  obtain ⟨o2, h⟩ := h
  obtain ⟨o3, h⟩ := h
  refine TT_icmp_ge (tgt := 33) dX10_find_9 rfl o2 o3 (fun c4 => ?_) (fun c4 => ?_)
  · replace h := h.1 c4
    exact h
  · replace h := h.2 c4
    refine TT_aload_n dX10_find_12 rfl ?_
    refine TT_getR (r := 82) dX10_find_13 fd_X10_13 (by decide) rfl (by decide) rfl rfl ?_
    refine TT_bipush dX10_find_16 (by decide) ?_
    refine TT_iload_n dX10_find_18 rfl ?_
    refine TT_imul dX10_find_19 ?_
    refine TT_iload_n dX10_find_20 rfl ?_
    refine TT_iadd dX10_find_21 ?_
    obtain ⟨o5, h⟩ := h
    refine TT_iald dX10_find_22 (by decide) rfl (by decide) o5 ?_
    refine TT_iload_n dX10_find_23 rfl ?_
    obtain ⟨o6, h⟩ := h
    obtain ⟨o7, h⟩ := h
    refine TT_icmp_ge (tgt := 33) dX10_find_24 rfl o6 o7 (fun c8 => ?_) (fun c8 => ?_)
    · replace h := h.1 c8
      exact h
    · replace h := h.2 c8
      refine TT_iinc dX10_find_27 (Nat.le_of_ble_eq_true rfl) rfl rfl rfl ?_
      refine TT_goto (tgt := 2) dX10_find_30 rfl ?_
      exact h
set_option maxRecDepth 4000 in
theorem w_X10_find_33 (x1 : Int) (x2 : Int) (x3 : Int) {σ : Mem} {A B : Mem → Prop} (h : (0 ≤ x1 ∧ x1 < 10) ∧ R32 x3 ∧ R32 (σ 81 (x1).toNat) ∧ (((σ 81 (x1).toNat) ≤ x3 → ((x3 = 0 → B σ) ∧ (¬ x3 = 0 → (0 ≤ (((24 * x1) + x3) - 1) ∧ (((24 * x1) + x3) - 1) < 240) ∧ R32 (x2 - (σ 82 (((24 * x1) + x3) - 1).toNat)) ∧ (((x2 - (σ 82 (((24 * x1) + x3) - 1).toNat)) ≤ 16 → R32 (σ 85 (x1).toNat) ∧ ((¬ (σ 85 (x1).toNat) = 1 → TT m_X10_find 145 [vR 80, vI x1, vU, vI x3] [] σ (PZ A B)) ∧ ((σ 85 (x1).toNat) = 1 → CC m_X10_isLeg [vR 80, vI x1, vI (x3 - 1)] σ (PZ (fun s20 => CC m_X10_goBy [vR 80, vI x1, vI (x3 - 1), vI x2] s20 (PN (fun s24 => A s24))) (fun s21 => TT m_X10_find 145 [vR 80, vI x1, vU, vI x3] [] s21 (PZ A B)))))) ∧ (¬ (x2 - (σ 82 (((24 * x1) + x3) - 1).toNat)) ≤ 16 → B σ))))) ∧ (¬ (σ 81 (x1).toNat) ≤ x3 → (0 ≤ ((24 * x1) + x3) ∧ ((24 * x1) + x3) < 240) ∧ R32 (σ 82 ((24 * x1) + x3).toNat) ∧ R32 x2 ∧ ((¬ (σ 82 ((24 * x1) + x3).toNat) = x2 → CC m_X10_isLeg [vR 80, vI x1, vI x3] σ (PZ (fun s31 => CC m_X10_goBy [vR 80, vI x1, vI x3, vI x2] s31 (PN (fun s35 => A s35))) (fun s32 => B s32))) ∧ ((σ 82 ((24 * x1) + x3).toNat) = x2 → CC m_X10_stand [vR 80, vI x1, vI x3] σ (PN (fun s38 => A s38))))))) : TT m_X10_find 33 [vR 80, vI x1, vI x2, vI x3] [] σ (PZ A B) := by
  refine TT_iload_n dX10_find_33 rfl ?_
  refine TT_aload_n dX10_find_34 rfl ?_
  refine TT_getR (r := 81) dX10_find_35 fd_X10_7 (by decide) rfl (by decide) rfl rfl ?_
  refine TT_iload_n dX10_find_38 rfl ?_
  obtain ⟨o9, h⟩ := h
  refine TT_iald dX10_find_39 (by decide) rfl (by decide) o9 ?_
  obtain ⟨o10, h⟩ := h
  obtain ⟨o11, h⟩ := h
  refine TT_icmp_ge (tgt := 86) dX10_find_40 rfl o10 o11 (fun c12 => ?_) (fun c12 => ?_)
  · replace h := h.1 c12
    refine TT_iload_n dX10_find_86 rfl ?_
    refine TT_if_eq (tgt := 110) dX10_find_87 rfl o10 (fun c13 => ?_) (fun c13 => ?_)
    · replace h := h.1 c13
      refine TT_iconst dX10_find_110 ?_
      exact TT_z0 dX10_find_111 rfl rfl h
    · replace h := h.2 c13
      refine TT_iload_n dX10_find_90 rfl ?_
      refine TT_aload_n dX10_find_91 rfl ?_
      refine TT_getR (r := 82) dX10_find_92 fd_X10_13 (by decide) rfl (by decide) rfl rfl ?_
      refine TT_bipush dX10_find_95 (by decide) ?_
      refine TT_iload_n dX10_find_97 rfl ?_
      refine TT_imul dX10_find_98 ?_
      refine TT_iload_n dX10_find_99 rfl ?_
      refine TT_iadd dX10_find_100 ?_
      refine TT_iconst dX10_find_101 ?_
      refine TT_isub dX10_find_102 ?_
      obtain ⟨o14, h⟩ := h
      refine TT_iald dX10_find_103 (by decide) rfl (by decide) o14 ?_
      refine TT_isub dX10_find_104 ?_
      refine TT_bipush dX10_find_105 (by decide) ?_
      obtain ⟨o15, h⟩ := h
      refine TT_icmp_le (tgt := 112) dX10_find_107 rfl o15 (by decide) (fun c16 => ?_) (fun c16 => ?_)
      · replace h := h.1 c16
        refine TT_aload_n dX10_find_112 rfl ?_
        refine TT_getR (r := 85) dX10_find_113 fd_X10_22 (by decide) rfl (by decide) rfl rfl ?_
        refine TT_iload_n dX10_find_116 rfl ?_
        refine TT_iald dX10_find_117 (by decide) rfl (by decide) o9 ?_
        refine TT_iconst dX10_find_118 ?_
        obtain ⟨o17, h⟩ := h
        refine TT_icmp_ne (tgt := 145) dX10_find_119 rfl o17 (by decide) (fun c18 => ?_) (fun c18 => ?_)
        · replace h := h.1 c18
          refine TT_kill 2 rfl ?_
          exact h
        · replace h := h.2 c18
          refine TT_aload_n dX10_find_122 rfl ?_
          refine TT_iload_n dX10_find_123 rfl ?_
          refine TT_iload_n dX10_find_124 rfl ?_
          refine TT_iconst dX10_find_125 ?_
          refine TT_isub dX10_find_126 ?_
          refine TT_callVZ (M' := m_X10_isLeg) (as := [vI x1, vI (x3 - 1)]) (rest := []) dX10_find_127 mo_X10_isLeg ml_X10_120 im_X10_isLeg se_X10_isLeg (Nat.le_of_ble_eq_true rfl) (Nat.le_of_ble_eq_true rfl) ⟨rfl, rfl, rfl⟩ rfl rfl (Nat.le_of_ble_eq_true rfl) (by decide) rfl rfl (by decide) h (fun s20 h => ?_) (fun s21 h => ?_)
          · refine TT_if_eq (tgt := 145) dX10_find_130 rfl (by decide) (fun c22 => absurd c22 (by decide)) (fun c22 => ?_)
            refine TT_aload_n dX10_find_133 rfl ?_
            refine TT_iload_n dX10_find_134 rfl ?_
            refine TT_iload_n dX10_find_135 rfl ?_
            refine TT_iconst dX10_find_136 ?_
            refine TT_isub dX10_find_137 ?_
            refine TT_iload_n dX10_find_138 rfl ?_
            refine TT_callVN (M' := m_X10_goBy) (as := [vI x1, vI (x3 - 1), vI x2]) (rest := []) dX10_find_139 mo_X10_goBy ml_X10_123 im_X10_goBy se_X10_goBy (Nat.le_of_ble_eq_true rfl) (Nat.le_of_ble_eq_true rfl) ⟨rfl, rfl, rfl⟩ rfl rfl (Nat.le_of_ble_eq_true rfl) (by decide) rfl rfl (by decide) h (fun s24 h => ?_)
            refine TT_goto (tgt := 153) dX10_find_142 rfl ?_
            refine TT_iconst dX10_find_153 ?_
            exact TT_z1 dX10_find_154 rfl rfl h
          · refine TT_if_eq (tgt := 145) dX10_find_130 rfl (by decide) (fun c25 => ?_) (fun c25 => absurd c25 (by decide))
            refine TT_kill 2 rfl ?_
            exact h
      · replace h := h.2 c16
        refine TT_iconst dX10_find_110 ?_
        exact TT_z0 dX10_find_111 rfl rfl h
  · replace h := h.2 c12
    refine TT_aload_n dX10_find_43 rfl ?_
    refine TT_getR (r := 82) dX10_find_44 fd_X10_13 (by decide) rfl (by decide) rfl rfl ?_
    refine TT_bipush dX10_find_47 (by decide) ?_
    refine TT_iload_n dX10_find_49 rfl ?_
    refine TT_imul dX10_find_50 ?_
    refine TT_iload_n dX10_find_51 rfl ?_
    refine TT_iadd dX10_find_52 ?_
    obtain ⟨o26, h⟩ := h
    refine TT_iald dX10_find_53 (by decide) rfl (by decide) o26 ?_
    refine TT_iload_n dX10_find_54 rfl ?_
    obtain ⟨o27, h⟩ := h
    obtain ⟨o28, h⟩ := h
    refine TT_icmp_ne (tgt := 66) dX10_find_55 rfl o27 o28 (fun c29 => ?_) (fun c29 => ?_)
    · replace h := h.1 c29
      refine TT_aload_n dX10_find_66 rfl ?_
      refine TT_iload_n dX10_find_67 rfl ?_
      refine TT_iload_n dX10_find_68 rfl ?_
      refine TT_callVZ (M' := m_X10_isLeg) (as := [vI x1, vI x3]) (rest := []) dX10_find_69 mo_X10_isLeg ml_X10_120 im_X10_isLeg se_X10_isLeg (Nat.le_of_ble_eq_true rfl) (Nat.le_of_ble_eq_true rfl) ⟨rfl, rfl, rfl⟩ rfl rfl (Nat.le_of_ble_eq_true rfl) (by decide) rfl rfl (by decide) h (fun s31 h => ?_) (fun s32 h => ?_)
      · refine TT_if_eq (tgt := 84) dX10_find_72 rfl (by decide) (fun c33 => absurd c33 (by decide)) (fun c33 => ?_)
        refine TT_aload_n dX10_find_75 rfl ?_
        refine TT_iload_n dX10_find_76 rfl ?_
        refine TT_iload_n dX10_find_77 rfl ?_
        refine TT_iload_n dX10_find_78 rfl ?_
        refine TT_callVN (M' := m_X10_goBy) (as := [vI x1, vI x3, vI x2]) (rest := []) dX10_find_79 mo_X10_goBy ml_X10_123 im_X10_goBy se_X10_goBy (Nat.le_of_ble_eq_true rfl) (Nat.le_of_ble_eq_true rfl) ⟨rfl, rfl, rfl⟩ rfl rfl (Nat.le_of_ble_eq_true rfl) (by decide) rfl rfl (by decide) h (fun s35 h => ?_)
        refine TT_iconst dX10_find_82 ?_
        exact TT_z1 dX10_find_83 rfl rfl h
      · refine TT_if_eq (tgt := 84) dX10_find_72 rfl (by decide) (fun c36 => ?_) (fun c36 => absurd c36 (by decide))
        refine TT_iconst dX10_find_84 ?_
        exact TT_z0 dX10_find_85 rfl rfl h
    · replace h := h.2 c29
      refine TT_aload_n dX10_find_58 rfl ?_
      refine TT_iload_n dX10_find_59 rfl ?_
      refine TT_iload_n dX10_find_60 rfl ?_
      refine TT_callVN (M' := m_X10_stand) (as := [vI x1, vI x3]) (rest := []) dX10_find_61 mo_X10_stand ml_X10_117 im_X10_stand se_X10_stand (Nat.le_of_ble_eq_true rfl) (Nat.le_of_ble_eq_true rfl) ⟨rfl, rfl, rfl⟩ rfl rfl (Nat.le_of_ble_eq_true rfl) (by decide) rfl rfl (by decide) h (fun s38 h => ?_)
      refine TT_iconst dX10_find_64 ?_
      exact TT_z1 dX10_find_65 rfl rfl h
set_option maxRecDepth 4000 in
theorem w_X10_find_145 (x1 : Int) (x3 : Int) {σ : Mem} {A B : Mem → Prop} (h : CC m_X10_stand [vR 80, vI x1, vI (x3 - 1)] σ (PN (fun s40 => A s40))) : TT m_X10_find 145 [vR 80, vI x1, vU, vI x3] [] σ (PZ A B) := by
  refine TT_aload_n dX10_find_145 rfl ?_
  refine TT_iload_n dX10_find_146 rfl ?_
  refine TT_iload_n dX10_find_147 rfl ?_
  refine TT_iconst dX10_find_148 ?_
  refine TT_isub dX10_find_149 ?_
  refine TT_callVN (M' := m_X10_stand) (as := [vI x1, vI (x3 - 1)]) (rest := []) dX10_find_150 mo_X10_stand ml_X10_117 im_X10_stand se_X10_stand (Nat.le_of_ble_eq_true rfl) (Nat.le_of_ble_eq_true rfl) ⟨rfl, rfl, rfl⟩ rfl rfl (Nat.le_of_ble_eq_true rfl) (by decide) rfl rfl (by decide) h (fun s40 h => ?_)
  refine TT_iconst dX10_find_153 ?_
  exact TT_z1 dX10_find_154 rfl rfl h
set_option maxRecDepth 4000 in
theorem w_X10_common_0 (x0 : Int) (x2 : Int) {σ : Mem} {K : Int → Mem → Prop} (h : R64 x0 ∧ (∀ v4 : Int, v4 = (if 0 ≤ x0 then x0 else (-x0) : Int) → TT m_X10_common 17 [vU, vU, vU, vU, vL v4, vU, vL x2, vU, vU, vU] [] σ (PJ K))) : TT m_X10_common 0 [vL x0, vU, vL x2, vU, vU, vU, vU, vU, vU, vU] [] σ (PJ K) := by
  refine TT_lload_n dX10_common_0 rfl ?_
  refine TT_lconst dX10_common_1 (x := 0) rfl ?_
  obtain ⟨o1, h⟩ := h
  have j3 : TT m_X10_common 12 [vL x0, vU, vL x2, vU, vU, vU, vU, vU, vU, vU] [vL (if 0 ≤ x0 then x0 else (-x0) : Int)] σ (PJ K) := by
    refine TT_nmL (fun v4 e5 => ?_)
    replace h := h v4 e5
    refine TT_lstore dX10_common_12 (Nat.le_of_ble_eq_true rfl) rfl rfl ?_
    refine TT_lload_n dX10_common_14 rfl ?_
    refine TT_lstore dX10_common_15 (Nat.le_of_ble_eq_true rfl) rfl rfl ?_
    refine TT_kill 0 rfl ?_
    refine TT_kill 2 rfl ?_
    exact h
  refine TT_lc_ge (tgt := 11) dX10_common_2 dX10_common_3 rfl o1 (by decide) (fun c2 => ?_) (fun c2 => ?_)
  · refine TT_lload_n dX10_common_11 rfl ?_
    exact TT.cast j3 (by first | rfl | (simp only [if_pos c2] <;> rfl)) (by first | rfl | (simp only [if_pos c2] <;> rfl))
  · refine TT_lload_n dX10_common_6 rfl ?_
    refine TT_lneg dX10_common_7 ?_
    refine TT_goto (tgt := 12) dX10_common_8 rfl ?_
    exact TT.cast j3 (by first | rfl | (simp only [if_neg c2] <;> rfl)) (by first | rfl | (simp only [if_neg c2] <;> rfl))
theorem e_X10_common (x0 : Int) (x2 : Int) {σ : Mem} {K : Int → Mem → Prop} (h : R64 x0 ∧ (∀ v4 : Int, v4 = (if 0 ≤ x0 then x0 else (-x0) : Int) → TT m_X10_common 17 [vU, vU, vU, vU, vL v4, vU, vL x2, vU, vU, vU] [] σ (PJ K))) : CC m_X10_common [vL x0, vL x2] σ (PJ K) := CC_of (by decide) rfl rfl rfl (Nat.le_of_ble_eq_true rfl) (w_X10_common_0 x0 x2 h)
set_option maxRecDepth 4000 in
theorem w_X10_common_17 (x4 : Int) (x6 : Int) {σ : Mem} {K : Int → Mem → Prop} (h : R64 x6 ∧ ((x6 = 0 → K x4 σ) ∧ (¬ x6 = 0 → R64 x4 ∧ x6 ≠ 0 ∧ TT m_X10_common 17 [vU, vU, vU, vU, vL x6, vU, vL (Int.tmod x4 x6), vU, vU, vU] [] σ (PJ K)))) : TT m_X10_common 17 [vU, vU, vU, vU, vL x4, vU, vL x6, vU, vU, vU] [] σ (PJ K) := by
  refine TT_lload dX10_common_17 rfl ?_
  refine TT_lconst dX10_common_19 (x := 0) rfl ?_
  obtain ⟨o6, h⟩ := h
  refine TT_lc_eq (tgt := 42) dX10_common_20 dX10_common_21 rfl o6 (by decide) (fun c7 => ?_) (fun c7 => ?_)
  · replace h := h.1 c7
    refine TT_lload dX10_common_42 rfl ?_
    exact TT_lret dX10_common_44 rfl rfl h
  · replace h := h.2 c7
    refine TT_lload dX10_common_24 rfl ?_
    refine TT_lload dX10_common_26 rfl ?_
    obtain ⟨o8, h⟩ := h
    obtain ⟨o9, h⟩ := h
    refine TT_lrem dX10_common_28 o8 o6 o9 ?_
    refine TT_lstore dX10_common_29 (Nat.le_of_ble_eq_true rfl) rfl rfl ?_
    refine TT_lload dX10_common_31 rfl ?_
    refine TT_lstore dX10_common_33 (Nat.le_of_ble_eq_true rfl) rfl rfl ?_
    refine TT_lload dX10_common_35 rfl ?_
    refine TT_lstore dX10_common_37 (Nat.le_of_ble_eq_true rfl) rfl rfl ?_
    refine TT_goto (tgt := 17) dX10_common_39 rfl ?_
    refine TT_kill 8 rfl ?_
    exact h
set_option maxRecDepth 4000 in
theorem w_X10_told_0 (x0 : Int) (x2 : Int) (x4 : Int) {σ : Mem} {K : Int → Mem → Prop} (h : CC m_X10_common [vL x0, vL x2] σ (PJ (fun y1 s2 => R32 x4 ∧ (x4 = 0 → R64 x2 ∧ R64 y1 ∧ y1 ≠ 0) ∧ (¬ x4 = 0 → R64 x0 ∧ R64 y1 ∧ y1 ≠ 0) ∧ K (if x4 = 0 then (Int.tdiv x2 y1) else (Int.tdiv x0 y1) : Int) s2))) : TT m_X10_told 0 [vL x0, vU, vL x2, vU, vI x4, vU, vU] [] σ (PJ K) := by
  refine TT_lload_n dX10_told_0 rfl ?_
  refine TT_lload_n dX10_told_1 rfl ?_
  refine TT_callSJ (M' := m_X10_common) (as := [vL x0, vL x2]) (rest := []) dX10_told_2 mo_X10_common ml_X10_126 sm_X10_common (Nat.le_of_ble_eq_true rfl) (Nat.le_of_ble_eq_true rfl) ⟨rfl, rfl, rfl⟩ rfl rfl (Nat.le_of_ble_eq_true rfl) h (fun y1 s2 h => ?_)
  refine TT_lstore dX10_told_5 (Nat.le_of_ble_eq_true rfl) rfl rfl ?_
  refine TT_iload dX10_told_7 rfl ?_
  obtain ⟨o3, h⟩ := h
  obtain ⟨o12, h⟩ := h
  obtain ⟨o13, h⟩ := h
  have j11 : TT m_X10_told 23 [vL x0, vU, vL x2, vU, vI x4, vL y1, vU] [vL (if x4 = 0 then (Int.tdiv x2 y1) else (Int.tdiv x0 y1) : Int)] s2 (PJ K) := by
    exact TT_lret dX10_told_23 rfl rfl h
  refine TT_if_eq (tgt := 19) dX10_told_9 rfl o3 (fun c4 => ?_) (fun c4 => ?_)
  · have h := o12 c4
    refine TT_lload_n dX10_told_19 rfl ?_
    refine TT_lload dX10_told_20 rfl ?_
    obtain ⟨o5, h⟩ := h
    obtain ⟨o6, h⟩ := h
    have o7 := h
    refine TT_ldiv dX10_told_22 o5 o6 o7 ?_
    exact TT.cast j11 (by first | rfl | (simp only [if_pos c4] <;> rfl)) (by first | rfl | (simp only [if_pos c4] <;> rfl))
  · have h := o13 c4
    refine TT_lload_n dX10_told_12 rfl ?_
    refine TT_lload dX10_told_13 rfl ?_
    obtain ⟨o8, h⟩ := h
    obtain ⟨o9, h⟩ := h
    have o10 := h
    refine TT_ldiv dX10_told_15 o8 o9 o10 ?_
    refine TT_goto (tgt := 23) dX10_told_16 rfl ?_
    exact TT.cast j11 (by first | rfl | (simp only [if_neg c4] <;> rfl)) (by first | rfl | (simp only [if_neg c4] <;> rfl))
theorem e_X10_told (x0 : Int) (x2 : Int) (x4 : Int) {σ : Mem} {K : Int → Mem → Prop} (h : CC m_X10_common [vL x0, vL x2] σ (PJ (fun y1 s2 => R32 x4 ∧ (x4 = 0 → R64 x2 ∧ R64 y1 ∧ y1 ≠ 0) ∧ (¬ x4 = 0 → R64 x0 ∧ R64 y1 ∧ y1 ≠ 0) ∧ K (if x4 = 0 then (Int.tdiv x2 y1) else (Int.tdiv x0 y1) : Int) s2))) : CC m_X10_told [vL x0, vL x2, vI x4] σ (PJ K) := CC_of (by decide) rfl rfl rfl (Nat.le_of_ble_eq_true rfl) (w_X10_told_0 x0 x2 x4 h)
set_option maxRecDepth 4000 in
theorem w_X10_at_0 (x1 : Int) (x2 : Int) (x3 : Int) (x4 : Int) {σ : Mem} {K : Int → Mem → Prop} (h : CC m_X10_isThing [vI x1] σ (PZ (fun s2 => CC m_X10_isMinute [vI x2] s2 (PZ (fun s6 => CC m_X10_find [vR 80, vI x1, vI x2] s6 (PZ (fun s10 => R32 x3 ∧ CC m_X10_told [vL (if x3 = 0 then (s10 80 6) else (s10 80 7) : Int), vL (s10 80 8), vI x4] s10 (PJ (fun y16 s17 => K y16 s17))) (fun s11 => K (-900003) s11))) (fun s7 => K (-900002) s7))) (fun s3 => K (-900001) s3))) : TT m_X10_at 0 [vR 80, vI x1, vI x2, vI x3, vI x4] [] σ (PI K) := by
  refine TT_iload_n dX10_at_0 rfl ?_
  refine TT_callSZ (M' := m_X10_isThing) (as := [vI x1]) (rest := []) dX10_at_1 mo_X10_isThing ml_X10_79 sm_X10_isThing (Nat.le_of_ble_eq_true rfl) (Nat.le_of_ble_eq_true rfl) ⟨rfl, rfl, rfl⟩ rfl rfl (Nat.le_of_ble_eq_true rfl) h (fun s2 h => ?_) (fun s3 h => ?_)
  · refine TT_if_ne (tgt := 10) dX10_at_4 rfl (by decide) (fun c4 => ?_) (fun c4 => absurd c4 (by decide))
    refine TT_iload_n dX10_at_10 rfl ?_
    refine TT_callSZ (M' := m_X10_isMinute) (as := [vI x2]) (rest := []) dX10_at_11 mo_X10_isMinute ml_X10_84 sm_X10_isMinute (Nat.le_of_ble_eq_true rfl) (Nat.le_of_ble_eq_true rfl) ⟨rfl, rfl, rfl⟩ rfl rfl (Nat.le_of_ble_eq_true rfl) h (fun s6 h => ?_) (fun s7 h => ?_)
    · refine TT_if_ne (tgt := 20) dX10_at_14 rfl (by decide) (fun c8 => ?_) (fun c8 => absurd c8 (by decide))
      refine TT_aload_n dX10_at_20 rfl ?_
      refine TT_iload_n dX10_at_21 rfl ?_
      refine TT_iload_n dX10_at_22 rfl ?_
      refine TT_callVZ (M' := m_X10_find) (as := [vI x1, vI x2]) (rest := []) dX10_at_23 mo_X10_find ml_X10_130 im_X10_find se_X10_find (Nat.le_of_ble_eq_true rfl) (Nat.le_of_ble_eq_true rfl) ⟨rfl, rfl, rfl⟩ rfl rfl (Nat.le_of_ble_eq_true rfl) (by decide) rfl rfl (by decide) h (fun s10 h => ?_) (fun s11 h => ?_)
      · refine TT_if_eq (tgt := 57) dX10_at_26 rfl (by decide) (fun c12 => absurd c12 (by decide)) (fun c12 => ?_)
        refine TT_iload_n dX10_at_29 rfl ?_
        obtain ⟨o13, h⟩ := h
        have j15 : TT m_X10_at 44 [vR 80, vI x1, vI x2, vI x3, vI x4] [vL (if x3 = 0 then (s10 80 6) else (s10 80 7) : Int)] s10 (PI K) := by
          refine TT_aload_n dX10_at_44 rfl ?_
          refine TT_getJ dX10_at_45 fd_X10_114 (by decide) rfl (by decide) rfl ?_
          refine TT_iload dX10_at_48 rfl ?_
          refine TT_callSJ (M' := m_X10_told) (as := [vL (if x3 = 0 then (s10 80 6) else (s10 80 7) : Int), vL (s10 80 8), vI x4]) (rest := []) dX10_at_50 mo_X10_told ml_X10_133 sm_X10_told (Nat.le_of_ble_eq_true rfl) (Nat.le_of_ble_eq_true rfl) ⟨rfl, rfl, rfl⟩ rfl rfl (Nat.le_of_ble_eq_true rfl) h (fun y16 s17 h => ?_)
          refine TT_l2i dX10_at_53 ?_
          refine TT_goto (tgt := 59) dX10_at_54 rfl ?_
          exact TT_iret dX10_at_59 rfl rfl h
        refine TT_if_eq (tgt := 40) dX10_at_30 rfl o13 (fun c14 => ?_) (fun c14 => ?_)
        · refine TT_aload_n dX10_at_40 rfl ?_
          refine TT_getJ dX10_at_41 fd_X10_107 (by decide) rfl (by decide) rfl ?_
          exact TT.cast j15 (by first | rfl | (simp only [if_pos c14] <;> rfl)) (by first | rfl | (simp only [if_pos c14] <;> rfl))
        · refine TT_aload_n dX10_at_33 rfl ?_
          refine TT_getJ dX10_at_34 fd_X10_111 (by decide) rfl (by decide) rfl ?_
          refine TT_goto (tgt := 44) dX10_at_37 rfl ?_
          exact TT.cast j15 (by first | rfl | (simp only [if_neg c14] <;> rfl)) (by first | rfl | (simp only [if_neg c14] <;> rfl))
      · refine TT_if_eq (tgt := 57) dX10_at_26 rfl (by decide) (fun c18 => ?_) (fun c18 => absurd c18 (by decide))
        refine TT_ldc dX10_at_57 kc_X10_137 (x := (-900003)) rfl ?_
        exact TT_iret dX10_at_59 rfl rfl h
    · refine TT_if_ne (tgt := 20) dX10_at_14 rfl (by decide) (fun c19 => absurd c19 (by decide)) (fun c19 => ?_)
      refine TT_ldc dX10_at_17 kc_X10_89 (x := (-900002)) rfl ?_
      exact TT_iret dX10_at_19 rfl rfl h
  · refine TT_if_ne (tgt := 10) dX10_at_4 rfl (by decide) (fun c20 => absurd c20 (by decide)) (fun c20 => ?_)
    refine TT_ldc dX10_at_7 kc_X10_83 (x := (-900001)) rfl ?_
    exact TT_iret dX10_at_9 rfl rfl h
theorem e_X10_at (x1 : Int) (x2 : Int) (x3 : Int) (x4 : Int) {σ : Mem} {K : Int → Mem → Prop} (h : CC m_X10_isThing [vI x1] σ (PZ (fun s2 => CC m_X10_isMinute [vI x2] s2 (PZ (fun s6 => CC m_X10_find [vR 80, vI x1, vI x2] s6 (PZ (fun s10 => R32 x3 ∧ CC m_X10_told [vL (if x3 = 0 then (s10 80 6) else (s10 80 7) : Int), vL (s10 80 8), vI x4] s10 (PJ (fun y16 s17 => K y16 s17))) (fun s11 => K (-900003) s11))) (fun s7 => K (-900002) s7))) (fun s3 => K (-900001) s3))) : CC m_X10_at [vR 80, vI x1, vI x2, vI x3, vI x4] σ (PI K) := CC_of (by decide) rfl rfl rfl (Nat.le_of_ble_eq_true rfl) (w_X10_at_0 x1 x2 x3 x4 h)
set_option maxRecDepth 4000 in
theorem w_X10_there_0 (x1 : Int) (x2 : Int) {σ : Mem} {K : Int → Mem → Prop} (h : CC m_X10_isThing [vI x1] σ (PZ (fun s2 => CC m_X10_isMinute [vI x2] s2 (PZ (fun s6 => CC m_X10_find [vR 80, vI x1, vI x2] s6 (PZ (fun s10 => K 1 s10) (fun s11 => K 0 s11))) (fun s7 => K (-900002) s7))) (fun s3 => K (-900001) s3))) : TT m_X10_there 0 [vR 80, vI x1, vI x2] [] σ (PI K) := by
  refine TT_iload_n dX10_there_0 rfl ?_
  refine TT_callSZ (M' := m_X10_isThing) (as := [vI x1]) (rest := []) dX10_there_1 mo_X10_isThing ml_X10_79 sm_X10_isThing (Nat.le_of_ble_eq_true rfl) (Nat.le_of_ble_eq_true rfl) ⟨rfl, rfl, rfl⟩ rfl rfl (Nat.le_of_ble_eq_true rfl) h (fun s2 h => ?_) (fun s3 h => ?_)
  · refine TT_if_ne (tgt := 10) dX10_there_4 rfl (by decide) (fun c4 => ?_) (fun c4 => absurd c4 (by decide))
    refine TT_iload_n dX10_there_10 rfl ?_
    refine TT_callSZ (M' := m_X10_isMinute) (as := [vI x2]) (rest := []) dX10_there_11 mo_X10_isMinute ml_X10_84 sm_X10_isMinute (Nat.le_of_ble_eq_true rfl) (Nat.le_of_ble_eq_true rfl) ⟨rfl, rfl, rfl⟩ rfl rfl (Nat.le_of_ble_eq_true rfl) h (fun s6 h => ?_) (fun s7 h => ?_)
    · refine TT_if_ne (tgt := 22) dX10_there_14 rfl (by decide) (fun c8 => ?_) (fun c8 => absurd c8 (by decide))
      refine TT_aload_n dX10_there_22 rfl ?_
      refine TT_iload_n dX10_there_23 rfl ?_
      refine TT_iload_n dX10_there_24 rfl ?_
      refine TT_callVZ (M' := m_X10_find) (as := [vI x1, vI x2]) (rest := []) dX10_there_25 mo_X10_find ml_X10_130 im_X10_find se_X10_find (Nat.le_of_ble_eq_true rfl) (Nat.le_of_ble_eq_true rfl) ⟨rfl, rfl, rfl⟩ rfl rfl (Nat.le_of_ble_eq_true rfl) (by decide) rfl rfl (by decide) h (fun s10 h => ?_) (fun s11 h => ?_)
      · refine TT_if_eq (tgt := 35) dX10_there_28 rfl (by decide) (fun c12 => absurd c12 (by decide)) (fun c12 => ?_)
        refine TT_iconst dX10_there_31 ?_
        refine TT_goto (tgt := 36) dX10_there_32 rfl ?_
        exact TT_iret dX10_there_36 rfl rfl h
      · refine TT_if_eq (tgt := 35) dX10_there_28 rfl (by decide) (fun c13 => ?_) (fun c13 => absurd c13 (by decide))
        refine TT_iconst dX10_there_35 ?_
        exact TT_iret dX10_there_36 rfl rfl h
    · refine TT_if_ne (tgt := 22) dX10_there_14 rfl (by decide) (fun c14 => absurd c14 (by decide)) (fun c14 => ?_)
      refine TT_ldc dX10_there_17 kc_X10_89 (x := (-900002)) rfl ?_
      refine TT_goto (tgt := 36) dX10_there_19 rfl ?_
      exact TT_iret dX10_there_36 rfl rfl h
  · refine TT_if_ne (tgt := 10) dX10_there_4 rfl (by decide) (fun c15 => absurd c15 (by decide)) (fun c15 => ?_)
    refine TT_ldc dX10_there_7 kc_X10_83 (x := (-900001)) rfl ?_
    exact TT_iret dX10_there_9 rfl rfl h
theorem e_X10_there (x1 : Int) (x2 : Int) {σ : Mem} {K : Int → Mem → Prop} (h : CC m_X10_isThing [vI x1] σ (PZ (fun s2 => CC m_X10_isMinute [vI x2] s2 (PZ (fun s6 => CC m_X10_find [vR 80, vI x1, vI x2] s6 (PZ (fun s10 => K 1 s10) (fun s11 => K 0 s11))) (fun s7 => K (-900002) s7))) (fun s3 => K (-900001) s3))) : CC m_X10_there [vR 80, vI x1, vI x2] σ (PI K) := CC_of (by decide) rfl rfl rfl (Nat.le_of_ble_eq_true rfl) (w_X10_there_0 x1 x2 h)
set_option maxRecDepth 4000 in
theorem w_X10_mended_0  {σ : Mem} {K : Int → Mem → Prop} (h : K (σ 80 5) σ) : TT m_X10_mended 0 [vR 80] [] σ (PI K) := by
  refine TT_aload_n dX10_mended_0 rfl ?_
  refine TT_getI dX10_mended_1 fd_X10_95 (by decide) (Or.inl rfl) (by decide) rfl ?_
  exact TT_iret dX10_mended_4 rfl rfl h
theorem e_X10_mended  {σ : Mem} {K : Int → Mem → Prop} (h : K (σ 80 5) σ) : CC m_X10_mended [vR 80] σ (PI K) := CC_of (by decide) rfl rfl rfl (Nat.le_of_ble_eq_true rfl) (w_X10_mended_0  h)
set_option maxRecDepth 4000 in
theorem w_X10_isSpan_0 (x0 : Int) (x1 : Int) {σ : Mem} {A B : Mem → Prop} (h : R32 x0 ∧ CC m_X10_in [vL x0, vL (-2000), vL 2000] σ (PZ (fun s3 => R32 x1 ∧ CC m_X10_in [vL x1, vL x0, vL 2000] s3 (PZ (fun s8 => A s8) (fun s9 => B s9))) (fun s4 => B s4))) : TT m_X10_isSpan 0 [vI x0, vI x1] [] σ (PZ A B) := by
  refine TT_iload_n dX10_isSpan_0 rfl ?_
  obtain ⟨o1, h⟩ := h
  refine TT_i2l dX10_isSpan_1 o1 ?_
  refine TT_ldc2 dX10_isSpan_2 kl_X10_138 (x := (-2000)) rfl ?_
  refine TT_ldc2 dX10_isSpan_5 kl_X10_140 (x := 2000) rfl ?_
  refine TT_callSZ (M' := m_X10_in) (as := [vL x0, vL (-2000), vL 2000]) (rest := []) dX10_isSpan_8 mo_X10_in ml_X10_73 sm_X10_in (Nat.le_of_ble_eq_true rfl) (Nat.le_of_ble_eq_true rfl) ⟨rfl, rfl, rfl⟩ rfl rfl (Nat.le_of_ble_eq_true rfl) h (fun s3 h => ?_) (fun s4 h => ?_)
  · refine TT_if_eq (tgt := 31) dX10_isSpan_11 rfl (by decide) (fun c5 => absurd c5 (by decide)) (fun c5 => ?_)
    refine TT_iload_n dX10_isSpan_14 rfl ?_
    obtain ⟨o6, h⟩ := h
    refine TT_i2l dX10_isSpan_15 o6 ?_
    refine TT_iload_n dX10_isSpan_16 rfl ?_
    refine TT_i2l dX10_isSpan_17 o1 ?_
    refine TT_ldc2 dX10_isSpan_18 kl_X10_140 (x := 2000) rfl ?_
    refine TT_callSZ (M' := m_X10_in) (as := [vL x1, vL x0, vL 2000]) (rest := []) dX10_isSpan_21 mo_X10_in ml_X10_73 sm_X10_in (Nat.le_of_ble_eq_true rfl) (Nat.le_of_ble_eq_true rfl) ⟨rfl, rfl, rfl⟩ rfl rfl (Nat.le_of_ble_eq_true rfl) h (fun s8 h => ?_) (fun s9 h => ?_)
    · refine TT_if_eq (tgt := 31) dX10_isSpan_24 rfl (by decide) (fun c10 => absurd c10 (by decide)) (fun c10 => ?_)
      refine TT_iconst dX10_isSpan_27 ?_
      refine TT_goto (tgt := 32) dX10_isSpan_28 rfl ?_
      exact TT_z1 dX10_isSpan_32 rfl rfl h
    · refine TT_if_eq (tgt := 31) dX10_isSpan_24 rfl (by decide) (fun c11 => ?_) (fun c11 => absurd c11 (by decide))
      refine TT_iconst dX10_isSpan_31 ?_
      exact TT_z0 dX10_isSpan_32 rfl rfl h
  · refine TT_if_eq (tgt := 31) dX10_isSpan_11 rfl (by decide) (fun c12 => ?_) (fun c12 => absurd c12 (by decide))
    refine TT_iconst dX10_isSpan_31 ?_
    exact TT_z0 dX10_isSpan_32 rfl rfl h
theorem e_X10_isSpan (x0 : Int) (x1 : Int) {σ : Mem} {A B : Mem → Prop} (h : R32 x0 ∧ CC m_X10_in [vL x0, vL (-2000), vL 2000] σ (PZ (fun s3 => R32 x1 ∧ CC m_X10_in [vL x1, vL x0, vL 2000] s3 (PZ (fun s8 => A s8) (fun s9 => B s9))) (fun s4 => B s4))) : CC m_X10_isSpan [vI x0, vI x1] σ (PZ A B) := CC_of (by decide) rfl rfl rfl (Nat.le_of_ble_eq_true rfl) (w_X10_isSpan_0 x0 x1 h)
set_option maxRecDepth 4000 in
theorem w_X10_isIn_0 (x1 : Int) (x2 : Int) (x3 : Int) (x4 : Int) (x5 : Int) (x6 : Int) {σ : Mem} {A B : Mem → Prop} (h : CC m_X10_find [vR 80, vI x1, vI x2] σ (PZ (fun s2 => R32 x3 ∧ R32 x4 ∧ CC m_X10_in [vL (s2 80 6), vL (x3 * (s2 80 8)), vL (x4 * (s2 80 8))] s2 (PZ (fun s8 => R32 x5 ∧ R32 x6 ∧ CC m_X10_in [vL (s8 80 7), vL (x5 * (s8 80 8)), vL (x6 * (s8 80 8))] s8 (PZ (fun s14 => A s14) (fun s15 => B s15))) (fun s9 => B s9))) (fun s3 => B s3))) : TT m_X10_isIn 0 [vR 80, vI x1, vI x2, vI x3, vI x4, vI x5, vI x6] [] σ (PZ A B) := by
  refine TT_aload_n dX10_isIn_0 rfl ?_
  refine TT_iload_n dX10_isIn_1 rfl ?_
  refine TT_iload_n dX10_isIn_2 rfl ?_
  refine TT_callVZ (M' := m_X10_find) (as := [vI x1, vI x2]) (rest := []) dX10_isIn_3 mo_X10_find ml_X10_130 im_X10_find se_X10_find (Nat.le_of_ble_eq_true rfl) (Nat.le_of_ble_eq_true rfl) ⟨rfl, rfl, rfl⟩ rfl rfl (Nat.le_of_ble_eq_true rfl) (by decide) rfl rfl (by decide) h (fun s2 h => ?_) (fun s3 h => ?_)
  · refine TT_if_eq (tgt := 64) dX10_isIn_6 rfl (by decide) (fun c4 => absurd c4 (by decide)) (fun c4 => ?_)
    refine TT_aload_n dX10_isIn_9 rfl ?_
    refine TT_getJ dX10_isIn_10 fd_X10_107 (by decide) rfl (by decide) rfl ?_
    refine TT_iload_n dX10_isIn_13 rfl ?_
    obtain ⟨o5, h⟩ := h
    refine TT_i2l dX10_isIn_14 o5 ?_
    refine TT_aload_n dX10_isIn_15 rfl ?_
    refine TT_getJ dX10_isIn_16 fd_X10_114 (by decide) rfl (by decide) rfl ?_
    refine TT_lmul dX10_isIn_19 ?_
    refine TT_iload dX10_isIn_20 rfl ?_
    obtain ⟨o6, h⟩ := h
    refine TT_i2l dX10_isIn_22 o6 ?_
    refine TT_aload_n dX10_isIn_23 rfl ?_
    refine TT_getJ dX10_isIn_24 fd_X10_114 (by decide) rfl (by decide) rfl ?_
    refine TT_lmul dX10_isIn_27 ?_
    refine TT_callSZ (M' := m_X10_in) (as := [vL (s2 80 6), vL (x3 * (s2 80 8)), vL (x4 * (s2 80 8))]) (rest := []) dX10_isIn_28 mo_X10_in ml_X10_73 sm_X10_in (Nat.le_of_ble_eq_true rfl) (Nat.le_of_ble_eq_true rfl) ⟨rfl, rfl, rfl⟩ rfl rfl (Nat.le_of_ble_eq_true rfl) h (fun s8 h => ?_) (fun s9 h => ?_)
    · refine TT_if_eq (tgt := 64) dX10_isIn_31 rfl (by decide) (fun c10 => absurd c10 (by decide)) (fun c10 => ?_)
      refine TT_aload_n dX10_isIn_34 rfl ?_
      refine TT_getJ dX10_isIn_35 fd_X10_111 (by decide) rfl (by decide) rfl ?_
      refine TT_iload dX10_isIn_38 rfl ?_
      obtain ⟨o11, h⟩ := h
      refine TT_i2l dX10_isIn_40 o11 ?_
      refine TT_aload_n dX10_isIn_41 rfl ?_
      refine TT_getJ dX10_isIn_42 fd_X10_114 (by decide) rfl (by decide) rfl ?_
      refine TT_lmul dX10_isIn_45 ?_
      refine TT_iload dX10_isIn_46 rfl ?_
      obtain ⟨o12, h⟩ := h
      refine TT_i2l dX10_isIn_48 o12 ?_
      refine TT_aload_n dX10_isIn_49 rfl ?_
      refine TT_getJ dX10_isIn_50 fd_X10_114 (by decide) rfl (by decide) rfl ?_
      refine TT_lmul dX10_isIn_53 ?_
      refine TT_callSZ (M' := m_X10_in) (as := [vL (s8 80 7), vL (x5 * (s8 80 8)), vL (x6 * (s8 80 8))]) (rest := []) dX10_isIn_54 mo_X10_in ml_X10_73 sm_X10_in (Nat.le_of_ble_eq_true rfl) (Nat.le_of_ble_eq_true rfl) ⟨rfl, rfl, rfl⟩ rfl rfl (Nat.le_of_ble_eq_true rfl) h (fun s14 h => ?_) (fun s15 h => ?_)
      · refine TT_if_eq (tgt := 64) dX10_isIn_57 rfl (by decide) (fun c16 => absurd c16 (by decide)) (fun c16 => ?_)
        refine TT_iconst dX10_isIn_60 ?_
        refine TT_goto (tgt := 65) dX10_isIn_61 rfl ?_
        exact TT_z1 dX10_isIn_65 rfl rfl h
      · refine TT_if_eq (tgt := 64) dX10_isIn_57 rfl (by decide) (fun c17 => ?_) (fun c17 => absurd c17 (by decide))
        refine TT_iconst dX10_isIn_64 ?_
        exact TT_z0 dX10_isIn_65 rfl rfl h
    · refine TT_if_eq (tgt := 64) dX10_isIn_31 rfl (by decide) (fun c18 => ?_) (fun c18 => absurd c18 (by decide))
      refine TT_iconst dX10_isIn_64 ?_
      exact TT_z0 dX10_isIn_65 rfl rfl h
  · refine TT_if_eq (tgt := 64) dX10_isIn_6 rfl (by decide) (fun c19 => ?_) (fun c19 => absurd c19 (by decide))
    refine TT_iconst dX10_isIn_64 ?_
    exact TT_z0 dX10_isIn_65 rfl rfl h
theorem e_X10_isIn (x1 : Int) (x2 : Int) (x3 : Int) (x4 : Int) (x5 : Int) (x6 : Int) {σ : Mem} {A B : Mem → Prop} (h : CC m_X10_find [vR 80, vI x1, vI x2] σ (PZ (fun s2 => R32 x3 ∧ R32 x4 ∧ CC m_X10_in [vL (s2 80 6), vL (x3 * (s2 80 8)), vL (x4 * (s2 80 8))] s2 (PZ (fun s8 => R32 x5 ∧ R32 x6 ∧ CC m_X10_in [vL (s8 80 7), vL (x5 * (s8 80 8)), vL (x6 * (s8 80 8))] s8 (PZ (fun s14 => A s14) (fun s15 => B s15))) (fun s9 => B s9))) (fun s3 => B s3))) : CC m_X10_isIn [vR 80, vI x1, vI x2, vI x3, vI x4, vI x5, vI x6] σ (PZ A B) := CC_of (by decide) rfl rfl rfl (Nat.le_of_ble_eq_true rfl) (w_X10_isIn_0 x1 x2 x3 x4 x5 x6 h)
set_option maxRecDepth 4000 in
theorem w_X10_inside_0 (x1 : Int) (x2 : Int) (x3 : Int) (x4 : Int) (x5 : Int) {σ : Mem} {K : Int → Mem → Prop} (h : CC m_X10_isSpan [vI x1, vI x2] σ (PZ (fun s2 => CC m_X10_isSpan [vI x3, vI x4] s2 (PZ (fun s6 => CC m_X10_isMinute [vI x5] s6 (PZ (fun s10 => TT m_X10_inside 34 [vR 80, vI x1, vI x2, vI x3, vI x4, vI x5, vI 0, vI 0] [] s10 (PI K)) (fun s11 => K (-900002) s11))) (fun s7 => K (-900002) s7))) (fun s3 => K (-900002) s3))) : TT m_X10_inside 0 [vR 80, vI x1, vI x2, vI x3, vI x4, vI x5, vU, vU] [] σ (PI K) := by
  refine TT_iload_n dX10_inside_0 rfl ?_
  refine TT_iload_n dX10_inside_1 rfl ?_
  refine TT_callSZ (M' := m_X10_isSpan) (as := [vI x1, vI x2]) (rest := []) dX10_inside_2 mo_X10_isSpan ml_X10_142 sm_X10_isSpan (Nat.le_of_ble_eq_true rfl) (Nat.le_of_ble_eq_true rfl) ⟨rfl, rfl, rfl⟩ rfl rfl (Nat.le_of_ble_eq_true rfl) h (fun s2 h => ?_) (fun s3 h => ?_)
  · refine TT_if_eq (tgt := 25) dX10_inside_5 rfl (by decide) (fun c4 => absurd c4 (by decide)) (fun c4 => ?_)
    refine TT_iload_n dX10_inside_8 rfl ?_
    refine TT_iload dX10_inside_9 rfl ?_
    refine TT_callSZ (M' := m_X10_isSpan) (as := [vI x3, vI x4]) (rest := []) dX10_inside_11 mo_X10_isSpan ml_X10_142 sm_X10_isSpan (Nat.le_of_ble_eq_true rfl) (Nat.le_of_ble_eq_true rfl) ⟨rfl, rfl, rfl⟩ rfl rfl (Nat.le_of_ble_eq_true rfl) h (fun s6 h => ?_) (fun s7 h => ?_)
    · refine TT_if_eq (tgt := 25) dX10_inside_14 rfl (by decide) (fun c8 => absurd c8 (by decide)) (fun c8 => ?_)
      refine TT_iload dX10_inside_17 rfl ?_
      refine TT_callSZ (M' := m_X10_isMinute) (as := [vI x5]) (rest := []) dX10_inside_19 mo_X10_isMinute ml_X10_84 sm_X10_isMinute (Nat.le_of_ble_eq_true rfl) (Nat.le_of_ble_eq_true rfl) ⟨rfl, rfl, rfl⟩ rfl rfl (Nat.le_of_ble_eq_true rfl) h (fun s10 h => ?_) (fun s11 h => ?_)
      · refine TT_if_ne (tgt := 28) dX10_inside_22 rfl (by decide) (fun c12 => ?_) (fun c12 => absurd c12 (by decide))
        refine TT_iconst dX10_inside_28 ?_
        refine TT_istore dX10_inside_29 (Nat.le_of_ble_eq_true rfl) rfl rfl ?_
        refine TT_iconst dX10_inside_31 ?_
        refine TT_istore dX10_inside_32 (Nat.le_of_ble_eq_true rfl) rfl rfl ?_
        exact h
      · refine TT_if_ne (tgt := 28) dX10_inside_22 rfl (by decide) (fun c13 => absurd c13 (by decide)) (fun c13 => ?_)
        refine TT_ldc dX10_inside_25 kc_X10_89 (x := (-900002)) rfl ?_
        exact TT_iret dX10_inside_27 rfl rfl h
    · refine TT_if_eq (tgt := 25) dX10_inside_14 rfl (by decide) (fun c14 => ?_) (fun c14 => absurd c14 (by decide))
      refine TT_ldc dX10_inside_25 kc_X10_89 (x := (-900002)) rfl ?_
      exact TT_iret dX10_inside_27 rfl rfl h
  · refine TT_if_eq (tgt := 25) dX10_inside_5 rfl (by decide) (fun c15 => ?_) (fun c15 => absurd c15 (by decide))
    refine TT_ldc dX10_inside_25 kc_X10_89 (x := (-900002)) rfl ?_
    exact TT_iret dX10_inside_27 rfl rfl h
theorem e_X10_inside (x1 : Int) (x2 : Int) (x3 : Int) (x4 : Int) (x5 : Int) {σ : Mem} {K : Int → Mem → Prop} (h : CC m_X10_isSpan [vI x1, vI x2] σ (PZ (fun s2 => CC m_X10_isSpan [vI x3, vI x4] s2 (PZ (fun s6 => CC m_X10_isMinute [vI x5] s6 (PZ (fun s10 => TT m_X10_inside 34 [vR 80, vI x1, vI x2, vI x3, vI x4, vI x5, vI 0, vI 0] [] s10 (PI K)) (fun s11 => K (-900002) s11))) (fun s7 => K (-900002) s7))) (fun s3 => K (-900002) s3))) : CC m_X10_inside [vR 80, vI x1, vI x2, vI x3, vI x4, vI x5] σ (PI K) := CC_of (by decide) rfl rfl rfl (Nat.le_of_ble_eq_true rfl) (w_X10_inside_0 x1 x2 x3 x4 x5 h)
set_option maxRecDepth 4000 in
theorem w_X10_inside_34 (x1 : Int) (x2 : Int) (x3 : Int) (x4 : Int) (x5 : Int) (x6 : Int) (x7 : Int) {σ : Mem} {K : Int → Mem → Prop} (h : R32 x7 ∧ ((10 ≤ x7 → K x6 σ) ∧ (¬ 10 ≤ x7 → CC m_X10_isIn [vR 80, vI x7, vI x5, vI x1, vI x2, vI x3, vI x4] σ (PZ (fun s19 => TT m_X10_inside 34 [vR 80, vI x1, vI x2, vI x3, vI x4, vI x5, vI (x6 + 1), vI (x7 + 1)] [] s19 (PI K)) (fun s20 => TT m_X10_inside 34 [vR 80, vI x1, vI x2, vI x3, vI x4, vI x5, vI (x6 + 0), vI (x7 + 1)] [] s20 (PI K)))))) : TT m_X10_inside 34 [vR 80, vI x1, vI x2, vI x3, vI x4, vI x5, vI x6, vI x7] [] σ (PI K) := by
  refine TT_iload dX10_inside_34 rfl ?_
  refine TT_bipush dX10_inside_36 (by decide) ?_
  obtain ⟨o16, h⟩ := h
  refine TT_icmp_ge (tgt := 73) dX10_inside_38 rfl o16 (by decide) (fun c17 => ?_) (fun c17 => ?_)
  · replace h := h.1 c17
    refine TT_iload dX10_inside_73 rfl ?_
    exact TT_iret dX10_inside_75 rfl rfl h
  · replace h := h.2 c17
    refine TT_iload dX10_inside_41 rfl ?_
    refine TT_aload_n dX10_inside_43 rfl ?_
    refine TT_iload dX10_inside_44 rfl ?_
    refine TT_iload dX10_inside_46 rfl ?_
    refine TT_iload_n dX10_inside_48 rfl ?_
    refine TT_iload_n dX10_inside_49 rfl ?_
    refine TT_iload_n dX10_inside_50 rfl ?_
    refine TT_iload dX10_inside_51 rfl ?_
    refine TT_callVZ (M' := m_X10_isIn) (as := [vI x7, vI x5, vI x1, vI x2, vI x3, vI x4]) (rest := [vI x6]) dX10_inside_53 mo_X10_isIn ml_X10_145 im_X10_isIn se_X10_isIn (Nat.le_of_ble_eq_true rfl) (Nat.le_of_ble_eq_true rfl) ⟨rfl, rfl, rfl⟩ rfl rfl (Nat.le_of_ble_eq_true rfl) (by decide) rfl rfl (by decide) h (fun s19 h => ?_) (fun s20 h => ?_)
    · refine TT_if_eq (tgt := 63) dX10_inside_56 rfl (by decide) (fun c21 => absurd c21 (by decide)) (fun c21 => ?_)
      refine TT_iconst dX10_inside_59 ?_
      refine TT_goto (tgt := 64) dX10_inside_60 rfl ?_
      refine TT_iadd dX10_inside_64 ?_
      refine TT_istore dX10_inside_65 (Nat.le_of_ble_eq_true rfl) rfl rfl ?_
      refine TT_iinc dX10_inside_67 (Nat.le_of_ble_eq_true rfl) rfl rfl rfl ?_
      refine TT_goto (tgt := 34) dX10_inside_70 rfl ?_
      exact h
    · refine TT_if_eq (tgt := 63) dX10_inside_56 rfl (by decide) (fun c22 => ?_) (fun c22 => absurd c22 (by decide))
      refine TT_iconst dX10_inside_63 ?_
      refine TT_iadd dX10_inside_64 ?_
      refine TT_istore dX10_inside_65 (Nat.le_of_ble_eq_true rfl) rfl rfl ?_
      refine TT_iinc dX10_inside_67 (Nat.le_of_ble_eq_true rfl) rfl rfl rfl ?_
      refine TT_goto (tgt := 34) dX10_inside_70 rfl ?_
      exact h
set_option maxRecDepth 4000 in
theorem w_X10_who_0 (x1 : Int) (x2 : Int) (x3 : Int) (x4 : Int) (x5 : Int) (x6 : Int) {σ : Mem} {K : Int → Mem → Prop} (h : CC m_X10_isSpan [vI x1, vI x2] σ (PZ (fun s2 => CC m_X10_isSpan [vI x3, vI x4] s2 (PZ (fun s6 => CC m_X10_isMinute [vI x5] s6 (PZ (fun s10 => TT m_X10_who 34 [vR 80, vI x1, vI x2, vI x3, vI x4, vI x5, vI x6, vI 0, vI 0] [] s10 (PI K)) (fun s11 => K (-900002) s11))) (fun s7 => K (-900002) s7))) (fun s3 => K (-900002) s3))) : TT m_X10_who 0 [vR 80, vI x1, vI x2, vI x3, vI x4, vI x5, vI x6, vU, vU] [] σ (PI K) := by
  refine TT_iload_n dX10_who_0 rfl ?_
  refine TT_iload_n dX10_who_1 rfl ?_
  refine TT_callSZ (M' := m_X10_isSpan) (as := [vI x1, vI x2]) (rest := []) dX10_who_2 mo_X10_isSpan ml_X10_142 sm_X10_isSpan (Nat.le_of_ble_eq_true rfl) (Nat.le_of_ble_eq_true rfl) ⟨rfl, rfl, rfl⟩ rfl rfl (Nat.le_of_ble_eq_true rfl) h (fun s2 h => ?_) (fun s3 h => ?_)
  · refine TT_if_eq (tgt := 25) dX10_who_5 rfl (by decide) (fun c4 => absurd c4 (by decide)) (fun c4 => ?_)
    refine TT_iload_n dX10_who_8 rfl ?_
    refine TT_iload dX10_who_9 rfl ?_
    refine TT_callSZ (M' := m_X10_isSpan) (as := [vI x3, vI x4]) (rest := []) dX10_who_11 mo_X10_isSpan ml_X10_142 sm_X10_isSpan (Nat.le_of_ble_eq_true rfl) (Nat.le_of_ble_eq_true rfl) ⟨rfl, rfl, rfl⟩ rfl rfl (Nat.le_of_ble_eq_true rfl) h (fun s6 h => ?_) (fun s7 h => ?_)
    · refine TT_if_eq (tgt := 25) dX10_who_14 rfl (by decide) (fun c8 => absurd c8 (by decide)) (fun c8 => ?_)
      refine TT_iload dX10_who_17 rfl ?_
      refine TT_callSZ (M' := m_X10_isMinute) (as := [vI x5]) (rest := []) dX10_who_19 mo_X10_isMinute ml_X10_84 sm_X10_isMinute (Nat.le_of_ble_eq_true rfl) (Nat.le_of_ble_eq_true rfl) ⟨rfl, rfl, rfl⟩ rfl rfl (Nat.le_of_ble_eq_true rfl) h (fun s10 h => ?_) (fun s11 h => ?_)
      · refine TT_if_ne (tgt := 28) dX10_who_22 rfl (by decide) (fun c12 => ?_) (fun c12 => absurd c12 (by decide))
        refine TT_iconst dX10_who_28 ?_
        refine TT_istore dX10_who_29 (Nat.le_of_ble_eq_true rfl) rfl rfl ?_
        refine TT_iconst dX10_who_31 ?_
        refine TT_istore dX10_who_32 (Nat.le_of_ble_eq_true rfl) rfl rfl ?_
        exact h
      · refine TT_if_ne (tgt := 28) dX10_who_22 rfl (by decide) (fun c13 => absurd c13 (by decide)) (fun c13 => ?_)
        refine TT_ldc dX10_who_25 kc_X10_89 (x := (-900002)) rfl ?_
        exact TT_iret dX10_who_27 rfl rfl h
    · refine TT_if_eq (tgt := 25) dX10_who_14 rfl (by decide) (fun c14 => ?_) (fun c14 => absurd c14 (by decide))
      refine TT_ldc dX10_who_25 kc_X10_89 (x := (-900002)) rfl ?_
      exact TT_iret dX10_who_27 rfl rfl h
  · refine TT_if_eq (tgt := 25) dX10_who_5 rfl (by decide) (fun c15 => ?_) (fun c15 => absurd c15 (by decide))
    refine TT_ldc dX10_who_25 kc_X10_89 (x := (-900002)) rfl ?_
    exact TT_iret dX10_who_27 rfl rfl h
theorem e_X10_who (x1 : Int) (x2 : Int) (x3 : Int) (x4 : Int) (x5 : Int) (x6 : Int) {σ : Mem} {K : Int → Mem → Prop} (h : CC m_X10_isSpan [vI x1, vI x2] σ (PZ (fun s2 => CC m_X10_isSpan [vI x3, vI x4] s2 (PZ (fun s6 => CC m_X10_isMinute [vI x5] s6 (PZ (fun s10 => TT m_X10_who 34 [vR 80, vI x1, vI x2, vI x3, vI x4, vI x5, vI x6, vI 0, vI 0] [] s10 (PI K)) (fun s11 => K (-900002) s11))) (fun s7 => K (-900002) s7))) (fun s3 => K (-900002) s3))) : CC m_X10_who [vR 80, vI x1, vI x2, vI x3, vI x4, vI x5, vI x6] σ (PI K) := CC_of (by decide) rfl rfl rfl (Nat.le_of_ble_eq_true rfl) (w_X10_who_0 x1 x2 x3 x4 x5 x6 h)
set_option maxRecDepth 4000 in
theorem w_X10_who_34 (x1 : Int) (x2 : Int) (x3 : Int) (x4 : Int) (x5 : Int) (x6 : Int) (x7 : Int) (x8 : Int) {σ : Mem} {K : Int → Mem → Prop} (h : R32 x8 ∧ ((10 ≤ x8 → K (-900009) σ) ∧ (¬ 10 ≤ x8 → CC m_X10_isIn [vR 80, vI x8, vI x5, vI x1, vI x2, vI x3, vI x4] σ (PZ (fun s19 => R32 x7 ∧ R32 x6 ∧ ((¬ x7 = x6 → TT m_X10_who 34 [vR 80, vI x1, vI x2, vI x3, vI x4, vI x5, vI x6, vI (x7 + 1), vI (x8 + 1)] [] s19 (PI K)) ∧ (x7 = x6 → K x8 s19))) (fun s20 => TT m_X10_who 34 [vR 80, vI x1, vI x2, vI x3, vI x4, vI x5, vI x6, vI x7, vI (x8 + 1)] [] s20 (PI K)))))) : TT m_X10_who 34 [vR 80, vI x1, vI x2, vI x3, vI x4, vI x5, vI x6, vI x7, vI x8] [] σ (PI K) := by
  refine TT_iload dX10_who_34 rfl ?_
  refine TT_bipush dX10_who_36 (by decide) ?_
  obtain ⟨o16, h⟩ := h
  refine TT_icmp_ge (tgt := 76) dX10_who_38 rfl o16 (by decide) (fun c17 => ?_) (fun c17 => ?_)
  · replace h := h.1 c17
    refine TT_ldc dX10_who_76 kc_X10_149 (x := (-900009)) rfl ?_
    exact TT_iret dX10_who_78 rfl rfl h
  · replace h := h.2 c17
    refine TT_aload_n dX10_who_41 rfl ?_
    refine TT_iload dX10_who_42 rfl ?_
    refine TT_iload dX10_who_44 rfl ?_
    refine TT_iload_n dX10_who_46 rfl ?_
    refine TT_iload_n dX10_who_47 rfl ?_
    refine TT_iload_n dX10_who_48 rfl ?_
    refine TT_iload dX10_who_49 rfl ?_
    refine TT_callVZ (M' := m_X10_isIn) (as := [vI x8, vI x5, vI x1, vI x2, vI x3, vI x4]) (rest := []) dX10_who_51 mo_X10_isIn ml_X10_145 im_X10_isIn se_X10_isIn (Nat.le_of_ble_eq_true rfl) (Nat.le_of_ble_eq_true rfl) ⟨rfl, rfl, rfl⟩ rfl rfl (Nat.le_of_ble_eq_true rfl) (by decide) rfl rfl (by decide) h (fun s19 h => ?_) (fun s20 h => ?_)
    · refine TT_if_eq (tgt := 70) dX10_who_54 rfl (by decide) (fun c21 => absurd c21 (by decide)) (fun c21 => ?_)
      refine TT_iload dX10_who_57 rfl ?_
      refine TT_iload dX10_who_59 rfl ?_
      obtain ⟨o22, h⟩ := h
      obtain ⟨o23, h⟩ := h
      refine TT_icmp_ne (tgt := 67) dX10_who_61 rfl o22 o23 (fun c24 => ?_) (fun c24 => ?_)
      · replace h := h.1 c24
        refine TT_iinc dX10_who_67 (Nat.le_of_ble_eq_true rfl) rfl rfl rfl ?_
        refine TT_iinc dX10_who_70 (Nat.le_of_ble_eq_true rfl) rfl rfl rfl ?_
        refine TT_goto (tgt := 34) dX10_who_73 rfl ?_
        exact h
      · replace h := h.2 c24
        refine TT_iload dX10_who_64 rfl ?_
        exact TT_iret dX10_who_66 rfl rfl h
    · refine TT_if_eq (tgt := 70) dX10_who_54 rfl (by decide) (fun c25 => ?_) (fun c25 => absurd c25 (by decide))
      refine TT_iinc dX10_who_70 (Nat.le_of_ble_eq_true rfl) rfl rfl rfl ?_
      refine TT_goto (tgt := 34) dX10_who_73 rfl ?_
      exact h
set_option maxRecDepth 4000 in
theorem w_X10_beginRuns_0  {σ : Mem} {K : Mem → Prop} (h : (∀ s1 : Mem, s1 = up σ 80 9 0 → (∀ s3 : Mem, s3 = up s1 80 10 (-900009) → K s3))) : TT m_X10_beginRuns 0 [vR 80] [] σ (PN K) := by
  refine TT_aload_n dX10_beginRuns_0 rfl ?_
  refine TT_iconst dX10_beginRuns_1 ?_
  refine TT_putI dX10_beginRuns_2 fd_X10_150 (by decide) rfl (by decide) rfl ?_
  refine TT_nmM (fun s1 e2 => ?_)
  replace h := h s1 e2
  refine TT_aload_n dX10_beginRuns_5 rfl ?_
  refine TT_ldc dX10_beginRuns_6 kc_X10_149 (x := (-900009)) rfl ?_
  refine TT_putI dX10_beginRuns_8 fd_X10_153 (by decide) rfl (by decide) rfl ?_
  refine TT_nmM (fun s3 e4 => ?_)
  replace h := h s3 e4
  exact TT_vret dX10_beginRuns_11 rfl rfl h
theorem e_X10_beginRuns  {σ : Mem} {K : Mem → Prop} (h : (∀ s1 : Mem, s1 = up σ 80 9 0 → (∀ s3 : Mem, s3 = up s1 80 10 (-900009) → K s3))) : CC m_X10_beginRuns [vR 80] σ (PN K) := CC_of (by decide) rfl rfl rfl (Nat.le_of_ble_eq_true rfl) (w_X10_beginRuns_0  h)
set_option maxRecDepth 4000 in
theorem w_X10_meet_0 (x1 : Int) (x2 : Int) {σ : Mem} {K : Mem → Prop} (h : R32 x2 ∧ ((x2 = 0 → TT m_X10_meet 38 [vR 80, vI x1, vI x2] [] σ (PN K)) ∧ (¬ x2 = 0 → R32 (σ 80 10) ∧ ((¬ (σ 80 10) = (-900009) → TT m_X10_meet 38 [vR 80, vI x1, vI x2] [] σ (PN K)) ∧ ((σ 80 10) = (-900009) → (∀ s5 : Mem, s5 = up σ 80 10 x1 → (0 ≤ (s5 80 9) ∧ (s5 80 9) < 200) ∧ (∀ s8 : Mem, s8 = up s5 86 (s5 80 9).toNat x1 → (∀ s10 : Mem, s10 = up s8 80 9 ((s8 80 9) + 1) → TT m_X10_meet 38 [vR 80, vI x1, vI x2] [] s10 (PN K))))))))) : TT m_X10_meet 0 [vR 80, vI x1, vI x2] [] σ (PN K) := by
  refine TT_iload_n dX10_meet_0 rfl ?_
  obtain ⟨o1, h⟩ := h
  refine TT_if_eq (tgt := 38) dX10_meet_1 rfl o1 (fun c2 => ?_) (fun c2 => ?_)
  · replace h := h.1 c2
    exact h
  · replace h := h.2 c2
    refine TT_aload_n dX10_meet_4 rfl ?_
    refine TT_getI dX10_meet_5 fd_X10_153 (by decide) (Or.inl rfl) (by decide) rfl ?_
    refine TT_ldc dX10_meet_8 kc_X10_149 (x := (-900009)) rfl ?_
    obtain ⟨o3, h⟩ := h
    refine TT_icmp_ne (tgt := 38) dX10_meet_10 rfl o3 (by decide) (fun c4 => ?_) (fun c4 => ?_)
    · replace h := h.1 c4
      exact h
    · replace h := h.2 c4
      refine TT_aload_n dX10_meet_13 rfl ?_
      refine TT_iload_n dX10_meet_14 rfl ?_
      refine TT_putI dX10_meet_15 fd_X10_153 (by decide) rfl (by decide) rfl ?_
      refine TT_nmM (fun s5 e6 => ?_)
      replace h := h s5 e6
      refine TT_aload_n dX10_meet_18 rfl ?_
      refine TT_getR (r := 86) dX10_meet_19 fd_X10_25 (by decide) rfl (by decide) rfl rfl ?_
      refine TT_aload_n dX10_meet_22 rfl ?_
      refine TT_getI dX10_meet_23 fd_X10_150 (by decide) (Or.inl rfl) (by decide) rfl ?_
      refine TT_iload_n dX10_meet_26 rfl ?_
      obtain ⟨o7, h⟩ := h
      refine TT_iast dX10_meet_27 (by decide) rfl (by decide) o7 ?_
      refine TT_nmM (fun s8 e9 => ?_)
      replace h := h s8 e9
      refine TT_aload_n dX10_meet_28 rfl ?_
      refine TT_dup dX10_meet_29 rfl ?_
      refine TT_getI dX10_meet_30 fd_X10_150 (by decide) (Or.inl rfl) (by decide) rfl ?_
      refine TT_iconst dX10_meet_33 ?_
      refine TT_iadd dX10_meet_34 ?_
      refine TT_putI dX10_meet_35 fd_X10_150 (by decide) rfl (by decide) rfl ?_
      refine TT_nmM (fun s10 e11 => ?_)
      replace h := h s10 e11
      exact h
theorem e_X10_meet (x1 : Int) (x2 : Int) {σ : Mem} {K : Mem → Prop} (h : R32 x2 ∧ ((x2 = 0 → TT m_X10_meet 38 [vR 80, vI x1, vI x2] [] σ (PN K)) ∧ (¬ x2 = 0 → R32 (σ 80 10) ∧ ((¬ (σ 80 10) = (-900009) → TT m_X10_meet 38 [vR 80, vI x1, vI x2] [] σ (PN K)) ∧ ((σ 80 10) = (-900009) → (∀ s5 : Mem, s5 = up σ 80 10 x1 → (0 ≤ (s5 80 9) ∧ (s5 80 9) < 200) ∧ (∀ s8 : Mem, s8 = up s5 86 (s5 80 9).toNat x1 → (∀ s10 : Mem, s10 = up s8 80 9 ((s8 80 9) + 1) → TT m_X10_meet 38 [vR 80, vI x1, vI x2] [] s10 (PN K))))))))) : CC m_X10_meet [vR 80, vI x1, vI x2] σ (PN K) := CC_of (by decide) rfl rfl rfl (Nat.le_of_ble_eq_true rfl) (w_X10_meet_0 x1 x2 h)
set_option maxRecDepth 4000 in
theorem w_X10_meet_38 (x1 : Int) (x2 : Int) {σ : Mem} {K : Mem → Prop} (h : R32 x2 ∧ ((x2 = 0 → TT m_X10_meet 54 [vR 80, vU, vI x2] [] σ (PN K)) ∧ (¬ x2 = 0 → (0 ≤ ((σ 80 9) - 1) ∧ ((σ 80 9) - 1) < 200) ∧ (∀ s15 : Mem, s15 = up σ 87 ((σ 80 9) - 1).toNat x1 → TT m_X10_meet 54 [vR 80, vU, vI x2] [] s15 (PN K))))) : TT m_X10_meet 38 [vR 80, vI x1, vI x2] [] σ (PN K) := by
  refine TT_iload_n dX10_meet_38 rfl ?_
  obtain ⟨o12, h⟩ := h
  refine TT_if_eq (tgt := 54) dX10_meet_39 rfl o12 (fun c13 => ?_) (fun c13 => ?_)
  · replace h := h.1 c13
    refine TT_kill 1 rfl ?_
    exact h
  · replace h := h.2 c13
    refine TT_aload_n dX10_meet_42 rfl ?_
    refine TT_getR (r := 87) dX10_meet_43 fd_X10_28 (by decide) rfl (by decide) rfl rfl ?_
    refine TT_aload_n dX10_meet_46 rfl ?_
    refine TT_getI dX10_meet_47 fd_X10_150 (by decide) (Or.inl rfl) (by decide) rfl ?_
    refine TT_iconst dX10_meet_50 ?_
    refine TT_isub dX10_meet_51 ?_
    refine TT_iload_n dX10_meet_52 rfl ?_
    obtain ⟨o14, h⟩ := h
    refine TT_iast dX10_meet_53 (by decide) rfl (by decide) o14 ?_
    refine TT_nmM (fun s15 e16 => ?_)
    replace h := h s15 e16
    refine TT_kill 1 rfl ?_
    exact h
set_option maxRecDepth 4000 in
theorem w_X10_meet_54 (x2 : Int) {σ : Mem} {K : Mem → Prop} (h : R32 x2 ∧ (∀ s20 : Mem, s20 = up σ 80 10 (if x2 = 0 then (-900009) else (σ 80 10) : Int) → K s20)) : TT m_X10_meet 54 [vR 80, vU, vI x2] [] σ (PN K) := by
  refine TT_aload_n dX10_meet_54 rfl ?_
  refine TT_iload_n dX10_meet_55 rfl ?_
  obtain ⟨o17, h⟩ := h
  have j19 : TT m_X10_meet 68 [vR 80, vU, vI x2] [vI (if x2 = 0 then (-900009) else (σ 80 10) : Int), vR 80] σ (PN K) := by
    refine TT_putI dX10_meet_68 fd_X10_153 (by decide) rfl (by decide) rfl ?_
    refine TT_nmM (fun s20 e21 => ?_)
    replace h := h s20 e21
    exact TT_vret dX10_meet_71 rfl rfl h
  refine TT_if_eq (tgt := 66) dX10_meet_56 rfl o17 (fun c18 => ?_) (fun c18 => ?_)
  · refine TT_ldc dX10_meet_66 kc_X10_149 (x := (-900009)) rfl ?_
    exact TT.cast j19 (by first | rfl | (simp only [if_pos c18] <;> rfl)) (by first | rfl | (simp only [if_pos c18] <;> rfl))
  · refine TT_aload_n dX10_meet_59 rfl ?_
    refine TT_getI dX10_meet_60 fd_X10_153 (by decide) (Or.inl rfl) (by decide) rfl ?_
    refine TT_goto (tgt := 68) dX10_meet_63 rfl ?_
    exact TT.cast j19 (by first | rfl | (simp only [if_neg c18] <;> rfl)) (by first | rfl | (simp only [if_neg c18] <;> rfl))
set_option maxRecDepth 4000 in
theorem w_X10_layVisits_0 (x1 : Int) (x2 : Int) (x3 : Int) (x4 : Int) (x5 : Int) {σ : Mem} {K : Mem → Prop} (h : CC m_X10_beginRuns [vR 80] σ (PN (fun s2 => TT m_X10_layVisits 7 [vR 80, vI x1, vI x2, vI x3, vI x4, vI x5, vI 0] [] s2 (PN K)))) : TT m_X10_layVisits 0 [vR 80, vI x1, vI x2, vI x3, vI x4, vI x5, vU] [] σ (PN K) := by
  refine TT_aload_n dX10_layVisits_0 rfl ?_
  refine TT_callVN (M' := m_X10_beginRuns) (as := []) (rest := []) dX10_layVisits_1 mo_X10_beginRuns ml_X10_156 im_X10_beginRuns se_X10_beginRuns (Nat.le_of_ble_eq_true rfl) (Nat.le_of_ble_eq_true rfl) ⟨rfl, rfl, rfl⟩ rfl rfl (Nat.le_of_ble_eq_true rfl) (by decide) rfl rfl (by decide) h (fun s2 h => ?_)
  refine TT_iconst dX10_layVisits_4 ?_
  refine TT_istore dX10_layVisits_5 (Nat.le_of_ble_eq_true rfl) rfl rfl ?_
  exact h
theorem e_X10_layVisits (x1 : Int) (x2 : Int) (x3 : Int) (x4 : Int) (x5 : Int) {σ : Mem} {K : Mem → Prop} (h : CC m_X10_beginRuns [vR 80] σ (PN (fun s2 => TT m_X10_layVisits 7 [vR 80, vI x1, vI x2, vI x3, vI x4, vI x5, vI 0] [] s2 (PN K)))) : CC m_X10_layVisits [vR 80, vI x1, vI x2, vI x3, vI x4, vI x5] σ (PN K) := CC_of (by decide) rfl rfl rfl (Nat.le_of_ble_eq_true rfl) (w_X10_layVisits_0 x1 x2 x3 x4 x5 h)
set_option maxRecDepth 4000 in
theorem w_X10_layVisits_7 (x1 : Int) (x2 : Int) (x3 : Int) (x4 : Int) (x5 : Int) (x6 : Int) {σ : Mem} {K : Mem → Prop} (h : R32 x6 ∧ ((200 ≤ x6 → K σ) ∧ (¬ 200 ≤ x6 → CC m_X10_isIn [vR 80, vI x1, vI x6, vI x2, vI x3, vI x4, vI x5] σ (PZ (fun s6 => CC m_X10_meet [vR 80, vI x6, vI 1] s6 (PN (fun s9 => TT m_X10_layVisits 7 [vR 80, vI x1, vI x2, vI x3, vI x4, vI x5, vI (x6 + 1)] [] s9 (PN K)))) (fun s7 => CC m_X10_meet [vR 80, vI x6, vI 0] s7 (PN (fun s11 => TT m_X10_layVisits 7 [vR 80, vI x1, vI x2, vI x3, vI x4, vI x5, vI (x6 + 1)] [] s11 (PN K)))))))) : TT m_X10_layVisits 7 [vR 80, vI x1, vI x2, vI x3, vI x4, vI x5, vI x6] [] σ (PN K) := by
  refine TT_iload dX10_layVisits_7 rfl ?_
  refine TT_sipush dX10_layVisits_9 (by decide) ?_
  obtain ⟨o3, h⟩ := h
  refine TT_icmp_ge (tgt := 40) dX10_layVisits_12 rfl o3 (by decide) (fun c4 => ?_) (fun c4 => ?_)
  · replace h := h.1 c4
    exact TT_vret dX10_layVisits_40 rfl rfl h
  · replace h := h.2 c4
    refine TT_aload_n dX10_layVisits_15 rfl ?_
    refine TT_iload dX10_layVisits_16 rfl ?_
    refine TT_aload_n dX10_layVisits_18 rfl ?_
    refine TT_iload_n dX10_layVisits_19 rfl ?_
    refine TT_iload dX10_layVisits_20 rfl ?_
    refine TT_iload_n dX10_layVisits_22 rfl ?_
    refine TT_iload_n dX10_layVisits_23 rfl ?_
    refine TT_iload dX10_layVisits_24 rfl ?_
    refine TT_iload dX10_layVisits_26 rfl ?_
    refine TT_callVZ (M' := m_X10_isIn) (as := [vI x1, vI x6, vI x2, vI x3, vI x4, vI x5]) (rest := [vI x6, vR 80]) dX10_layVisits_28 mo_X10_isIn ml_X10_145 im_X10_isIn se_X10_isIn (Nat.le_of_ble_eq_true rfl) (Nat.le_of_ble_eq_true rfl) ⟨rfl, rfl, rfl⟩ rfl rfl (Nat.le_of_ble_eq_true rfl) (by decide) rfl rfl (by decide) h (fun s6 h => ?_) (fun s7 h => ?_)
    · refine TT_callVN (M' := m_X10_meet) (as := [vI x6, vI 1]) (rest := []) dX10_layVisits_31 mo_X10_meet ml_X10_159 im_X10_meet se_X10_meet (Nat.le_of_ble_eq_true rfl) (Nat.le_of_ble_eq_true rfl) ⟨rfl, rfl, rfl⟩ rfl rfl (Nat.le_of_ble_eq_true rfl) (by decide) rfl rfl (by decide) h (fun s9 h => ?_)
      refine TT_iinc dX10_layVisits_34 (Nat.le_of_ble_eq_true rfl) rfl rfl rfl ?_
      refine TT_goto (tgt := 7) dX10_layVisits_37 rfl ?_
      exact h
    · refine TT_callVN (M' := m_X10_meet) (as := [vI x6, vI 0]) (rest := []) dX10_layVisits_31 mo_X10_meet ml_X10_159 im_X10_meet se_X10_meet (Nat.le_of_ble_eq_true rfl) (Nat.le_of_ble_eq_true rfl) ⟨rfl, rfl, rfl⟩ rfl rfl (Nat.le_of_ble_eq_true rfl) (by decide) rfl rfl (by decide) h (fun s11 h => ?_)
      refine TT_iinc dX10_layVisits_34 (Nat.le_of_ble_eq_true rfl) rfl rfl rfl ?_
      refine TT_goto (tgt := 7) dX10_layVisits_37 rfl ?_
      exact h
set_option maxRecDepth 4000 in
theorem w_X10_visits_0 (x1 : Int) (x2 : Int) (x3 : Int) (x4 : Int) (x5 : Int) {σ : Mem} {K : Int → Mem → Prop} (h : CC m_X10_isThing [vI x1] σ (PZ (fun s2 => CC m_X10_isSpan [vI x2, vI x3] s2 (PZ (fun s6 => CC m_X10_isSpan [vI x4, vI x5] s6 (PZ (fun s10 => CC m_X10_layVisits [vR 80, vI x1, vI x2, vI x3, vI x4, vI x5] s10 (PN (fun s14 => K (s14 80 9) s14))) (fun s11 => K (-900002) s11))) (fun s7 => K (-900002) s7))) (fun s3 => K (-900001) s3))) : TT m_X10_visits 0 [vR 80, vI x1, vI x2, vI x3, vI x4, vI x5] [] σ (PI K) := by
  refine TT_iload_n dX10_visits_0 rfl ?_
  refine TT_callSZ (M' := m_X10_isThing) (as := [vI x1]) (rest := []) dX10_visits_1 mo_X10_isThing ml_X10_79 sm_X10_isThing (Nat.le_of_ble_eq_true rfl) (Nat.le_of_ble_eq_true rfl) ⟨rfl, rfl, rfl⟩ rfl rfl (Nat.le_of_ble_eq_true rfl) h (fun s2 h => ?_) (fun s3 h => ?_)
  · refine TT_if_ne (tgt := 10) dX10_visits_4 rfl (by decide) (fun c4 => ?_) (fun c4 => absurd c4 (by decide))
    refine TT_iload_n dX10_visits_10 rfl ?_
    refine TT_iload_n dX10_visits_11 rfl ?_
    refine TT_callSZ (M' := m_X10_isSpan) (as := [vI x2, vI x3]) (rest := []) dX10_visits_12 mo_X10_isSpan ml_X10_142 sm_X10_isSpan (Nat.le_of_ble_eq_true rfl) (Nat.le_of_ble_eq_true rfl) ⟨rfl, rfl, rfl⟩ rfl rfl (Nat.le_of_ble_eq_true rfl) h (fun s6 h => ?_) (fun s7 h => ?_)
    · refine TT_if_eq (tgt := 28) dX10_visits_15 rfl (by decide) (fun c8 => absurd c8 (by decide)) (fun c8 => ?_)
      refine TT_iload dX10_visits_18 rfl ?_
      refine TT_iload dX10_visits_20 rfl ?_
      refine TT_callSZ (M' := m_X10_isSpan) (as := [vI x4, vI x5]) (rest := []) dX10_visits_22 mo_X10_isSpan ml_X10_142 sm_X10_isSpan (Nat.le_of_ble_eq_true rfl) (Nat.le_of_ble_eq_true rfl) ⟨rfl, rfl, rfl⟩ rfl rfl (Nat.le_of_ble_eq_true rfl) h (fun s10 h => ?_) (fun s11 h => ?_)
      · refine TT_if_ne (tgt := 31) dX10_visits_25 rfl (by decide) (fun c12 => ?_) (fun c12 => absurd c12 (by decide))
        refine TT_aload_n dX10_visits_31 rfl ?_
        refine TT_iload_n dX10_visits_32 rfl ?_
        refine TT_iload_n dX10_visits_33 rfl ?_
        refine TT_iload_n dX10_visits_34 rfl ?_
        refine TT_iload dX10_visits_35 rfl ?_
        refine TT_iload dX10_visits_37 rfl ?_
        refine TT_callVN (M' := m_X10_layVisits) (as := [vI x1, vI x2, vI x3, vI x4, vI x5]) (rest := []) dX10_visits_39 mo_X10_layVisits ml_X10_163 im_X10_layVisits se_X10_layVisits (Nat.le_of_ble_eq_true rfl) (Nat.le_of_ble_eq_true rfl) ⟨rfl, rfl, rfl⟩ rfl rfl (Nat.le_of_ble_eq_true rfl) (by decide) rfl rfl (by decide) h (fun s14 h => ?_)
        refine TT_aload_n dX10_visits_42 rfl ?_
        refine TT_getI dX10_visits_43 fd_X10_150 (by decide) (Or.inl rfl) (by decide) rfl ?_
        exact TT_iret dX10_visits_46 rfl rfl h
      · refine TT_if_ne (tgt := 31) dX10_visits_25 rfl (by decide) (fun c15 => absurd c15 (by decide)) (fun c15 => ?_)
        refine TT_ldc dX10_visits_28 kc_X10_89 (x := (-900002)) rfl ?_
        exact TT_iret dX10_visits_30 rfl rfl h
    · refine TT_if_eq (tgt := 28) dX10_visits_15 rfl (by decide) (fun c16 => ?_) (fun c16 => absurd c16 (by decide))
      refine TT_ldc dX10_visits_28 kc_X10_89 (x := (-900002)) rfl ?_
      exact TT_iret dX10_visits_30 rfl rfl h
  · refine TT_if_ne (tgt := 10) dX10_visits_4 rfl (by decide) (fun c17 => absurd c17 (by decide)) (fun c17 => ?_)
    refine TT_ldc dX10_visits_7 kc_X10_83 (x := (-900001)) rfl ?_
    exact TT_iret dX10_visits_9 rfl rfl h
theorem e_X10_visits (x1 : Int) (x2 : Int) (x3 : Int) (x4 : Int) (x5 : Int) {σ : Mem} {K : Int → Mem → Prop} (h : CC m_X10_isThing [vI x1] σ (PZ (fun s2 => CC m_X10_isSpan [vI x2, vI x3] s2 (PZ (fun s6 => CC m_X10_isSpan [vI x4, vI x5] s6 (PZ (fun s10 => CC m_X10_layVisits [vR 80, vI x1, vI x2, vI x3, vI x4, vI x5] s10 (PN (fun s14 => K (s14 80 9) s14))) (fun s11 => K (-900002) s11))) (fun s7 => K (-900002) s7))) (fun s3 => K (-900001) s3))) : CC m_X10_visits [vR 80, vI x1, vI x2, vI x3, vI x4, vI x5] σ (PI K) := CC_of (by decide) rfl rfl rfl (Nat.le_of_ble_eq_true rfl) (w_X10_visits_0 x1 x2 x3 x4 x5 h)
set_option maxRecDepth 4000 in
theorem w_X10_visit_0 (x1 : Int) (x2 : Int) (x3 : Int) (x4 : Int) (x5 : Int) (x6 : Int) (x7 : Int) {σ : Mem} {K : Int → Mem → Prop} (h : CC m_X10_isThing [vI x1] σ (PZ (fun s2 => CC m_X10_isSpan [vI x2, vI x3] s2 (PZ (fun s6 => CC m_X10_isSpan [vI x4, vI x5] s6 (PZ (fun s10 => CC m_X10_layVisits [vR 80, vI x1, vI x2, vI x3, vI x4, vI x5] s10 (PN (fun s14 => R32 x6 ∧ R32 ((s14 80 9) - 1) ∧ CC m_X10_in [vL x6, vL 0, vL ((s14 80 9) - 1)] s14 (PZ (fun s18 => R32 x7 ∧ (x7 = 0 → (0 ≤ x6 ∧ x6 < 200)) ∧ (¬ x7 = 0 → (0 ≤ x6 ∧ x6 < 200)) ∧ K (if x7 = 0 then (s18 86 (x6).toNat) else (s18 87 (x6).toNat) : Int) s18) (fun s19 => K (-900009) s19))))) (fun s11 => K (-900002) s11))) (fun s7 => K (-900002) s7))) (fun s3 => K (-900001) s3))) : TT m_X10_visit 0 [vR 80, vI x1, vI x2, vI x3, vI x4, vI x5, vI x6, vI x7] [] σ (PI K) := by
  refine TT_iload_n dX10_visit_0 rfl ?_
  refine TT_callSZ (M' := m_X10_isThing) (as := [vI x1]) (rest := []) dX10_visit_1 mo_X10_isThing ml_X10_79 sm_X10_isThing (Nat.le_of_ble_eq_true rfl) (Nat.le_of_ble_eq_true rfl) ⟨rfl, rfl, rfl⟩ rfl rfl (Nat.le_of_ble_eq_true rfl) h (fun s2 h => ?_) (fun s3 h => ?_)
  · refine TT_if_ne (tgt := 10) dX10_visit_4 rfl (by decide) (fun c4 => ?_) (fun c4 => absurd c4 (by decide))
    refine TT_iload_n dX10_visit_10 rfl ?_
    refine TT_iload_n dX10_visit_11 rfl ?_
    refine TT_callSZ (M' := m_X10_isSpan) (as := [vI x2, vI x3]) (rest := []) dX10_visit_12 mo_X10_isSpan ml_X10_142 sm_X10_isSpan (Nat.le_of_ble_eq_true rfl) (Nat.le_of_ble_eq_true rfl) ⟨rfl, rfl, rfl⟩ rfl rfl (Nat.le_of_ble_eq_true rfl) h (fun s6 h => ?_) (fun s7 h => ?_)
    · refine TT_if_eq (tgt := 28) dX10_visit_15 rfl (by decide) (fun c8 => absurd c8 (by decide)) (fun c8 => ?_)
      refine TT_iload dX10_visit_18 rfl ?_
      refine TT_iload dX10_visit_20 rfl ?_
      refine TT_callSZ (M' := m_X10_isSpan) (as := [vI x4, vI x5]) (rest := []) dX10_visit_22 mo_X10_isSpan ml_X10_142 sm_X10_isSpan (Nat.le_of_ble_eq_true rfl) (Nat.le_of_ble_eq_true rfl) ⟨rfl, rfl, rfl⟩ rfl rfl (Nat.le_of_ble_eq_true rfl) h (fun s10 h => ?_) (fun s11 h => ?_)
      · refine TT_if_ne (tgt := 31) dX10_visit_25 rfl (by decide) (fun c12 => ?_) (fun c12 => absurd c12 (by decide))
        refine TT_aload_n dX10_visit_31 rfl ?_
        refine TT_iload_n dX10_visit_32 rfl ?_
        refine TT_iload_n dX10_visit_33 rfl ?_
        refine TT_iload_n dX10_visit_34 rfl ?_
        refine TT_iload dX10_visit_35 rfl ?_
        refine TT_iload dX10_visit_37 rfl ?_
        refine TT_callVN (M' := m_X10_layVisits) (as := [vI x1, vI x2, vI x3, vI x4, vI x5]) (rest := []) dX10_visit_39 mo_X10_layVisits ml_X10_163 im_X10_layVisits se_X10_layVisits (Nat.le_of_ble_eq_true rfl) (Nat.le_of_ble_eq_true rfl) ⟨rfl, rfl, rfl⟩ rfl rfl (Nat.le_of_ble_eq_true rfl) (by decide) rfl rfl (by decide) h (fun s14 h => ?_)
        refine TT_iload dX10_visit_42 rfl ?_
        obtain ⟨o15, h⟩ := h
        refine TT_i2l dX10_visit_44 o15 ?_
        refine TT_lconst dX10_visit_45 (x := 0) rfl ?_
        refine TT_aload_n dX10_visit_46 rfl ?_
        refine TT_getI dX10_visit_47 fd_X10_150 (by decide) (Or.inl rfl) (by decide) rfl ?_
        refine TT_iconst dX10_visit_50 ?_
        refine TT_isub dX10_visit_51 ?_
        obtain ⟨o16, h⟩ := h
        refine TT_i2l dX10_visit_52 o16 ?_
        refine TT_callSZ (M' := m_X10_in) (as := [vL x6, vL 0, vL ((s14 80 9) - 1)]) (rest := []) dX10_visit_53 mo_X10_in ml_X10_73 sm_X10_in (Nat.le_of_ble_eq_true rfl) (Nat.le_of_ble_eq_true rfl) ⟨rfl, rfl, rfl⟩ rfl rfl (Nat.le_of_ble_eq_true rfl) h (fun s18 h => ?_) (fun s19 h => ?_)
        · refine TT_if_ne (tgt := 64) dX10_visit_56 rfl (by decide) (fun c20 => ?_) (fun c20 => absurd c20 (by decide))
          refine TT_iload dX10_visit_64 rfl ?_
          obtain ⟨o21, h⟩ := h
          obtain ⟨o26, h⟩ := h
          obtain ⟨o27, h⟩ := h
          have j25 : TT m_X10_visit 86 [vR 80, vI x1, vI x2, vI x3, vI x4, vI x5, vI x6, vI x7] [vI (if x7 = 0 then (s18 86 (x6).toNat) else (s18 87 (x6).toNat) : Int)] s18 (PI K) := by
            exact TT_iret dX10_visit_86 rfl rfl h
          refine TT_if_eq (tgt := 79) dX10_visit_66 rfl o21 (fun c22 => ?_) (fun c22 => ?_)
          · have h := o26 c22
            refine TT_aload_n dX10_visit_79 rfl ?_
            refine TT_getR (r := 86) dX10_visit_80 fd_X10_25 (by decide) rfl (by decide) rfl rfl ?_
            refine TT_iload dX10_visit_83 rfl ?_
            have o23 := h
            refine TT_iald dX10_visit_85 (by decide) rfl (by decide) o23 ?_
            exact TT.cast j25 (by first | rfl | (simp only [if_pos c22] <;> rfl)) (by first | rfl | (simp only [if_pos c22] <;> rfl))
          · have h := o27 c22
            refine TT_aload_n dX10_visit_69 rfl ?_
            refine TT_getR (r := 87) dX10_visit_70 fd_X10_28 (by decide) rfl (by decide) rfl rfl ?_
            refine TT_iload dX10_visit_73 rfl ?_
            have o24 := h
            refine TT_iald dX10_visit_75 (by decide) rfl (by decide) o24 ?_
            refine TT_goto (tgt := 86) dX10_visit_76 rfl ?_
            exact TT.cast j25 (by first | rfl | (simp only [if_neg c22] <;> rfl)) (by first | rfl | (simp only [if_neg c22] <;> rfl))
        · refine TT_if_ne (tgt := 64) dX10_visit_56 rfl (by decide) (fun c28 => absurd c28 (by decide)) (fun c28 => ?_)
          refine TT_ldc dX10_visit_59 kc_X10_149 (x := (-900009)) rfl ?_
          refine TT_goto (tgt := 86) dX10_visit_61 rfl ?_
          exact TT_iret dX10_visit_86 rfl rfl h
      · refine TT_if_ne (tgt := 31) dX10_visit_25 rfl (by decide) (fun c29 => absurd c29 (by decide)) (fun c29 => ?_)
        refine TT_ldc dX10_visit_28 kc_X10_89 (x := (-900002)) rfl ?_
        exact TT_iret dX10_visit_30 rfl rfl h
    · refine TT_if_eq (tgt := 28) dX10_visit_15 rfl (by decide) (fun c30 => ?_) (fun c30 => absurd c30 (by decide))
      refine TT_ldc dX10_visit_28 kc_X10_89 (x := (-900002)) rfl ?_
      exact TT_iret dX10_visit_30 rfl rfl h
  · refine TT_if_ne (tgt := 10) dX10_visit_4 rfl (by decide) (fun c31 => absurd c31 (by decide)) (fun c31 => ?_)
    refine TT_ldc dX10_visit_7 kc_X10_83 (x := (-900001)) rfl ?_
    exact TT_iret dX10_visit_9 rfl rfl h
theorem e_X10_visit (x1 : Int) (x2 : Int) (x3 : Int) (x4 : Int) (x5 : Int) (x6 : Int) (x7 : Int) {σ : Mem} {K : Int → Mem → Prop} (h : CC m_X10_isThing [vI x1] σ (PZ (fun s2 => CC m_X10_isSpan [vI x2, vI x3] s2 (PZ (fun s6 => CC m_X10_isSpan [vI x4, vI x5] s6 (PZ (fun s10 => CC m_X10_layVisits [vR 80, vI x1, vI x2, vI x3, vI x4, vI x5] s10 (PN (fun s14 => R32 x6 ∧ R32 ((s14 80 9) - 1) ∧ CC m_X10_in [vL x6, vL 0, vL ((s14 80 9) - 1)] s14 (PZ (fun s18 => R32 x7 ∧ (x7 = 0 → (0 ≤ x6 ∧ x6 < 200)) ∧ (¬ x7 = 0 → (0 ≤ x6 ∧ x6 < 200)) ∧ K (if x7 = 0 then (s18 86 (x6).toNat) else (s18 87 (x6).toNat) : Int) s18) (fun s19 => K (-900009) s19))))) (fun s11 => K (-900002) s11))) (fun s7 => K (-900002) s7))) (fun s3 => K (-900001) s3))) : CC m_X10_visit [vR 80, vI x1, vI x2, vI x3, vI x4, vI x5, vI x6, vI x7] σ (PI K) := CC_of (by decide) rfl rfl rfl (Nat.le_of_ble_eq_true rfl) (w_X10_visit_0 x1 x2 x3 x4 x5 x6 x7 h)
set_option maxRecDepth 4000 in
theorem w_X10_layFar_0 (x1 : Int) (x2 : Int) (x3 : Int) {σ : Mem} {A B : Mem → Prop} (h : CC m_X10_find [vR 80, vI x1, vI x3] σ (PZ (fun s2 => CC m_X10_find [vR 80, vI x2, vI x3] s2 (PZ (fun s6 => (∀ v9 : Int, v9 = (((s2 80 6) * (s6 80 8)) - ((s6 80 6) * (s2 80 8))) → (∀ v11 : Int, v11 = (((s2 80 7) * (s6 80 8)) - ((s6 80 7) * (s2 80 8))) → (∀ s13 : Mem, s13 = up s6 80 13 ((v9 * v9) + (v11 * v11)) → (∀ s15 : Mem, s15 = up s13 80 14 ((((s2 80 8) * (s13 80 8)) * (s2 80 8)) * (s13 80 8)) → A s15))))) (fun s7 => B s7))) (fun s3 => B s3))) : TT m_X10_layFar 0 [vR 80, vI x1, vI x2, vI x3, vU, vU, vU, vU, vU, vU, vU, vU, vU, vU] [] σ (PZ A B) := by
  refine TT_aload_n dX10_layFar_0 rfl ?_
  refine TT_iload_n dX10_layFar_1 rfl ?_
  refine TT_iload_n dX10_layFar_2 rfl ?_
  refine TT_callVZ (M' := m_X10_find) (as := [vI x1, vI x3]) (rest := []) dX10_layFar_3 mo_X10_find ml_X10_130 im_X10_find se_X10_find (Nat.le_of_ble_eq_true rfl) (Nat.le_of_ble_eq_true rfl) ⟨rfl, rfl, rfl⟩ rfl rfl (Nat.le_of_ble_eq_true rfl) (by decide) rfl rfl (by decide) h (fun s2 h => ?_) (fun s3 h => ?_)
  · refine TT_if_ne (tgt := 11) dX10_layFar_6 rfl (by decide) (fun c4 => ?_) (fun c4 => absurd c4 (by decide))
    refine TT_aload_n dX10_layFar_11 rfl ?_
    refine TT_getJ dX10_layFar_12 fd_X10_107 (by decide) rfl (by decide) rfl ?_
    refine TT_lstore dX10_layFar_15 (Nat.le_of_ble_eq_true rfl) rfl rfl ?_
    refine TT_aload_n dX10_layFar_17 rfl ?_
    refine TT_getJ dX10_layFar_18 fd_X10_111 (by decide) rfl (by decide) rfl ?_
    refine TT_lstore dX10_layFar_21 (Nat.le_of_ble_eq_true rfl) rfl rfl ?_
    refine TT_aload_n dX10_layFar_23 rfl ?_
    refine TT_getJ dX10_layFar_24 fd_X10_114 (by decide) rfl (by decide) rfl ?_
    refine TT_lstore dX10_layFar_27 (Nat.le_of_ble_eq_true rfl) rfl rfl ?_
    refine TT_aload_n dX10_layFar_29 rfl ?_
    refine TT_iload_n dX10_layFar_30 rfl ?_
    refine TT_iload_n dX10_layFar_31 rfl ?_
    refine TT_callVZ (M' := m_X10_find) (as := [vI x2, vI x3]) (rest := []) dX10_layFar_32 mo_X10_find ml_X10_130 im_X10_find se_X10_find (Nat.le_of_ble_eq_true rfl) (Nat.le_of_ble_eq_true rfl) ⟨rfl, rfl, rfl⟩ rfl rfl (Nat.le_of_ble_eq_true rfl) (by decide) rfl rfl (by decide) h (fun s6 h => ?_) (fun s7 h => ?_)
    · refine TT_if_ne (tgt := 40) dX10_layFar_35 rfl (by decide) (fun c8 => ?_) (fun c8 => absurd c8 (by decide))
      refine TT_lload dX10_layFar_40 rfl ?_
      refine TT_aload_n dX10_layFar_42 rfl ?_
      refine TT_getJ dX10_layFar_43 fd_X10_114 (by decide) rfl (by decide) rfl ?_
      refine TT_lmul dX10_layFar_46 ?_
      refine TT_aload_n dX10_layFar_47 rfl ?_
      refine TT_getJ dX10_layFar_48 fd_X10_107 (by decide) rfl (by decide) rfl ?_
      refine TT_lload dX10_layFar_51 rfl ?_
      refine TT_lmul dX10_layFar_53 ?_
      refine TT_lsub dX10_layFar_54 ?_
      refine TT_nmL (fun v9 e10 => ?_)
      replace h := h v9 e10
      refine TT_lstore dX10_layFar_55 (Nat.le_of_ble_eq_true rfl) rfl rfl ?_
      refine TT_lload dX10_layFar_57 rfl ?_
      refine TT_aload_n dX10_layFar_59 rfl ?_
      refine TT_getJ dX10_layFar_60 fd_X10_114 (by decide) rfl (by decide) rfl ?_
      refine TT_lmul dX10_layFar_63 ?_
      refine TT_aload_n dX10_layFar_64 rfl ?_
      refine TT_getJ dX10_layFar_65 fd_X10_111 (by decide) rfl (by decide) rfl ?_
      refine TT_lload dX10_layFar_68 rfl ?_
      refine TT_lmul dX10_layFar_70 ?_
      refine TT_lsub dX10_layFar_71 ?_
      refine TT_nmL (fun v11 e12 => ?_)
      replace h := h v11 e12
      refine TT_lstore dX10_layFar_72 (Nat.le_of_ble_eq_true rfl) rfl rfl ?_
      refine TT_aload_n dX10_layFar_74 rfl ?_
      refine TT_lload dX10_layFar_75 rfl ?_
      refine TT_lload dX10_layFar_77 rfl ?_
      refine TT_lmul dX10_layFar_79 ?_
      refine TT_lload dX10_layFar_80 rfl ?_
      refine TT_lload dX10_layFar_82 rfl ?_
      refine TT_lmul dX10_layFar_84 ?_
      refine TT_ladd dX10_layFar_85 ?_
      refine TT_putJ dX10_layFar_86 fd_X10_167 (by decide) rfl (by decide) rfl ?_
      refine TT_nmM (fun s13 e14 => ?_)
      replace h := h s13 e14
      refine TT_aload_n dX10_layFar_89 rfl ?_
      refine TT_lload dX10_layFar_90 rfl ?_
      refine TT_aload_n dX10_layFar_92 rfl ?_
      refine TT_getJ dX10_layFar_93 fd_X10_114 (by decide) rfl (by decide) rfl ?_
      refine TT_lmul dX10_layFar_96 ?_
      refine TT_lload dX10_layFar_97 rfl ?_
      refine TT_lmul dX10_layFar_99 ?_
      refine TT_aload_n dX10_layFar_100 rfl ?_
      refine TT_getJ dX10_layFar_101 fd_X10_114 (by decide) rfl (by decide) rfl ?_
      refine TT_lmul dX10_layFar_104 ?_
      refine TT_putJ dX10_layFar_105 fd_X10_170 (by decide) rfl (by decide) rfl ?_
      refine TT_nmM (fun s15 e16 => ?_)
      replace h := h s15 e16
      refine TT_iconst dX10_layFar_108 ?_
      exact TT_z1 dX10_layFar_109 rfl rfl h
    · refine TT_if_ne (tgt := 40) dX10_layFar_35 rfl (by decide) (fun c17 => absurd c17 (by decide)) (fun c17 => ?_)
      refine TT_iconst dX10_layFar_38 ?_
      exact TT_z0 dX10_layFar_39 rfl rfl h
  · refine TT_if_ne (tgt := 11) dX10_layFar_6 rfl (by decide) (fun c18 => absurd c18 (by decide)) (fun c18 => ?_)
    refine TT_iconst dX10_layFar_9 ?_
    exact TT_z0 dX10_layFar_10 rfl rfl h
theorem e_X10_layFar (x1 : Int) (x2 : Int) (x3 : Int) {σ : Mem} {A B : Mem → Prop} (h : CC m_X10_find [vR 80, vI x1, vI x3] σ (PZ (fun s2 => CC m_X10_find [vR 80, vI x2, vI x3] s2 (PZ (fun s6 => (∀ v9 : Int, v9 = (((s2 80 6) * (s6 80 8)) - ((s6 80 6) * (s2 80 8))) → (∀ v11 : Int, v11 = (((s2 80 7) * (s6 80 8)) - ((s6 80 7) * (s2 80 8))) → (∀ s13 : Mem, s13 = up s6 80 13 ((v9 * v9) + (v11 * v11)) → (∀ s15 : Mem, s15 = up s13 80 14 ((((s2 80 8) * (s13 80 8)) * (s2 80 8)) * (s13 80 8)) → A s15))))) (fun s7 => B s7))) (fun s3 => B s3))) : CC m_X10_layFar [vR 80, vI x1, vI x2, vI x3] σ (PZ A B) := CC_of (by decide) rfl rfl rfl (Nat.le_of_ble_eq_true rfl) (w_X10_layFar_0 x1 x2 x3 h)
set_option maxRecDepth 4000 in
theorem w_X10_far_0 (x1 : Int) (x2 : Int) (x3 : Int) (x4 : Int) {σ : Mem} {K : Int → Mem → Prop} (h : CC m_X10_isThing [vI x1] σ (PZ (fun s2 => CC m_X10_isThing [vI x2] s2 (PZ (fun s6 => CC m_X10_isMinute [vI x3] s6 (PZ (fun s10 => CC m_X10_layFar [vR 80, vI x1, vI x2, vI x3] s10 (PZ (fun s14 => CC m_X10_told [vL (s14 80 13), vL (s14 80 14), vI x4] s14 (PJ (fun y17 s18 => K y17 s18))) (fun s15 => K (-900003) s15))) (fun s11 => K (-900002) s11))) (fun s7 => K (-900001) s7))) (fun s3 => K (-900001) s3))) : TT m_X10_far 0 [vR 80, vI x1, vI x2, vI x3, vI x4] [] σ (PJ K) := by
  refine TT_iload_n dX10_far_0 rfl ?_
  refine TT_callSZ (M' := m_X10_isThing) (as := [vI x1]) (rest := []) dX10_far_1 mo_X10_isThing ml_X10_79 sm_X10_isThing (Nat.le_of_ble_eq_true rfl) (Nat.le_of_ble_eq_true rfl) ⟨rfl, rfl, rfl⟩ rfl rfl (Nat.le_of_ble_eq_true rfl) h (fun s2 h => ?_) (fun s3 h => ?_)
  · refine TT_if_eq (tgt := 14) dX10_far_4 rfl (by decide) (fun c4 => absurd c4 (by decide)) (fun c4 => ?_)
    refine TT_iload_n dX10_far_7 rfl ?_
    refine TT_callSZ (M' := m_X10_isThing) (as := [vI x2]) (rest := []) dX10_far_8 mo_X10_isThing ml_X10_79 sm_X10_isThing (Nat.le_of_ble_eq_true rfl) (Nat.le_of_ble_eq_true rfl) ⟨rfl, rfl, rfl⟩ rfl rfl (Nat.le_of_ble_eq_true rfl) h (fun s6 h => ?_) (fun s7 h => ?_)
    · refine TT_if_ne (tgt := 18) dX10_far_11 rfl (by decide) (fun c8 => ?_) (fun c8 => absurd c8 (by decide))
      refine TT_iload_n dX10_far_18 rfl ?_
      refine TT_callSZ (M' := m_X10_isMinute) (as := [vI x3]) (rest := []) dX10_far_19 mo_X10_isMinute ml_X10_84 sm_X10_isMinute (Nat.le_of_ble_eq_true rfl) (Nat.le_of_ble_eq_true rfl) ⟨rfl, rfl, rfl⟩ rfl rfl (Nat.le_of_ble_eq_true rfl) h (fun s10 h => ?_) (fun s11 h => ?_)
      · refine TT_if_ne (tgt := 29) dX10_far_22 rfl (by decide) (fun c12 => ?_) (fun c12 => absurd c12 (by decide))
        refine TT_aload_n dX10_far_29 rfl ?_
        refine TT_iload_n dX10_far_30 rfl ?_
        refine TT_iload_n dX10_far_31 rfl ?_
        refine TT_iload_n dX10_far_32 rfl ?_
        refine TT_callVZ (M' := m_X10_layFar) (as := [vI x1, vI x2, vI x3]) (rest := []) dX10_far_33 mo_X10_layFar ml_X10_177 im_X10_layFar se_X10_layFar (Nat.le_of_ble_eq_true rfl) (Nat.le_of_ble_eq_true rfl) ⟨rfl, rfl, rfl⟩ rfl rfl (Nat.le_of_ble_eq_true rfl) (by decide) rfl rfl (by decide) h (fun s14 h => ?_) (fun s15 h => ?_)
        · refine TT_if_eq (tgt := 55) dX10_far_36 rfl (by decide) (fun c16 => absurd c16 (by decide)) (fun c16 => ?_)
          refine TT_aload_n dX10_far_39 rfl ?_
          refine TT_getJ dX10_far_40 fd_X10_167 (by decide) rfl (by decide) rfl ?_
          refine TT_aload_n dX10_far_43 rfl ?_
          refine TT_getJ dX10_far_44 fd_X10_170 (by decide) rfl (by decide) rfl ?_
          refine TT_iload dX10_far_47 rfl ?_
          refine TT_callSJ (M' := m_X10_told) (as := [vL (s14 80 13), vL (s14 80 14), vI x4]) (rest := []) dX10_far_49 mo_X10_told ml_X10_133 sm_X10_told (Nat.le_of_ble_eq_true rfl) (Nat.le_of_ble_eq_true rfl) ⟨rfl, rfl, rfl⟩ rfl rfl (Nat.le_of_ble_eq_true rfl) h (fun y17 s18 h => ?_)
          refine TT_goto (tgt := 58) dX10_far_52 rfl ?_
          exact TT_lret dX10_far_58 rfl rfl h
        · refine TT_if_eq (tgt := 55) dX10_far_36 rfl (by decide) (fun c19 => ?_) (fun c19 => absurd c19 (by decide))
          refine TT_ldc2 dX10_far_55 kl_X10_181 (x := (-900003)) rfl ?_
          exact TT_lret dX10_far_58 rfl rfl h
      · refine TT_if_ne (tgt := 29) dX10_far_22 rfl (by decide) (fun c20 => absurd c20 (by decide)) (fun c20 => ?_)
        refine TT_ldc2 dX10_far_25 kl_X10_175 (x := (-900002)) rfl ?_
        exact TT_lret dX10_far_28 rfl rfl h
    · refine TT_if_ne (tgt := 18) dX10_far_11 rfl (by decide) (fun c21 => absurd c21 (by decide)) (fun c21 => ?_)
      refine TT_ldc2 dX10_far_14 kl_X10_173 (x := (-900001)) rfl ?_
      exact TT_lret dX10_far_17 rfl rfl h
  · refine TT_if_eq (tgt := 14) dX10_far_4 rfl (by decide) (fun c22 => ?_) (fun c22 => absurd c22 (by decide))
    refine TT_ldc2 dX10_far_14 kl_X10_173 (x := (-900001)) rfl ?_
    exact TT_lret dX10_far_17 rfl rfl h
theorem e_X10_far (x1 : Int) (x2 : Int) (x3 : Int) (x4 : Int) {σ : Mem} {K : Int → Mem → Prop} (h : CC m_X10_isThing [vI x1] σ (PZ (fun s2 => CC m_X10_isThing [vI x2] s2 (PZ (fun s6 => CC m_X10_isMinute [vI x3] s6 (PZ (fun s10 => CC m_X10_layFar [vR 80, vI x1, vI x2, vI x3] s10 (PZ (fun s14 => CC m_X10_told [vL (s14 80 13), vL (s14 80 14), vI x4] s14 (PJ (fun y17 s18 => K y17 s18))) (fun s15 => K (-900003) s15))) (fun s11 => K (-900002) s11))) (fun s7 => K (-900001) s7))) (fun s3 => K (-900001) s3))) : CC m_X10_far [vR 80, vI x1, vI x2, vI x3, vI x4] σ (PJ K) := CC_of (by decide) rfl rfl rfl (Nat.le_of_ble_eq_true rfl) (w_X10_far_0 x1 x2 x3 x4 h)
set_option maxRecDepth 4000 in
theorem w_X10_placeOf_0 (x1 : Int) (x2 : Int) (x3 : Int) {σ : Mem} {K : Int → Mem → Prop} (h : CC m_X10_layFar [vR 80, vI x1, vI x2, vI x3] σ (PZ (fun s2 => TT m_X10_placeOf 27 [vR 80, vI x1, vI x2, vI x3, vU, vL (s2 80 13), vU, vL (s2 80 14), vU, vI 0, vI 0, vU, vU, vU, vU] [] s2 (PI K)) (fun s3 => TT m_X10_placeOf 27 [vR 80, vI x1, vI x2, vI x3, vU, vL (s3 80 13), vU, vL (s3 80 14), vU, vI 0, vI 0, vU, vU, vU, vU] [] s3 (PI K)))) : TT m_X10_placeOf 0 [vR 80, vI x1, vI x2, vI x3, vU, vU, vU, vU, vU, vU, vU, vU, vU, vU, vU] [] σ (PI K) := by
  refine TT_aload_n dX10_placeOf_0 rfl ?_
  refine TT_iload_n dX10_placeOf_1 rfl ?_
  refine TT_iload_n dX10_placeOf_2 rfl ?_
  refine TT_iload_n dX10_placeOf_3 rfl ?_
  refine TT_callVZ (M' := m_X10_layFar) (as := [vI x1, vI x2, vI x3]) (rest := []) dX10_placeOf_4 mo_X10_layFar ml_X10_177 im_X10_layFar se_X10_layFar (Nat.le_of_ble_eq_true rfl) (Nat.le_of_ble_eq_true rfl) ⟨rfl, rfl, rfl⟩ rfl rfl (Nat.le_of_ble_eq_true rfl) (by decide) rfl rfl (by decide) h (fun s2 h => ?_) (fun s3 h => ?_)
  · refine TT_istore dX10_placeOf_7 (Nat.le_of_ble_eq_true rfl) rfl rfl ?_
    refine TT_aload_n dX10_placeOf_9 rfl ?_
    refine TT_getJ dX10_placeOf_10 fd_X10_167 (by decide) rfl (by decide) rfl ?_
    refine TT_lstore dX10_placeOf_13 (Nat.le_of_ble_eq_true rfl) rfl rfl ?_
    refine TT_aload_n dX10_placeOf_15 rfl ?_
    refine TT_getJ dX10_placeOf_16 fd_X10_170 (by decide) rfl (by decide) rfl ?_
    refine TT_lstore dX10_placeOf_19 (Nat.le_of_ble_eq_true rfl) rfl rfl ?_
    refine TT_iconst dX10_placeOf_21 ?_
    refine TT_istore dX10_placeOf_22 (Nat.le_of_ble_eq_true rfl) rfl rfl ?_
    refine TT_iconst dX10_placeOf_24 ?_
    refine TT_istore dX10_placeOf_25 (Nat.le_of_ble_eq_true rfl) rfl rfl ?_
    refine TT_kill 4 rfl ?_
    exact h
  · refine TT_istore dX10_placeOf_7 (Nat.le_of_ble_eq_true rfl) rfl rfl ?_
    refine TT_aload_n dX10_placeOf_9 rfl ?_
    refine TT_getJ dX10_placeOf_10 fd_X10_167 (by decide) rfl (by decide) rfl ?_
    refine TT_lstore dX10_placeOf_13 (Nat.le_of_ble_eq_true rfl) rfl rfl ?_
    refine TT_aload_n dX10_placeOf_15 rfl ?_
    refine TT_getJ dX10_placeOf_16 fd_X10_170 (by decide) rfl (by decide) rfl ?_
    refine TT_lstore dX10_placeOf_19 (Nat.le_of_ble_eq_true rfl) rfl rfl ?_
    refine TT_iconst dX10_placeOf_21 ?_
    refine TT_istore dX10_placeOf_22 (Nat.le_of_ble_eq_true rfl) rfl rfl ?_
    refine TT_iconst dX10_placeOf_24 ?_
    refine TT_istore dX10_placeOf_25 (Nat.le_of_ble_eq_true rfl) rfl rfl ?_
    refine TT_kill 4 rfl ?_
    exact h
theorem e_X10_placeOf (x1 : Int) (x2 : Int) (x3 : Int) {σ : Mem} {K : Int → Mem → Prop} (h : CC m_X10_layFar [vR 80, vI x1, vI x2, vI x3] σ (PZ (fun s2 => TT m_X10_placeOf 27 [vR 80, vI x1, vI x2, vI x3, vU, vL (s2 80 13), vU, vL (s2 80 14), vU, vI 0, vI 0, vU, vU, vU, vU] [] s2 (PI K)) (fun s3 => TT m_X10_placeOf 27 [vR 80, vI x1, vI x2, vI x3, vU, vL (s3 80 13), vU, vL (s3 80 14), vU, vI 0, vI 0, vU, vU, vU, vU] [] s3 (PI K)))) : CC m_X10_placeOf [vR 80, vI x1, vI x2, vI x3] σ (PI K) := CC_of (by decide) rfl rfl rfl (Nat.le_of_ble_eq_true rfl) (w_X10_placeOf_0 x1 x2 x3 h)
set_option maxRecDepth 4000 in
theorem w_X10_placeOf_27 (x1 : Int) (x2 : Int) (x3 : Int) (x5 : Int) (x7 : Int) (x9 : Int) (x10 : Int) {σ : Mem} {K : Int → Mem → Prop} (h : R32 x10 ∧ ((10 ≤ x10 → K x9 σ) ∧ (¬ 10 ≤ x10 → R32 x1 ∧ ((x10 = x1 → TT m_X10_placeOf 27 [vR 80, vI x1, vI x2, vI x3, vU, vL x5, vU, vL x7, vU, vI x9, vI (x10 + 1), vU, vU, vU, vU] [] σ (PI K)) ∧ (¬ x10 = x1 → R32 x2 ∧ ((x10 = x2 → TT m_X10_placeOf 27 [vR 80, vI x1, vI x2, vI x3, vU, vL x5, vU, vL x7, vU, vI x9, vI (x10 + 1), vU, vU, vU, vU] [] σ (PI K)) ∧ (¬ x10 = x2 → CC m_X10_layFar [vR 80, vI x1, vI x10, vI x3] σ (PZ (fun s11 => R64 ((s11 80 13) * x7) ∧ R64 (x5 * (s11 80 14)) ∧ (∀ v22 : Int, v22 = (x9 + (if ((s11 80 13) * x7) < (x5 * (s11 80 14)) then 1 else (if ¬ ((s11 80 13) * x7) = (x5 * (s11 80 14)) then 0 else (if x2 ≤ x10 then 0 else 1 : Int) : Int) : Int)) → TT m_X10_placeOf 27 [vR 80, vI x1, vI x2, vI x3, vU, vL x5, vU, vL x7, vU, vI v22, vI (x10 + 1), vU, vU, vU, vU] [] s11 (PI K))) (fun s12 => TT m_X10_placeOf 27 [vR 80, vI x1, vI x2, vI x3, vU, vL x5, vU, vL x7, vU, vI x9, vI (x10 + 1), vU, vU, vU, vU] [] s12 (PI K)))))))))) : TT m_X10_placeOf 27 [vR 80, vI x1, vI x2, vI x3, vU, vL x5, vU, vL x7, vU, vI x9, vI x10, vU, vU, vU, vU] [] σ (PI K) := by
  refine TT_iload dX10_placeOf_27 rfl ?_
  refine TT_bipush dX10_placeOf_29 (by decide) ?_
  obtain ⟨o4, h⟩ := h
  refine TT_icmp_ge (tgt := 113) dX10_placeOf_31 rfl o4 (by decide) (fun c5 => ?_) (fun c5 => ?_)
  · replace h := h.1 c5
    refine TT_iload dX10_placeOf_113 rfl ?_
    exact TT_iret dX10_placeOf_115 rfl rfl h
  · replace h := h.2 c5
    refine TT_iload dX10_placeOf_34 rfl ?_
    refine TT_iload_n dX10_placeOf_36 rfl ?_
    obtain ⟨o6, h⟩ := h
    refine TT_icmp_eq (tgt := 107) dX10_placeOf_37 rfl o4 o6 (fun c7 => ?_) (fun c7 => ?_)
    · replace h := h.1 c7
      refine TT_iinc dX10_placeOf_107 (Nat.le_of_ble_eq_true rfl) rfl rfl rfl ?_
      refine TT_goto (tgt := 27) dX10_placeOf_110 rfl ?_
      exact h
    · replace h := h.2 c7
      refine TT_iload dX10_placeOf_40 rfl ?_
      refine TT_iload_n dX10_placeOf_42 rfl ?_
      obtain ⟨o8, h⟩ := h
      refine TT_icmp_eq (tgt := 107) dX10_placeOf_43 rfl o4 o8 (fun c9 => ?_) (fun c9 => ?_)
      · replace h := h.1 c9
        refine TT_iinc dX10_placeOf_107 (Nat.le_of_ble_eq_true rfl) rfl rfl rfl ?_
        refine TT_goto (tgt := 27) dX10_placeOf_110 rfl ?_
        exact h
      · replace h := h.2 c9
        refine TT_aload_n dX10_placeOf_46 rfl ?_
        refine TT_iload_n dX10_placeOf_47 rfl ?_
        refine TT_iload dX10_placeOf_48 rfl ?_
        refine TT_iload_n dX10_placeOf_50 rfl ?_
        refine TT_callVZ (M' := m_X10_layFar) (as := [vI x1, vI x10, vI x3]) (rest := []) dX10_placeOf_51 mo_X10_layFar ml_X10_177 im_X10_layFar se_X10_layFar (Nat.le_of_ble_eq_true rfl) (Nat.le_of_ble_eq_true rfl) ⟨rfl, rfl, rfl⟩ rfl rfl (Nat.le_of_ble_eq_true rfl) (by decide) rfl rfl (by decide) h (fun s11 h => ?_) (fun s12 h => ?_)
        · refine TT_if_eq (tgt := 107) dX10_placeOf_54 rfl (by decide) (fun c13 => absurd c13 (by decide)) (fun c13 => ?_)
          refine TT_aload_n dX10_placeOf_57 rfl ?_
          refine TT_getJ dX10_placeOf_58 fd_X10_167 (by decide) rfl (by decide) rfl ?_
          refine TT_lload dX10_placeOf_61 rfl ?_
          refine TT_lmul dX10_placeOf_63 ?_
          refine TT_lstore dX10_placeOf_64 (Nat.le_of_ble_eq_true rfl) rfl rfl ?_
          refine TT_lload dX10_placeOf_66 rfl ?_
          refine TT_aload_n dX10_placeOf_68 rfl ?_
          refine TT_getJ dX10_placeOf_69 fd_X10_170 (by decide) rfl (by decide) rfl ?_
          refine TT_lmul dX10_placeOf_72 ?_
          refine TT_lstore dX10_placeOf_73 (Nat.le_of_ble_eq_true rfl) rfl rfl ?_
          refine TT_iload dX10_placeOf_75 rfl ?_
          refine TT_lload dX10_placeOf_77 rfl ?_
          refine TT_lload dX10_placeOf_79 rfl ?_
          obtain ⟨o14, h⟩ := h
          obtain ⟨o15, h⟩ := h
          have j21 : TT m_X10_placeOf 104 [vR 80, vI x1, vI x2, vI x3, vU, vL x5, vU, vL x7, vU, vI x9, vI x10, vL ((s11 80 13) * x7), vU, vL (x5 * (s11 80 14)), vU] [vI (if ((s11 80 13) * x7) < (x5 * (s11 80 14)) then 1 else (if ¬ ((s11 80 13) * x7) = (x5 * (s11 80 14)) then 0 else (if x2 ≤ x10 then 0 else 1 : Int) : Int) : Int), vI x9] s11 (PI K) := by
            refine TT_iadd dX10_placeOf_104 ?_
            refine TT_nmI (fun v22 e23 => ?_)
            replace h := h v22 e23
            refine TT_istore dX10_placeOf_105 (Nat.le_of_ble_eq_true rfl) rfl rfl ?_
            refine TT_iinc dX10_placeOf_107 (Nat.le_of_ble_eq_true rfl) rfl rfl rfl ?_
            refine TT_goto (tgt := 27) dX10_placeOf_110 rfl ?_
            refine TT_kill 11 rfl ?_
            refine TT_kill 13 rfl ?_
            exact h
          refine TT_lc_lt (tgt := 99) dX10_placeOf_81 dX10_placeOf_82 rfl o14 o15 (fun c16 => ?_) (fun c16 => ?_)
          · refine TT_iconst dX10_placeOf_99 ?_
            refine TT_goto (tgt := 104) dX10_placeOf_100 rfl ?_
            exact TT.cast j21 (by first | rfl | (simp only [if_pos c16] <;> rfl)) (by first | rfl | (simp only [if_pos c16] <;> rfl))
          · refine TT_lload dX10_placeOf_85 rfl ?_
            refine TT_lload dX10_placeOf_87 rfl ?_
            have j20 : TT m_X10_placeOf 104 [vR 80, vI x1, vI x2, vI x3, vU, vL x5, vU, vL x7, vU, vI x9, vI x10, vL ((s11 80 13) * x7), vU, vL (x5 * (s11 80 14)), vU] [vI (if ¬ ((s11 80 13) * x7) = (x5 * (s11 80 14)) then 0 else (if x2 ≤ x10 then 0 else 1 : Int) : Int), vI x9] s11 (PI K) := by
              exact TT.cast j21 (by first | rfl | (simp only [if_neg c16] <;> rfl)) (by first | rfl | (simp only [if_neg c16] <;> rfl))
            refine TT_lc_ne (tgt := 103) dX10_placeOf_89 dX10_placeOf_90 rfl o14 o15 (fun c17 => ?_) (fun c17 => ?_)
            · refine TT_iconst dX10_placeOf_103 ?_
              exact TT.cast j20 (by first | rfl | (simp only [if_pos c17] <;> rfl)) (by first | rfl | (simp only [if_pos c17] <;> rfl))
            · refine TT_iload dX10_placeOf_93 rfl ?_
              refine TT_iload_n dX10_placeOf_95 rfl ?_
              have j19 : TT m_X10_placeOf 104 [vR 80, vI x1, vI x2, vI x3, vU, vL x5, vU, vL x7, vU, vI x9, vI x10, vL ((s11 80 13) * x7), vU, vL (x5 * (s11 80 14)), vU] [vI (if x2 ≤ x10 then 0 else 1 : Int), vI x9] s11 (PI K) := by
                exact TT.cast j20 (by first | rfl | (simp only [if_neg (not_not_intro c17)] <;> rfl)) (by first | rfl | (simp only [if_neg (not_not_intro c17)] <;> rfl))
              refine TT_icmp_ge (tgt := 103) dX10_placeOf_96 rfl o4 o8 (fun c18 => ?_) (fun c18 => ?_)
              · refine TT_iconst dX10_placeOf_103 ?_
                exact TT.cast j19 (by first | rfl | (simp only [if_pos c18] <;> rfl)) (by first | rfl | (simp only [if_pos c18] <;> rfl))
              · refine TT_iconst dX10_placeOf_99 ?_
                refine TT_goto (tgt := 104) dX10_placeOf_100 rfl ?_
                exact TT.cast j19 (by first | rfl | (simp only [if_neg c18] <;> rfl)) (by first | rfl | (simp only [if_neg c18] <;> rfl))
        · refine TT_if_eq (tgt := 107) dX10_placeOf_54 rfl (by decide) (fun c24 => ?_) (fun c24 => absurd c24 (by decide))
          refine TT_iinc dX10_placeOf_107 (Nat.le_of_ble_eq_true rfl) rfl rfl rfl ?_
          refine TT_goto (tgt := 27) dX10_placeOf_110 rfl ?_
          exact h
set_option maxRecDepth 4000 in
theorem w_X10_nearest_0 (x1 : Int) (x2 : Int) (x3 : Int) {σ : Mem} {K : Int → Mem → Prop} (h : CC m_X10_isThing [vI x1] σ (PZ (fun s2 => CC m_X10_isMinute [vI x2] s2 (PZ (fun s6 => CC m_X10_find [vR 80, vI x1, vI x2] s6 (PZ (fun s10 => TT m_X10_nearest 35 [vR 80, vI x1, vI x2, vI x3, vI 0] [] s10 (PI K)) (fun s11 => K (-900003) s11))) (fun s7 => K (-900002) s7))) (fun s3 => K (-900001) s3))) : TT m_X10_nearest 0 [vR 80, vI x1, vI x2, vI x3, vU] [] σ (PI K) := by
  refine TT_iload_n dX10_nearest_0 rfl ?_
  refine TT_callSZ (M' := m_X10_isThing) (as := [vI x1]) (rest := []) dX10_nearest_1 mo_X10_isThing ml_X10_79 sm_X10_isThing (Nat.le_of_ble_eq_true rfl) (Nat.le_of_ble_eq_true rfl) ⟨rfl, rfl, rfl⟩ rfl rfl (Nat.le_of_ble_eq_true rfl) h (fun s2 h => ?_) (fun s3 h => ?_)
  · refine TT_if_ne (tgt := 10) dX10_nearest_4 rfl (by decide) (fun c4 => ?_) (fun c4 => absurd c4 (by decide))
    refine TT_iload_n dX10_nearest_10 rfl ?_
    refine TT_callSZ (M' := m_X10_isMinute) (as := [vI x2]) (rest := []) dX10_nearest_11 mo_X10_isMinute ml_X10_84 sm_X10_isMinute (Nat.le_of_ble_eq_true rfl) (Nat.le_of_ble_eq_true rfl) ⟨rfl, rfl, rfl⟩ rfl rfl (Nat.le_of_ble_eq_true rfl) h (fun s6 h => ?_) (fun s7 h => ?_)
    · refine TT_if_ne (tgt := 20) dX10_nearest_14 rfl (by decide) (fun c8 => ?_) (fun c8 => absurd c8 (by decide))
      refine TT_aload_n dX10_nearest_20 rfl ?_
      refine TT_iload_n dX10_nearest_21 rfl ?_
      refine TT_iload_n dX10_nearest_22 rfl ?_
      refine TT_callVZ (M' := m_X10_find) (as := [vI x1, vI x2]) (rest := []) dX10_nearest_23 mo_X10_find ml_X10_130 im_X10_find se_X10_find (Nat.le_of_ble_eq_true rfl) (Nat.le_of_ble_eq_true rfl) ⟨rfl, rfl, rfl⟩ rfl rfl (Nat.le_of_ble_eq_true rfl) (by decide) rfl rfl (by decide) h (fun s10 h => ?_) (fun s11 h => ?_)
      · refine TT_if_ne (tgt := 32) dX10_nearest_26 rfl (by decide) (fun c12 => ?_) (fun c12 => absurd c12 (by decide))
        refine TT_iconst dX10_nearest_32 ?_
        refine TT_istore dX10_nearest_33 (Nat.le_of_ble_eq_true rfl) rfl rfl ?_
        exact h
      · refine TT_if_ne (tgt := 32) dX10_nearest_26 rfl (by decide) (fun c13 => absurd c13 (by decide)) (fun c13 => ?_)
        refine TT_ldc dX10_nearest_29 kc_X10_137 (x := (-900003)) rfl ?_
        exact TT_iret dX10_nearest_31 rfl rfl h
    · refine TT_if_ne (tgt := 20) dX10_nearest_14 rfl (by decide) (fun c14 => absurd c14 (by decide)) (fun c14 => ?_)
      refine TT_ldc dX10_nearest_17 kc_X10_89 (x := (-900002)) rfl ?_
      exact TT_iret dX10_nearest_19 rfl rfl h
  · refine TT_if_ne (tgt := 10) dX10_nearest_4 rfl (by decide) (fun c15 => absurd c15 (by decide)) (fun c15 => ?_)
    refine TT_ldc dX10_nearest_7 kc_X10_83 (x := (-900001)) rfl ?_
    exact TT_iret dX10_nearest_9 rfl rfl h
theorem e_X10_nearest (x1 : Int) (x2 : Int) (x3 : Int) {σ : Mem} {K : Int → Mem → Prop} (h : CC m_X10_isThing [vI x1] σ (PZ (fun s2 => CC m_X10_isMinute [vI x2] s2 (PZ (fun s6 => CC m_X10_find [vR 80, vI x1, vI x2] s6 (PZ (fun s10 => TT m_X10_nearest 35 [vR 80, vI x1, vI x2, vI x3, vI 0] [] s10 (PI K)) (fun s11 => K (-900003) s11))) (fun s7 => K (-900002) s7))) (fun s3 => K (-900001) s3))) : CC m_X10_nearest [vR 80, vI x1, vI x2, vI x3] σ (PI K) := CC_of (by decide) rfl rfl rfl (Nat.le_of_ble_eq_true rfl) (w_X10_nearest_0 x1 x2 x3 h)
set_option maxRecDepth 4000 in
theorem w_X10_nearest_35 (x1 : Int) (x2 : Int) (x3 : Int) (x4 : Int) {σ : Mem} {K : Int → Mem → Prop} (h : R32 x4 ∧ ((10 ≤ x4 → K (-900009) σ) ∧ (¬ 10 ≤ x4 → R32 x1 ∧ ((x4 = x1 → TT m_X10_nearest 35 [vR 80, vI x1, vI x2, vI x3, vI (x4 + 1)] [] σ (PI K)) ∧ (¬ x4 = x1 → CC m_X10_find [vR 80, vI x4, vI x2] σ (PZ (fun s21 => CC m_X10_placeOf [vR 80, vI x1, vI x4, vI x2] s21 (PI (fun y24 s25 => R32 y24 ∧ R32 x3 ∧ ((¬ y24 = x3 → TT m_X10_nearest 35 [vR 80, vI x1, vI x2, vI x3, vI (x4 + 1)] [] s25 (PI K)) ∧ (y24 = x3 → K x4 s25))))) (fun s22 => TT m_X10_nearest 35 [vR 80, vI x1, vI x2, vI x3, vI (x4 + 1)] [] s22 (PI K)))))))) : TT m_X10_nearest 35 [vR 80, vI x1, vI x2, vI x3, vI x4] [] σ (PI K) := by
  refine TT_iload dX10_nearest_35 rfl ?_
  refine TT_bipush dX10_nearest_37 (by decide) ?_
  obtain ⟨o16, h⟩ := h
  refine TT_icmp_ge (tgt := 79) dX10_nearest_39 rfl o16 (by decide) (fun c17 => ?_) (fun c17 => ?_)
  · replace h := h.1 c17
    refine TT_ldc dX10_nearest_79 kc_X10_149 (x := (-900009)) rfl ?_
    exact TT_iret dX10_nearest_81 rfl rfl h
  · replace h := h.2 c17
    refine TT_iload dX10_nearest_42 rfl ?_
    refine TT_iload_n dX10_nearest_44 rfl ?_
    obtain ⟨o18, h⟩ := h
    refine TT_icmp_eq (tgt := 73) dX10_nearest_45 rfl o16 o18 (fun c19 => ?_) (fun c19 => ?_)
    · replace h := h.1 c19
      refine TT_iinc dX10_nearest_73 (Nat.le_of_ble_eq_true rfl) rfl rfl rfl ?_
      refine TT_goto (tgt := 35) dX10_nearest_76 rfl ?_
      exact h
    · replace h := h.2 c19
      refine TT_aload_n dX10_nearest_48 rfl ?_
      refine TT_iload dX10_nearest_49 rfl ?_
      refine TT_iload_n dX10_nearest_51 rfl ?_
      refine TT_callVZ (M' := m_X10_find) (as := [vI x4, vI x2]) (rest := []) dX10_nearest_52 mo_X10_find ml_X10_130 im_X10_find se_X10_find (Nat.le_of_ble_eq_true rfl) (Nat.le_of_ble_eq_true rfl) ⟨rfl, rfl, rfl⟩ rfl rfl (Nat.le_of_ble_eq_true rfl) (by decide) rfl rfl (by decide) h (fun s21 h => ?_) (fun s22 h => ?_)
      · refine TT_if_eq (tgt := 73) dX10_nearest_55 rfl (by decide) (fun c23 => absurd c23 (by decide)) (fun c23 => ?_)
        refine TT_aload_n dX10_nearest_58 rfl ?_
        refine TT_iload_n dX10_nearest_59 rfl ?_
        refine TT_iload dX10_nearest_60 rfl ?_
        refine TT_iload_n dX10_nearest_62 rfl ?_
        refine TT_callVI (M' := m_X10_placeOf) (as := [vI x1, vI x4, vI x2]) (rest := []) dX10_nearest_63 mo_X10_placeOf ml_X10_183 im_X10_placeOf se_X10_placeOf (Nat.le_of_ble_eq_true rfl) (Nat.le_of_ble_eq_true rfl) ⟨rfl, rfl, rfl⟩ rfl rfl (Nat.le_of_ble_eq_true rfl) (by decide) rfl rfl (by decide) h (fun y24 s25 h => ?_)
        refine TT_iload_n dX10_nearest_66 rfl ?_
        obtain ⟨o26, h⟩ := h
        obtain ⟨o27, h⟩ := h
        refine TT_icmp_ne (tgt := 73) dX10_nearest_67 rfl o26 o27 (fun c28 => ?_) (fun c28 => ?_)
        · replace h := h.1 c28
          refine TT_iinc dX10_nearest_73 (Nat.le_of_ble_eq_true rfl) rfl rfl rfl ?_
          refine TT_goto (tgt := 35) dX10_nearest_76 rfl ?_
          exact h
        · replace h := h.2 c28
          refine TT_iload dX10_nearest_70 rfl ?_
          exact TT_iret dX10_nearest_72 rfl rfl h
      · refine TT_if_eq (tgt := 73) dX10_nearest_55 rfl (by decide) (fun c29 => ?_) (fun c29 => absurd c29 (by decide))
        refine TT_iinc dX10_nearest_73 (Nat.le_of_ble_eq_true rfl) rfl rfl rfl ?_
        refine TT_goto (tgt := 35) dX10_nearest_76 rfl ?_
        exact h
set_option maxRecDepth 4000 in
theorem w_X10_layMeetings_0 (x1 : Int) (x2 : Int) (x3 : Int) {σ : Mem} {K : Mem → Prop} (h : CC m_X10_beginRuns [vR 80] σ (PN (fun s2 => TT m_X10_layMeetings 7 [vR 80, vI x1, vI x2, vI x3, vI 0, vU] [] s2 (PN K)))) : TT m_X10_layMeetings 0 [vR 80, vI x1, vI x2, vI x3, vU, vU] [] σ (PN K) := by
  refine TT_aload_n dX10_layMeetings_0 rfl ?_
  refine TT_callVN (M' := m_X10_beginRuns) (as := []) (rest := []) dX10_layMeetings_1 mo_X10_beginRuns ml_X10_156 im_X10_beginRuns se_X10_beginRuns (Nat.le_of_ble_eq_true rfl) (Nat.le_of_ble_eq_true rfl) ⟨rfl, rfl, rfl⟩ rfl rfl (Nat.le_of_ble_eq_true rfl) (by decide) rfl rfl (by decide) h (fun s2 h => ?_)
  refine TT_iconst dX10_layMeetings_4 ?_
  refine TT_istore dX10_layMeetings_5 (Nat.le_of_ble_eq_true rfl) rfl rfl ?_
  exact h
theorem e_X10_layMeetings (x1 : Int) (x2 : Int) (x3 : Int) {σ : Mem} {K : Mem → Prop} (h : CC m_X10_beginRuns [vR 80] σ (PN (fun s2 => TT m_X10_layMeetings 7 [vR 80, vI x1, vI x2, vI x3, vI 0, vU] [] s2 (PN K)))) : CC m_X10_layMeetings [vR 80, vI x1, vI x2, vI x3] σ (PN K) := CC_of (by decide) rfl rfl rfl (Nat.le_of_ble_eq_true rfl) (w_X10_layMeetings_0 x1 x2 x3 h)
set_option maxRecDepth 4000 in
theorem w_X10_layMeetings_7 (x1 : Int) (x2 : Int) (x3 : Int) (x4 : Int) {σ : Mem} {K : Mem → Prop} (h : R32 x4 ∧ ((200 ≤ x4 → K σ) ∧ (¬ 200 ≤ x4 → CC m_X10_layFar [vR 80, vI x1, vI x2, vI x4] σ (PZ (fun s6 => R32 x3 ∧ R64 (s6 80 13) ∧ R64 ((x3 * x3) * (s6 80 14)) ∧ CC m_X10_meet [vR 80, vI x4, vI (if ((x3 * x3) * (s6 80 14)) < (s6 80 13) then 0 else 1 : Int)] s6 (PN (fun s15 => TT m_X10_layMeetings 7 [vR 80, vI x1, vI x2, vI x3, vI (x4 + 1), vU] [] s15 (PN K)))) (fun s7 => CC m_X10_meet [vR 80, vI x4, vI 0] s7 (PN (fun s18 => TT m_X10_layMeetings 7 [vR 80, vI x1, vI x2, vI x3, vI (x4 + 1), vU] [] s18 (PN K)))))))) : TT m_X10_layMeetings 7 [vR 80, vI x1, vI x2, vI x3, vI x4, vU] [] σ (PN K) := by
  refine TT_iload dX10_layMeetings_7 rfl ?_
  refine TT_sipush dX10_layMeetings_9 (by decide) ?_
  obtain ⟨o3, h⟩ := h
  refine TT_icmp_ge (tgt := 65) dX10_layMeetings_12 rfl o3 (by decide) (fun c4 => ?_) (fun c4 => ?_)
  · replace h := h.1 c4
    exact TT_vret dX10_layMeetings_65 rfl rfl h
  · replace h := h.2 c4
    refine TT_aload_n dX10_layMeetings_15 rfl ?_
    refine TT_iload_n dX10_layMeetings_16 rfl ?_
    refine TT_iload_n dX10_layMeetings_17 rfl ?_
    refine TT_iload dX10_layMeetings_18 rfl ?_
    refine TT_callVZ (M' := m_X10_layFar) (as := [vI x1, vI x2, vI x4]) (rest := []) dX10_layMeetings_20 mo_X10_layFar ml_X10_177 im_X10_layFar se_X10_layFar (Nat.le_of_ble_eq_true rfl) (Nat.le_of_ble_eq_true rfl) ⟨rfl, rfl, rfl⟩ rfl rfl (Nat.le_of_ble_eq_true rfl) (by decide) rfl rfl (by decide) h (fun s6 h => ?_) (fun s7 h => ?_)
    · refine TT_istore dX10_layMeetings_23 (Nat.le_of_ble_eq_true rfl) rfl rfl ?_
      refine TT_aload_n dX10_layMeetings_25 rfl ?_
      refine TT_iload dX10_layMeetings_26 rfl ?_
      refine TT_iload dX10_layMeetings_28 rfl ?_
      refine TT_if_eq (tgt := 55) dX10_layMeetings_30 rfl (by decide) (fun c8 => absurd c8 (by decide)) (fun c8 => ?_)
      refine TT_aload_n dX10_layMeetings_33 rfl ?_
      refine TT_getJ dX10_layMeetings_34 fd_X10_167 (by decide) rfl (by decide) rfl ?_
      refine TT_iload_n dX10_layMeetings_37 rfl ?_
      obtain ⟨o9, h⟩ := h
      refine TT_i2l dX10_layMeetings_38 o9 ?_
      refine TT_iload_n dX10_layMeetings_39 rfl ?_
      refine TT_i2l dX10_layMeetings_40 o9 ?_
      refine TT_lmul dX10_layMeetings_41 ?_
      refine TT_aload_n dX10_layMeetings_42 rfl ?_
      refine TT_getJ dX10_layMeetings_43 fd_X10_170 (by decide) rfl (by decide) rfl ?_
      refine TT_lmul dX10_layMeetings_46 ?_
      obtain ⟨o10, h⟩ := h
      obtain ⟨o11, h⟩ := h
      have j13 : TT m_X10_layMeetings 56 [vR 80, vI x1, vI x2, vI x3, vI x4, vI 1] [vI (if ((x3 * x3) * (s6 80 14)) < (s6 80 13) then 0 else 1 : Int), vI x4, vR 80] s6 (PN K) := by
        refine TT_callVN (M' := m_X10_meet) (as := [vI x4, vI (if ((x3 * x3) * (s6 80 14)) < (s6 80 13) then 0 else 1 : Int)]) (rest := []) dX10_layMeetings_56 mo_X10_meet ml_X10_159 im_X10_meet se_X10_meet (Nat.le_of_ble_eq_true rfl) (Nat.le_of_ble_eq_true rfl) ⟨rfl, rfl, rfl⟩ rfl rfl (Nat.le_of_ble_eq_true rfl) (by decide) rfl rfl (by decide) h (fun s15 h => ?_)
        refine TT_iinc dX10_layMeetings_59 (Nat.le_of_ble_eq_true rfl) rfl rfl rfl ?_
        refine TT_goto (tgt := 7) dX10_layMeetings_62 rfl ?_
        refine TT_kill 5 rfl ?_
        exact h
      refine TT_lc_gt (tgt := 55) dX10_layMeetings_47 dX10_layMeetings_48 rfl o10 o11 (fun c12 => ?_) (fun c12 => ?_)
      · refine TT_iconst dX10_layMeetings_55 ?_
        exact TT.cast j13 (by first | rfl | (simp only [if_pos c12] <;> rfl)) (by first | rfl | (simp only [if_pos c12] <;> rfl))
      · refine TT_iconst dX10_layMeetings_51 ?_
        refine TT_goto (tgt := 56) dX10_layMeetings_52 rfl ?_
        exact TT.cast j13 (by first | rfl | (simp only [if_neg c12] <;> rfl)) (by first | rfl | (simp only [if_neg c12] <;> rfl))
    · refine TT_istore dX10_layMeetings_23 (Nat.le_of_ble_eq_true rfl) rfl rfl ?_
      refine TT_aload_n dX10_layMeetings_25 rfl ?_
      refine TT_iload dX10_layMeetings_26 rfl ?_
      refine TT_iload dX10_layMeetings_28 rfl ?_
      refine TT_if_eq (tgt := 55) dX10_layMeetings_30 rfl (by decide) (fun c16 => ?_) (fun c16 => absurd c16 (by decide))
      refine TT_iconst dX10_layMeetings_55 ?_
      refine TT_callVN (M' := m_X10_meet) (as := [vI x4, vI 0]) (rest := []) dX10_layMeetings_56 mo_X10_meet ml_X10_159 im_X10_meet se_X10_meet (Nat.le_of_ble_eq_true rfl) (Nat.le_of_ble_eq_true rfl) ⟨rfl, rfl, rfl⟩ rfl rfl (Nat.le_of_ble_eq_true rfl) (by decide) rfl rfl (by decide) h (fun s18 h => ?_)
      refine TT_iinc dX10_layMeetings_59 (Nat.le_of_ble_eq_true rfl) rfl rfl rfl ?_
      refine TT_goto (tgt := 7) dX10_layMeetings_62 rfl ?_
      refine TT_kill 5 rfl ?_
      exact h
set_option maxRecDepth 4000 in
theorem w_X10_mayMeet_0 (x1 : Int) (x2 : Int) (x3 : Int) {σ : Mem} {K : Int → Mem → Prop} (h : CC m_X10_isThing [vI x1] σ (PZ (fun s2 => CC m_X10_isThing [vI x2] s2 (PZ (fun s6 => R32 x3 ∧ CC m_X10_in [vL x3, vL 0, vL 200] s6 (PZ (fun s11 => R32 x1 ∧ R32 x2 ∧ K (if ¬ x1 = x2 then 0 else (-900003) : Int) s11) (fun s12 => K (-900002) s12))) (fun s7 => K (-900001) s7))) (fun s3 => K (-900001) s3))) : TT m_X10_mayMeet 0 [vR 80, vI x1, vI x2, vI x3] [] σ (PI K) := by
  refine TT_iload_n dX10_mayMeet_0 rfl ?_
  refine TT_callSZ (M' := m_X10_isThing) (as := [vI x1]) (rest := []) dX10_mayMeet_1 mo_X10_isThing ml_X10_79 sm_X10_isThing (Nat.le_of_ble_eq_true rfl) (Nat.le_of_ble_eq_true rfl) ⟨rfl, rfl, rfl⟩ rfl rfl (Nat.le_of_ble_eq_true rfl) h (fun s2 h => ?_) (fun s3 h => ?_)
  · refine TT_if_eq (tgt := 14) dX10_mayMeet_4 rfl (by decide) (fun c4 => absurd c4 (by decide)) (fun c4 => ?_)
    refine TT_iload_n dX10_mayMeet_7 rfl ?_
    refine TT_callSZ (M' := m_X10_isThing) (as := [vI x2]) (rest := []) dX10_mayMeet_8 mo_X10_isThing ml_X10_79 sm_X10_isThing (Nat.le_of_ble_eq_true rfl) (Nat.le_of_ble_eq_true rfl) ⟨rfl, rfl, rfl⟩ rfl rfl (Nat.le_of_ble_eq_true rfl) h (fun s6 h => ?_) (fun s7 h => ?_)
    · refine TT_if_ne (tgt := 17) dX10_mayMeet_11 rfl (by decide) (fun c8 => ?_) (fun c8 => absurd c8 (by decide))
      refine TT_iload_n dX10_mayMeet_17 rfl ?_
      obtain ⟨o9, h⟩ := h
      refine TT_i2l dX10_mayMeet_18 o9 ?_
      refine TT_lconst dX10_mayMeet_19 (x := 0) rfl ?_
      refine TT_ldc2 dX10_mayMeet_20 kl_X10_187 (x := 200) rfl ?_
      refine TT_callSZ (M' := m_X10_in) (as := [vL x3, vL 0, vL 200]) (rest := []) dX10_mayMeet_23 mo_X10_in ml_X10_73 sm_X10_in (Nat.le_of_ble_eq_true rfl) (Nat.le_of_ble_eq_true rfl) ⟨rfl, rfl, rfl⟩ rfl rfl (Nat.le_of_ble_eq_true rfl) h (fun s11 h => ?_) (fun s12 h => ?_)
      · refine TT_if_ne (tgt := 34) dX10_mayMeet_26 rfl (by decide) (fun c13 => ?_) (fun c13 => absurd c13 (by decide))
        refine TT_iload_n dX10_mayMeet_34 rfl ?_
        refine TT_iload_n dX10_mayMeet_35 rfl ?_
        obtain ⟨o14, h⟩ := h
        obtain ⟨o15, h⟩ := h
        have j17 : TT m_X10_mayMeet 45 [vR 80, vI x1, vI x2, vI x3] [vI (if ¬ x1 = x2 then 0 else (-900003) : Int)] s11 (PI K) := by
          exact TT_iret dX10_mayMeet_45 rfl rfl h
        refine TT_icmp_ne (tgt := 44) dX10_mayMeet_36 rfl o14 o15 (fun c16 => ?_) (fun c16 => ?_)
        · refine TT_iconst dX10_mayMeet_44 ?_
          exact TT.cast j17 (by first | rfl | (simp only [if_pos c16] <;> rfl)) (by first | rfl | (simp only [if_pos c16] <;> rfl))
        · refine TT_ldc dX10_mayMeet_39 kc_X10_137 (x := (-900003)) rfl ?_
          refine TT_goto (tgt := 45) dX10_mayMeet_41 rfl ?_
          exact TT.cast j17 (by first | rfl | (simp only [if_neg (not_not_intro c16)] <;> rfl)) (by first | rfl | (simp only [if_neg (not_not_intro c16)] <;> rfl))
      · refine TT_if_ne (tgt := 34) dX10_mayMeet_26 rfl (by decide) (fun c18 => absurd c18 (by decide)) (fun c18 => ?_)
        refine TT_ldc dX10_mayMeet_29 kc_X10_89 (x := (-900002)) rfl ?_
        refine TT_goto (tgt := 45) dX10_mayMeet_31 rfl ?_
        exact TT_iret dX10_mayMeet_45 rfl rfl h
    · refine TT_if_ne (tgt := 17) dX10_mayMeet_11 rfl (by decide) (fun c19 => absurd c19 (by decide)) (fun c19 => ?_)
      refine TT_ldc dX10_mayMeet_14 kc_X10_83 (x := (-900001)) rfl ?_
      exact TT_iret dX10_mayMeet_16 rfl rfl h
  · refine TT_if_eq (tgt := 14) dX10_mayMeet_4 rfl (by decide) (fun c20 => ?_) (fun c20 => absurd c20 (by decide))
    refine TT_ldc dX10_mayMeet_14 kc_X10_83 (x := (-900001)) rfl ?_
    exact TT_iret dX10_mayMeet_16 rfl rfl h
theorem e_X10_mayMeet (x1 : Int) (x2 : Int) (x3 : Int) {σ : Mem} {K : Int → Mem → Prop} (h : CC m_X10_isThing [vI x1] σ (PZ (fun s2 => CC m_X10_isThing [vI x2] s2 (PZ (fun s6 => R32 x3 ∧ CC m_X10_in [vL x3, vL 0, vL 200] s6 (PZ (fun s11 => R32 x1 ∧ R32 x2 ∧ K (if ¬ x1 = x2 then 0 else (-900003) : Int) s11) (fun s12 => K (-900002) s12))) (fun s7 => K (-900001) s7))) (fun s3 => K (-900001) s3))) : CC m_X10_mayMeet [vR 80, vI x1, vI x2, vI x3] σ (PI K) := CC_of (by decide) rfl rfl rfl (Nat.le_of_ble_eq_true rfl) (w_X10_mayMeet_0 x1 x2 x3 h)
set_option maxRecDepth 4000 in
theorem w_X10_meetings_0 (x1 : Int) (x2 : Int) (x3 : Int) {σ : Mem} {K : Int → Mem → Prop} (h : CC m_X10_mayMeet [vR 80, vI x1, vI x2, vI x3] σ (PI (fun y1 s2 => R32 y1 ∧ ((0 ≤ y1 → CC m_X10_layMeetings [vR 80, vI x1, vI x2, vI x3] s2 (PN (fun s6 => K (s6 80 9) s6))) ∧ (¬ 0 ≤ y1 → K y1 s2))))) : TT m_X10_meetings 0 [vR 80, vI x1, vI x2, vI x3, vU] [] σ (PI K) := by
  refine TT_aload_n dX10_meetings_0 rfl ?_
  refine TT_iload_n dX10_meetings_1 rfl ?_
  refine TT_iload_n dX10_meetings_2 rfl ?_
  refine TT_iload_n dX10_meetings_3 rfl ?_
  refine TT_callVI (M' := m_X10_mayMeet) (as := [vI x1, vI x2, vI x3]) (rest := []) dX10_meetings_4 mo_X10_mayMeet ml_X10_189 im_X10_mayMeet se_X10_mayMeet (Nat.le_of_ble_eq_true rfl) (Nat.le_of_ble_eq_true rfl) ⟨rfl, rfl, rfl⟩ rfl rfl (Nat.le_of_ble_eq_true rfl) (by decide) rfl rfl (by decide) h (fun y1 s2 h => ?_)
  refine TT_istore dX10_meetings_7 (Nat.le_of_ble_eq_true rfl) rfl rfl ?_
  refine TT_iload dX10_meetings_9 rfl ?_
  obtain ⟨o3, h⟩ := h
  refine TT_if_ge (tgt := 17) dX10_meetings_11 rfl o3 (fun c4 => ?_) (fun c4 => ?_)
  · replace h := h.1 c4
    refine TT_aload_n dX10_meetings_17 rfl ?_
    refine TT_iload_n dX10_meetings_18 rfl ?_
    refine TT_iload_n dX10_meetings_19 rfl ?_
    refine TT_iload_n dX10_meetings_20 rfl ?_
    refine TT_callVN (M' := m_X10_layMeetings) (as := [vI x1, vI x2, vI x3]) (rest := []) dX10_meetings_21 mo_X10_layMeetings ml_X10_192 im_X10_layMeetings se_X10_layMeetings (Nat.le_of_ble_eq_true rfl) (Nat.le_of_ble_eq_true rfl) ⟨rfl, rfl, rfl⟩ rfl rfl (Nat.le_of_ble_eq_true rfl) (by decide) rfl rfl (by decide) h (fun s6 h => ?_)
    refine TT_aload_n dX10_meetings_24 rfl ?_
    refine TT_getI dX10_meetings_25 fd_X10_150 (by decide) (Or.inl rfl) (by decide) rfl ?_
    exact TT_iret dX10_meetings_28 rfl rfl h
  · replace h := h.2 c4
    refine TT_iload dX10_meetings_14 rfl ?_
    exact TT_iret dX10_meetings_16 rfl rfl h
theorem e_X10_meetings (x1 : Int) (x2 : Int) (x3 : Int) {σ : Mem} {K : Int → Mem → Prop} (h : CC m_X10_mayMeet [vR 80, vI x1, vI x2, vI x3] σ (PI (fun y1 s2 => R32 y1 ∧ ((0 ≤ y1 → CC m_X10_layMeetings [vR 80, vI x1, vI x2, vI x3] s2 (PN (fun s6 => K (s6 80 9) s6))) ∧ (¬ 0 ≤ y1 → K y1 s2))))) : CC m_X10_meetings [vR 80, vI x1, vI x2, vI x3] σ (PI K) := CC_of (by decide) rfl rfl rfl (Nat.le_of_ble_eq_true rfl) (w_X10_meetings_0 x1 x2 x3 h)
set_option maxRecDepth 4000 in
theorem w_X10_longest_0 (x1 : Int) (x2 : Int) (x3 : Int) (x4 : Int) {σ : Mem} {K : Int → Mem → Prop} (h : CC m_X10_mayMeet [vR 80, vI x1, vI x2, vI x3] σ (PI (fun y1 s2 => R32 y1 ∧ ((0 ≤ y1 → CC m_X10_layMeetings [vR 80, vI x1, vI x2, vI x3] s2 (PN (fun s6 => TT m_X10_longest 34 [vR 80, vU, vU, vU, vI x4, vU, vI (-900009), vI 0, vI 0, vU] [] s6 (PI K)))) ∧ (¬ 0 ≤ y1 → K y1 s2))))) : TT m_X10_longest 0 [vR 80, vI x1, vI x2, vI x3, vI x4, vU, vU, vU, vU, vU] [] σ (PI K) := by
  refine TT_aload_n dX10_longest_0 rfl ?_
  refine TT_iload_n dX10_longest_1 rfl ?_
  refine TT_iload_n dX10_longest_2 rfl ?_
  refine TT_iload_n dX10_longest_3 rfl ?_
  refine TT_callVI (M' := m_X10_mayMeet) (as := [vI x1, vI x2, vI x3]) (rest := []) dX10_longest_4 mo_X10_mayMeet ml_X10_189 im_X10_mayMeet se_X10_mayMeet (Nat.le_of_ble_eq_true rfl) (Nat.le_of_ble_eq_true rfl) ⟨rfl, rfl, rfl⟩ rfl rfl (Nat.le_of_ble_eq_true rfl) (by decide) rfl rfl (by decide) h (fun y1 s2 h => ?_)
  refine TT_istore dX10_longest_7 (Nat.le_of_ble_eq_true rfl) rfl rfl ?_
  refine TT_iload dX10_longest_9 rfl ?_
  obtain ⟨o3, h⟩ := h
  refine TT_if_ge (tgt := 17) dX10_longest_11 rfl o3 (fun c4 => ?_) (fun c4 => ?_)
  · replace h := h.1 c4
    refine TT_aload_n dX10_longest_17 rfl ?_
    refine TT_iload_n dX10_longest_18 rfl ?_
    refine TT_iload_n dX10_longest_19 rfl ?_
    refine TT_iload_n dX10_longest_20 rfl ?_
    refine TT_callVN (M' := m_X10_layMeetings) (as := [vI x1, vI x2, vI x3]) (rest := []) dX10_longest_21 mo_X10_layMeetings ml_X10_192 im_X10_layMeetings se_X10_layMeetings (Nat.le_of_ble_eq_true rfl) (Nat.le_of_ble_eq_true rfl) ⟨rfl, rfl, rfl⟩ rfl rfl (Nat.le_of_ble_eq_true rfl) (by decide) rfl rfl (by decide) h (fun s6 h => ?_)
    refine TT_ldc dX10_longest_24 kc_X10_149 (x := (-900009)) rfl ?_
    refine TT_istore dX10_longest_26 (Nat.le_of_ble_eq_true rfl) rfl rfl ?_
    refine TT_iconst dX10_longest_28 ?_
    refine TT_istore dX10_longest_29 (Nat.le_of_ble_eq_true rfl) rfl rfl ?_
    refine TT_iconst dX10_longest_31 ?_
    refine TT_istore dX10_longest_32 (Nat.le_of_ble_eq_true rfl) rfl rfl ?_
    refine TT_kill 1 rfl ?_
    refine TT_kill 2 rfl ?_
    refine TT_kill 3 rfl ?_
    refine TT_kill 5 rfl ?_
    exact h
  · replace h := h.2 c4
    refine TT_iload dX10_longest_14 rfl ?_
    exact TT_iret dX10_longest_16 rfl rfl h
theorem e_X10_longest (x1 : Int) (x2 : Int) (x3 : Int) (x4 : Int) {σ : Mem} {K : Int → Mem → Prop} (h : CC m_X10_mayMeet [vR 80, vI x1, vI x2, vI x3] σ (PI (fun y1 s2 => R32 y1 ∧ ((0 ≤ y1 → CC m_X10_layMeetings [vR 80, vI x1, vI x2, vI x3] s2 (PN (fun s6 => TT m_X10_longest 34 [vR 80, vU, vU, vU, vI x4, vU, vI (-900009), vI 0, vI 0, vU] [] s6 (PI K)))) ∧ (¬ 0 ≤ y1 → K y1 s2))))) : CC m_X10_longest [vR 80, vI x1, vI x2, vI x3, vI x4] σ (PI K) := CC_of (by decide) rfl rfl rfl (Nat.le_of_ble_eq_true rfl) (w_X10_longest_0 x1 x2 x3 x4 h)
set_option maxRecDepth 4000 in
theorem w_X10_longest_34 (x4 : Int) (x6 : Int) (x7 : Int) (x8 : Int) {σ : Mem} {K : Int → Mem → Prop} (h : R32 x8 ∧ R32 (σ 80 9) ∧ (((σ 80 9) ≤ x8 → R32 x6 ∧ (¬ x6 = (-900009) → R32 x4 ∧ (x4 = 0 → (0 ≤ x6 ∧ x6 < 200))) ∧ K (if ¬ x6 = (-900009) then (if x4 = 0 then (σ 86 (x6).toNat) else x7 : Int) else (-900009) : Int) σ) ∧ (¬ (σ 80 9) ≤ x8 → (0 ≤ x8 ∧ x8 < 200) ∧ (∀ v20 : Int, v20 = (((σ 87 (x8).toNat) - (σ 86 (x8).toNat)) + 1) → R32 v20 ∧ R32 x7 ∧ (∀ v26 : Int, v26 = (if v20 ≤ x7 then x6 else x8 : Int) → (∀ v30 : Int, v30 = (if v20 ≤ x7 then x7 else v20 : Int) → TT m_X10_longest 34 [vR 80, vU, vU, vU, vI x4, vU, vI v26, vI v30, vI (x8 + 1), vU] [] σ (PI K))))))) : TT m_X10_longest 34 [vR 80, vU, vU, vU, vI x4, vU, vI x6, vI x7, vI x8, vU] [] σ (PI K) := by
  refine TT_iload dX10_longest_34 rfl ?_
  refine TT_aload_n dX10_longest_36 rfl ?_
  refine TT_getI dX10_longest_37 fd_X10_150 (by decide) (Or.inl rfl) (by decide) rfl ?_
  obtain ⟨o7, h⟩ := h
  obtain ⟨o8, h⟩ := h
  refine TT_icmp_ge (tgt := 100) dX10_longest_40 rfl o7 o8 (fun c9 => ?_) (fun c9 => ?_)
  · replace h := h.1 c9
    refine TT_iload dX10_longest_100 rfl ?_
    refine TT_ldc dX10_longest_102 kc_X10_149 (x := (-900009)) rfl ?_
    obtain ⟨o10, h⟩ := h
    obtain ⟨o18, h⟩ := h
    have j17 : TT m_X10_longest 129 [vR 80, vU, vU, vU, vI x4, vU, vI x6, vI x7, vI x8, vU] [vI (if ¬ x6 = (-900009) then (if x4 = 0 then (σ 86 (x6).toNat) else x7 : Int) else (-900009) : Int)] σ (PI K) := by
      exact TT_iret dX10_longest_129 rfl rfl h
    refine TT_icmp_ne (tgt := 112) dX10_longest_104 rfl o10 (by decide) (fun c11 => ?_) (fun c11 => ?_)
    · have h := o18 c11
      refine TT_iload dX10_longest_112 rfl ?_
      obtain ⟨o12, h⟩ := h
      have o16 := h
      have j15 : TT m_X10_longest 129 [vR 80, vU, vU, vU, vI x4, vU, vI x6, vI x7, vI x8, vU] [vI (if x4 = 0 then (σ 86 (x6).toNat) else x7 : Int)] σ (PI K) := by
        exact TT.cast j17 (by first | rfl | (simp only [if_pos c11] <;> rfl)) (by first | rfl | (simp only [if_pos c11] <;> rfl))
      refine TT_if_eq (tgt := 122) dX10_longest_114 rfl o12 (fun c13 => ?_) (fun c13 => ?_)
      · have h := o16 c13
        refine TT_aload_n dX10_longest_122 rfl ?_
        refine TT_getR (r := 86) dX10_longest_123 fd_X10_25 (by decide) rfl (by decide) rfl rfl ?_
        refine TT_iload dX10_longest_126 rfl ?_
        have o14 := h
        refine TT_iald dX10_longest_128 (by decide) rfl (by decide) o14 ?_
        exact TT.cast j15 (by first | rfl | (simp only [if_pos c13] <;> rfl)) (by first | rfl | (simp only [if_pos c13] <;> rfl))
      · refine TT_iload dX10_longest_117 rfl ?_
        refine TT_goto (tgt := 129) dX10_longest_119 rfl ?_
        exact TT.cast j15 (by first | rfl | (simp only [if_neg c13] <;> rfl)) (by first | rfl | (simp only [if_neg c13] <;> rfl))
    · refine TT_ldc dX10_longest_107 kc_X10_149 (x := (-900009)) rfl ?_
      refine TT_goto (tgt := 129) dX10_longest_109 rfl ?_
      exact TT.cast j17 (by first | rfl | (simp only [if_neg (not_not_intro c11)] <;> rfl)) (by first | rfl | (simp only [if_neg (not_not_intro c11)] <;> rfl))
  · replace h := h.2 c9
    refine TT_aload_n dX10_longest_43 rfl ?_
    refine TT_getR (r := 87) dX10_longest_44 fd_X10_28 (by decide) rfl (by decide) rfl rfl ?_
    refine TT_iload dX10_longest_47 rfl ?_
    obtain ⟨o19, h⟩ := h
    refine TT_iald dX10_longest_49 (by decide) rfl (by decide) o19 ?_
    refine TT_aload_n dX10_longest_50 rfl ?_
    refine TT_getR (r := 86) dX10_longest_51 fd_X10_25 (by decide) rfl (by decide) rfl rfl ?_
    refine TT_iload dX10_longest_54 rfl ?_
    refine TT_iald dX10_longest_56 (by decide) rfl (by decide) o19 ?_
    refine TT_isub dX10_longest_57 ?_
    refine TT_iconst dX10_longest_58 ?_
    refine TT_iadd dX10_longest_59 ?_
    refine TT_nmI (fun v20 e21 => ?_)
    replace h := h v20 e21
    refine TT_istore dX10_longest_60 (Nat.le_of_ble_eq_true rfl) rfl rfl ?_
    refine TT_iload dX10_longest_62 rfl ?_
    refine TT_iload dX10_longest_64 rfl ?_
    obtain ⟨o22, h⟩ := h
    obtain ⟨o23, h⟩ := h
    have j25 : TT m_X10_longest 76 [vR 80, vU, vU, vU, vI x4, vU, vI x6, vI x7, vI x8, vI v20] [vI (if v20 ≤ x7 then x6 else x8 : Int)] σ (PI K) := by
      refine TT_nmI (fun v26 e27 => ?_)
      replace h := h v26 e27
      refine TT_istore dX10_longest_76 (Nat.le_of_ble_eq_true rfl) rfl rfl ?_
      refine TT_iload dX10_longest_78 rfl ?_
      refine TT_iload dX10_longest_80 rfl ?_
      have j29 : TT m_X10_longest 92 [vR 80, vU, vU, vU, vI x4, vU, vI v26, vI x7, vI x8, vI v20] [vI (if v20 ≤ x7 then x7 else v20 : Int)] σ (PI K) := by
        refine TT_nmI (fun v30 e31 => ?_)
        replace h := h v30 e31
        refine TT_istore dX10_longest_92 (Nat.le_of_ble_eq_true rfl) rfl rfl ?_
        refine TT_iinc dX10_longest_94 (Nat.le_of_ble_eq_true rfl) rfl rfl rfl ?_
        refine TT_goto (tgt := 34) dX10_longest_97 rfl ?_
        refine TT_kill 9 rfl ?_
        exact h
      refine TT_icmp_le (tgt := 90) dX10_longest_82 rfl o22 o23 (fun c28 => ?_) (fun c28 => ?_)
      · refine TT_iload dX10_longest_90 rfl ?_
        exact TT.cast j29 (by first | rfl | (simp only [if_pos c28] <;> rfl)) (by first | rfl | (simp only [if_pos c28] <;> rfl))
      · refine TT_iload dX10_longest_85 rfl ?_
        refine TT_goto (tgt := 92) dX10_longest_87 rfl ?_
        exact TT.cast j29 (by first | rfl | (simp only [if_neg c28] <;> rfl)) (by first | rfl | (simp only [if_neg c28] <;> rfl))
    refine TT_icmp_le (tgt := 74) dX10_longest_66 rfl o22 o23 (fun c24 => ?_) (fun c24 => ?_)
    · refine TT_iload dX10_longest_74 rfl ?_
      exact TT.cast j25 (by first | rfl | (simp only [if_pos c24] <;> rfl)) (by first | rfl | (simp only [if_pos c24] <;> rfl))
    · refine TT_iload dX10_longest_69 rfl ?_
      refine TT_goto (tgt := 76) dX10_longest_71 rfl ?_
      exact TT.cast j25 (by first | rfl | (simp only [if_neg c24] <;> rfl)) (by first | rfl | (simp only [if_neg c24] <;> rfl))
set_option maxRecDepth 4000 in
theorem w_X10_layLegs_0  {σ : Mem} {K : Mem → Prop} (h : (∀ s1 : Mem, s1 = up σ 80 15 0 → TT m_X10_layLegs 7 [vR 80, vI 0, vU, vU] [] s1 (PN K))) : TT m_X10_layLegs 0 [vR 80, vU, vU, vU] [] σ (PN K) := by
  refine TT_aload_n dX10_layLegs_0 rfl ?_
  refine TT_iconst dX10_layLegs_1 ?_
  refine TT_putI dX10_layLegs_2 fd_X10_195 (by decide) rfl (by decide) rfl ?_
  refine TT_nmM (fun s1 e2 => ?_)
  replace h := h s1 e2
  refine TT_iconst dX10_layLegs_5 ?_
  refine TT_istore_n dX10_layLegs_6 (Nat.le_of_ble_eq_true rfl) rfl rfl ?_
  exact h
theorem e_X10_layLegs  {σ : Mem} {K : Mem → Prop} (h : (∀ s1 : Mem, s1 = up σ 80 15 0 → TT m_X10_layLegs 7 [vR 80, vI 0, vU, vU] [] s1 (PN K))) : CC m_X10_layLegs [vR 80] σ (PN K) := CC_of (by decide) rfl rfl rfl (Nat.le_of_ble_eq_true rfl) (w_X10_layLegs_0  h)
set_option maxRecDepth 4000 in
theorem w_X10_layLegs_7 (x1 : Int) {σ : Mem} {K : Mem → Prop} (h : R32 x1 ∧ ((10 ≤ x1 → K σ) ∧ (¬ 10 ≤ x1 → TT m_X10_layLegs 15 [vR 80, vI x1, vI 1, vU] [] σ (PN K)))) : TT m_X10_layLegs 7 [vR 80, vI x1, vU, vU] [] σ (PN K) := by
  refine TT_iload_n dX10_layLegs_7 rfl ?_
  refine TT_bipush dX10_layLegs_8 (by decide) ?_
  obtain ⟨o3, h⟩ := h
  refine TT_icmp_ge (tgt := 120) dX10_layLegs_10 rfl o3 (by decide) (fun c4 => ?_) (fun c4 => ?_)
  · replace h := h.1 c4
    exact TT_vret dX10_layLegs_120 rfl rfl h
  · replace h := h.2 c4
    refine TT_iconst dX10_layLegs_13 ?_
    refine TT_istore_n dX10_layLegs_14 (Nat.le_of_ble_eq_true rfl) rfl rfl ?_
    exact h
set_option maxRecDepth 4000 in
theorem w_X10_layLegs_15 (x1 : Int) (x2 : Int) {σ : Mem} {K : Mem → Prop} (h : (0 ≤ x1 ∧ x1 < 10) ∧ R32 x2 ∧ R32 (σ 81 (x1).toNat) ∧ (((σ 81 (x1).toNat) ≤ x2 → TT m_X10_layLegs 7 [vR 80, vI (x1 + 1), vU, vU] [] σ (PN K)) ∧ (¬ (σ 81 (x1).toNat) ≤ x2 → CC m_X10_isLeg [vR 80, vI x1, vI x2] σ (PZ (fun s10 => (0 ≤ (((24 * x1) + x2) - 1) ∧ (((24 * x1) + x2) - 1) < 240) ∧ (0 ≤ ((24 * x1) + x2) ∧ ((24 * x1) + x2) < 240) ∧ CC m_X10_span [vR 80, vI 0, vI (s10 83 (((24 * x1) + x2) - 1).toNat), vI (s10 83 ((24 * x1) + x2).toNat)] s10 (PN (fun s16 => CC m_X10_span [vR 80, vI 2, vI (s16 84 (((24 * x1) + x2) - 1).toNat), vI (s16 84 ((24 * x1) + x2).toNat)] s16 (PN (fun s18 => CC m_X10_span [vR 80, vI 4, vI (s18 82 (((24 * x1) + x2) - 1).toNat), vI (s18 82 ((24 * x1) + x2).toNat)] s18 (PN (fun s20 => (∀ s21 : Mem, s21 = up s20 80 15 ((s20 80 15) + 1) → TT m_X10_layLegs 15 [vR 80, vI x1, vI (x2 + 1), vU] [] s21 (PN K))))))))) (fun s11 => TT m_X10_layLegs 15 [vR 80, vI x1, vI (x2 + 1), vU] [] s11 (PN K)))))) : TT m_X10_layLegs 15 [vR 80, vI x1, vI x2, vU] [] σ (PN K) := by
  refine TT_iload_n dX10_layLegs_15 rfl ?_
  refine TT_aload_n dX10_layLegs_16 rfl ?_
  refine TT_getR (r := 81) dX10_layLegs_17 fd_X10_7 (by decide) rfl (by decide) rfl rfl ?_
  refine TT_iload_n dX10_layLegs_20 rfl ?_
  obtain ⟨o5, h⟩ := h
  refine TT_iald dX10_layLegs_21 (by decide) rfl (by decide) o5 ?_
  obtain ⟨o6, h⟩ := h
  obtain ⟨o7, h⟩ := h
  refine TT_icmp_ge (tgt := 114) dX10_layLegs_22 rfl o6 o7 (fun c8 => ?_) (fun c8 => ?_)
  · replace h := h.1 c8
    refine TT_iinc dX10_layLegs_114 (Nat.le_of_ble_eq_true rfl) rfl rfl rfl ?_
    refine TT_goto (tgt := 7) dX10_layLegs_117 rfl ?_
    refine TT_kill 2 rfl ?_
    exact h
  · replace h := h.2 c8
    refine TT_aload_n dX10_layLegs_25 rfl ?_
    refine TT_iload_n dX10_layLegs_26 rfl ?_
    refine TT_iload_n dX10_layLegs_27 rfl ?_
    refine TT_callVZ (M' := m_X10_isLeg) (as := [vI x1, vI x2]) (rest := []) dX10_layLegs_28 mo_X10_isLeg ml_X10_120 im_X10_isLeg se_X10_isLeg (Nat.le_of_ble_eq_true rfl) (Nat.le_of_ble_eq_true rfl) ⟨rfl, rfl, rfl⟩ rfl rfl (Nat.le_of_ble_eq_true rfl) (by decide) rfl rfl (by decide) h (fun s10 h => ?_) (fun s11 h => ?_)
    · refine TT_if_eq (tgt := 108) dX10_layLegs_31 rfl (by decide) (fun c12 => absurd c12 (by decide)) (fun c12 => ?_)
      refine TT_bipush dX10_layLegs_34 (by decide) ?_
      refine TT_iload_n dX10_layLegs_36 rfl ?_
      refine TT_imul dX10_layLegs_37 ?_
      refine TT_iload_n dX10_layLegs_38 rfl ?_
      refine TT_iadd dX10_layLegs_39 ?_
      refine TT_istore_n dX10_layLegs_40 (Nat.le_of_ble_eq_true rfl) rfl rfl ?_
      refine TT_aload_n dX10_layLegs_41 rfl ?_
      refine TT_iconst dX10_layLegs_42 ?_
      refine TT_aload_n dX10_layLegs_43 rfl ?_
      refine TT_getR (r := 83) dX10_layLegs_44 fd_X10_16 (by decide) rfl (by decide) rfl rfl ?_
      refine TT_iload_n dX10_layLegs_47 rfl ?_
      refine TT_iconst dX10_layLegs_48 ?_
      refine TT_isub dX10_layLegs_49 ?_
      obtain ⟨o13, h⟩ := h
      refine TT_iald dX10_layLegs_50 (by decide) rfl (by decide) o13 ?_
      refine TT_aload_n dX10_layLegs_51 rfl ?_
      refine TT_getR (r := 83) dX10_layLegs_52 fd_X10_16 (by decide) rfl (by decide) rfl rfl ?_
      refine TT_iload_n dX10_layLegs_55 rfl ?_
      obtain ⟨o14, h⟩ := h
      refine TT_iald dX10_layLegs_56 (by decide) rfl (by decide) o14 ?_
      refine TT_callVN (M' := m_X10_span) (as := [vI 0, vI (s10 83 (((24 * x1) + x2) - 1).toNat), vI (s10 83 ((24 * x1) + x2).toNat)]) (rest := []) dX10_layLegs_57 mo_X10_span ml_X10_198 im_X10_span se_X10_span (Nat.le_of_ble_eq_true rfl) (Nat.le_of_ble_eq_true rfl) ⟨rfl, rfl, rfl⟩ rfl rfl (Nat.le_of_ble_eq_true rfl) (by decide) rfl rfl (by decide) h (fun s16 h => ?_)
      refine TT_aload_n dX10_layLegs_60 rfl ?_
      refine TT_iconst dX10_layLegs_61 ?_
      refine TT_aload_n dX10_layLegs_62 rfl ?_
      refine TT_getR (r := 84) dX10_layLegs_63 fd_X10_19 (by decide) rfl (by decide) rfl rfl ?_
      refine TT_iload_n dX10_layLegs_66 rfl ?_
      refine TT_iconst dX10_layLegs_67 ?_
      refine TT_isub dX10_layLegs_68 ?_
      refine TT_iald dX10_layLegs_69 (by decide) rfl (by decide) o13 ?_
      refine TT_aload_n dX10_layLegs_70 rfl ?_
      refine TT_getR (r := 84) dX10_layLegs_71 fd_X10_19 (by decide) rfl (by decide) rfl rfl ?_
      refine TT_iload_n dX10_layLegs_74 rfl ?_
      refine TT_iald dX10_layLegs_75 (by decide) rfl (by decide) o14 ?_
      refine TT_callVN (M' := m_X10_span) (as := [vI 2, vI (s16 84 (((24 * x1) + x2) - 1).toNat), vI (s16 84 ((24 * x1) + x2).toNat)]) (rest := []) dX10_layLegs_76 mo_X10_span ml_X10_198 im_X10_span se_X10_span (Nat.le_of_ble_eq_true rfl) (Nat.le_of_ble_eq_true rfl) ⟨rfl, rfl, rfl⟩ rfl rfl (Nat.le_of_ble_eq_true rfl) (by decide) rfl rfl (by decide) h (fun s18 h => ?_)
      refine TT_aload_n dX10_layLegs_79 rfl ?_
      refine TT_iconst dX10_layLegs_80 ?_
      refine TT_aload_n dX10_layLegs_81 rfl ?_
      refine TT_getR (r := 82) dX10_layLegs_82 fd_X10_13 (by decide) rfl (by decide) rfl rfl ?_
      refine TT_iload_n dX10_layLegs_85 rfl ?_
      refine TT_iconst dX10_layLegs_86 ?_
      refine TT_isub dX10_layLegs_87 ?_
      refine TT_iald dX10_layLegs_88 (by decide) rfl (by decide) o13 ?_
      refine TT_aload_n dX10_layLegs_89 rfl ?_
      refine TT_getR (r := 82) dX10_layLegs_90 fd_X10_13 (by decide) rfl (by decide) rfl rfl ?_
      refine TT_iload_n dX10_layLegs_93 rfl ?_
      refine TT_iald dX10_layLegs_94 (by decide) rfl (by decide) o14 ?_
      refine TT_callVN (M' := m_X10_span) (as := [vI 4, vI (s18 82 (((24 * x1) + x2) - 1).toNat), vI (s18 82 ((24 * x1) + x2).toNat)]) (rest := []) dX10_layLegs_95 mo_X10_span ml_X10_198 im_X10_span se_X10_span (Nat.le_of_ble_eq_true rfl) (Nat.le_of_ble_eq_true rfl) ⟨rfl, rfl, rfl⟩ rfl rfl (Nat.le_of_ble_eq_true rfl) (by decide) rfl rfl (by decide) h (fun s20 h => ?_)
      refine TT_aload_n dX10_layLegs_98 rfl ?_
      refine TT_dup dX10_layLegs_99 rfl ?_
      refine TT_getI dX10_layLegs_100 fd_X10_195 (by decide) (Or.inl rfl) (by decide) rfl ?_
      refine TT_iconst dX10_layLegs_103 ?_
      refine TT_iadd dX10_layLegs_104 ?_
      refine TT_putI dX10_layLegs_105 fd_X10_195 (by decide) rfl (by decide) rfl ?_
      refine TT_nmM (fun s21 e22 => ?_)
      replace h := h s21 e22
      refine TT_iinc dX10_layLegs_108 (Nat.le_of_ble_eq_true rfl) rfl rfl rfl ?_
      refine TT_goto (tgt := 15) dX10_layLegs_111 rfl ?_
      refine TT_kill 3 rfl ?_
      exact h
    · refine TT_if_eq (tgt := 108) dX10_layLegs_31 rfl (by decide) (fun c23 => ?_) (fun c23 => absurd c23 (by decide))
      refine TT_iinc dX10_layLegs_108 (Nat.le_of_ble_eq_true rfl) rfl rfl rfl ?_
      refine TT_goto (tgt := 15) dX10_layLegs_111 rfl ?_
      exact h
set_option maxRecDepth 4000 in
theorem w_X10_span_0 (x1 : Int) (x2 : Int) (x3 : Int) {σ : Mem} {K : Mem → Prop} (h : R32 x2 ∧ R32 x3 ∧ (0 ≤ ((6 * (σ 80 15)) + x1) ∧ ((6 * (σ 80 15)) + x1) < 1440) ∧ (∀ s6 : Mem, s6 = up σ 88 ((6 * (σ 80 15)) + x1).toNat (if x3 ≤ x2 then x3 else x2 : Int) → (0 ≤ (((6 * (s6 80 15)) + x1) + 1) ∧ (((6 * (s6 80 15)) + x1) + 1) < 1440) ∧ (∀ s11 : Mem, s11 = up s6 88 (((6 * (s6 80 15)) + x1) + 1).toNat (if x3 ≤ x2 then x2 else x3 : Int) → K s11))) : TT m_X10_span 0 [vR 80, vI x1, vI x2, vI x3] [] σ (PN K) := by
  refine TT_aload_n dX10_span_0 rfl ?_
  refine TT_getR (r := 88) dX10_span_1 fd_X10_31 (by decide) rfl (by decide) rfl rfl ?_
  refine TT_bipush dX10_span_4 (by decide) ?_
  refine TT_aload_n dX10_span_6 rfl ?_
  refine TT_getI dX10_span_7 fd_X10_195 (by decide) (Or.inl rfl) (by decide) rfl ?_
  refine TT_imul dX10_span_10 ?_
  refine TT_iload_n dX10_span_11 rfl ?_
  refine TT_iadd dX10_span_12 ?_
  refine TT_iload_n dX10_span_13 rfl ?_
  refine TT_iload_n dX10_span_14 rfl ?_
  obtain ⟨o1, h⟩ := h
  obtain ⟨o2, h⟩ := h
  have j4 : TT m_X10_span 23 [vR 80, vI x1, vI x2, vI x3] [vI (if x3 ≤ x2 then x3 else x2 : Int), vI ((6 * (σ 80 15)) + x1), vR 88] σ (PN K) := by
    obtain ⟨o5, h⟩ := h
    refine TT_iast dX10_span_23 (by decide) rfl (by decide) o5 ?_
    refine TT_nmM (fun s6 e7 => ?_)
    replace h := h s6 e7
    refine TT_aload_n dX10_span_24 rfl ?_
    refine TT_getR (r := 88) dX10_span_25 fd_X10_31 (by decide) rfl (by decide) rfl rfl ?_
    refine TT_bipush dX10_span_28 (by decide) ?_
    refine TT_aload_n dX10_span_30 rfl ?_
    refine TT_getI dX10_span_31 fd_X10_195 (by decide) (Or.inl rfl) (by decide) rfl ?_
    refine TT_imul dX10_span_34 ?_
    refine TT_iload_n dX10_span_35 rfl ?_
    refine TT_iadd dX10_span_36 ?_
    refine TT_iconst dX10_span_37 ?_
    refine TT_iadd dX10_span_38 ?_
    refine TT_iload_n dX10_span_39 rfl ?_
    refine TT_iload_n dX10_span_40 rfl ?_
    have j9 : TT m_X10_span 49 [vR 80, vI x1, vI x2, vI x3] [vI (if x3 ≤ x2 then x2 else x3 : Int), vI (((6 * (s6 80 15)) + x1) + 1), vR 88] s6 (PN K) := by
      obtain ⟨o10, h⟩ := h
      refine TT_iast dX10_span_49 (by decide) rfl (by decide) o10 ?_
      refine TT_nmM (fun s11 e12 => ?_)
      replace h := h s11 e12
      exact TT_vret dX10_span_50 rfl rfl h
    refine TT_icmp_ge (tgt := 48) dX10_span_41 rfl o1 o2 (fun c8 => ?_) (fun c8 => ?_)
    · refine TT_iload_n dX10_span_48 rfl ?_
      exact TT.cast j9 (by first | rfl | (simp only [if_pos c8] <;> rfl)) (by first | rfl | (simp only [if_pos c8] <;> rfl))
    · refine TT_iload_n dX10_span_44 rfl ?_
      refine TT_goto (tgt := 49) dX10_span_45 rfl ?_
      exact TT.cast j9 (by first | rfl | (simp only [if_neg c8] <;> rfl)) (by first | rfl | (simp only [if_neg c8] <;> rfl))
  refine TT_icmp_ge (tgt := 22) dX10_span_15 rfl o1 o2 (fun c3 => ?_) (fun c3 => ?_)
  · refine TT_iload_n dX10_span_22 rfl ?_
    exact TT.cast j4 (by first | rfl | (simp only [if_pos c3] <;> rfl)) (by first | rfl | (simp only [if_pos c3] <;> rfl))
  · refine TT_iload_n dX10_span_18 rfl ?_
    refine TT_goto (tgt := 23) dX10_span_19 rfl ?_
    exact TT.cast j4 (by first | rfl | (simp only [if_neg c3] <;> rfl)) (by first | rfl | (simp only [if_neg c3] <;> rfl))
theorem e_X10_span (x1 : Int) (x2 : Int) (x3 : Int) {σ : Mem} {K : Mem → Prop} (h : R32 x2 ∧ R32 x3 ∧ (0 ≤ ((6 * (σ 80 15)) + x1) ∧ ((6 * (σ 80 15)) + x1) < 1440) ∧ (∀ s6 : Mem, s6 = up σ 88 ((6 * (σ 80 15)) + x1).toNat (if x3 ≤ x2 then x3 else x2 : Int) → (0 ≤ (((6 * (s6 80 15)) + x1) + 1) ∧ (((6 * (s6 80 15)) + x1) + 1) < 1440) ∧ (∀ s11 : Mem, s11 = up s6 88 (((6 * (s6 80 15)) + x1) + 1).toNat (if x3 ≤ x2 then x2 else x3 : Int) → K s11))) : CC m_X10_span [vR 80, vI x1, vI x2, vI x3] σ (PN K) := CC_of (by decide) rfl rfl rfl (Nat.le_of_ble_eq_true rfl) (w_X10_span_0 x1 x2 x3 h)
set_option maxRecDepth 4000 in
theorem w_X10_newPage_0 (x1 : Int) {σ : Mem} {K : Int → Mem → Prop} (h : (0 ≤ (σ 80 17) ∧ (σ 80 17) < 500) ∧ (∀ s2 : Mem, s2 = up σ 90 (σ 80 17).toNat 1 → (0 ≤ (s2 80 17) ∧ (s2 80 17) < 500) ∧ (∀ s5 : Mem, s5 = up s2 91 (s2 80 17).toNat (-900009) → (0 ≤ (s5 80 17) ∧ (s5 80 17) < 500) ∧ (∀ s8 : Mem, s8 = up s5 92 (s5 80 17).toNat x1 → (0 ≤ (s8 80 17) ∧ (s8 80 17) < 500) ∧ (∀ s11 : Mem, s11 = up s8 93 (s8 80 17).toNat 0 → (∀ s13 : Mem, s13 = up s11 80 17 ((s11 80 17) + 1) → K ((s13 80 17) - 1) s13)))))) : TT m_X10_newPage 0 [vR 80, vI x1] [] σ (PI K) := by
  refine TT_aload_n dX10_newPage_0 rfl ?_
  refine TT_getR (r := 90) dX10_newPage_1 fd_X10_37 (by decide) rfl (by decide) rfl rfl ?_
  refine TT_aload_n dX10_newPage_4 rfl ?_
  refine TT_getI dX10_newPage_5 fd_X10_201 (by decide) (Or.inl rfl) (by decide) rfl ?_
  refine TT_iconst dX10_newPage_8 ?_
  obtain ⟨o1, h⟩ := h
  refine TT_zast dX10_newPage_9 (Or.inr rfl) (by decide) rfl (by decide) o1 ?_
  refine TT_nmM (fun s2 e3 => ?_)
  replace h := h s2 e3
  refine TT_aload_n dX10_newPage_10 rfl ?_
  refine TT_getR (r := 91) dX10_newPage_11 fd_X10_41 (by decide) rfl (by decide) rfl rfl ?_
  refine TT_aload_n dX10_newPage_14 rfl ?_
  refine TT_getI dX10_newPage_15 fd_X10_201 (by decide) (Or.inl rfl) (by decide) rfl ?_
  refine TT_ldc dX10_newPage_18 kc_X10_149 (x := (-900009)) rfl ?_
  obtain ⟨o4, h⟩ := h
  refine TT_iast dX10_newPage_20 (by decide) rfl (by decide) o4 ?_
  refine TT_nmM (fun s5 e6 => ?_)
  replace h := h s5 e6
  refine TT_aload_n dX10_newPage_21 rfl ?_
  refine TT_getR (r := 92) dX10_newPage_22 fd_X10_44 (by decide) rfl (by decide) rfl rfl ?_
  refine TT_aload_n dX10_newPage_25 rfl ?_
  refine TT_getI dX10_newPage_26 fd_X10_201 (by decide) (Or.inl rfl) (by decide) rfl ?_
  refine TT_iload_n dX10_newPage_29 rfl ?_
  obtain ⟨o7, h⟩ := h
  refine TT_iast dX10_newPage_30 (by decide) rfl (by decide) o7 ?_
  refine TT_nmM (fun s8 e9 => ?_)
  replace h := h s8 e9
  refine TT_aload_n dX10_newPage_31 rfl ?_
  refine TT_getR (r := 93) dX10_newPage_32 fd_X10_47 (by decide) rfl (by decide) rfl rfl ?_
  refine TT_aload_n dX10_newPage_35 rfl ?_
  refine TT_getI dX10_newPage_36 fd_X10_201 (by decide) (Or.inl rfl) (by decide) rfl ?_
  refine TT_iconst dX10_newPage_39 ?_
  obtain ⟨o10, h⟩ := h
  refine TT_iast dX10_newPage_40 (by decide) rfl (by decide) o10 ?_
  refine TT_nmM (fun s11 e12 => ?_)
  replace h := h s11 e12
  refine TT_aload_n dX10_newPage_41 rfl ?_
  refine TT_dup dX10_newPage_42 rfl ?_
  refine TT_getI dX10_newPage_43 fd_X10_201 (by decide) (Or.inl rfl) (by decide) rfl ?_
  refine TT_iconst dX10_newPage_46 ?_
  refine TT_iadd dX10_newPage_47 ?_
  refine TT_putI dX10_newPage_48 fd_X10_201 (by decide) rfl (by decide) rfl ?_
  refine TT_nmM (fun s13 e14 => ?_)
  replace h := h s13 e14
  refine TT_aload_n dX10_newPage_51 rfl ?_
  refine TT_getI dX10_newPage_52 fd_X10_201 (by decide) (Or.inl rfl) (by decide) rfl ?_
  refine TT_iconst dX10_newPage_55 ?_
  refine TT_isub dX10_newPage_56 ?_
  exact TT_iret dX10_newPage_57 rfl rfl h
theorem e_X10_newPage (x1 : Int) {σ : Mem} {K : Int → Mem → Prop} (h : (0 ≤ (σ 80 17) ∧ (σ 80 17) < 500) ∧ (∀ s2 : Mem, s2 = up σ 90 (σ 80 17).toNat 1 → (0 ≤ (s2 80 17) ∧ (s2 80 17) < 500) ∧ (∀ s5 : Mem, s5 = up s2 91 (s2 80 17).toNat (-900009) → (0 ≤ (s5 80 17) ∧ (s5 80 17) < 500) ∧ (∀ s8 : Mem, s8 = up s5 92 (s5 80 17).toNat x1 → (0 ≤ (s8 80 17) ∧ (s8 80 17) < 500) ∧ (∀ s11 : Mem, s11 = up s8 93 (s8 80 17).toNat 0 → (∀ s13 : Mem, s13 = up s11 80 17 ((s11 80 17) + 1) → K ((s13 80 17) - 1) s13)))))) : CC m_X10_newPage [vR 80, vI x1] σ (PI K) := CC_of (by decide) rfl rfl rfl (Nat.le_of_ble_eq_true rfl) (w_X10_newPage_0 x1 h)
