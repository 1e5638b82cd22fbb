set_option maxRecDepth 4000 in
theorem w_X9_say_0 (x1 : Int) (x2 : Int) (x3 : Int) (x4 : Int) {σ : Mem} {K : Int → Mem → Prop} (h : CC m_X9_isThing [vI x1] σ (PZ (fun s2 => CC m_X9_isMinute [vI x2] s2 (PZ (fun s6 => CC m_X9_isWithin [vI x3, vI 0, vI 99] s6 (PZ (fun s10 => CC m_X9_isWithin [vI x4, vI 0, vI 99] s10 (PZ (fun s14 => (0 ≤ x1 ∧ x1 < 10) ∧ CC m_X8_hasRowAt [vR (trk x1), vI x2] s14 (PZ (fun s20 => (∀ s23 : Mem, s23 = up s20 0 12 ((s20 0 12) + 1) → TT m_X9_say 84 [vR 0, vU, vI x2, vI x3, vI x4, vR (trk x1)] [] s23 (PI K))) (fun s21 => R32 (s21 (trk x1) 3) ∧ (((s21 (trk x1) 3) < 24 → TT m_X9_say 84 [vR 0, vU, vI x2, vI x3, vI x4, vR (trk x1)] [] s21 (PI K)) ∧ (¬ (s21 (trk x1) 3) < 24 → K (-900004) s21))))) (fun s15 => K (-900002) s15))) (fun s11 => K (-900002) s11))) (fun s7 => K (-900002) s7))) (fun s3 => K (-900001) s3))) : TT m_X9_say 0 [vR 0, vI x1, vI x2, vI x3, vI x4, vU] [] σ (PI K) := by
  refine TT_iload_n dX9_say_0 rfl ?_
  refine TT_callSZ (M' := m_X9_isThing) (as := [vI x1]) (rest := []) dX9_say_1 mo_X9_isThing ml_X9_86 sm_X9_isThing (Nat.le_of_ble_eq_true rfl) (Nat.le_of_ble_eq_true rfl) ⟨rfl, rfl, rfl⟩ rfl rfl (Nat.le_of_ble_eq_true rfl) h (fun s2 h => ?_) (fun s3 h => ?_)
  · refine TT_if_ne (tgt := 10) dX9_say_4 rfl (by decide) (fun c4 => ?_) (fun c4 => absurd c4 (by decide))
    refine TT_iload_n dX9_say_10 rfl ?_
    refine TT_callSZ (M' := m_X9_isMinute) (as := [vI x2]) (rest := []) dX9_say_11 mo_X9_isMinute ml_X9_91 sm_X9_isMinute (Nat.le_of_ble_eq_true rfl) (Nat.le_of_ble_eq_true rfl) ⟨rfl, rfl, rfl⟩ rfl rfl (Nat.le_of_ble_eq_true rfl) h (fun s6 h => ?_) (fun s7 h => ?_)
    · refine TT_if_eq (tgt := 38) dX9_say_14 rfl (by decide) (fun c8 => absurd c8 (by decide)) (fun c8 => ?_)
      refine TT_iload_n dX9_say_17 rfl ?_
      refine TT_iconst dX9_say_18 ?_
      refine TT_bipush dX9_say_19 (by decide) ?_
      refine TT_callSZ (M' := m_X9_isWithin) (as := [vI x3, vI 0, vI 99]) (rest := []) dX9_say_21 mo_X9_isWithin ml_X9_94 sm_X9_isWithin (Nat.le_of_ble_eq_true rfl) (Nat.le_of_ble_eq_true rfl) ⟨rfl, rfl, rfl⟩ rfl rfl (Nat.le_of_ble_eq_true rfl) h (fun s10 h => ?_) (fun s11 h => ?_)
      · refine TT_if_eq (tgt := 38) dX9_say_24 rfl (by decide) (fun c12 => absurd c12 (by decide)) (fun c12 => ?_)
        refine TT_iload dX9_say_27 rfl ?_
        refine TT_iconst dX9_say_29 ?_
        refine TT_bipush dX9_say_30 (by decide) ?_
        refine TT_callSZ (M' := m_X9_isWithin) (as := [vI x4, vI 0, vI 99]) (rest := []) dX9_say_32 mo_X9_isWithin ml_X9_94 sm_X9_isWithin (Nat.le_of_ble_eq_true rfl) (Nat.le_of_ble_eq_true rfl) ⟨rfl, rfl, rfl⟩ rfl rfl (Nat.le_of_ble_eq_true rfl) h (fun s14 h => ?_) (fun s15 h => ?_)
        · refine TT_if_ne (tgt := 41) dX9_say_35 rfl (by decide) (fun c16 => ?_) (fun c16 => absurd c16 (by decide))
          refine TT_aload_n dX9_say_41 rfl ?_
          refine TT_getR (r := 1) dX9_say_42 fd_X9_11 (by decide) rfl (by decide) rfl rfl ?_
          refine TT_iload_n dX9_say_45 rfl ?_
          obtain ⟨o17, h⟩ := h
          have t18 : isT (trk x1) := isT_trk o17
          refine TT_aald (r := (trk x1)) dX9_say_46 (Or.inl rfl) (by decide) rfl (by decide) o17 (rs_trk o17) ?_
          refine TT_astore dX9_say_47 (Nat.le_of_ble_eq_true rfl) rfl rfl ?_
          refine TT_aload dX9_say_49 rfl ?_
          refine TT_iload_n dX9_say_51 rfl ?_
          refine TT_callVZ (M' := m_X8_hasRowAt) (as := [vI x2]) (rest := []) dX9_say_52 mo_X8_hasRowAt ml_X9_99 im_X8_hasRowAt se_X8_hasRowAt (Nat.le_of_ble_eq_true rfl) (Nat.le_of_ble_eq_true rfl) ⟨rfl, rfl, rfl⟩ rfl rfl (Nat.le_of_ble_eq_true rfl) (ltT t18) (shT t18) rfl (by decide) h (fun s20 h => ?_) (fun s21 h => ?_)
          · refine TT_if_eq (tgt := 71) dX9_say_55 rfl (by decide) (fun c22 => absurd c22 (by decide)) (fun c22 => ?_)
            refine TT_aload_n dX9_say_58 rfl ?_
            refine TT_dup dX9_say_59 rfl ?_
            refine TT_getI dX9_say_60 fd_X9_79 (by decide) (Or.inl rfl) (by decide) rfl ?_
            refine TT_iconst dX9_say_63 ?_
            refine TT_iadd dX9_say_64 ?_
            refine TT_putI dX9_say_65 fd_X9_79 (by decide) rfl (by decide) rfl ?_
            refine TT_nmM (fun s23 e24 => ?_)
            replace h := h s23 e24
            refine TT_goto (tgt := 84) dX9_say_68 rfl ?_
            refine TT_kill 1 rfl ?_
            exact h
          · refine TT_if_eq (tgt := 71) dX9_say_55 rfl (by decide) (fun c25 => ?_) (fun c25 => absurd c25 (by decide))
            refine TT_aload dX9_say_71 rfl ?_
            refine TT_getI dX9_say_73 fd_X9_102 (by decide) (Or.inl rfl) (ltT t18) (shT t18) ?_
            refine TT_bipush dX9_say_76 (by decide) ?_
            obtain ⟨o26, h⟩ := h
            refine TT_icmp_lt (tgt := 84) dX9_say_78 rfl o26 (by decide) (fun c27 => ?_) (fun c27 => ?_)
            · replace h := h.1 c27
              refine TT_kill 1 rfl ?_
              exact h
            · replace h := h.2 c27
              refine TT_ldc dX9_say_81 kc_X9_105 (x := (-900004)) rfl ?_
              exact TT_iret dX9_say_83 rfl rfl h
        · refine TT_if_ne (tgt := 41) dX9_say_35 rfl (by decide) (fun c28 => absurd c28 (by decide)) (fun c28 => ?_)
          refine TT_ldc dX9_say_38 kc_X9_98 (x := (-900002)) rfl ?_
          exact TT_iret dX9_say_40 rfl rfl h
      · refine TT_if_eq (tgt := 38) dX9_say_24 rfl (by decide) (fun c29 => ?_) (fun c29 => absurd c29 (by decide))
        refine TT_ldc dX9_say_38 kc_X9_98 (x := (-900002)) rfl ?_
        exact TT_iret dX9_say_40 rfl rfl h
    · refine TT_if_eq (tgt := 38) dX9_say_14 rfl (by decide) (fun c30 => ?_) (fun c30 => absurd c30 (by decide))
      refine TT_ldc dX9_say_38 kc_X9_98 (x := (-900002)) rfl ?_
      exact TT_iret dX9_say_40 rfl rfl h
  · refine TT_if_ne (tgt := 10) dX9_say_4 rfl (by decide) (fun c31 => absurd c31 (by decide)) (fun c31 => ?_)
    refine TT_ldc dX9_say_7 kc_X9_90 (x := (-900001)) rfl ?_
    exact TT_iret dX9_say_9 rfl rfl h
theorem e_X9_say (x1 : Int) (x2 : Int) (x3 : Int) (x4 : Int) {σ : Mem} {K : Int → Mem → Prop} (h : CC m_X9_isThing [vI x1] σ (PZ (fun s2 => CC m_X9_isMinute [vI x2] s2 (PZ (fun s6 => CC m_X9_isWithin [vI x3, vI 0, vI 99] s6 (PZ (fun s10 => CC m_X9_isWithin [vI x4, vI 0, vI 99] s10 (PZ (fun s14 => (0 ≤ x1 ∧ x1 < 10) ∧ CC m_X8_hasRowAt [vR (trk x1), vI x2] s14 (PZ (fun s20 => (∀ s23 : Mem, s23 = up s20 0 12 ((s20 0 12) + 1) → TT m_X9_say 84 [vR 0, vU, vI x2, vI x3, vI x4, vR (trk x1)] [] s23 (PI K))) (fun s21 => R32 (s21 (trk x1) 3) ∧ (((s21 (trk x1) 3) < 24 → TT m_X9_say 84 [vR 0, vU, vI x2, vI x3, vI x4, vR (trk x1)] [] s21 (PI K)) ∧ (¬ (s21 (trk x1) 3) < 24 → K (-900004) s21))))) (fun s15 => K (-900002) s15))) (fun s11 => K (-900002) s11))) (fun s7 => K (-900002) s7))) (fun s3 => K (-900001) s3))) : CC m_X9_say [vR 0, vI x1, vI x2, vI x3, vI x4] σ (PI K) := CC_of (by decide) rfl rfl rfl (Nat.le_of_ble_eq_true rfl) (w_X9_say_0 x1 x2 x3 x4 h)
set_option maxRecDepth 4000 in
theorem w_X9_say_84 (x2 : Int) (x3 : Int) (x4 : Int) (r5 : Nat) (hr5 : isT r5) {σ : Mem} {K : Int → Mem → Prop} (h : CC m_X8_put [vR r5, vI x2, vI x3, vI x4] σ (PN (fun s33 => (∀ s34 : Mem, s34 = up s33 0 10 1 → K (s34 r5 3) s34)))) : TT m_X9_say 84 [vR 0, vU, vI x2, vI x3, vI x4, vR r5] [] σ (PI K) := by
  refine TT_aload dX9_say_84 rfl ?_
  refine TT_iload_n dX9_say_86 rfl ?_
  refine TT_iload_n dX9_say_87 rfl ?_
  refine TT_iload dX9_say_88 rfl ?_
  refine TT_callVN (M' := m_X8_put) (as := [vI x2, vI x3, vI x4]) (rest := []) dX9_say_90 mo_X8_put ml_X9_106 im_X8_put se_X8_put (Nat.le_of_ble_eq_true rfl) (Nat.le_of_ble_eq_true rfl) ⟨rfl, rfl, rfl⟩ rfl rfl (Nat.le_of_ble_eq_true rfl) (ltT hr5) (shT hr5) rfl (by decide) h (fun s33 h => ?_)
  refine TT_aload_n dX9_say_93 rfl ?_
  refine TT_iconst dX9_say_94 ?_
  refine TT_putZ dX9_say_95 fd_X9_71 (by decide) rfl (Or.inr rfl) (by decide) rfl ?_
  refine TT_nmM (fun s34 e35 => ?_)
  replace h := h s34 e35
  refine TT_aload dX9_say_98 rfl ?_
  refine TT_getI dX9_say_100 fd_X9_102 (by decide) (Or.inl rfl) (ltT hr5) (shT hr5) ?_
  exact TT_iret dX9_say_103 rfl rfl h
set_option maxRecDepth 4000 in
theorem w_X9_forget_0 (x1 : Int) (x2 : Int) {σ : Mem} {K : Int → Mem → Prop} (h : CC m_X9_isRow [vR 0, vI x1, vI x2] σ (PZ (fun s2 => (0 ≤ x1 ∧ x1 < 10) ∧ CC m_X8_drop [vR (trk x1), vI x2] s2 (PN (fun s8 => (∀ s9 : Mem, s9 = up s8 0 10 1 → K (s9 (trk x1) 3) s9)))) (fun s3 => K (-900001) s3))) : TT m_X9_forget 0 [vR 0, vI x1, vI x2] [] σ (PI K) := by
  refine TT_aload_n dX9_forget_0 rfl ?_
  refine TT_iload_n dX9_forget_1 rfl ?_
  refine TT_iload_n dX9_forget_2 rfl ?_
  refine TT_callVZ (M' := m_X9_isRow) (as := [vI x1, vI x2]) (rest := []) dX9_forget_3 mo_X9_isRow ml_X9_110 im_X9_isRow se_X9_isRow (Nat.le_of_ble_eq_true rfl) (Nat.le_of_ble_eq_true rfl) ⟨rfl, rfl, rfl⟩ rfl rfl (Nat.le_of_ble_eq_true rfl) (by decide) rfl rfl (by decide) h (fun s2 h => ?_) (fun s3 h => ?_)
  · refine TT_if_ne (tgt := 12) dX9_forget_6 rfl (by decide) (fun c4 => ?_) (fun c4 => absurd c4 (by decide))
    refine TT_aload_n dX9_forget_12 rfl ?_
    refine TT_getR (r := 1) dX9_forget_13 fd_X9_11 (by decide) rfl (by decide) rfl rfl ?_
    refine TT_iload_n dX9_forget_16 rfl ?_
    obtain ⟨o5, h⟩ := h
    have t6 : isT (trk x1) := isT_trk o5
    refine TT_aald (r := (trk x1)) dX9_forget_17 (Or.inl rfl) (by decide) rfl (by decide) o5 (rs_trk o5) ?_
    refine TT_iload_n dX9_forget_18 rfl ?_
    refine TT_callVN (M' := m_X8_drop) (as := [vI x2]) (rest := []) dX9_forget_19 mo_X8_drop ml_X9_114 im_X8_drop se_X8_drop (Nat.le_of_ble_eq_true rfl) (Nat.le_of_ble_eq_true rfl) ⟨rfl, rfl, rfl⟩ rfl rfl (Nat.le_of_ble_eq_true rfl) (ltT t6) (shT t6) rfl (by decide) h (fun s8 h => ?_)
    refine TT_aload_n dX9_forget_22 rfl ?_
    refine TT_iconst dX9_forget_23 ?_
    refine TT_putZ dX9_forget_24 fd_X9_71 (by decide) rfl (Or.inr rfl) (by decide) rfl ?_
    refine TT_nmM (fun s9 e10 => ?_)
    replace h := h s9 e10
    refine TT_aload_n dX9_forget_27 rfl ?_
    refine TT_getR (r := 1) dX9_forget_28 fd_X9_11 (by decide) rfl (by decide) rfl rfl ?_
    refine TT_iload_n dX9_forget_31 rfl ?_
    have t11 : isT (trk x1) := isT_trk o5
    refine TT_aald (r := (trk x1)) dX9_forget_32 (Or.inl rfl) (by decide) rfl (by decide) o5 (rs_trk o5) ?_
    refine TT_getI dX9_forget_33 fd_X9_102 (by decide) (Or.inl rfl) (ltT t11) (shT t11) ?_
    exact TT_iret dX9_forget_36 rfl rfl h
  · refine TT_if_ne (tgt := 12) dX9_forget_6 rfl (by decide) (fun c12 => absurd c12 (by decide)) (fun c12 => ?_)
    refine TT_ldc dX9_forget_9 kc_X9_90 (x := (-900001)) rfl ?_
    exact TT_iret dX9_forget_11 rfl rfl h
theorem e_X9_forget (x1 : Int) (x2 : Int) {σ : Mem} {K : Int → Mem → Prop} (h : CC m_X9_isRow [vR 0, vI x1, vI x2] σ (PZ (fun s2 => (0 ≤ x1 ∧ x1 < 10) ∧ CC m_X8_drop [vR (trk x1), vI x2] s2 (PN (fun s8 => (∀ s9 : Mem, s9 = up s8 0 10 1 → K (s9 (trk x1) 3) s9)))) (fun s3 => K (-900001) s3))) : CC m_X9_forget [vR 0, vI x1, vI x2] σ (PI K) := CC_of (by decide) rfl rfl rfl (Nat.le_of_ble_eq_true rfl) (w_X9_forget_0 x1 x2 h)
set_option maxRecDepth 4000 in
theorem w_X9_kind_0 (x1 : Int) (x2 : Int) {σ : Mem} {K : Int → Mem → Prop} (h : CC m_X9_isThing [vI x1] σ (PZ (fun s2 => CC m_X9_isWithin [vI x2, vI 0, vI 1] s2 (PZ (fun s6 => (0 ≤ x1 ∧ x1 < 10) ∧ R32 (s6 (trk x1) 4) ∧ (∀ v14 : Int, v14 = (if (s6 (trk x1) 4) = 0 then 0 else 1 : Int) → R32 x2 ∧ (∀ s20 : Mem, s20 = up s6 (trk x1) 4 (if ¬ x2 = 1 then 0 else 1 : Int) → K v14 s20))) (fun s7 => K (-900002) s7))) (fun s3 => K (-900001) s3))) : TT m_X9_kind 0 [vR 0, vI x1, vI x2, vU] [] σ (PI K) := by
  refine TT_iload_n dX9_kind_0 rfl ?_
  refine TT_callSZ (M' := m_X9_isThing) (as := [vI x1]) (rest := []) dX9_kind_1 mo_X9_isThing ml_X9_86 sm_X9_isThing (Nat.le_of_ble_eq_true rfl) (Nat.le_of_ble_eq_true rfl) ⟨rfl, rfl, rfl⟩ rfl rfl (Nat.le_of_ble_eq_true rfl) h (fun s2 h => ?_) (fun s3 h => ?_)
  · refine TT_if_ne (tgt := 10) dX9_kind_4 rfl (by decide) (fun c4 => ?_) (fun c4 => absurd c4 (by decide))
    refine TT_iload_n dX9_kind_10 rfl ?_
    refine TT_iconst dX9_kind_11 ?_
    refine TT_iconst dX9_kind_12 ?_
    refine TT_callSZ (M' := m_X9_isWithin) (as := [vI x2, vI 0, vI 1]) (rest := []) dX9_kind_13 mo_X9_isWithin ml_X9_94 sm_X9_isWithin (Nat.le_of_ble_eq_true rfl) (Nat.le_of_ble_eq_true rfl) ⟨rfl, rfl, rfl⟩ rfl rfl (Nat.le_of_ble_eq_true rfl) h (fun s6 h => ?_) (fun s7 h => ?_)
    · refine TT_if_ne (tgt := 22) dX9_kind_16 rfl (by decide) (fun c8 => ?_) (fun c8 => absurd c8 (by decide))
      refine TT_aload_n dX9_kind_22 rfl ?_
      refine TT_getR (r := 1) dX9_kind_23 fd_X9_11 (by decide) rfl (by decide) rfl rfl ?_
      refine TT_iload_n dX9_kind_26 rfl ?_
      obtain ⟨o9, h⟩ := h
      have t10 : isT (trk x1) := isT_trk o9
      refine TT_aald (r := (trk x1)) dX9_kind_27 (Or.inl rfl) (by decide) rfl (by decide) o9 (rs_trk o9) ?_
      refine TT_getI dX9_kind_28 fd_X9_118 (by decide) (Or.inr rfl) (ltT t10) (shT t10) ?_
      obtain ⟨o11, h⟩ := h
      have j13 : TT m_X9_kind 39 [vR 0, vI x1, vI x2, vU] [vI (if (s6 (trk x1) 4) = 0 then 0 else 1 : Int)] s6 (PI K) := by
        refine TT_nmI (fun v14 e15 => ?_)
        replace h := h v14 e15
        refine TT_istore_n dX9_kind_39 (Nat.le_of_ble_eq_true rfl) rfl rfl ?_
        refine TT_aload_n dX9_kind_40 rfl ?_
        refine TT_getR (r := 1) dX9_kind_41 fd_X9_11 (by decide) rfl (by decide) rfl rfl ?_
        refine TT_iload_n dX9_kind_44 rfl ?_
        have t16 : isT (trk x1) := isT_trk o9
        refine TT_aald (r := (trk x1)) dX9_kind_45 (Or.inl rfl) (by decide) rfl (by decide) o9 (rs_trk o9) ?_
        refine TT_iload_n dX9_kind_46 rfl ?_
        refine TT_iconst dX9_kind_47 ?_
        obtain ⟨o17, h⟩ := h
        have j19 : TT m_X9_kind 56 [vR 0, vI x1, vI x2, vI v14] [vI (if ¬ x2 = 1 then 0 else 1 : Int), vR (trk x1)] s6 (PI K) := by
          refine TT_putZ dX9_kind_56 fd_X9_118 (by decide) rfl (b01_ite (Or.inl rfl) (Or.inr rfl)) (ltT t16) (shT t16) ?_
          refine TT_nmM (fun s20 e21 => ?_)
          replace h := h s20 e21
          refine TT_iload_n dX9_kind_59 rfl ?_
          exact TT_iret dX9_kind_60 rfl rfl h
        refine TT_icmp_ne (tgt := 55) dX9_kind_48 rfl o17 (by decide) (fun c18 => ?_) (fun c18 => ?_)
        · refine TT_iconst dX9_kind_55 ?_
          exact TT.cast j19 (by first | rfl | (simp only [if_pos c18] <;> rfl)) (by first | rfl | (simp only [if_pos c18] <;> rfl))
        · refine TT_iconst dX9_kind_51 ?_
          refine TT_goto (tgt := 56) dX9_kind_52 rfl ?_
          exact TT.cast j19 (by first | rfl | (simp only [if_neg (not_not_intro c18)] <;> rfl)) (by first | rfl | (simp only [if_neg (not_not_intro c18)] <;> rfl))
      refine TT_if_eq (tgt := 38) dX9_kind_31 rfl o11 (fun c12 => ?_) (fun c12 => ?_)
      · refine TT_iconst dX9_kind_38 ?_
        exact TT.cast j13 (by first | rfl | (simp only [if_pos c12] <;> rfl)) (by first | rfl | (simp only [if_pos c12] <;> rfl))
      · refine TT_iconst dX9_kind_34 ?_
        refine TT_goto (tgt := 39) dX9_kind_35 rfl ?_
        exact TT.cast j13 (by first | rfl | (simp only [if_neg c12] <;> rfl)) (by first | rfl | (simp only [if_neg c12] <;> rfl))
    · refine TT_if_ne (tgt := 22) dX9_kind_16 rfl (by decide) (fun c22 => absurd c22 (by decide)) (fun c22 => ?_)
      refine TT_ldc dX9_kind_19 kc_X9_98 (x := (-900002)) rfl ?_
      exact TT_iret dX9_kind_21 rfl rfl h
  · refine TT_if_ne (tgt := 10) dX9_kind_4 rfl (by decide) (fun c23 => absurd c23 (by decide)) (fun c23 => ?_)
    refine TT_ldc dX9_kind_7 kc_X9_90 (x := (-900001)) rfl ?_
    exact TT_iret dX9_kind_9 rfl rfl h
theorem e_X9_kind (x1 : Int) (x2 : Int) {σ : Mem} {K : Int → Mem → Prop} (h : CC m_X9_isThing [vI x1] σ (PZ (fun s2 => CC m_X9_isWithin [vI x2, vI 0, vI 1] s2 (PZ (fun s6 => (0 ≤ x1 ∧ x1 < 10) ∧ R32 (s6 (trk x1) 4) ∧ (∀ v14 : Int, v14 = (if (s6 (trk x1) 4) = 0 then 0 else 1 : Int) → R32 x2 ∧ (∀ s20 : Mem, s20 = up s6 (trk x1) 4 (if ¬ x2 = 1 then 0 else 1 : Int) → K v14 s20))) (fun s7 => K (-900002) s7))) (fun s3 => K (-900001) s3))) : CC m_X9_kind [vR 0, vI x1, vI x2] σ (PI K) := CC_of (by decide) rfl rfl rfl (Nat.le_of_ble_eq_true rfl) (w_X9_kind_0 x1 x2 h)
set_option maxRecDepth 4000 in
theorem w_X9_row_0 (x1 : Int) (x2 : Int) (x3 : Int) {σ : Mem} {K : Int → Mem → Prop} (h : CC m_X9_isRow [vR 0, vI x1, vI x2] σ (PZ (fun s2 => (0 ≤ x1 ∧ x1 < 10) ∧ R32 x3 ∧ (x3 = 0 → (0 ≤ x2 ∧ x2 < 24) ∧ K (s2 ((trk x1) + 1) (x2).toNat) s2) ∧ (x3 = 1 → (0 ≤ x2 ∧ x2 < 24) ∧ K (s2 ((trk x1) + 2) (x2).toNat) s2) ∧ (x3 = 2 → (0 ≤ x2 ∧ x2 < 24) ∧ K (s2 ((trk x1) + 3) (x2).toNat) s2) ∧ (x3 < 0 ∨ 2 < x3 → K (-900002) s2)) (fun s3 => K (-900001) s3))) : TT m_X9_row 0 [vR 0, vI x1, vI x2, vI x3, vU] [] σ (PI K) := by
  refine TT_aload_n dX9_row_0 rfl ?_
  refine TT_iload_n dX9_row_1 rfl ?_
  refine TT_iload_n dX9_row_2 rfl ?_
  refine TT_callVZ (M' := m_X9_isRow) (as := [vI x1, vI x2]) (rest := []) dX9_row_3 mo_X9_isRow ml_X9_110 im_X9_isRow se_X9_isRow (Nat.le_of_ble_eq_true rfl) (Nat.le_of_ble_eq_true rfl) ⟨rfl, rfl, rfl⟩ rfl rfl (Nat.le_of_ble_eq_true rfl) (by decide) rfl rfl (by decide) h (fun s2 h => ?_) (fun s3 h => ?_)
  · refine TT_if_ne (tgt := 12) dX9_row_6 rfl (by decide) (fun c4 => ?_) (fun c4 => absurd c4 (by decide))
    refine TT_aload_n dX9_row_12 rfl ?_
    refine TT_getR (r := 1) dX9_row_13 fd_X9_11 (by decide) rfl (by decide) rfl rfl ?_
    refine TT_iload_n dX9_row_16 rfl ?_
    obtain ⟨o5, h⟩ := h
    have t6 : isT (trk x1) := isT_trk o5
    refine TT_aald (r := (trk x1)) dX9_row_17 (Or.inl rfl) (by decide) rfl (by decide) o5 (rs_trk o5) ?_
    refine TT_astore dX9_row_18 (Nat.le_of_ble_eq_true rfl) rfl rfl ?_
    refine TT_iload_n dX9_row_20 rfl ?_
    obtain ⟨o7, h⟩ := h
    by_cases c11 : x3 = 0
    · replace h := h.1 c11
      refine TT_tableIn (x := x3) (tgt := 48) (off := 27) dX9_row_21 o7 (by rw [c11]; decide) (by rw [c11]; decide) (by rw [c11]; rfl) rfl ?_
      refine TT_aload dX9_row_48 rfl ?_
      refine TT_getR (r := ((trk x1) + 1)) dX9_row_50 fd_X9_121 (by decide) rfl (ltT t6) (shT t6) (rsT0 t6) ?_
      refine TT_iload_n dX9_row_53 rfl ?_
      obtain ⟨o8, h⟩ := h
      refine TT_iald dX9_row_54 (ltT1 t6) (shT1 t6) (by decide) o8 ?_
      exact TT_iret dX9_row_55 rfl rfl h
    by_cases c12 : x3 = 1
    · replace h := h.2.1 c12
      refine TT_tableIn (x := x3) (tgt := 56) (off := 35) dX9_row_21 o7 (by rw [c12]; decide) (by rw [c12]; decide) (by rw [c12]; rfl) rfl ?_
      refine TT_aload dX9_row_56 rfl ?_
      refine TT_getR (r := ((trk x1) + 2)) dX9_row_58 fd_X9_125 (by decide) rfl (ltT t6) (shT t6) (rsT1 t6) ?_
      refine TT_iload_n dX9_row_61 rfl ?_
      obtain ⟨o9, h⟩ := h
      refine TT_iald dX9_row_62 (ltT2 t6) (shT2 t6) (by decide) o9 ?_
      exact TT_iret dX9_row_63 rfl rfl h
    by_cases c13 : x3 = 2
    · replace h := h.2.2.1 c13
      refine TT_tableIn (x := x3) (tgt := 64) (off := 43) dX9_row_21 o7 (by rw [c13]; decide) (by rw [c13]; decide) (by rw [c13]; rfl) rfl ?_
      refine TT_aload dX9_row_64 rfl ?_
      refine TT_getR (r := ((trk x1) + 3)) dX9_row_66 fd_X9_128 (by decide) rfl (ltT t6) (shT t6) (rsT2 t6) ?_
      refine TT_iload_n dX9_row_69 rfl ?_
      obtain ⟨o10, h⟩ := h
      refine TT_iald dX9_row_70 (ltT3 t6) (shT3 t6) (by decide) o10 ?_
      exact TT_iret dX9_row_71 rfl rfl h
    have c14 : x3 < 0 ∨ 2 < x3 := by omega
    replace h := h.2.2.2 c14
    refine TT_tableOut (x := x3) (tgt := 72) dX9_row_21 o7 c14 rfl ?_
    refine TT_ldc dX9_row_72 kc_X9_98 (x := (-900002)) rfl ?_
    exact TT_iret dX9_row_74 rfl rfl h
  · refine TT_if_ne (tgt := 12) dX9_row_6 rfl (by decide) (fun c15 => absurd c15 (by decide)) (fun c15 => ?_)
    refine TT_ldc dX9_row_9 kc_X9_90 (x := (-900001)) rfl ?_
    exact TT_iret dX9_row_11 rfl rfl h
theorem e_X9_row (x1 : Int) (x2 : Int) (x3 : Int) {σ : Mem} {K : Int → Mem → Prop} (h : CC m_X9_isRow [vR 0, vI x1, vI x2] σ (PZ (fun s2 => (0 ≤ x1 ∧ x1 < 10) ∧ R32 x3 ∧ (x3 = 0 → (0 ≤ x2 ∧ x2 < 24) ∧ K (s2 ((trk x1) + 1) (x2).toNat) s2) ∧ (x3 = 1 → (0 ≤ x2 ∧ x2 < 24) ∧ K (s2 ((trk x1) + 2) (x2).toNat) s2) ∧ (x3 = 2 → (0 ≤ x2 ∧ x2 < 24) ∧ K (s2 ((trk x1) + 3) (x2).toNat) s2) ∧ (x3 < 0 ∨ 2 < x3 → K (-900002) s2)) (fun s3 => K (-900001) s3))) : CC m_X9_row [vR 0, vI x1, vI x2, vI x3] σ (PI K) := CC_of (by decide) rfl rfl rfl (Nat.le_of_ble_eq_true rfl) (w_X9_row_0 x1 x2 x3 h)
set_option maxRecDepth 4000 in
theorem w_X9_at_0 (x1 : Int) (x2 : Int) (x3 : Int) (x4 : Int) {σ : Mem} {K : Int → Mem → Prop} (h : CC m_X9_refuseMoment [vI x1, vI x2] σ (PI (fun y1 s2 => R32 y1 ∧ ((y1 = 0 → (0 ≤ x1 ∧ x1 < 10) ∧ CC m_X8_locate [vR (trk x1), vI x2, vR 4] s2 (PZ (fun s8 => R32 x3 ∧ (∀ v14 : Int, v14 = (if x3 = 0 then (s8 4 0) else (s8 4 1) : Int) → R32 v14 ∧ R32 (s8 4 2) ∧ CC m_X9_leastTerm [vL v14, vL (s8 4 2), vI x4] s8 (PJ (fun y18 s19 => K y18 s19)))) (fun s9 => K (-900003) s9))) ∧ (¬ y1 = 0 → K y1 s2))))) : TT m_X9_at 0 [vR 0, vI x1, vI x2, vI x3, vI x4, vU, vU] [] σ (PI K) := by
  refine TT_iload_n dX9_at_0 rfl ?_
  refine TT_iload_n dX9_at_1 rfl ?_
  refine TT_callSI (M' := m_X9_refuseMoment) (as := [vI x1, vI x2]) (rest := []) dX9_at_2 mo_X9_refuseMoment ml_X9_131 sm_X9_refuseMoment (Nat.le_of_ble_eq_true rfl) (Nat.le_of_ble_eq_true rfl) ⟨rfl, rfl, rfl⟩ rfl rfl (Nat.le_of_ble_eq_true rfl) h (fun y1 s2 h => ?_)
  refine TT_istore dX9_at_5 (Nat.le_of_ble_eq_true rfl) rfl rfl ?_
  refine TT_iload dX9_at_7 rfl ?_
  obtain ⟨o3, h⟩ := h
  refine TT_if_eq (tgt := 15) dX9_at_9 rfl o3 (fun c4 => ?_) (fun c4 => ?_)
  · replace h := h.1 c4
    refine TT_aload_n dX9_at_15 rfl ?_
    refine TT_getR (r := 1) dX9_at_16 fd_X9_11 (by decide) rfl (by decide) rfl rfl ?_
    refine TT_iload_n dX9_at_19 rfl ?_
    obtain ⟨o5, h⟩ := h
    have t6 : isT (trk x1) := isT_trk o5
    refine TT_aald (r := (trk x1)) dX9_at_20 (Or.inl rfl) (by decide) rfl (by decide) o5 (rs_trk o5) ?_
    refine TT_iload_n dX9_at_21 rfl ?_
    refine TT_aload_n dX9_at_22 rfl ?_
    refine TT_getR (r := 4) dX9_at_23 fd_X9_29 (by decide) rfl (by decide) rfl rfl ?_
    refine TT_callVZ (M' := m_X8_locate) (as := [vI x2, vR 4]) (rest := []) dX9_at_26 mo_X8_locate ml_X9_135 im_X8_locate se_X8_locate (Nat.le_of_ble_eq_true rfl) (Nat.le_of_ble_eq_true rfl) ⟨rfl, rfl, rfl⟩ rfl rfl (Nat.le_of_ble_eq_true rfl) (ltT t6) (shT t6) rfl (by decide) h (fun s8 h => ?_) (fun s9 h => ?_)
    · refine TT_if_ne (tgt := 35) dX9_at_29 rfl (by decide) (fun c10 => ?_) (fun c10 => absurd c10 (by decide))
      refine TT_iload_n dX9_at_35 rfl ?_
      obtain ⟨o11, h⟩ := h
      have j13 : TT m_X9_at 56 [vR 0, vI x1, vI x2, vI x3, vI x4, vI y1, vU] [vI (if x3 = 0 then (s8 4 0) else (s8 4 1) : Int)] s8 (PI K) := by
        refine TT_nmI (fun v14 e15 => ?_)
        replace h := h v14 e15
        refine TT_istore dX9_at_56 (Nat.le_of_ble_eq_true rfl) rfl rfl ?_
        refine TT_iload dX9_at_58 rfl ?_
        obtain ⟨o16, h⟩ := h
        refine TT_i2l dX9_at_60 o16 ?_
        refine TT_aload_n dX9_at_61 rfl ?_
        refine TT_getR (r := 4) dX9_at_62 fd_X9_29 (by decide) rfl (by decide) rfl rfl ?_
        refine TT_getI dX9_at_65 fd_X9_146 (by decide) (Or.inl rfl) (by decide) rfl ?_
        obtain ⟨o17, h⟩ := h
        refine TT_i2l dX9_at_68 o17 ?_
        refine TT_iload dX9_at_69 rfl ?_
        refine TT_callSJ (M' := m_X9_leastTerm) (as := [vL v14, vL (s8 4 2), vI x4]) (rest := []) dX9_at_71 mo_X9_leastTerm ml_X9_149 sm_X9_leastTerm (Nat.le_of_ble_eq_true rfl) (Nat.le_of_ble_eq_true rfl) ⟨rfl, rfl, rfl⟩ rfl rfl (Nat.le_of_ble_eq_true rfl) h (fun y18 s19 h => ?_)
        refine TT_l2i dX9_at_74 ?_
        exact TT_iret dX9_at_75 rfl rfl h
      refine TT_if_eq (tgt := 49) dX9_at_36 rfl o11 (fun c12 => ?_) (fun c12 => ?_)
      · refine TT_aload_n dX9_at_49 rfl ?_
        refine TT_getR (r := 4) dX9_at_50 fd_X9_29 (by decide) rfl (by decide) rfl rfl ?_
        refine TT_getI dX9_at_53 fd_X9_143 (by decide) (Or.inl rfl) (by decide) rfl ?_
        exact TT.cast j13 (by first | rfl | (simp only [if_pos c12] <;> rfl)) (by first | rfl | (simp only [if_pos c12] <;> rfl))
      · refine TT_aload_n dX9_at_39 rfl ?_
        refine TT_getR (r := 4) dX9_at_40 fd_X9_29 (by decide) rfl (by decide) rfl rfl ?_
        refine TT_getI dX9_at_43 fd_X9_140 (by decide) (Or.inl rfl) (by decide) rfl ?_
        refine TT_goto (tgt := 56) dX9_at_46 rfl ?_
        exact TT.cast j13 (by first | rfl | (simp only [if_neg c12] <;> rfl)) (by first | rfl | (simp only [if_neg c12] <;> rfl))
    · refine TT_if_ne (tgt := 35) dX9_at_29 rfl (by decide) (fun c20 => absurd c20 (by decide)) (fun c20 => ?_)
      refine TT_ldc dX9_at_32 kc_X9_139 (x := (-900003)) rfl ?_
      exact TT_iret dX9_at_34 rfl rfl h
  · replace h := h.2 c4
    refine TT_iload dX9_at_12 rfl ?_
    exact TT_iret dX9_at_14 rfl rfl h
theorem e_X9_at (x1 : Int) (x2 : Int) (x3 : Int) (x4 : Int) {σ : Mem} {K : Int → Mem → Prop} (h : CC m_X9_refuseMoment [vI x1, vI x2] σ (PI (fun y1 s2 => R32 y1 ∧ ((y1 = 0 → (0 ≤ x1 ∧ x1 < 10) ∧ CC m_X8_locate [vR (trk x1), vI x2, vR 4] s2 (PZ (fun s8 => R32 x3 ∧ (∀ v14 : Int, v14 = (if x3 = 0 then (s8 4 0) else (s8 4 1) : Int) → R32 v14 ∧ R32 (s8 4 2) ∧ CC m_X9_leastTerm [vL v14, vL (s8 4 2), vI x4] s8 (PJ (fun y18 s19 => K y18 s19)))) (fun s9 => K (-900003) s9))) ∧ (¬ y1 = 0 → K y1 s2))))) : CC m_X9_at [vR 0, vI x1, vI x2, vI x3, vI x4] σ (PI K) := CC_of (by decide) rfl rfl rfl (Nat.le_of_ble_eq_true rfl) (w_X9_at_0 x1 x2 x3 x4 h)
set_option maxRecDepth 4000 in
theorem w_X9_there_0 (x1 : Int) (x2 : Int) {σ : Mem} {K : Int → Mem → Prop} (h : CC m_X9_refuseMoment [vI x1, vI x2] σ (PI (fun y1 s2 => R32 y1 ∧ ((y1 = 0 → (0 ≤ x1 ∧ x1 < 10) ∧ CC m_X8_locate [vR (trk x1), vI x2, vR 4] s2 (PZ (fun s8 => K 1 s8) (fun s9 => K 0 s9))) ∧ (¬ y1 = 0 → K y1 s2))))) : TT m_X9_there 0 [vR 0, vI x1, vI x2, vU] [] σ (PI K) := by
  refine TT_iload_n dX9_there_0 rfl ?_
  refine TT_iload_n dX9_there_1 rfl ?_
  refine TT_callSI (M' := m_X9_refuseMoment) (as := [vI x1, vI x2]) (rest := []) dX9_there_2 mo_X9_refuseMoment ml_X9_131 sm_X9_refuseMoment (Nat.le_of_ble_eq_true rfl) (Nat.le_of_ble_eq_true rfl) ⟨rfl, rfl, rfl⟩ rfl rfl (Nat.le_of_ble_eq_true rfl) h (fun y1 s2 h => ?_)
  refine TT_istore_n dX9_there_5 (Nat.le_of_ble_eq_true rfl) rfl rfl ?_
  refine TT_iload_n dX9_there_6 rfl ?_
  obtain ⟨o3, h⟩ := h
  refine TT_if_eq (tgt := 12) dX9_there_7 rfl o3 (fun c4 => ?_) (fun c4 => ?_)
  · replace h := h.1 c4
    refine TT_aload_n dX9_there_12 rfl ?_
    refine TT_getR (r := 1) dX9_there_13 fd_X9_11 (by decide) rfl (by decide) rfl rfl ?_
    refine TT_iload_n dX9_there_16 rfl ?_
    obtain ⟨o5, h⟩ := h
    have t6 : isT (trk x1) := isT_trk o5
    refine TT_aald (r := (trk x1)) dX9_there_17 (Or.inl rfl) (by decide) rfl (by decide) o5 (rs_trk o5) ?_
    refine TT_iload_n dX9_there_18 rfl ?_
    refine TT_aload_n dX9_there_19 rfl ?_
    refine TT_getR (r := 4) dX9_there_20 fd_X9_29 (by decide) rfl (by decide) rfl rfl ?_
    refine TT_callVZ (M' := m_X8_locate) (as := [vI x2, vR 4]) (rest := []) dX9_there_23 mo_X8_locate ml_X9_135 im_X8_locate se_X8_locate (Nat.le_of_ble_eq_true rfl) (Nat.le_of_ble_eq_true rfl) ⟨rfl, rfl, rfl⟩ rfl rfl (Nat.le_of_ble_eq_true rfl) (ltT t6) (shT t6) rfl (by decide) h (fun s8 h => ?_) (fun s9 h => ?_)
    · refine TT_if_eq (tgt := 33) dX9_there_26 rfl (by decide) (fun c10 => absurd c10 (by decide)) (fun c10 => ?_)
      refine TT_iconst dX9_there_29 ?_
      refine TT_goto (tgt := 34) dX9_there_30 rfl ?_
      exact TT_iret dX9_there_34 rfl rfl h
    · refine TT_if_eq (tgt := 33) dX9_there_26 rfl (by decide) (fun c11 => ?_) (fun c11 => absurd c11 (by decide))
      refine TT_iconst dX9_there_33 ?_
      exact TT_iret dX9_there_34 rfl rfl h
  · replace h := h.2 c4
    refine TT_iload_n dX9_there_10 rfl ?_
    exact TT_iret dX9_there_11 rfl rfl h
theorem e_X9_there (x1 : Int) (x2 : Int) {σ : Mem} {K : Int → Mem → Prop} (h : CC m_X9_refuseMoment [vI x1, vI x2] σ (PI (fun y1 s2 => R32 y1 ∧ ((y1 = 0 → (0 ≤ x1 ∧ x1 < 10) ∧ CC m_X8_locate [vR (trk x1), vI x2, vR 4] s2 (PZ (fun s8 => K 1 s8) (fun s9 => K 0 s9))) ∧ (¬ y1 = 0 → K y1 s2))))) : CC m_X9_there [vR 0, vI x1, vI x2] σ (PI K) := CC_of (by decide) rfl rfl rfl (Nat.le_of_ble_eq_true rfl) (w_X9_there_0 x1 x2 h)
set_option maxRecDepth 4000 in
theorem w_X9_mended_0  {σ : Mem} {K : Int → Mem → Prop} (h : K (σ 0 12) σ) : TT m_X9_mended 0 [vR 0] [] σ (PI K) := by
  refine TT_aload_n dX9_mended_0 rfl ?_
  refine TT_getI dX9_mended_1 fd_X9_79 (by decide) (Or.inl rfl) (by decide) rfl ?_
  exact TT_iret dX9_mended_4 rfl rfl h
theorem e_X9_mended  {σ : Mem} {K : Int → Mem → Prop} (h : K (σ 0 12) σ) : CC m_X9_mended [vR 0] σ (PI K) := CC_of (by decide) rfl rfl rfl (Nat.le_of_ble_eq_true rfl) (w_X9_mended_0  h)
set_option maxRecDepth 4000 in
theorem w_X9_inside_0 (x1 : Int) (x2 : Int) (x3 : Int) (x4 : Int) (x5 : Int) {σ : Mem} {K : Int → Mem → Prop} (h : CC m_X9_isPlace [vI x1, vI x2, vI x3, vI x4] σ (PZ (fun s2 => CC m_X9_isMinute [vI x5] s2 (PZ (fun s6 => CC m_X3_set [vR 3, vI x1, vI x2, vI x3, vI x4] s6 (PN (fun s10 => TT m_X9_inside 40 [vR 0, vU, vU, vU, vU, vI x5, vI 0, vI 0] [] s10 (PI K)))) (fun s7 => K (-900002) s7))) (fun s3 => K (-900002) s3))) : TT m_X9_inside 0 [vR 0, vI x1, vI x2, vI x3, vI x4, vI x5, vU, vU] [] σ (PI K) := by
  refine TT_iload_n dX9_inside_0 rfl ?_
  refine TT_iload_n dX9_inside_1 rfl ?_
  refine TT_iload_n dX9_inside_2 rfl ?_
  refine TT_iload dX9_inside_3 rfl ?_
  refine TT_callSZ (M' := m_X9_isPlace) (as := [vI x1, vI x2, vI x3, vI x4]) (rest := []) dX9_inside_5 mo_X9_isPlace ml_X9_153 sm_X9_isPlace (Nat.le_of_ble_eq_true rfl) (Nat.le_of_ble_eq_true rfl) ⟨rfl, rfl, rfl⟩ rfl rfl (Nat.le_of_ble_eq_true rfl) h (fun s2 h => ?_) (fun s3 h => ?_)
  · refine TT_if_eq (tgt := 19) dX9_inside_8 rfl (by decide) (fun c4 => absurd c4 (by decide)) (fun c4 => ?_)
    refine TT_iload dX9_inside_11 rfl ?_
    refine TT_callSZ (M' := m_X9_isMinute) (as := [vI x5]) (rest := []) dX9_inside_13 mo_X9_isMinute ml_X9_91 sm_X9_isMinute (Nat.le_of_ble_eq_true rfl) (Nat.le_of_ble_eq_true rfl) ⟨rfl, rfl, rfl⟩ rfl rfl (Nat.le_of_ble_eq_true rfl) h (fun s6 h => ?_) (fun s7 h => ?_)
    · refine TT_if_ne (tgt := 22) dX9_inside_16 rfl (by decide) (fun c8 => ?_) (fun c8 => absurd c8 (by decide))
      refine TT_aload_n dX9_inside_22 rfl ?_
      refine TT_getR (r := 3) dX9_inside_23 fd_X9_22 (by decide) rfl (by decide) rfl rfl ?_
      refine TT_iload_n dX9_inside_26 rfl ?_
      refine TT_iload_n dX9_inside_27 rfl ?_
      refine TT_iload_n dX9_inside_28 rfl ?_
      refine TT_iload dX9_inside_29 rfl ?_
      refine TT_callVN (M' := m_X3_set) (as := [vI x1, vI x2, vI x3, vI x4]) (rest := []) dX9_inside_31 mo_X3_set ml_X9_157 im_X3_set se_X3_set (Nat.le_of_ble_eq_true rfl) (Nat.le_of_ble_eq_true rfl) ⟨rfl, rfl, rfl⟩ rfl rfl (Nat.le_of_ble_eq_true rfl) (by decide) rfl rfl (by decide) h (fun s10 h => ?_)
      refine TT_iconst dX9_inside_34 ?_
      refine TT_istore dX9_inside_35 (Nat.le_of_ble_eq_true rfl) rfl rfl ?_
      refine TT_iconst dX9_inside_37 ?_
      refine TT_istore dX9_inside_38 (Nat.le_of_ble_eq_true rfl) rfl rfl ?_
      refine TT_kill 1 rfl ?_
      refine TT_kill 2 rfl ?_
      refine TT_kill 3 rfl ?_
      refine TT_kill 4 rfl ?_
      exact h
    · refine TT_if_ne (tgt := 22) dX9_inside_16 rfl (by decide) (fun c11 => absurd c11 (by decide)) (fun c11 => ?_)
      refine TT_ldc dX9_inside_19 kc_X9_98 (x := (-900002)) rfl ?_
      exact TT_iret dX9_inside_21 rfl rfl h
  · refine TT_if_eq (tgt := 19) dX9_inside_8 rfl (by decide) (fun c12 => ?_) (fun c12 => absurd c12 (by decide))
    refine TT_ldc dX9_inside_19 kc_X9_98 (x := (-900002)) rfl ?_
    exact TT_iret dX9_inside_21 rfl rfl h
theorem e_X9_inside (x1 : Int) (x2 : Int) (x3 : Int) (x4 : Int) (x5 : Int) {σ : Mem} {K : Int → Mem → Prop} (h : CC m_X9_isPlace [vI x1, vI x2, vI x3, vI x4] σ (PZ (fun s2 => CC m_X9_isMinute [vI x5] s2 (PZ (fun s6 => CC m_X3_set [vR 3, vI x1, vI x2, vI x3, vI x4] s6 (PN (fun s10 => TT m_X9_inside 40 [vR 0, vU, vU, vU, vU, vI x5, vI 0, vI 0] [] s10 (PI K)))) (fun s7 => K (-900002) s7))) (fun s3 => K (-900002) s3))) : CC m_X9_inside [vR 0, vI x1, vI x2, vI x3, vI x4, vI x5] σ (PI K) := CC_of (by decide) rfl rfl rfl (Nat.le_of_ble_eq_true rfl) (w_X9_inside_0 x1 x2 x3 x4 x5 h)
set_option maxRecDepth 4000 in
theorem w_X9_inside_40 (x5 : Int) (x6 : Int) (x7 : Int) {σ : Mem} {K : Int → Mem → Prop} (h : R32 x7 ∧ ((10 ≤ x7 → K x6 σ) ∧ (¬ 10 ≤ x7 → CC m_X9_isIn [vR 0, vR 3, vI x7, vI x5] σ (PZ (fun s16 => TT m_X9_inside 40 [vR 0, vU, vU, vU, vU, vI x5, vI (x6 + 1), vI (x7 + 1)] [] s16 (PI K)) (fun s17 => TT m_X9_inside 40 [vR 0, vU, vU, vU, vU, vI x5, vI x6, vI (x7 + 1)] [] s17 (PI K)))))) : TT m_X9_inside 40 [vR 0, vU, vU, vU, vU, vI x5, vI x6, vI x7] [] σ (PI K) := by
  refine TT_iload dX9_inside_40 rfl ?_
  refine TT_bipush dX9_inside_42 (by decide) ?_
  obtain ⟨o13, h⟩ := h
  refine TT_icmp_ge (tgt := 71) dX9_inside_44 rfl o13 (by decide) (fun c14 => ?_) (fun c14 => ?_)
  · replace h := h.1 c14
    refine TT_iload dX9_inside_71 rfl ?_
    exact TT_iret dX9_inside_73 rfl rfl h
  · replace h := h.2 c14
    refine TT_aload_n dX9_inside_47 rfl ?_
    refine TT_aload_n dX9_inside_48 rfl ?_
    refine TT_getR (r := 3) dX9_inside_49 fd_X9_22 (by decide) rfl (by decide) rfl rfl ?_
    refine TT_iload dX9_inside_52 rfl ?_
    refine TT_iload dX9_inside_54 rfl ?_
    refine TT_callVZ (M' := m_X9_isIn) (as := [vR 3, vI x7, vI x5]) (rest := []) dX9_inside_56 mo_X9_isIn ml_X9_161 im_X9_isIn se_X9_isIn (Nat.le_of_ble_eq_true rfl) (Nat.le_of_ble_eq_true rfl) ⟨rfl, rfl, rfl⟩ rfl rfl (Nat.le_of_ble_eq_true rfl) (by decide) rfl rfl (by decide) h (fun s16 h => ?_) (fun s17 h => ?_)
    · refine TT_if_eq (tgt := 65) dX9_inside_59 rfl (by decide) (fun c18 => absurd c18 (by decide)) (fun c18 => ?_)
      refine TT_iinc dX9_inside_62 (Nat.le_of_ble_eq_true rfl) rfl rfl rfl ?_
      refine TT_iinc dX9_inside_65 (Nat.le_of_ble_eq_true rfl) rfl rfl rfl ?_
      refine TT_goto (tgt := 40) dX9_inside_68 rfl ?_
      exact h
    · refine TT_if_eq (tgt := 65) dX9_inside_59 rfl (by decide) (fun c19 => ?_) (fun c19 => absurd c19 (by decide))
      refine TT_iinc dX9_inside_65 (Nat.le_of_ble_eq_true rfl) rfl rfl rfl ?_
      refine TT_goto (tgt := 40) dX9_inside_68 rfl ?_
      exact h
set_option maxRecDepth 4000 in
theorem w_X9_who_0 (x1 : Int) (x2 : Int) (x3 : Int) (x4 : Int) (x5 : Int) (x6 : Int) {σ : Mem} {K : Int → Mem → Prop} (h : CC m_X9_isPlace [vI x1, vI x2, vI x3, vI x4] σ (PZ (fun s2 => CC m_X9_isMinute [vI x5] s2 (PZ (fun s6 => CC m_X3_set [vR 3, vI x1, vI x2, vI x3, vI x4] s6 (PN (fun s10 => TT m_X9_who 40 [vR 0, vU, vU, vU, vU, vI x5, vI x6, vI 0, vI 0] [] s10 (PI K)))) (fun s7 => K (-900002) s7))) (fun s3 => K (-900002) s3))) : TT m_X9_who 0 [vR 0, vI x1, vI x2, vI x3, vI x4, vI x5, vI x6, vU, vU] [] σ (PI K) := by
  refine TT_iload_n dX9_who_0 rfl ?_
  refine TT_iload_n dX9_who_1 rfl ?_
  refine TT_iload_n dX9_who_2 rfl ?_
  refine TT_iload dX9_who_3 rfl ?_
  refine TT_callSZ (M' := m_X9_isPlace) (as := [vI x1, vI x2, vI x3, vI x4]) (rest := []) dX9_who_5 mo_X9_isPlace ml_X9_153 sm_X9_isPlace (Nat.le_of_ble_eq_true rfl) (Nat.le_of_ble_eq_true rfl) ⟨rfl, rfl, rfl⟩ rfl rfl (Nat.le_of_ble_eq_true rfl) h (fun s2 h => ?_) (fun s3 h => ?_)
  · refine TT_if_eq (tgt := 19) dX9_who_8 rfl (by decide) (fun c4 => absurd c4 (by decide)) (fun c4 => ?_)
    refine TT_iload dX9_who_11 rfl ?_
    refine TT_callSZ (M' := m_X9_isMinute) (as := [vI x5]) (rest := []) dX9_who_13 mo_X9_isMinute ml_X9_91 sm_X9_isMinute (Nat.le_of_ble_eq_true rfl) (Nat.le_of_ble_eq_true rfl) ⟨rfl, rfl, rfl⟩ rfl rfl (Nat.le_of_ble_eq_true rfl) h (fun s6 h => ?_) (fun s7 h => ?_)
    · refine TT_if_ne (tgt := 22) dX9_who_16 rfl (by decide) (fun c8 => ?_) (fun c8 => absurd c8 (by decide))
      refine TT_aload_n dX9_who_22 rfl ?_
      refine TT_getR (r := 3) dX9_who_23 fd_X9_22 (by decide) rfl (by decide) rfl rfl ?_
      refine TT_iload_n dX9_who_26 rfl ?_
      refine TT_iload_n dX9_who_27 rfl ?_
      refine TT_iload_n dX9_who_28 rfl ?_
      refine TT_iload dX9_who_29 rfl ?_
      refine TT_callVN (M' := m_X3_set) (as := [vI x1, vI x2, vI x3, vI x4]) (rest := []) dX9_who_31 mo_X3_set ml_X9_157 im_X3_set se_X3_set (Nat.le_of_ble_eq_true rfl) (Nat.le_of_ble_eq_true rfl) ⟨rfl, rfl, rfl⟩ rfl rfl (Nat.le_of_ble_eq_true rfl) (by decide) rfl rfl (by decide) h (fun s10 h => ?_)
      refine TT_iconst dX9_who_34 ?_
      refine TT_istore dX9_who_35 (Nat.le_of_ble_eq_true rfl) rfl rfl ?_
      refine TT_iconst dX9_who_37 ?_
      refine TT_istore dX9_who_38 (Nat.le_of_ble_eq_true rfl) rfl rfl ?_
      refine TT_kill 1 rfl ?_
      refine TT_kill 2 rfl ?_
      refine TT_kill 3 rfl ?_
      refine TT_kill 4 rfl ?_
      exact h
    · refine TT_if_ne (tgt := 22) dX9_who_16 rfl (by decide) (fun c11 => absurd c11 (by decide)) (fun c11 => ?_)
      refine TT_ldc dX9_who_19 kc_X9_98 (x := (-900002)) rfl ?_
      exact TT_iret dX9_who_21 rfl rfl h
  · refine TT_if_eq (tgt := 19) dX9_who_8 rfl (by decide) (fun c12 => ?_) (fun c12 => absurd c12 (by decide))
    refine TT_ldc dX9_who_19 kc_X9_98 (x := (-900002)) rfl ?_
    exact TT_iret dX9_who_21 rfl rfl h
theorem e_X9_who (x1 : Int) (x2 : Int) (x3 : Int) (x4 : Int) (x5 : Int) (x6 : Int) {σ : Mem} {K : Int → Mem → Prop} (h : CC m_X9_isPlace [vI x1, vI x2, vI x3, vI x4] σ (PZ (fun s2 => CC m_X9_isMinute [vI x5] s2 (PZ (fun s6 => CC m_X3_set [vR 3, vI x1, vI x2, vI x3, vI x4] s6 (PN (fun s10 => TT m_X9_who 40 [vR 0, vU, vU, vU, vU, vI x5, vI x6, vI 0, vI 0] [] s10 (PI K)))) (fun s7 => K (-900002) s7))) (fun s3 => K (-900002) s3))) : CC m_X9_who [vR 0, vI x1, vI x2, vI x3, vI x4, vI x5, vI x6] σ (PI K) := CC_of (by decide) rfl rfl rfl (Nat.le_of_ble_eq_true rfl) (w_X9_who_0 x1 x2 x3 x4 x5 x6 h)
set_option maxRecDepth 4000 in
theorem w_X9_who_40 (x5 : Int) (x6 : Int) (x7 : Int) (x8 : Int) {σ : Mem} {K : Int → Mem → Prop} (h : R32 x8 ∧ ((10 ≤ x8 → K (-900009) σ) ∧ (¬ 10 ≤ x8 → CC m_X9_isIn [vR 0, vR 3, vI x8, vI x5] σ (PZ (fun s16 => R32 x7 ∧ R32 x6 ∧ ((¬ x7 = x6 → TT m_X9_who 40 [vR 0, vU, vU, vU, vU, vI x5, vI x6, vI (x7 + 1), vI (x8 + 1)] [] s16 (PI K)) ∧ (x7 = x6 → K x8 s16))) (fun s17 => TT m_X9_who 40 [vR 0, vU, vU, vU, vU, vI x5, vI x6, vI x7, vI (x8 + 1)] [] s17 (PI K)))))) : TT m_X9_who 40 [vR 0, vU, vU, vU, vU, vI x5, vI x6, vI x7, vI x8] [] σ (PI K) := by
  refine TT_iload dX9_who_40 rfl ?_
  refine TT_bipush dX9_who_42 (by decide) ?_
  obtain ⟨o13, h⟩ := h
  refine TT_icmp_ge (tgt := 81) dX9_who_44 rfl o13 (by decide) (fun c14 => ?_) (fun c14 => ?_)
  · replace h := h.1 c14
    refine TT_ldc dX9_who_81 kc_X9_165 (x := (-900009)) rfl ?_
    exact TT_iret dX9_who_83 rfl rfl h
  · replace h := h.2 c14
    refine TT_aload_n dX9_who_47 rfl ?_
    refine TT_aload_n dX9_who_48 rfl ?_
    refine TT_getR (r := 3) dX9_who_49 fd_X9_22 (by decide) rfl (by decide) rfl rfl ?_
    refine TT_iload dX9_who_52 rfl ?_
    refine TT_iload dX9_who_54 rfl ?_
    refine TT_callVZ (M' := m_X9_isIn) (as := [vR 3, vI x8, vI x5]) (rest := []) dX9_who_56 mo_X9_isIn ml_X9_161 im_X9_isIn se_X9_isIn (Nat.le_of_ble_eq_true rfl) (Nat.le_of_ble_eq_true rfl) ⟨rfl, rfl, rfl⟩ rfl rfl (Nat.le_of_ble_eq_true rfl) (by decide) rfl rfl (by decide) h (fun s16 h => ?_) (fun s17 h => ?_)
    · refine TT_if_eq (tgt := 75) dX9_who_59 rfl (by decide) (fun c18 => absurd c18 (by decide)) (fun c18 => ?_)
      refine TT_iload dX9_who_62 rfl ?_
      refine TT_iload dX9_who_64 rfl ?_
      obtain ⟨o19, h⟩ := h
      obtain ⟨o20, h⟩ := h
      refine TT_icmp_ne (tgt := 72) dX9_who_66 rfl o19 o20 (fun c21 => ?_) (fun c21 => ?_)
      · replace h := h.1 c21
        refine TT_iinc dX9_who_72 (Nat.le_of_ble_eq_true rfl) rfl rfl rfl ?_
        refine TT_iinc dX9_who_75 (Nat.le_of_ble_eq_true rfl) rfl rfl rfl ?_
        refine TT_goto (tgt := 40) dX9_who_78 rfl ?_
        exact h
      · replace h := h.2 c21
        refine TT_iload dX9_who_69 rfl ?_
        exact TT_iret dX9_who_71 rfl rfl h
    · refine TT_if_eq (tgt := 75) dX9_who_59 rfl (by decide) (fun c22 => ?_) (fun c22 => absurd c22 (by decide))
      refine TT_iinc dX9_who_75 (Nat.le_of_ble_eq_true rfl) rfl rfl rfl ?_
      refine TT_goto (tgt := 40) dX9_who_78 rfl ?_
      exact h
set_option maxRecDepth 4000 in
theorem w_X9_visits_0 (x1 : Int) (x2 : Int) (x3 : Int) (x4 : Int) (x5 : Int) {σ : Mem} {K : Int → Mem → Prop} (h : CC m_X9_refuseVisit [vI x1, vI x2, vI x3, vI x4, vI x5] σ (PI (fun y1 s2 => R32 y1 ∧ ((y1 = 0 → CC m_X3_set [vR 3, vI x2, vI x3, vI x4, vI x5] s2 (PN (fun s6 => CC m_X9_gatherVisits [vR 0, vI x1] s6 (PN (fun s8 => K (s8 6 2) s8))))) ∧ (¬ y1 = 0 → K y1 s2))))) : TT m_X9_visits 0 [vR 0, vI x1, vI x2, vI x3, vI x4, vI x5, vU] [] σ (PI K) := by
  refine TT_iload_n dX9_visits_0 rfl ?_
  refine TT_iload_n dX9_visits_1 rfl ?_
  refine TT_iload_n dX9_visits_2 rfl ?_
  refine TT_iload dX9_visits_3 rfl ?_
  refine TT_iload dX9_visits_5 rfl ?_
  refine TT_callSI (M' := m_X9_refuseVisit) (as := [vI x1, vI x2, vI x3, vI x4, vI x5]) (rest := []) dX9_visits_7 mo_X9_refuseVisit ml_X9_166 sm_X9_refuseVisit (Nat.le_of_ble_eq_true rfl) (Nat.le_of_ble_eq_true rfl) ⟨rfl, rfl, rfl⟩ rfl rfl (Nat.le_of_ble_eq_true rfl) h (fun y1 s2 h => ?_)
  refine TT_istore dX9_visits_10 (Nat.le_of_ble_eq_true rfl) rfl rfl ?_
  refine TT_iload dX9_visits_12 rfl ?_
  obtain ⟨o3, h⟩ := h
  refine TT_if_eq (tgt := 20) dX9_visits_14 rfl o3 (fun c4 => ?_) (fun c4 => ?_)
  · replace h := h.1 c4
    refine TT_aload_n dX9_visits_20 rfl ?_
    refine TT_getR (r := 3) dX9_visits_21 fd_X9_22 (by decide) rfl (by decide) rfl rfl ?_
    refine TT_iload_n dX9_visits_24 rfl ?_
    refine TT_iload_n dX9_visits_25 rfl ?_
    refine TT_iload dX9_visits_26 rfl ?_
    refine TT_iload dX9_visits_28 rfl ?_
    refine TT_callVN (M' := m_X3_set) (as := [vI x2, vI x3, vI x4, vI x5]) (rest := []) dX9_visits_30 mo_X3_set ml_X9_157 im_X3_set se_X3_set (Nat.le_of_ble_eq_true rfl) (Nat.le_of_ble_eq_true rfl) ⟨rfl, rfl, rfl⟩ rfl rfl (Nat.le_of_ble_eq_true rfl) (by decide) rfl rfl (by decide) h (fun s6 h => ?_)
    refine TT_aload_n dX9_visits_33 rfl ?_
    refine TT_iload_n dX9_visits_34 rfl ?_
    refine TT_callVN (M' := m_X9_gatherVisits) (as := [vI x1]) (rest := []) dX9_visits_35 mo_X9_gatherVisits ml_X9_170 im_X9_gatherVisits se_X9_gatherVisits (Nat.le_of_ble_eq_true rfl) (Nat.le_of_ble_eq_true rfl) ⟨rfl, rfl, rfl⟩ rfl rfl (Nat.le_of_ble_eq_true rfl) (by decide) rfl rfl (by decide) h (fun s8 h => ?_)
    refine TT_aload_n dX9_visits_38 rfl ?_
    refine TT_getR (r := 6) dX9_visits_39 fd_X9_39 (by decide) rfl (by decide) rfl rfl ?_
    refine TT_getI dX9_visits_42 fd_X9_173 (by decide) (Or.inl rfl) (by decide) rfl ?_
    exact TT_iret dX9_visits_45 rfl rfl h
  · replace h := h.2 c4
    refine TT_iload dX9_visits_17 rfl ?_
    exact TT_iret dX9_visits_19 rfl rfl h
theorem e_X9_visits (x1 : Int) (x2 : Int) (x3 : Int) (x4 : Int) (x5 : Int) {σ : Mem} {K : Int → Mem → Prop} (h : CC m_X9_refuseVisit [vI x1, vI x2, vI x3, vI x4, vI x5] σ (PI (fun y1 s2 => R32 y1 ∧ ((y1 = 0 → CC m_X3_set [vR 3, vI x2, vI x3, vI x4, vI x5] s2 (PN (fun s6 => CC m_X9_gatherVisits [vR 0, vI x1] s6 (PN (fun s8 => K (s8 6 2) s8))))) ∧ (¬ y1 = 0 → K y1 s2))))) : CC m_X9_visits [vR 0, vI x1, vI x2, vI x3, vI x4, vI x5] σ (PI K) := CC_of (by decide) rfl rfl rfl (Nat.le_of_ble_eq_true rfl) (w_X9_visits_0 x1 x2 x3 x4 x5 h)
set_option maxRecDepth 4000 in
theorem w_X9_visit_0 (x1 : Int) (x2 : Int) (x3 : Int) (x4 : Int) (x5 : Int) (x6 : Int) (x7 : Int) {σ : Mem} {K : Int → Mem → Prop} (h : CC m_X9_refuseVisit [vI x1, vI x2, vI x3, vI x4, vI x5] σ (PI (fun y1 s2 => R32 y1 ∧ ((y1 = 0 → CC m_X3_set [vR 3, vI x2, vI x3, vI x4, vI x5] s2 (PN (fun s6 => CC m_X9_gatherVisits [vR 0, vI x1] s6 (PN (fun s8 => CC m_X9_isWithin [vI x6, vI 0, vI ((s8 6 2) - 1)] s8 (PZ (fun s10 => R32 x7 ∧ (x7 = 0 → (0 ≤ x6 ∧ x6 < 100)) ∧ (¬ x7 = 0 → (0 ≤ x6 ∧ x6 < 100)) ∧ K (if x7 = 0 then (s10 7 (x6).toNat) else (s10 8 (x6).toNat) : Int) s10) (fun s11 => K (-900009) s11))))))) ∧ (¬ y1 = 0 → K y1 s2))))) : TT m_X9_visit 0 [vR 0, vI x1, vI x2, vI x3, vI x4, vI x5, vI x6, vI x7, vU] [] σ (PI K) := by
  refine TT_iload_n dX9_visit_0 rfl ?_
  refine TT_iload_n dX9_visit_1 rfl ?_
  refine TT_iload_n dX9_visit_2 rfl ?_
  refine TT_iload dX9_visit_3 rfl ?_
  refine TT_iload dX9_visit_5 rfl ?_
  refine TT_callSI (M' := m_X9_refuseVisit) (as := [vI x1, vI x2, vI x3, vI x4, vI x5]) (rest := []) dX9_visit_7 mo_X9_refuseVisit ml_X9_166 sm_X9_refuseVisit (Nat.le_of_ble_eq_true rfl) (Nat.le_of_ble_eq_true rfl) ⟨rfl, rfl, rfl⟩ rfl rfl (Nat.le_of_ble_eq_true rfl) h (fun y1 s2 h => ?_)
  refine TT_istore dX9_visit_10 (Nat.le_of_ble_eq_true rfl) rfl rfl ?_
  refine TT_iload dX9_visit_12 rfl ?_
  obtain ⟨o3, h⟩ := h
  refine TT_if_eq (tgt := 20) dX9_visit_14 rfl o3 (fun c4 => ?_) (fun c4 => ?_)
  · replace h := h.1 c4
    refine TT_aload_n dX9_visit_20 rfl ?_
    refine TT_getR (r := 3) dX9_visit_21 fd_X9_22 (by decide) rfl (by decide) rfl rfl ?_
    refine TT_iload_n dX9_visit_24 rfl ?_
    refine TT_iload_n dX9_visit_25 rfl ?_
    refine TT_iload dX9_visit_26 rfl ?_
    refine TT_iload dX9_visit_28 rfl ?_
    refine TT_callVN (M' := m_X3_set) (as := [vI x2, vI x3, vI x4, vI x5]) (rest := []) dX9_visit_30 mo_X3_set ml_X9_157 im_X3_set se_X3_set (Nat.le_of_ble_eq_true rfl) (Nat.le_of_ble_eq_true rfl) ⟨rfl, rfl, rfl⟩ rfl rfl (Nat.le_of_ble_eq_true rfl) (by decide) rfl rfl (by decide) h (fun s6 h => ?_)
    refine TT_aload_n dX9_visit_33 rfl ?_
    refine TT_iload_n dX9_visit_34 rfl ?_
    refine TT_callVN (M' := m_X9_gatherVisits) (as := [vI x1]) (rest := []) dX9_visit_35 mo_X9_gatherVisits ml_X9_170 im_X9_gatherVisits se_X9_gatherVisits (Nat.le_of_ble_eq_true rfl) (Nat.le_of_ble_eq_true rfl) ⟨rfl, rfl, rfl⟩ rfl rfl (Nat.le_of_ble_eq_true rfl) (by decide) rfl rfl (by decide) h (fun s8 h => ?_)
    refine TT_iload dX9_visit_38 rfl ?_
    refine TT_iconst dX9_visit_40 ?_
    refine TT_aload_n dX9_visit_41 rfl ?_
    refine TT_getR (r := 6) dX9_visit_42 fd_X9_39 (by decide) rfl (by decide) rfl rfl ?_
    refine TT_getI dX9_visit_45 fd_X9_173 (by decide) (Or.inl rfl) (by decide) rfl ?_
    refine TT_iconst dX9_visit_48 ?_
    refine TT_isub dX9_visit_49 ?_
    refine TT_callSZ (M' := m_X9_isWithin) (as := [vI x6, vI 0, vI ((s8 6 2) - 1)]) (rest := []) dX9_visit_50 mo_X9_isWithin ml_X9_94 sm_X9_isWithin (Nat.le_of_ble_eq_true rfl) (Nat.le_of_ble_eq_true rfl) ⟨rfl, rfl, rfl⟩ rfl rfl (Nat.le_of_ble_eq_true rfl) h (fun s10 h => ?_) (fun s11 h => ?_)
    · refine TT_if_ne (tgt := 59) dX9_visit_53 rfl (by decide) (fun c12 => ?_) (fun c12 => absurd c12 (by decide))
      refine TT_iload dX9_visit_59 rfl ?_
      obtain ⟨o13, h⟩ := h
      obtain ⟨o18, h⟩ := h
      obtain ⟨o19, h⟩ := h
      have j17 : TT m_X9_visit 87 [vR 0, vI x1, vI x2, vI x3, vI x4, vI x5, vI x6, vI x7, vI y1] [vI (if x7 = 0 then (s10 7 (x6).toNat) else (s10 8 (x6).toNat) : Int)] s10 (PI K) := by
        exact TT_iret dX9_visit_87 rfl rfl h
      refine TT_if_eq (tgt := 77) dX9_visit_61 rfl o13 (fun c14 => ?_) (fun c14 => ?_)
      · have h := o18 c14
        refine TT_aload_n dX9_visit_77 rfl ?_
        refine TT_getR (r := 6) dX9_visit_78 fd_X9_39 (by decide) rfl (by decide) rfl rfl ?_
        refine TT_getR (r := 7) dX9_visit_81 fd_X9_179 (by decide) rfl (by decide) rfl rfl ?_
        refine TT_iload dX9_visit_84 rfl ?_
        have o15 := h
        refine TT_iald dX9_visit_86 (by decide) rfl (by decide) o15 ?_
        exact TT.cast j17 (by first | rfl | (simp only [if_pos c14] <;> rfl)) (by first | rfl | (simp only [if_pos c14] <;> rfl))
      · have h := o19 c14
        refine TT_aload_n dX9_visit_64 rfl ?_
        refine TT_getR (r := 6) dX9_visit_65 fd_X9_39 (by decide) rfl (by decide) rfl rfl ?_
        refine TT_getR (r := 8) dX9_visit_68 fd_X9_176 (by decide) rfl (by decide) rfl rfl ?_
        refine TT_iload dX9_visit_71 rfl ?_
        have o16 := h
        refine TT_iald dX9_visit_73 (by decide) rfl (by decide) o16 ?_
        refine TT_goto (tgt := 87) dX9_visit_74 rfl ?_
        exact TT.cast j17 (by first | rfl | (simp only [if_neg c14] <;> rfl)) (by first | rfl | (simp only [if_neg c14] <;> rfl))
    · refine TT_if_ne (tgt := 59) dX9_visit_53 rfl (by decide) (fun c20 => absurd c20 (by decide)) (fun c20 => ?_)
      refine TT_ldc dX9_visit_56 kc_X9_165 (x := (-900009)) rfl ?_
      exact TT_iret dX9_visit_58 rfl rfl h
  · replace h := h.2 c4
    refine TT_iload dX9_visit_17 rfl ?_
    exact TT_iret dX9_visit_19 rfl rfl h
theorem e_X9_visit (x1 : Int) (x2 : Int) (x3 : Int) (x4 : Int) (x5 : Int) (x6 : Int) (x7 : Int) {σ : Mem} {K : Int → Mem → Prop} (h : CC m_X9_refuseVisit [vI x1, vI x2, vI x3, vI x4, vI x5] σ (PI (fun y1 s2 => R32 y1 ∧ ((y1 = 0 → CC m_X3_set [vR 3, vI x2, vI x3, vI x4, vI x5] s2 (PN (fun s6 => CC m_X9_gatherVisits [vR 0, vI x1] s6 (PN (fun s8 => CC m_X9_isWithin [vI x6, vI 0, vI ((s8 6 2) - 1)] s8 (PZ (fun s10 => R32 x7 ∧ (x7 = 0 → (0 ≤ x6 ∧ x6 < 100)) ∧ (¬ x7 = 0 → (0 ≤ x6 ∧ x6 < 100)) ∧ K (if x7 = 0 then (s10 7 (x6).toNat) else (s10 8 (x6).toNat) : Int) s10) (fun s11 => K (-900009) s11))))))) ∧ (¬ y1 = 0 → K y1 s2))))) : CC m_X9_visit [vR 0, vI x1, vI x2, vI x3, vI x4, vI x5, vI x6, vI x7] σ (PI K) := CC_of (by decide) rfl rfl rfl (Nat.le_of_ble_eq_true rfl) (w_X9_visit_0 x1 x2 x3 x4 x5 x6 x7 h)
set_option maxRecDepth 4000 in
theorem w_X9_far_0 (x1 : Int) (x2 : Int) (x3 : Int) (x4 : Int) {σ : Mem} {K : Int → Mem → Prop} (h : CC m_X9_isThing [vI x1] σ (PZ (fun s2 => CC m_X9_isThing [vI x2] s2 (PZ (fun s6 => CC m_X9_isMinute [vI x3] s6 (PZ (fun s10 => CC m_X9_locateBoth [vR 0, vI x1, vI x2, vI x3] s10 (PZ (fun s14 => CC m_X9_farAbove [vR 4, vR 5] s14 (PJ (fun y17 s18 => CC m_X9_farBelow [vR 4, vR 5] s18 (PJ (fun y19 s20 => CC m_X9_leastTerm [vL y17, vL y19, vI x4] s20 (PJ (fun y21 s22 => K y21 s22))))))) (fun s15 => K (-900003) s15))) (fun s11 => K (-900002) s11))) (fun s7 => K (-900001) s7))) (fun s3 => K (-900001) s3))) : TT m_X9_far 0 [vR 0, vI x1, vI x2, vI x3, vI x4] [] σ (PJ K) := by
  refine TT_iload_n dX9_far_0 rfl ?_
  refine TT_callSZ (M' := m_X9_isThing) (as := [vI x1]) (rest := []) dX9_far_1 mo_X9_isThing ml_X9_86 sm_X9_isThing (Nat.le_of_ble_eq_true rfl) (Nat.le_of_ble_eq_true rfl) ⟨rfl, rfl, rfl⟩ rfl rfl (Nat.le_of_ble_eq_true rfl) h (fun s2 h => ?_) (fun s3 h => ?_)
  · refine TT_if_eq (tgt := 14) dX9_far_4 rfl (by decide) (fun c4 => absurd c4 (by decide)) (fun c4 => ?_)
    refine TT_iload_n dX9_far_7 rfl ?_
    refine TT_callSZ (M' := m_X9_isThing) (as := [vI x2]) (rest := []) dX9_far_8 mo_X9_isThing ml_X9_86 sm_X9_isThing (Nat.le_of_ble_eq_true rfl) (Nat.le_of_ble_eq_true rfl) ⟨rfl, rfl, rfl⟩ rfl rfl (Nat.le_of_ble_eq_true rfl) h (fun s6 h => ?_) (fun s7 h => ?_)
    · refine TT_if_ne (tgt := 18) dX9_far_11 rfl (by decide) (fun c8 => ?_) (fun c8 => absurd c8 (by decide))
      refine TT_iload_n dX9_far_18 rfl ?_
      refine TT_callSZ (M' := m_X9_isMinute) (as := [vI x3]) (rest := []) dX9_far_19 mo_X9_isMinute ml_X9_91 sm_X9_isMinute (Nat.le_of_ble_eq_true rfl) (Nat.le_of_ble_eq_true rfl) ⟨rfl, rfl, rfl⟩ rfl rfl (Nat.le_of_ble_eq_true rfl) h (fun s10 h => ?_) (fun s11 h => ?_)
      · refine TT_if_ne (tgt := 29) dX9_far_22 rfl (by decide) (fun c12 => ?_) (fun c12 => absurd c12 (by decide))
        refine TT_aload_n dX9_far_29 rfl ?_
        refine TT_iload_n dX9_far_30 rfl ?_
        refine TT_iload_n dX9_far_31 rfl ?_
        refine TT_iload_n dX9_far_32 rfl ?_
        refine TT_callVZ (M' := m_X9_locateBoth) (as := [vI x1, vI x2, vI x3]) (rest := []) dX9_far_33 mo_X9_locateBoth ml_X9_186 im_X9_locateBoth se_X9_locateBoth (Nat.le_of_ble_eq_true rfl) (Nat.le_of_ble_eq_true rfl) ⟨rfl, rfl, rfl⟩ rfl rfl (Nat.le_of_ble_eq_true rfl) (by decide) rfl rfl (by decide) h (fun s14 h => ?_) (fun s15 h => ?_)
        · refine TT_if_ne (tgt := 43) dX9_far_36 rfl (by decide) (fun c16 => ?_) (fun c16 => absurd c16 (by decide))
          refine TT_aload_n dX9_far_43 rfl ?_
          refine TT_getR (r := 4) dX9_far_44 fd_X9_29 (by decide) rfl (by decide) rfl rfl ?_
          refine TT_aload_n dX9_far_47 rfl ?_
          refine TT_getR (r := 5) dX9_far_48 fd_X9_33 (by decide) rfl (by decide) rfl rfl ?_
          refine TT_callSJ (M' := m_X9_farAbove) (as := [vR 4, vR 5]) (rest := []) dX9_far_51 mo_X9_farAbove ml_X9_191 sm_X9_farAbove (Nat.le_of_ble_eq_true rfl) (Nat.le_of_ble_eq_true rfl) ⟨rfl, rfl, rfl⟩ rfl rfl (Nat.le_of_ble_eq_true rfl) h (fun y17 s18 h => ?_)
          refine TT_aload_n dX9_far_54 rfl ?_
          refine TT_getR (r := 4) dX9_far_55 fd_X9_29 (by decide) rfl (by decide) rfl rfl ?_
          refine TT_aload_n dX9_far_58 rfl ?_
          refine TT_getR (r := 5) dX9_far_59 fd_X9_33 (by decide) rfl (by decide) rfl rfl ?_
          refine TT_callSJ (M' := m_X9_farBelow) (as := [vR 4, vR 5]) (rest := [vL y17]) dX9_far_62 mo_X9_farBelow ml_X9_195 sm_X9_farBelow (Nat.le_of_ble_eq_true rfl) (Nat.le_of_ble_eq_true rfl) ⟨rfl, rfl, rfl⟩ rfl rfl (Nat.le_of_ble_eq_true rfl) h (fun y19 s20 h => ?_)
          refine TT_iload dX9_far_65 rfl ?_
          refine TT_callSJ (M' := m_X9_leastTerm) (as := [vL y17, vL y19, vI x4]) (rest := []) dX9_far_67 mo_X9_leastTerm ml_X9_149 sm_X9_leastTerm (Nat.le_of_ble_eq_true rfl) (Nat.le_of_ble_eq_true rfl) ⟨rfl, rfl, rfl⟩ rfl rfl (Nat.le_of_ble_eq_true rfl) h (fun y21 s22 h => ?_)
          exact TT_lret dX9_far_70 rfl rfl h
        · refine TT_if_ne (tgt := 43) dX9_far_36 rfl (by decide) (fun c23 => absurd c23 (by decide)) (fun c23 => ?_)
          refine TT_ldc2 dX9_far_39 kl_X9_189 (x := (-900003)) rfl ?_
          exact TT_lret dX9_far_42 rfl rfl h
      · refine TT_if_ne (tgt := 29) dX9_far_22 rfl (by decide) (fun c24 => absurd c24 (by decide)) (fun c24 => ?_)
        refine TT_ldc2 dX9_far_25 kl_X9_184 (x := (-900002)) rfl ?_
        exact TT_lret dX9_far_28 rfl rfl h
    · refine TT_if_ne (tgt := 18) dX9_far_11 rfl (by decide) (fun c25 => absurd c25 (by decide)) (fun c25 => ?_)
      refine TT_ldc2 dX9_far_14 kl_X9_182 (x := (-900001)) rfl ?_
      exact TT_lret dX9_far_17 rfl rfl h
  · refine TT_if_eq (tgt := 14) dX9_far_4 rfl (by decide) (fun c26 => ?_) (fun c26 => absurd c26 (by decide))
    refine TT_ldc2 dX9_far_14 kl_X9_182 (x := (-900001)) rfl ?_
    exact TT_lret dX9_far_17 rfl rfl h
theorem e_X9_far (x1 : Int) (x2 : Int) (x3 : Int) (x4 : Int) {σ : Mem} {K : Int → Mem → Prop} (h : CC m_X9_isThing [vI x1] σ (PZ (fun s2 => CC m_X9_isThing [vI x2] s2 (PZ (fun s6 => CC m_X9_isMinute [vI x3] s6 (PZ (fun s10 => CC m_X9_locateBoth [vR 0, vI x1, vI x2, vI x3] s10 (PZ (fun s14 => CC m_X9_farAbove [vR 4, vR 5] s14 (PJ (fun y17 s18 => CC m_X9_farBelow [vR 4, vR 5] s18 (PJ (fun y19 s20 => CC m_X9_leastTerm [vL y17, vL y19, vI x4] s20 (PJ (fun y21 s22 => K y21 s22))))))) (fun s15 => K (-900003) s15))) (fun s11 => K (-900002) s11))) (fun s7 => K (-900001) s7))) (fun s3 => K (-900001) s3))) : CC m_X9_far [vR 0, vI x1, vI x2, vI x3, vI x4] σ (PJ K) := CC_of (by decide) rfl rfl rfl (Nat.le_of_ble_eq_true rfl) (w_X9_far_0 x1 x2 x3 x4 h)
set_option maxRecDepth 4000 in
theorem w_X9_nearest_0 (x1 : Int) (x2 : Int) (x3 : Int) {σ : Mem} {K : Int → Mem → Prop} (h : CC m_X9_refuseMoment [vI x1, vI x2] σ (PI (fun y1 s2 => R32 y1 ∧ ((y1 = 0 → (0 ≤ x1 ∧ x1 < 10) ∧ CC m_X8_locate [vR (trk x1), vI x2, vR 4] s2 (PZ (fun s8 => CC m_X4_clear [vR 9] s8 (PN (fun s12 => TT m_X9_nearest 45 [vR 0, vI x1, vI x2, vI x3, vU, vI 0] [] s12 (PI K)))) (fun s9 => K (-900003) s9))) ∧ (¬ y1 = 0 → K y1 s2))))) : TT m_X9_nearest 0 [vR 0, vI x1, vI x2, vI x3, vU, vU] [] σ (PI K) := by
  refine TT_iload_n dX9_nearest_0 rfl ?_
  refine TT_iload_n dX9_nearest_1 rfl ?_
  refine TT_callSI (M' := m_X9_refuseMoment) (as := [vI x1, vI x2]) (rest := []) dX9_nearest_2 mo_X9_refuseMoment ml_X9_131 sm_X9_refuseMoment (Nat.le_of_ble_eq_true rfl) (Nat.le_of_ble_eq_true rfl) ⟨rfl, rfl, rfl⟩ rfl rfl (Nat.le_of_ble_eq_true rfl) h (fun y1 s2 h => ?_)
  refine TT_istore dX9_nearest_5 (Nat.le_of_ble_eq_true rfl) rfl rfl ?_
  refine TT_iload dX9_nearest_7 rfl ?_
  obtain ⟨o3, h⟩ := h
  refine TT_if_eq (tgt := 15) dX9_nearest_9 rfl o3 (fun c4 => ?_) (fun c4 => ?_)
  · replace h := h.1 c4
    refine TT_aload_n dX9_nearest_15 rfl ?_
    refine TT_getR (r := 1) dX9_nearest_16 fd_X9_11 (by decide) rfl (by decide) rfl rfl ?_
    refine TT_iload_n dX9_nearest_19 rfl ?_
    obtain ⟨o5, h⟩ := h
    have t6 : isT (trk x1) := isT_trk o5
    refine TT_aald (r := (trk x1)) dX9_nearest_20 (Or.inl rfl) (by decide) rfl (by decide) o5 (rs_trk o5) ?_
    refine TT_iload_n dX9_nearest_21 rfl ?_
    refine TT_aload_n dX9_nearest_22 rfl ?_
    refine TT_getR (r := 4) dX9_nearest_23 fd_X9_29 (by decide) rfl (by decide) rfl rfl ?_
    refine TT_callVZ (M' := m_X8_locate) (as := [vI x2, vR 4]) (rest := []) dX9_nearest_26 mo_X8_locate ml_X9_135 im_X8_locate se_X8_locate (Nat.le_of_ble_eq_true rfl) (Nat.le_of_ble_eq_true rfl) ⟨rfl, rfl, rfl⟩ rfl rfl (Nat.le_of_ble_eq_true rfl) (ltT t6) (shT t6) rfl (by decide) h (fun s8 h => ?_) (fun s9 h => ?_)
    · refine TT_if_ne (tgt := 35) dX9_nearest_29 rfl (by decide) (fun c10 => ?_) (fun c10 => absurd c10 (by decide))
      refine TT_aload_n dX9_nearest_35 rfl ?_
      refine TT_getR (r := 9) dX9_nearest_36 fd_X9_46 (by decide) rfl (by decide) rfl rfl ?_
      refine TT_callVN (M' := m_X4_clear) (as := []) (rest := []) dX9_nearest_39 mo_X4_clear ml_X9_198 im_X4_clear se_X4_clear (Nat.le_of_ble_eq_true rfl) (Nat.le_of_ble_eq_true rfl) ⟨rfl, rfl, rfl⟩ rfl rfl (Nat.le_of_ble_eq_true rfl) (by decide) rfl rfl (by decide) h (fun s12 h => ?_)
      refine TT_iconst dX9_nearest_42 ?_
      refine TT_istore dX9_nearest_43 (Nat.le_of_ble_eq_true rfl) rfl rfl ?_
      refine TT_kill 4 rfl ?_
      exact h
    · refine TT_if_ne (tgt := 35) dX9_nearest_29 rfl (by decide) (fun c13 => absurd c13 (by decide)) (fun c13 => ?_)
      refine TT_ldc dX9_nearest_32 kc_X9_139 (x := (-900003)) rfl ?_
      exact TT_iret dX9_nearest_34 rfl rfl h
  · replace h := h.2 c4
    refine TT_iload dX9_nearest_12 rfl ?_
    exact TT_iret dX9_nearest_14 rfl rfl h
theorem e_X9_nearest (x1 : Int) (x2 : Int) (x3 : Int) {σ : Mem} {K : Int → Mem → Prop} (h : CC m_X9_refuseMoment [vI x1, vI x2] σ (PI (fun y1 s2 => R32 y1 ∧ ((y1 = 0 → (0 ≤ x1 ∧ x1 < 10) ∧ CC m_X8_locate [vR (trk x1), vI x2, vR 4] s2 (PZ (fun s8 => CC m_X4_clear [vR 9] s8 (PN (fun s12 => TT m_X9_nearest 45 [vR 0, vI x1, vI x2, vI x3, vU, vI 0] [] s12 (PI K)))) (fun s9 => K (-900003) s9))) ∧ (¬ y1 = 0 → K y1 s2))))) : CC m_X9_nearest [vR 0, vI x1, vI x2, vI x3] σ (PI K) := CC_of (by decide) rfl rfl rfl (Nat.le_of_ble_eq_true rfl) (w_X9_nearest_0 x1 x2 x3 h)
set_option maxRecDepth 4000 in
theorem w_X9_nearest_45 (x1 : Int) (x2 : Int) (x3 : Int) (x5 : Int) {σ : Mem} {K : Int → Mem → Prop} (h : R32 x5 ∧ ((10 ≤ x5 → CC m_X4_numberAt [vR 9, vI x3] σ (PI (fun y16 s17 => K y16 s17))) ∧ (¬ 10 ≤ x5 → R32 x1 ∧ ((x5 = x1 → TT m_X9_nearest 45 [vR 0, vI x1, vI x2, vI x3, vU, vI (x5 + 1)] [] σ (PI K)) ∧ (¬ x5 = x1 → (0 ≤ x5 ∧ x5 < 10) ∧ CC m_X8_locate [vR (trk x5), vI x2, vR 5] σ (PZ (fun s23 => CC m_X9_farAbove [vR 4, vR 5] s23 (PJ (fun y26 s27 => CC m_X9_farBelow [vR 4, vR 5] s27 (PJ (fun y28 s29 => CC m_X4_put [vR 9, vI x5, vL y26, vL y28] s29 (PN (fun s31 => TT m_X9_nearest 45 [vR 0, vI x1, vI x2, vI x3, vU, vI (x5 + 1)] [] s31 (PI K)))))))) (fun s24 => TT m_X9_nearest 45 [vR 0, vI x1, vI x2, vI x3, vU, vI (x5 + 1)] [] s24 (PI K)))))))) : TT m_X9_nearest 45 [vR 0, vI x1, vI x2, vI x3, vU, vI x5] [] σ (PI K) := by
  refine TT_iload dX9_nearest_45 rfl ?_
  refine TT_bipush dX9_nearest_47 (by decide) ?_
  obtain ⟨o14, h⟩ := h
  refine TT_icmp_ge (tgt := 113) dX9_nearest_49 rfl o14 (by decide) (fun c15 => ?_) (fun c15 => ?_)
  · replace h := h.1 c15
    refine TT_aload_n dX9_nearest_113 rfl ?_
    refine TT_getR (r := 9) dX9_nearest_114 fd_X9_46 (by decide) rfl (by decide) rfl rfl ?_
    refine TT_iload_n dX9_nearest_117 rfl ?_
    refine TT_callVI (M' := m_X4_numberAt) (as := [vI x3]) (rest := []) dX9_nearest_118 mo_X4_numberAt ml_X9_204 im_X4_numberAt se_X4_numberAt (Nat.le_of_ble_eq_true rfl) (Nat.le_of_ble_eq_true rfl) ⟨rfl, rfl, rfl⟩ rfl rfl (Nat.le_of_ble_eq_true rfl) (by decide) rfl rfl (by decide) h (fun y16 s17 h => ?_)
    exact TT_iret dX9_nearest_121 rfl rfl h
  · replace h := h.2 c15
    refine TT_iload dX9_nearest_52 rfl ?_
    refine TT_iload_n dX9_nearest_54 rfl ?_
    obtain ⟨o18, h⟩ := h
    refine TT_icmp_eq (tgt := 107) dX9_nearest_55 rfl o14 o18 (fun c19 => ?_) (fun c19 => ?_)
    · replace h := h.1 c19
      refine TT_iinc dX9_nearest_107 (Nat.le_of_ble_eq_true rfl) rfl rfl rfl ?_
      refine TT_goto (tgt := 45) dX9_nearest_110 rfl ?_
      exact h
    · replace h := h.2 c19
      refine TT_aload_n dX9_nearest_58 rfl ?_
      refine TT_getR (r := 1) dX9_nearest_59 fd_X9_11 (by decide) rfl (by decide) rfl rfl ?_
      refine TT_iload dX9_nearest_62 rfl ?_
      obtain ⟨o20, h⟩ := h
      have t21 : isT (trk x5) := isT_trk o20
      refine TT_aald (r := (trk x5)) dX9_nearest_64 (Or.inl rfl) (by decide) rfl (by decide) o20 (rs_trk o20) ?_
      refine TT_iload_n dX9_nearest_65 rfl ?_
      refine TT_aload_n dX9_nearest_66 rfl ?_
      refine TT_getR (r := 5) dX9_nearest_67 fd_X9_33 (by decide) rfl (by decide) rfl rfl ?_
      refine TT_callVZ (M' := m_X8_locate) (as := [vI x2, vR 5]) (rest := []) dX9_nearest_70 mo_X8_locate ml_X9_135 im_X8_locate se_X8_locate (Nat.le_of_ble_eq_true rfl) (Nat.le_of_ble_eq_true rfl) ⟨rfl, rfl, rfl⟩ rfl rfl (Nat.le_of_ble_eq_true rfl) (ltT t21) (shT t21) rfl (by decide) h (fun s23 h => ?_) (fun s24 h => ?_)
      · refine TT_if_eq (tgt := 107) dX9_nearest_73 rfl (by decide) (fun c25 => absurd c25 (by decide)) (fun c25 => ?_)
        refine TT_aload_n dX9_nearest_76 rfl ?_
        refine TT_getR (r := 9) dX9_nearest_77 fd_X9_46 (by decide) rfl (by decide) rfl rfl ?_
        refine TT_iload dX9_nearest_80 rfl ?_
        refine TT_aload_n dX9_nearest_82 rfl ?_
        refine TT_getR (r := 4) dX9_nearest_83 fd_X9_29 (by decide) rfl (by decide) rfl rfl ?_
        refine TT_aload_n dX9_nearest_86 rfl ?_
        refine TT_getR (r := 5) dX9_nearest_87 fd_X9_33 (by decide) rfl (by decide) rfl rfl ?_
        refine TT_callSJ (M' := m_X9_farAbove) (as := [vR 4, vR 5]) (rest := [vI x5, vR 9]) dX9_nearest_90 mo_X9_farAbove ml_X9_191 sm_X9_farAbove (Nat.le_of_ble_eq_true rfl) (Nat.le_of_ble_eq_true rfl) ⟨rfl, rfl, rfl⟩ rfl rfl (Nat.le_of_ble_eq_true rfl) h (fun y26 s27 h => ?_)
        refine TT_aload_n dX9_nearest_93 rfl ?_
        refine TT_getR (r := 4) dX9_nearest_94 fd_X9_29 (by decide) rfl (by decide) rfl rfl ?_
        refine TT_aload_n dX9_nearest_97 rfl ?_
        refine TT_getR (r := 5) dX9_nearest_98 fd_X9_33 (by decide) rfl (by decide) rfl rfl ?_
        refine TT_callSJ (M' := m_X9_farBelow) (as := [vR 4, vR 5]) (rest := [vL y26, vI x5, vR 9]) dX9_nearest_101 mo_X9_farBelow ml_X9_195 sm_X9_farBelow (Nat.le_of_ble_eq_true rfl) (Nat.le_of_ble_eq_true rfl) ⟨rfl, rfl, rfl⟩ rfl rfl (Nat.le_of_ble_eq_true rfl) h (fun y28 s29 h => ?_)
        refine TT_callVN (M' := m_X4_put) (as := [vI x5, vL y26, vL y28]) (rest := []) dX9_nearest_104 mo_X4_put ml_X9_201 im_X4_put se_X4_put (Nat.le_of_ble_eq_true rfl) (Nat.le_of_ble_eq_true rfl) ⟨rfl, rfl, rfl⟩ rfl rfl (Nat.le_of_ble_eq_true rfl) (by decide) rfl rfl (by decide) h (fun s31 h => ?_)
        refine TT_iinc dX9_nearest_107 (Nat.le_of_ble_eq_true rfl) rfl rfl rfl ?_
        refine TT_goto (tgt := 45) dX9_nearest_110 rfl ?_
        exact h
      · refine TT_if_eq (tgt := 107) dX9_nearest_73 rfl (by decide) (fun c32 => ?_) (fun c32 => absurd c32 (by decide))
        refine TT_iinc dX9_nearest_107 (Nat.le_of_ble_eq_true rfl) rfl rfl rfl ?_
        refine TT_goto (tgt := 45) dX9_nearest_110 rfl ?_
        exact h
set_option maxRecDepth 4000 in
theorem w_X9_meetings_0 (x1 : Int) (x2 : Int) (x3 : Int) {σ : Mem} {K : Int → Mem → Prop} (h : CC m_X9_refuseMeeting [vI x1, vI x2, vI x3] σ (PI (fun y1 s2 => R32 y1 ∧ ((y1 = 0 → CC m_X9_gatherMeetings [vR 0, vI x1, vI x2, vI x3] s2 (PN (fun s6 => K (s6 6 2) s6))) ∧ (¬ y1 = 0 → K y1 s2))))) : TT m_X9_meetings 0 [vR 0, vI x1, vI x2, vI x3, vU] [] σ (PI K) := by
  refine TT_iload_n dX9_meetings_0 rfl ?_
  refine TT_iload_n dX9_meetings_1 rfl ?_
  refine TT_iload_n dX9_meetings_2 rfl ?_
  refine TT_callSI (M' := m_X9_refuseMeeting) (as := [vI x1, vI x2, vI x3]) (rest := []) dX9_meetings_3 mo_X9_refuseMeeting ml_X9_208 sm_X9_refuseMeeting (Nat.le_of_ble_eq_true rfl) (Nat.le_of_ble_eq_true rfl) ⟨rfl, rfl, rfl⟩ rfl rfl (Nat.le_of_ble_eq_true rfl) h (fun y1 s2 h => ?_)
  refine TT_istore dX9_meetings_6 (Nat.le_of_ble_eq_true rfl) rfl rfl ?_
  refine TT_iload dX9_meetings_8 rfl ?_
  obtain ⟨o3, h⟩ := h
  refine TT_if_eq (tgt := 16) dX9_meetings_10 rfl o3 (fun c4 => ?_) (fun c4 => ?_)
  · replace h := h.1 c4
    refine TT_aload_n dX9_meetings_16 rfl ?_
    refine TT_iload_n dX9_meetings_17 rfl ?_
    refine TT_iload_n dX9_meetings_18 rfl ?_
    refine TT_iload_n dX9_meetings_19 rfl ?_
    refine TT_callVN (M' := m_X9_gatherMeetings) (as := [vI x1, vI x2, vI x3]) (rest := []) dX9_meetings_20 mo_X9_gatherMeetings ml_X9_212 im_X9_gatherMeetings se_X9_gatherMeetings (Nat.le_of_ble_eq_true rfl) (Nat.le_of_ble_eq_true rfl) ⟨rfl, rfl, rfl⟩ rfl rfl (Nat.le_of_ble_eq_true rfl) (by decide) rfl rfl (by decide) h (fun s6 h => ?_)
    refine TT_aload_n dX9_meetings_23 rfl ?_
    refine TT_getR (r := 6) dX9_meetings_24 fd_X9_39 (by decide) rfl (by decide) rfl rfl ?_
    refine TT_getI dX9_meetings_27 fd_X9_173 (by decide) (Or.inl rfl) (by decide) rfl ?_
    exact TT_iret dX9_meetings_30 rfl rfl h
  · replace h := h.2 c4
    refine TT_iload dX9_meetings_13 rfl ?_
    exact TT_iret dX9_meetings_15 rfl rfl h
theorem e_X9_meetings (x1 : Int) (x2 : Int) (x3 : Int) {σ : Mem} {K : Int → Mem → Prop} (h : CC m_X9_refuseMeeting [vI x1, vI x2, vI x3] σ (PI (fun y1 s2 => R32 y1 ∧ ((y1 = 0 → CC m_X9_gatherMeetings [vR 0, vI x1, vI x2, vI x3] s2 (PN (fun s6 => K (s6 6 2) s6))) ∧ (¬ y1 = 0 → K y1 s2))))) : CC m_X9_meetings [vR 0, vI x1, vI x2, vI x3] σ (PI K) := CC_of (by decide) rfl rfl rfl (Nat.le_of_ble_eq_true rfl) (w_X9_meetings_0 x1 x2 x3 h)
set_option maxRecDepth 4000 in
theorem w_X9_longest_0 (x1 : Int) (x2 : Int) (x3 : Int) (x4 : Int) {σ : Mem} {K : Int → Mem → Prop} (h : CC m_X9_refuseMeeting [vI x1, vI x2, vI x3] σ (PI (fun y1 s2 => R32 y1 ∧ ((y1 = 0 → CC m_X9_gatherMeetings [vR 0, vI x1, vI x2, vI x3] s2 (PN (fun s6 => CC m_X5_longestOne [vR 6] s6 (PI (fun y7 s8 => R32 y7 ∧ ((0 ≤ y7 → R32 x4 ∧ ((x4 = 0 → (0 ≤ y7 ∧ y7 < 100) ∧ K (s8 7 (y7).toNat) s8) ∧ (¬ x4 = 0 → CC m_X5_lengthOf [vR 6, vI y7] s8 (PI (fun y14 s15 => K y14 s15))))) ∧ (¬ 0 ≤ y7 → K (-900009) s8))))))) ∧ (¬ y1 = 0 → K y1 s2))))) : TT m_X9_longest 0 [vR 0, vI x1, vI x2, vI x3, vI x4, vU, vU] [] σ (PI K) := by
  refine TT_iload_n dX9_longest_0 rfl ?_
  refine TT_iload_n dX9_longest_1 rfl ?_
  refine TT_iload_n dX9_longest_2 rfl ?_
  refine TT_callSI (M' := m_X9_refuseMeeting) (as := [vI x1, vI x2, vI x3]) (rest := []) dX9_longest_3 mo_X9_refuseMeeting ml_X9_208 sm_X9_refuseMeeting (Nat.le_of_ble_eq_true rfl) (Nat.le_of_ble_eq_true rfl) ⟨rfl, rfl, rfl⟩ rfl rfl (Nat.le_of_ble_eq_true rfl) h (fun y1 s2 h => ?_)
  refine TT_istore dX9_longest_6 (Nat.le_of_ble_eq_true rfl) rfl rfl ?_
  refine TT_iload dX9_longest_8 rfl ?_
  obtain ⟨o3, h⟩ := h
  refine TT_if_eq (tgt := 16) dX9_longest_10 rfl o3 (fun c4 => ?_) (fun c4 => ?_)
  · replace h := h.1 c4
    refine TT_aload_n dX9_longest_16 rfl ?_
    refine TT_iload_n dX9_longest_17 rfl ?_
    refine TT_iload_n dX9_longest_18 rfl ?_
    refine TT_iload_n dX9_longest_19 rfl ?_
    refine TT_callVN (M' := m_X9_gatherMeetings) (as := [vI x1, vI x2, vI x3]) (rest := []) dX9_longest_20 mo_X9_gatherMeetings ml_X9_212 im_X9_gatherMeetings se_X9_gatherMeetings (Nat.le_of_ble_eq_true rfl) (Nat.le_of_ble_eq_true rfl) ⟨rfl, rfl, rfl⟩ rfl rfl (Nat.le_of_ble_eq_true rfl) (by decide) rfl rfl (by decide) h (fun s6 h => ?_)
    refine TT_aload_n dX9_longest_23 rfl ?_
    refine TT_getR (r := 6) dX9_longest_24 fd_X9_39 (by decide) rfl (by decide) rfl rfl ?_
    refine TT_callVI (M' := m_X5_longestOne) (as := []) (rest := []) dX9_longest_27 mo_X5_longestOne ml_X9_215 im_X5_longestOne se_X5_longestOne (Nat.le_of_ble_eq_true rfl) (Nat.le_of_ble_eq_true rfl) ⟨rfl, rfl, rfl⟩ rfl rfl (Nat.le_of_ble_eq_true rfl) (by decide) rfl rfl (by decide) h (fun y7 s8 h => ?_)
    refine TT_istore dX9_longest_30 (Nat.le_of_ble_eq_true rfl) rfl rfl ?_
    refine TT_iload dX9_longest_32 rfl ?_
    obtain ⟨o9, h⟩ := h
    refine TT_if_ge (tgt := 40) dX9_longest_34 rfl o9 (fun c10 => ?_) (fun c10 => ?_)
    · replace h := h.1 c10
      refine TT_iload dX9_longest_40 rfl ?_
      obtain ⟨o11, h⟩ := h
      refine TT_if_eq (tgt := 57) dX9_longest_42 rfl o11 (fun c12 => ?_) (fun c12 => ?_)
      · replace h := h.1 c12
        refine TT_aload_n dX9_longest_57 rfl ?_
        refine TT_getR (r := 6) dX9_longest_58 fd_X9_39 (by decide) rfl (by decide) rfl rfl ?_
        refine TT_getR (r := 7) dX9_longest_61 fd_X9_179 (by decide) rfl (by decide) rfl rfl ?_
        refine TT_iload dX9_longest_64 rfl ?_
        obtain ⟨o13, h⟩ := h
        refine TT_iald dX9_longest_66 (by decide) rfl (by decide) o13 ?_
        exact TT_iret dX9_longest_67 rfl rfl h
      · replace h := h.2 c12
        refine TT_aload_n dX9_longest_45 rfl ?_
        refine TT_getR (r := 6) dX9_longest_46 fd_X9_39 (by decide) rfl (by decide) rfl rfl ?_
        refine TT_iload dX9_longest_49 rfl ?_
        refine TT_callVI (M' := m_X5_lengthOf) (as := [vI y7]) (rest := []) dX9_longest_51 mo_X5_lengthOf ml_X9_219 im_X5_lengthOf se_X5_lengthOf (Nat.le_of_ble_eq_true rfl) (Nat.le_of_ble_eq_true rfl) ⟨rfl, rfl, rfl⟩ rfl rfl (Nat.le_of_ble_eq_true rfl) (by decide) rfl rfl (by decide) h (fun y14 s15 h => ?_)
        refine TT_goto (tgt := 67) dX9_longest_54 rfl ?_
        exact TT_iret dX9_longest_67 rfl rfl h
    · replace h := h.2 c10
      refine TT_ldc dX9_longest_37 kc_X9_165 (x := (-900009)) rfl ?_
      exact TT_iret dX9_longest_39 rfl rfl h
  · replace h := h.2 c4
    refine TT_iload dX9_longest_13 rfl ?_
    exact TT_iret dX9_longest_15 rfl rfl h
theorem e_X9_longest (x1 : Int) (x2 : Int) (x3 : Int) (x4 : Int) {σ : Mem} {K : Int → Mem → Prop} (h : CC m_X9_refuseMeeting [vI x1, vI x2, vI x3] σ (PI (fun y1 s2 => R32 y1 ∧ ((y1 = 0 → CC m_X9_gatherMeetings [vR 0, vI x1, vI x2, vI x3] s2 (PN (fun s6 => CC m_X5_longestOne [vR 6] s6 (PI (fun y7 s8 => R32 y7 ∧ ((0 ≤ y7 → R32 x4 ∧ ((x4 = 0 → (0 ≤ y7 ∧ y7 < 100) ∧ K (s8 7 (y7).toNat) s8) ∧ (¬ x4 = 0 → CC m_X5_lengthOf [vR 6, vI y7] s8 (PI (fun y14 s15 => K y14 s15))))) ∧ (¬ 0 ≤ y7 → K (-900009) s8))))))) ∧ (¬ y1 = 0 → K y1 s2))))) : CC m_X9_longest [vR 0, vI x1, vI x2, vI x3, vI x4] σ (PI K) := CC_of (by decide) rfl rfl rfl (Nat.le_of_ble_eq_true rfl) (w_X9_longest_0 x1 x2 x3 x4 h)
set_option maxRecDepth 4000 in
theorem w_X9_pages_0 (x1 : Int) {σ : Mem} {K : Int → Mem → Prop} (h : CC m_X9_refreshTree [vR 0] σ (PN (fun s2 => R32 x1 ∧ (x1 = 0 → K (s2 13 11) s2) ∧ (x1 = 1 → K (s2 13 12) s2) ∧ (x1 = 2 → CC m_X2_leaves [vR 13] s2 (PI (fun y4 s5 => K y4 s5))) ∧ (x1 = 3 → CC m_X2_deepest [vR 13] s2 (PI (fun y6 s7 => K y6 s7))) ∧ (x1 < 0 ∨ 3 < x1 → K (-900002) s2)))) : TT m_X9_pages 0 [vR 0, vI x1] [] σ (PI K) := by
  refine TT_aload_n dX9_pages_0 rfl ?_
  refine TT_callVN (M' := m_X9_refreshTree) (as := []) (rest := []) dX9_pages_1 mo_X9_refreshTree ml_X9_222 im_X9_refreshTree se_X9_refreshTree (Nat.le_of_ble_eq_true rfl) (Nat.le_of_ble_eq_true rfl) ⟨rfl, rfl, rfl⟩ rfl rfl (Nat.le_of_ble_eq_true rfl) (by decide) rfl rfl (by decide) h (fun s2 h => ?_)
  refine TT_iload_n dX9_pages_4 rfl ?_
  obtain ⟨o3, h⟩ := h
  by_cases c8 : x1 = 0
  · replace h := h.1 c8
    refine TT_tableIn (x := x1) (tgt := 36) (off := 31) dX9_pages_5 o3 (by rw [c8]; decide) (by rw [c8]; decide) (by rw [c8]; rfl) rfl ?_
    refine TT_aload_n dX9_pages_36 rfl ?_
    refine TT_getR (r := 13) dX9_pages_37 fd_X9_53 (by decide) rfl (by decide) rfl rfl ?_
    refine TT_getI dX9_pages_40 fd_X9_225 (by decide) (Or.inl rfl) (by decide) rfl ?_
    exact TT_iret dX9_pages_43 rfl rfl h
  by_cases c9 : x1 = 1
  · replace h := h.2.1 c9
    refine TT_tableIn (x := x1) (tgt := 44) (off := 39) dX9_pages_5 o3 (by rw [c9]; decide) (by rw [c9]; decide) (by rw [c9]; rfl) rfl ?_
    refine TT_aload_n dX9_pages_44 rfl ?_
    refine TT_getR (r := 13) dX9_pages_45 fd_X9_53 (by decide) rfl (by decide) rfl rfl ?_
    refine TT_getI dX9_pages_48 fd_X9_228 (by decide) (Or.inl rfl) (by decide) rfl ?_
    exact TT_iret dX9_pages_51 rfl rfl h
  by_cases c10 : x1 = 2
  · replace h := h.2.2.1 c10
    refine TT_tableIn (x := x1) (tgt := 52) (off := 47) dX9_pages_5 o3 (by rw [c10]; decide) (by rw [c10]; decide) (by rw [c10]; rfl) rfl ?_
    refine TT_aload_n dX9_pages_52 rfl ?_
    refine TT_getR (r := 13) dX9_pages_53 fd_X9_53 (by decide) rfl (by decide) rfl rfl ?_
    refine TT_callVI (M' := m_X2_leaves) (as := []) (rest := []) dX9_pages_56 mo_X2_leaves ml_X9_231 im_X2_leaves se_X2_leaves (Nat.le_of_ble_eq_true rfl) (Nat.le_of_ble_eq_true rfl) ⟨rfl, rfl, rfl⟩ rfl rfl (Nat.le_of_ble_eq_true rfl) (by decide) rfl rfl (by decide) h (fun y4 s5 h => ?_)
    exact TT_iret dX9_pages_59 rfl rfl h
  by_cases c11 : x1 = 3
  · replace h := h.2.2.2.1 c11
    refine TT_tableIn (x := x1) (tgt := 60) (off := 55) dX9_pages_5 o3 (by rw [c11]; decide) (by rw [c11]; decide) (by rw [c11]; rfl) rfl ?_
    refine TT_aload_n dX9_pages_60 rfl ?_
    refine TT_getR (r := 13) dX9_pages_61 fd_X9_53 (by decide) rfl (by decide) rfl rfl ?_
    refine TT_callVI (M' := m_X2_deepest) (as := []) (rest := []) dX9_pages_64 mo_X2_deepest ml_X9_234 im_X2_deepest se_X2_deepest (Nat.le_of_ble_eq_true rfl) (Nat.le_of_ble_eq_true rfl) ⟨rfl, rfl, rfl⟩ rfl rfl (Nat.le_of_ble_eq_true rfl) (by decide) rfl rfl (by decide) h (fun y6 s7 h => ?_)
    exact TT_iret dX9_pages_67 rfl rfl h
  have c12 : x1 < 0 ∨ 3 < x1 := by omega
  replace h := h.2.2.2.2 c12
  refine TT_tableOut (x := x1) (tgt := 68) dX9_pages_5 o3 c12 rfl ?_
  refine TT_ldc dX9_pages_68 kc_X9_98 (x := (-900002)) rfl ?_
  exact TT_iret dX9_pages_70 rfl rfl h
theorem e_X9_pages (x1 : Int) {σ : Mem} {K : Int → Mem → Prop} (h : CC m_X9_refreshTree [vR 0] σ (PN (fun s2 => R32 x1 ∧ (x1 = 0 → K (s2 13 11) s2) ∧ (x1 = 1 → K (s2 13 12) s2) ∧ (x1 = 2 → CC m_X2_leaves [vR 13] s2 (PI (fun y4 s5 => K y4 s5))) ∧ (x1 = 3 → CC m_X2_deepest [vR 13] s2 (PI (fun y6 s7 => K y6 s7))) ∧ (x1 < 0 ∨ 3 < x1 → K (-900002) s2)))) : CC m_X9_pages [vR 0, vI x1] σ (PI K) := CC_of (by decide) rfl rfl rfl (Nat.le_of_ble_eq_true rfl) (w_X9_pages_0 x1 h)
set_option maxRecDepth 4000 in
theorem w_X9_size_0  {σ : Mem} {K : Int → Mem → Prop} (h : CC m_X9_refreshTree [vR 0] σ (PN (fun s2 => CC m_X2_leafSizes [vR 13] s2 (PJ (fun y3 s4 => K y3 s4))))) : TT m_X9_size 0 [vR 0] [] σ (PJ K) := by
  refine TT_aload_n dX9_size_0 rfl ?_
  refine TT_callVN (M' := m_X9_refreshTree) (as := []) (rest := []) dX9_size_1 mo_X9_refreshTree ml_X9_222 im_X9_refreshTree se_X9_refreshTree (Nat.le_of_ble_eq_true rfl) (Nat.le_of_ble_eq_true rfl) ⟨rfl, rfl, rfl⟩ rfl rfl (Nat.le_of_ble_eq_true rfl) (by decide) rfl rfl (by decide) h (fun s2 h => ?_)
  refine TT_aload_n dX9_size_4 rfl ?_
  refine TT_getR (r := 13) dX9_size_5 fd_X9_53 (by decide) rfl (by decide) rfl rfl ?_
  refine TT_callVJ (M' := m_X2_leafSizes) (as := []) (rest := []) dX9_size_8 mo_X2_leafSizes ml_X9_237 im_X2_leafSizes se_X2_leafSizes (Nat.le_of_ble_eq_true rfl) (Nat.le_of_ble_eq_true rfl) ⟨rfl, rfl, rfl⟩ rfl rfl (Nat.le_of_ble_eq_true rfl) (by decide) rfl rfl (by decide) h (fun y3 s4 h => ?_)
  exact TT_lret dX9_size_11 rfl rfl h
theorem e_X9_size  {σ : Mem} {K : Int → Mem → Prop} (h : CC m_X9_refreshTree [vR 0] σ (PN (fun s2 => CC m_X2_leafSizes [vR 13] s2 (PJ (fun y3 s4 => K y3 s4))))) : CC m_X9_size [vR 0] σ (PJ K) := CC_of (by decide) rfl rfl rfl (Nat.le_of_ble_eq_true rfl) (w_X9_size_0  h)
set_option maxRecDepth 4000 in
theorem w_X9_opens_0 (x1 : Int) (x2 : Int) (x3 : Int) (x4 : Int) (x5 : Int) (x6 : Int) (x7 : Int) {σ : Mem} {K : Int → Mem → Prop} (h : CC m_X9_isPlace [vI x1, vI x2, vI x3, vI x4] σ (PZ (fun s2 => CC m_X9_isMinute [vI x5] s2 (PZ (fun s6 => CC m_X9_isMinute [vI x6] s6 (PZ (fun s10 => R32 x6 ∧ R32 x5 ∧ ((x5 ≤ x6 → CC m_X9_refreshTree [vR 0] s10 (PN (fun s17 => CC m_X3_set [vR 3, vI x1, vI x2, vI x3, vI x4] s17 (PN (fun s19 => CC m_X2_ask [vR 13, vR 3, vI x5, vI x6] s19 (PN (fun s21 => R32 x7 ∧ K (if x7 = 0 then (s21 13 13) else (s21 13 14) : Int) s21))))))) ∧ (¬ x5 ≤ x6 → K (-900002) s10))) (fun s11 => K (-900002) s11))) (fun s7 => K (-900002) s7))) (fun s3 => K (-900002) s3))) : TT m_X9_opens 0 [vR 0, vI x1, vI x2, vI x3, vI x4, vI x5, vI x6, vI x7] [] σ (PI K) := by
  refine TT_iload_n dX9_opens_0 rfl ?_
  refine TT_iload_n dX9_opens_1 rfl ?_
  refine TT_iload_n dX9_opens_2 rfl ?_
  refine TT_iload dX9_opens_3 rfl ?_
  refine TT_callSZ (M' := m_X9_isPlace) (as := [vI x1, vI x2, vI x3, vI x4]) (rest := []) dX9_opens_5 mo_X9_isPlace ml_X9_153 sm_X9_isPlace (Nat.le_of_ble_eq_true rfl) (Nat.le_of_ble_eq_true rfl) ⟨rfl, rfl, rfl⟩ rfl rfl (Nat.le_of_ble_eq_true rfl) h (fun s2 h => ?_) (fun s3 h => ?_)
  · refine TT_if_eq (tgt := 34) dX9_opens_8 rfl (by decide) (fun c4 => absurd c4 (by decide)) (fun c4 => ?_)
    refine TT_iload dX9_opens_11 rfl ?_
    refine TT_callSZ (M' := m_X9_isMinute) (as := [vI x5]) (rest := []) dX9_opens_13 mo_X9_isMinute ml_X9_91 sm_X9_isMinute (Nat.le_of_ble_eq_true rfl) (Nat.le_of_ble_eq_true rfl) ⟨rfl, rfl, rfl⟩ rfl rfl (Nat.le_of_ble_eq_true rfl) h (fun s6 h => ?_) (fun s7 h => ?_)
    · refine TT_if_eq (tgt := 34) dX9_opens_16 rfl (by decide) (fun c8 => absurd c8 (by decide)) (fun c8 => ?_)
      refine TT_iload dX9_opens_19 rfl ?_
      refine TT_callSZ (M' := m_X9_isMinute) (as := [vI x6]) (rest := []) dX9_opens_21 mo_X9_isMinute ml_X9_91 sm_X9_isMinute (Nat.le_of_ble_eq_true rfl) (Nat.le_of_ble_eq_true rfl) ⟨rfl, rfl, rfl⟩ rfl rfl (Nat.le_of_ble_eq_true rfl) h (fun s10 h => ?_) (fun s11 h => ?_)
      · refine TT_if_eq (tgt := 34) dX9_opens_24 rfl (by decide) (fun c12 => absurd c12 (by decide)) (fun c12 => ?_)
        refine TT_iload dX9_opens_27 rfl ?_
        refine TT_iload dX9_opens_29 rfl ?_
        obtain ⟨o13, h⟩ := h
        obtain ⟨o14, h⟩ := h
        refine TT_icmp_ge (tgt := 37) dX9_opens_31 rfl o13 o14 (fun c15 => ?_) (fun c15 => ?_)
        · replace h := h.1 c15
          refine TT_aload_n dX9_opens_37 rfl ?_
          refine TT_callVN (M' := m_X9_refreshTree) (as := []) (rest := []) dX9_opens_38 mo_X9_refreshTree ml_X9_222 im_X9_refreshTree se_X9_refreshTree (Nat.le_of_ble_eq_true rfl) (Nat.le_of_ble_eq_true rfl) ⟨rfl, rfl, rfl⟩ rfl rfl (Nat.le_of_ble_eq_true rfl) (by decide) rfl rfl (by decide) h (fun s17 h => ?_)
          refine TT_aload_n dX9_opens_41 rfl ?_
          refine TT_getR (r := 3) dX9_opens_42 fd_X9_22 (by decide) rfl (by decide) rfl rfl ?_
          refine TT_iload_n dX9_opens_45 rfl ?_
          refine TT_iload_n dX9_opens_46 rfl ?_
          refine TT_iload_n dX9_opens_47 rfl ?_
          refine TT_iload dX9_opens_48 rfl ?_
          refine TT_callVN (M' := m_X3_set) (as := [vI x1, vI x2, vI x3, vI x4]) (rest := []) dX9_opens_50 mo_X3_set ml_X9_157 im_X3_set se_X3_set (Nat.le_of_ble_eq_true rfl) (Nat.le_of_ble_eq_true rfl) ⟨rfl, rfl, rfl⟩ rfl rfl (Nat.le_of_ble_eq_true rfl) (by decide) rfl rfl (by decide) h (fun s19 h => ?_)
          refine TT_aload_n dX9_opens_53 rfl ?_
          refine TT_getR (r := 13) dX9_opens_54 fd_X9_53 (by decide) rfl (by decide) rfl rfl ?_
          refine TT_aload_n dX9_opens_57 rfl ?_
          refine TT_getR (r := 3) dX9_opens_58 fd_X9_22 (by decide) rfl (by decide) rfl rfl ?_
          refine TT_iload dX9_opens_61 rfl ?_
          refine TT_iload dX9_opens_63 rfl ?_
          refine TT_callVN (M' := m_X2_ask) (as := [vR 3, vI x5, vI x6]) (rest := []) dX9_opens_65 mo_X2_ask ml_X9_241 im_X2_ask se_X2_ask (Nat.le_of_ble_eq_true rfl) (Nat.le_of_ble_eq_true rfl) ⟨rfl, rfl, rfl⟩ rfl rfl (Nat.le_of_ble_eq_true rfl) (by decide) rfl rfl (by decide) h (fun s21 h => ?_)
          refine TT_iload dX9_opens_68 rfl ?_
          obtain ⟨o22, h⟩ := h
          have j24 : TT m_X9_opens 90 [vR 0, vI x1, vI x2, vI x3, vI x4, vI x5, vI x6, vI x7] [vI (if x7 = 0 then (s21 13 13) else (s21 13 14) : Int)] s21 (PI K) := by
            exact TT_iret dX9_opens_90 rfl rfl h
          refine TT_if_eq (tgt := 83) dX9_opens_70 rfl o22 (fun c23 => ?_) (fun c23 => ?_)
          · refine TT_aload_n dX9_opens_83 rfl ?_
            refine TT_getR (r := 13) dX9_opens_84 fd_X9_53 (by decide) rfl (by decide) rfl rfl ?_
            refine TT_getI dX9_opens_87 fd_X9_248 (by decide) (Or.inl rfl) (by decide) rfl ?_
            exact TT.cast j24 (by first | rfl | (simp only [if_pos c23] <;> rfl)) (by first | rfl | (simp only [if_pos c23] <;> rfl))
          · refine TT_aload_n dX9_opens_73 rfl ?_
            refine TT_getR (r := 13) dX9_opens_74 fd_X9_53 (by decide) rfl (by decide) rfl rfl ?_
            refine TT_getI dX9_opens_77 fd_X9_245 (by decide) (Or.inl rfl) (by decide) rfl ?_
            refine TT_goto (tgt := 90) dX9_opens_80 rfl ?_
            exact TT.cast j24 (by first | rfl | (simp only [if_neg c23] <;> rfl)) (by first | rfl | (simp only [if_neg c23] <;> rfl))
        · replace h := h.2 c15
          refine TT_ldc dX9_opens_34 kc_X9_98 (x := (-900002)) rfl ?_
          exact TT_iret dX9_opens_36 rfl rfl h
      · refine TT_if_eq (tgt := 34) dX9_opens_24 rfl (by decide) (fun c25 => ?_) (fun c25 => absurd c25 (by decide))
        refine TT_ldc dX9_opens_34 kc_X9_98 (x := (-900002)) rfl ?_
        exact TT_iret dX9_opens_36 rfl rfl h
    · refine TT_if_eq (tgt := 34) dX9_opens_16 rfl (by decide) (fun c26 => ?_) (fun c26 => absurd c26 (by decide))
      refine TT_ldc dX9_opens_34 kc_X9_98 (x := (-900002)) rfl ?_
      exact TT_iret dX9_opens_36 rfl rfl h
  · refine TT_if_eq (tgt := 34) dX9_opens_8 rfl (by decide) (fun c27 => ?_) (fun c27 => absurd c27 (by decide))
    refine TT_ldc dX9_opens_34 kc_X9_98 (x := (-900002)) rfl ?_
    exact TT_iret dX9_opens_36 rfl rfl h
theorem e_X9_opens (x1 : Int) (x2 : Int) (x3 : Int) (x4 : Int) (x5 : Int) (x6 : Int) (x7 : Int) {σ : Mem} {K : Int → Mem → Prop} (h : CC m_X9_isPlace [vI x1, vI x2, vI x3, vI x4] σ (PZ (fun s2 => CC m_X9_isMinute [vI x5] s2 (PZ (fun s6 => CC m_X9_isMinute [vI x6] s6 (PZ (fun s10 => R32 x6 ∧ R32 x5 ∧ ((x5 ≤ x6 → CC m_X9_refreshTree [vR 0] s10 (PN (fun s17 => CC m_X3_set [vR 3, vI x1, vI x2, vI x3, vI x4] s17 (PN (fun s19 => CC m_X2_ask [vR 13, vR 3, vI x5, vI x6] s19 (PN (fun s21 => R32 x7 ∧ K (if x7 = 0 then (s21 13 13) else (s21 13 14) : Int) s21))))))) ∧ (¬ x5 ≤ x6 → K (-900002) s10))) (fun s11 => K (-900002) s11))) (fun s7 => K (-900002) s7))) (fun s3 => K (-900002) s3))) : CC m_X9_opens [vR 0, vI x1, vI x2, vI x3, vI x4, vI x5, vI x6, vI x7] σ (PI K) := CC_of (by decide) rfl rfl rfl (Nat.le_of_ble_eq_true rfl) (w_X9_opens_0 x1 x2 x3 x4 x5 x6 x7 h)
set_option maxRecDepth 4000 in
theorem w_X9_thin_0 (x1 : Int) (x2 : Int) {σ : Mem} {K : Int → Mem → Prop} (h : CC m_X9_refuseThinning [vI x1, vI x2] σ (PI (fun y1 s2 => R32 y1 ∧ ((y1 = 0 → (0 ≤ x1 ∧ x1 < 10) ∧ CC m_X7_plan [vR 29, vR (trk x1), vI x2] s2 (PN (fun s8 => K (s8 29 2) s8))) ∧ (¬ y1 = 0 → K y1 s2))))) : TT m_X9_thin 0 [vR 0, vI x1, vI x2, vU] [] σ (PI K) := by
  refine TT_iload_n dX9_thin_0 rfl ?_
  refine TT_iload_n dX9_thin_1 rfl ?_
  refine TT_callSI (M' := m_X9_refuseThinning) (as := [vI x1, vI x2]) (rest := []) dX9_thin_2 mo_X9_refuseThinning ml_X9_251 sm_X9_refuseThinning (Nat.le_of_ble_eq_true rfl) (Nat.le_of_ble_eq_true rfl) ⟨rfl, rfl, rfl⟩ rfl rfl (Nat.le_of_ble_eq_true rfl) h (fun y1 s2 h => ?_)
  refine TT_istore_n dX9_thin_5 (Nat.le_of_ble_eq_true rfl) rfl rfl ?_
  refine TT_iload_n dX9_thin_6 rfl ?_
  obtain ⟨o3, h⟩ := h
  refine TT_if_eq (tgt := 12) dX9_thin_7 rfl o3 (fun c4 => ?_) (fun c4 => ?_)
  · replace h := h.1 c4
    refine TT_aload_n dX9_thin_12 rfl ?_
    refine TT_getR (r := 29) dX9_thin_13 fd_X9_60 (by decide) rfl (by decide) rfl rfl ?_
    refine TT_aload_n dX9_thin_16 rfl ?_
    refine TT_getR (r := 1) dX9_thin_17 fd_X9_11 (by decide) rfl (by decide) rfl rfl ?_
    refine TT_iload_n dX9_thin_20 rfl ?_
    obtain ⟨o5, h⟩ := h
    have t6 : isT (trk x1) := isT_trk o5
    refine TT_aald (r := (trk x1)) dX9_thin_21 (Or.inl rfl) (by decide) rfl (by decide) o5 (rs_trk o5) ?_
    refine TT_iload_n dX9_thin_22 rfl ?_
    refine TT_callVN (M' := m_X7_plan) (as := [vR (trk x1), vI x2]) (rest := []) dX9_thin_23 mo_X7_plan ml_X9_254 im_X7_plan se_X7_plan (Nat.le_of_ble_eq_true rfl) (Nat.le_of_ble_eq_true rfl) ⟨rfl, rfl, rfl⟩ rfl rfl (Nat.le_of_ble_eq_true rfl) (by decide) rfl rfl (by decide) h (fun s8 h => ?_)
    refine TT_aload_n dX9_thin_26 rfl ?_
    refine TT_getR (r := 29) dX9_thin_27 fd_X9_60 (by decide) rfl (by decide) rfl rfl ?_
    refine TT_getI dX9_thin_30 fd_X9_258 (by decide) (Or.inl rfl) (by decide) rfl ?_
    exact TT_iret dX9_thin_33 rfl rfl h
  · replace h := h.2 c4
    refine TT_iload_n dX9_thin_10 rfl ?_
    exact TT_iret dX9_thin_11 rfl rfl h
theorem e_X9_thin (x1 : Int) (x2 : Int) {σ : Mem} {K : Int → Mem → Prop} (h : CC m_X9_refuseThinning [vI x1, vI x2] σ (PI (fun y1 s2 => R32 y1 ∧ ((y1 = 0 → (0 ≤ x1 ∧ x1 < 10) ∧ CC m_X7_plan [vR 29, vR (trk x1), vI x2] s2 (PN (fun s8 => K (s8 29 2) s8))) ∧ (¬ y1 = 0 → K y1 s2))))) : CC m_X9_thin [vR 0, vI x1, vI x2] σ (PI K) := CC_of (by decide) rfl rfl rfl (Nat.le_of_ble_eq_true rfl) (w_X9_thin_0 x1 x2 h)
set_option maxRecDepth 4000 in
theorem w_X9_kept_0 (x1 : Int) (x2 : Int) (x3 : Int) {σ : Mem} {K : Int → Mem → Prop} (h : CC m_X9_refuseThinning [vI x1, vI x2] σ (PI (fun y1 s2 => R32 y1 ∧ ((y1 = 0 → (0 ≤ x1 ∧ x1 < 10) ∧ CC m_X7_plan [vR 29, vR (trk x1), vI x2] s2 (PN (fun s8 => CC m_X9_isWithin [vI x3, vI 0, vI ((s8 29 2) - 1)] s8 (PZ (fun s10 => (0 ≤ x3 ∧ x3 < 24) ∧ K (s10 30 (x3).toNat) s10) (fun s11 => K (-900009) s11))))) ∧ (¬ y1 = 0 → K y1 s2))))) : TT m_X9_kept 0 [vR 0, vI x1, vI x2, vI x3, vU] [] σ (PI K) := by
  refine TT_iload_n dX9_kept_0 rfl ?_
  refine TT_iload_n dX9_kept_1 rfl ?_
  refine TT_callSI (M' := m_X9_refuseThinning) (as := [vI x1, vI x2]) (rest := []) dX9_kept_2 mo_X9_refuseThinning ml_X9_251 sm_X9_refuseThinning (Nat.le_of_ble_eq_true rfl) (Nat.le_of_ble_eq_true rfl) ⟨rfl, rfl, rfl⟩ rfl rfl (Nat.le_of_ble_eq_true rfl) h (fun y1 s2 h => ?_)
  refine TT_istore dX9_kept_5 (Nat.le_of_ble_eq_true rfl) rfl rfl ?_
  refine TT_iload dX9_kept_7 rfl ?_
  obtain ⟨o3, h⟩ := h
  refine TT_if_eq (tgt := 15) dX9_kept_9 rfl o3 (fun c4 => ?_) (fun c4 => ?_)
  · replace h := h.1 c4
    refine TT_aload_n dX9_kept_15 rfl ?_
    refine TT_getR (r := 29) dX9_kept_16 fd_X9_60 (by decide) rfl (by decide) rfl rfl ?_
    refine TT_aload_n dX9_kept_19 rfl ?_
    refine TT_getR (r := 1) dX9_kept_20 fd_X9_11 (by decide) rfl (by decide) rfl rfl ?_
    refine TT_iload_n dX9_kept_23 rfl ?_
    obtain ⟨o5, h⟩ := h
    have t6 : isT (trk x1) := isT_trk o5
    refine TT_aald (r := (trk x1)) dX9_kept_24 (Or.inl rfl) (by decide) rfl (by decide) o5 (rs_trk o5) ?_
    refine TT_iload_n dX9_kept_25 rfl ?_
    refine TT_callVN (M' := m_X7_plan) (as := [vR (trk x1), vI x2]) (rest := []) dX9_kept_26 mo_X7_plan ml_X9_254 im_X7_plan se_X7_plan (Nat.le_of_ble_eq_true rfl) (Nat.le_of_ble_eq_true rfl) ⟨rfl, rfl, rfl⟩ rfl rfl (Nat.le_of_ble_eq_true rfl) (by decide) rfl rfl (by decide) h (fun s8 h => ?_)
    refine TT_iload_n dX9_kept_29 rfl ?_
    refine TT_iconst dX9_kept_30 ?_
    refine TT_aload_n dX9_kept_31 rfl ?_
    refine TT_getR (r := 29) dX9_kept_32 fd_X9_60 (by decide) rfl (by decide) rfl rfl ?_
    refine TT_getI dX9_kept_35 fd_X9_258 (by decide) (Or.inl rfl) (by decide) rfl ?_
    refine TT_iconst dX9_kept_38 ?_
    refine TT_isub dX9_kept_39 ?_
    refine TT_callSZ (M' := m_X9_isWithin) (as := [vI x3, vI 0, vI ((s8 29 2) - 1)]) (rest := []) dX9_kept_40 mo_X9_isWithin ml_X9_94 sm_X9_isWithin (Nat.le_of_ble_eq_true rfl) (Nat.le_of_ble_eq_true rfl) ⟨rfl, rfl, rfl⟩ rfl rfl (Nat.le_of_ble_eq_true rfl) h (fun s10 h => ?_) (fun s11 h => ?_)
    · refine TT_if_eq (tgt := 58) dX9_kept_43 rfl (by decide) (fun c12 => absurd c12 (by decide)) (fun c12 => ?_)
      refine TT_aload_n dX9_kept_46 rfl ?_
      refine TT_getR (r := 29) dX9_kept_47 fd_X9_60 (by decide) rfl (by decide) rfl rfl ?_
      refine TT_getR (r := 30) dX9_kept_50 fd_X9_261 (by decide) rfl (by decide) rfl rfl ?_
      refine TT_iload_n dX9_kept_53 rfl ?_
      obtain ⟨o13, h⟩ := h
      refine TT_iald dX9_kept_54 (by decide) rfl (by decide) o13 ?_
      refine TT_goto (tgt := 60) dX9_kept_55 rfl ?_
      exact TT_iret dX9_kept_60 rfl rfl h
    · refine TT_if_eq (tgt := 58) dX9_kept_43 rfl (by decide) (fun c14 => ?_) (fun c14 => absurd c14 (by decide))
      refine TT_ldc dX9_kept_58 kc_X9_165 (x := (-900009)) rfl ?_
      exact TT_iret dX9_kept_60 rfl rfl h
  · replace h := h.2 c4
    refine TT_iload dX9_kept_12 rfl ?_
    exact TT_iret dX9_kept_14 rfl rfl h
theorem e_X9_kept (x1 : Int) (x2 : Int) (x3 : Int) {σ : Mem} {K : Int → Mem → Prop} (h : CC m_X9_refuseThinning [vI x1, vI x2] σ (PI (fun y1 s2 => R32 y1 ∧ ((y1 = 0 → (0 ≤ x1 ∧ x1 < 10) ∧ CC m_X7_plan [vR 29, vR (trk x1), vI x2] s2 (PN (fun s8 => CC m_X9_isWithin [vI x3, vI 0, vI ((s8 29 2) - 1)] s8 (PZ (fun s10 => (0 ≤ x3 ∧ x3 < 24) ∧ K (s10 30 (x3).toNat) s10) (fun s11 => K (-900009) s11))))) ∧ (¬ y1 = 0 → K y1 s2))))) : CC m_X9_kept [vR 0, vI x1, vI x2, vI x3] σ (PI K) := CC_of (by decide) rfl rfl rfl (Nat.le_of_ble_eq_true rfl) (w_X9_kept_0 x1 x2 x3 h)
set_option maxRecDepth 4000 in
theorem w_X9_thinned_0 (x1 : Int) (x2 : Int) {σ : Mem} {K : Int → Mem → Prop} (h : CC m_X9_refuseThinning [vI x1, vI x2] σ (PI (fun y1 s2 => R32 y1 ∧ ((y1 = 0 → (0 ≤ x1 ∧ x1 < 10) ∧ CC m_X7_plan [vR 29, vR (trk x1), vI x2] s2 (PN (fun s8 => CC m_X8_keepOnly [vR (trk x1), vR 30, vI (s8 29 2)] s8 (PN (fun s10 => (∀ s11 : Mem, s11 = up s10 0 10 1 → K ((s2 (trk x1) 3) - (s11 (trk x1) 3)) s11)))))) ∧ (¬ y1 = 0 → K y1 s2))))) : TT m_X9_thinned 0 [vR 0, vI x1, vI x2, vU, vU, vU] [] σ (PI K) := by
  refine TT_iload_n dX9_thinned_0 rfl ?_
  refine TT_iload_n dX9_thinned_1 rfl ?_
  refine TT_callSI (M' := m_X9_refuseThinning) (as := [vI x1, vI x2]) (rest := []) dX9_thinned_2 mo_X9_refuseThinning ml_X9_251 sm_X9_refuseThinning (Nat.le_of_ble_eq_true rfl) (Nat.le_of_ble_eq_true rfl) ⟨rfl, rfl, rfl⟩ rfl rfl (Nat.le_of_ble_eq_true rfl) h (fun y1 s2 h => ?_)
  refine TT_istore_n dX9_thinned_5 (Nat.le_of_ble_eq_true rfl) rfl rfl ?_
  refine TT_iload_n dX9_thinned_6 rfl ?_
  obtain ⟨o3, h⟩ := h
  refine TT_if_eq (tgt := 12) dX9_thinned_7 rfl o3 (fun c4 => ?_) (fun c4 => ?_)
  · replace h := h.1 c4
    refine TT_aload_n dX9_thinned_12 rfl ?_
    refine TT_getR (r := 1) dX9_thinned_13 fd_X9_11 (by decide) rfl (by decide) rfl rfl ?_
    refine TT_iload_n dX9_thinned_16 rfl ?_
    obtain ⟨o5, h⟩ := h
    have t6 : isT (trk x1) := isT_trk o5
    refine TT_aald (r := (trk x1)) dX9_thinned_17 (Or.inl rfl) (by decide) rfl (by decide) o5 (rs_trk o5) ?_
    refine TT_astore dX9_thinned_18 (Nat.le_of_ble_eq_true rfl) rfl rfl ?_
    refine TT_aload dX9_thinned_20 rfl ?_
    refine TT_getI dX9_thinned_22 fd_X9_102 (by decide) (Or.inl rfl) (ltT t6) (shT t6) ?_
    refine TT_istore dX9_thinned_25 (Nat.le_of_ble_eq_true rfl) rfl rfl ?_
    refine TT_aload_n dX9_thinned_27 rfl ?_
    refine TT_getR (r := 29) dX9_thinned_28 fd_X9_60 (by decide) rfl (by decide) rfl rfl ?_
    refine TT_aload dX9_thinned_31 rfl ?_
    refine TT_iload_n dX9_thinned_33 rfl ?_
    refine TT_callVN (M' := m_X7_plan) (as := [vR (trk x1), vI x2]) (rest := []) dX9_thinned_34 mo_X7_plan ml_X9_254 im_X7_plan se_X7_plan (Nat.le_of_ble_eq_true rfl) (Nat.le_of_ble_eq_true rfl) ⟨rfl, rfl, rfl⟩ rfl rfl (Nat.le_of_ble_eq_true rfl) (by decide) rfl rfl (by decide) h (fun s8 h => ?_)
    refine TT_aload dX9_thinned_37 rfl ?_
    refine TT_aload_n dX9_thinned_39 rfl ?_
    refine TT_getR (r := 29) dX9_thinned_40 fd_X9_60 (by decide) rfl (by decide) rfl rfl ?_
    refine TT_getR (r := 30) dX9_thinned_43 fd_X9_261 (by decide) rfl (by decide) rfl rfl ?_
    refine TT_aload_n dX9_thinned_46 rfl ?_
    refine TT_getR (r := 29) dX9_thinned_47 fd_X9_60 (by decide) rfl (by decide) rfl rfl ?_
    refine TT_getI dX9_thinned_50 fd_X9_258 (by decide) (Or.inl rfl) (by decide) rfl ?_
    refine TT_callVN (M' := m_X8_keepOnly) (as := [vR 30, vI (s8 29 2)]) (rest := []) dX9_thinned_53 mo_X8_keepOnly ml_X9_264 im_X8_keepOnly se_X8_keepOnly (Nat.le_of_ble_eq_true rfl) (Nat.le_of_ble_eq_true rfl) ⟨rfl, rfl, rfl⟩ rfl rfl (Nat.le_of_ble_eq_true rfl) (ltT t6) (shT t6) rfl (by decide) h (fun s10 h => ?_)
    refine TT_aload_n dX9_thinned_56 rfl ?_
    refine TT_iconst dX9_thinned_57 ?_
    refine TT_putZ dX9_thinned_58 fd_X9_71 (by decide) rfl (Or.inr rfl) (by decide) rfl ?_
    refine TT_nmM (fun s11 e12 => ?_)
    replace h := h s11 e12
    refine TT_iload dX9_thinned_61 rfl ?_
    refine TT_aload dX9_thinned_63 rfl ?_
    refine TT_getI dX9_thinned_65 fd_X9_102 (by decide) (Or.inl rfl) (ltT t6) (shT t6) ?_
    refine TT_isub dX9_thinned_68 ?_
    exact TT_iret dX9_thinned_69 rfl rfl h
  · replace h := h.2 c4
    refine TT_iload_n dX9_thinned_10 rfl ?_
    exact TT_iret dX9_thinned_11 rfl rfl h
theorem e_X9_thinned (x1 : Int) (x2 : Int) {σ : Mem} {K : Int → Mem → Prop} (h : CC m_X9_refuseThinning [vI x1, vI x2] σ (PI (fun y1 s2 => R32 y1 ∧ ((y1 = 0 → (0 ≤ x1 ∧ x1 < 10) ∧ CC m_X7_plan [vR 29, vR (trk x1), vI x2] s2 (PN (fun s8 => CC m_X8_keepOnly [vR (trk x1), vR 30, vI (s8 29 2)] s8 (PN (fun s10 => (∀ s11 : Mem, s11 = up s10 0 10 1 → K ((s2 (trk x1) 3) - (s11 (trk x1) 3)) s11)))))) ∧ (¬ y1 = 0 → K y1 s2))))) : CC m_X9_thinned [vR 0, vI x1, vI x2] σ (PI K) := CC_of (by decide) rfl rfl rfl (Nat.le_of_ble_eq_true rfl) (w_X9_thinned_0 x1 x2 h)
set_option maxRecDepth 4000 in
theorem w_X9_pass_0 (x1 : Int) {σ : Mem} {K : Int → Mem → Prop} (h : CC m_X9_isWithin [vI x1, vI 1, vI 100] σ (PZ (fun s2 => CC m_X9_isMinute [vI ((s2 0 13) + x1)] s2 (PZ (fun s6 => (∀ s9 : Mem, s9 = up s6 0 13 ((s6 0 13) + x1) → K (s9 0 13) s9)) (fun s7 => K (-900004) s7))) (fun s3 => K (-900002) s3))) : TT m_X9_pass 0 [vR 0, vI x1] [] σ (PI K) := by
  refine TT_iload_n dX9_pass_0 rfl ?_
  refine TT_iconst dX9_pass_1 ?_
  refine TT_bipush dX9_pass_2 (by decide) ?_
  refine TT_callSZ (M' := m_X9_isWithin) (as := [vI x1, vI 1, vI 100]) (rest := []) dX9_pass_4 mo_X9_isWithin ml_X9_94 sm_X9_isWithin (Nat.le_of_ble_eq_true rfl) (Nat.le_of_ble_eq_true rfl) ⟨rfl, rfl, rfl⟩ rfl rfl (Nat.le_of_ble_eq_true rfl) h (fun s2 h => ?_) (fun s3 h => ?_)
  · refine TT_if_ne (tgt := 13) dX9_pass_7 rfl (by decide) (fun c4 => ?_) (fun c4 => absurd c4 (by decide))
    refine TT_aload_n dX9_pass_13 rfl ?_
    refine TT_getI dX9_pass_14 fd_X9_82 (by decide) (Or.inl rfl) (by decide) rfl ?_
    refine TT_iload_n dX9_pass_17 rfl ?_
    refine TT_iadd dX9_pass_18 ?_
    refine TT_callSZ (M' := m_X9_isMinute) (as := [vI ((s2 0 13) + x1)]) (rest := []) dX9_pass_19 mo_X9_isMinute ml_X9_91 sm_X9_isMinute (Nat.le_of_ble_eq_true rfl) (Nat.le_of_ble_eq_true rfl) ⟨rfl, rfl, rfl⟩ rfl rfl (Nat.le_of_ble_eq_true rfl) h (fun s6 h => ?_) (fun s7 h => ?_)
    · refine TT_if_ne (tgt := 28) dX9_pass_22 rfl (by decide) (fun c8 => ?_) (fun c8 => absurd c8 (by decide))
      refine TT_aload_n dX9_pass_28 rfl ?_
      refine TT_dup dX9_pass_29 rfl ?_
      refine TT_getI dX9_pass_30 fd_X9_82 (by decide) (Or.inl rfl) (by decide) rfl ?_
      refine TT_iload_n dX9_pass_33 rfl ?_
      refine TT_iadd dX9_pass_34 ?_
      refine TT_putI dX9_pass_35 fd_X9_82 (by decide) rfl (by decide) rfl ?_
      refine TT_nmM (fun s9 e10 => ?_)
      replace h := h s9 e10
      refine TT_aload_n dX9_pass_38 rfl ?_
      refine TT_getI dX9_pass_39 fd_X9_82 (by decide) (Or.inl rfl) (by decide) rfl ?_
      exact TT_iret dX9_pass_42 rfl rfl h
    · refine TT_if_ne (tgt := 28) dX9_pass_22 rfl (by decide) (fun c11 => absurd c11 (by decide)) (fun c11 => ?_)
      refine TT_ldc dX9_pass_25 kc_X9_105 (x := (-900004)) rfl ?_
      exact TT_iret dX9_pass_27 rfl rfl h
  · refine TT_if_ne (tgt := 13) dX9_pass_7 rfl (by decide) (fun c12 => absurd c12 (by decide)) (fun c12 => ?_)
    refine TT_ldc dX9_pass_10 kc_X9_98 (x := (-900002)) rfl ?_
    exact TT_iret dX9_pass_12 rfl rfl h
theorem e_X9_pass (x1 : Int) {σ : Mem} {K : Int → Mem → Prop} (h : CC m_X9_isWithin [vI x1, vI 1, vI 100] σ (PZ (fun s2 => CC m_X9_isMinute [vI ((s2 0 13) + x1)] s2 (PZ (fun s6 => (∀ s9 : Mem, s9 = up s6 0 13 ((s6 0 13) + x1) → K (s9 0 13) s9)) (fun s7 => K (-900004) s7))) (fun s3 => K (-900002) s3))) : CC m_X9_pass [vR 0, vI x1] σ (PI K) := CC_of (by decide) rfl rfl rfl (Nat.le_of_ble_eq_true rfl) (w_X9_pass_0 x1 h)
set_option maxRecDepth 4000 in
theorem w_X9_stand_0 (x1 : Int) (x2 : Int) (x3 : Int) (x4 : Int) {σ : Mem} {K : Int → Mem → Prop} (h : CC m_X9_isPlace [vI x1, vI x2, vI x3, vI x4] σ (PZ (fun s2 => R32 (s2 0 11) ∧ (((s2 0 11) < 6 → (0 ≤ (s2 0 11) ∧ (s2 0 11) < 6) ∧ CC m_X3_set [vR (std (s2 0 11)), vI x1, vI x2, vI x3, vI x4] s2 (PN (fun s10 => (∀ s11 : Mem, s11 = up s10 0 11 ((s10 0 11) + 1) → K ((s11 0 11) - 1) s11)))) ∧ (¬ (s2 0 11) < 6 → K (-900004) s2))) (fun s3 => K (-900002) s3))) : TT m_X9_stand 0 [vR 0, vI x1, vI x2, vI x3, vI x4] [] σ (PI K) := by
  refine TT_iload_n dX9_stand_0 rfl ?_
  refine TT_iload_n dX9_stand_1 rfl ?_
  refine TT_iload_n dX9_stand_2 rfl ?_
  refine TT_iload dX9_stand_3 rfl ?_
  refine TT_callSZ (M' := m_X9_isPlace) (as := [vI x1, vI x2, vI x3, vI x4]) (rest := []) dX9_stand_5 mo_X9_isPlace ml_X9_153 sm_X9_isPlace (Nat.le_of_ble_eq_true rfl) (Nat.le_of_ble_eq_true rfl) ⟨rfl, rfl, rfl⟩ rfl rfl (Nat.le_of_ble_eq_true rfl) h (fun s2 h => ?_) (fun s3 h => ?_)
  · refine TT_if_ne (tgt := 14) dX9_stand_8 rfl (by decide) (fun c4 => ?_) (fun c4 => absurd c4 (by decide))
    refine TT_aload_n dX9_stand_14 rfl ?_
    refine TT_getI dX9_stand_15 fd_X9_75 (by decide) (Or.inl rfl) (by decide) rfl ?_
    refine TT_bipush dX9_stand_18 (by decide) ?_
    obtain ⟨o5, h⟩ := h
    refine TT_icmp_lt (tgt := 26) dX9_stand_20 rfl o5 (by decide) (fun c6 => ?_) (fun c6 => ?_)
    · replace h := h.1 c6
      refine TT_aload_n dX9_stand_26 rfl ?_
      refine TT_getR (r := 2) dX9_stand_27 fd_X9_17 (by decide) rfl (by decide) rfl rfl ?_
      refine TT_aload_n dX9_stand_30 rfl ?_
      refine TT_getI dX9_stand_31 fd_X9_75 (by decide) (Or.inl rfl) (by decide) rfl ?_
      obtain ⟨o7, h⟩ := h
      have t8 : isP (std (s2 0 11)) := isP_std o7
      refine TT_aald (r := (std (s2 0 11))) dX9_stand_34 (Or.inr rfl) (by decide) rfl (by decide) o7 (rs_std o7) ?_
      refine TT_iload_n dX9_stand_35 rfl ?_
      refine TT_iload_n dX9_stand_36 rfl ?_
      refine TT_iload_n dX9_stand_37 rfl ?_
      refine TT_iload dX9_stand_38 rfl ?_
      refine TT_callVN (M' := m_X3_set) (as := [vI x1, vI x2, vI x3, vI x4]) (rest := []) dX9_stand_40 mo_X3_set ml_X9_157 im_X3_set se_X3_set (Nat.le_of_ble_eq_true rfl) (Nat.le_of_ble_eq_true rfl) ⟨rfl, rfl, rfl⟩ rfl rfl (Nat.le_of_ble_eq_true rfl) (ltP t8) (shP t8) rfl (by decide) h (fun s10 h => ?_)
      refine TT_aload_n dX9_stand_43 rfl ?_
      refine TT_dup dX9_stand_44 rfl ?_
      refine TT_getI dX9_stand_45 fd_X9_75 (by decide) (Or.inl rfl) (by decide) rfl ?_
      refine TT_iconst dX9_stand_48 ?_
      refine TT_iadd dX9_stand_49 ?_
      refine TT_putI dX9_stand_50 fd_X9_75 (by decide) rfl (by decide) rfl ?_
      refine TT_nmM (fun s11 e12 => ?_)
      replace h := h s11 e12
      refine TT_aload_n dX9_stand_53 rfl ?_
      refine TT_getI dX9_stand_54 fd_X9_75 (by decide) (Or.inl rfl) (by decide) rfl ?_
      refine TT_iconst dX9_stand_57 ?_
      refine TT_isub dX9_stand_58 ?_
      exact TT_iret dX9_stand_59 rfl rfl h
    · replace h := h.2 c6
      refine TT_ldc dX9_stand_23 kc_X9_105 (x := (-900004)) rfl ?_
      exact TT_iret dX9_stand_25 rfl rfl h
  · refine TT_if_ne (tgt := 14) dX9_stand_8 rfl (by decide) (fun c13 => absurd c13 (by decide)) (fun c13 => ?_)
    refine TT_ldc dX9_stand_11 kc_X9_98 (x := (-900002)) rfl ?_
    exact TT_iret dX9_stand_13 rfl rfl h
theorem e_X9_stand (x1 : Int) (x2 : Int) (x3 : Int) (x4 : Int) {σ : Mem} {K : Int → Mem → Prop} (h : CC m_X9_isPlace [vI x1, vI x2, vI x3, vI x4] σ (PZ (fun s2 => R32 (s2 0 11) ∧ (((s2 0 11) < 6 → (0 ≤ (s2 0 11) ∧ (s2 0 11) < 6) ∧ CC m_X3_set [vR (std (s2 0 11)), vI x1, vI x2, vI x3, vI x4] s2 (PN (fun s10 => (∀ s11 : Mem, s11 = up s10 0 11 ((s10 0 11) + 1) → K ((s11 0 11) - 1) s11)))) ∧ (¬ (s2 0 11) < 6 → K (-900004) s2))) (fun s3 => K (-900002) s3))) : CC m_X9_stand [vR 0, vI x1, vI x2, vI x3, vI x4] σ (PI K) := CC_of (by decide) rfl rfl rfl (Nat.le_of_ble_eq_true rfl) (w_X9_stand_0 x1 x2 x3 x4 h)
set_option maxRecDepth 4000 in
theorem w_X9_changes_0 (x1 : Int) (x2 : Int) {σ : Mem} {K : Int → Mem → Prop} (h : CC m_X9_refuseChange [vR 0, vI x1, vI x2] σ (PI (fun y1 s2 => R32 y1 ∧ ((y1 = 0 → TT m_X9_changes 19 [vR 0, vI x1, vI x2, vU, vI 0, vI 0] [] s2 (PI K)) ∧ (¬ y1 = 0 → K y1 s2))))) : TT m_X9_changes 0 [vR 0, vI x1, vI x2, vU, vU, vU] [] σ (PI K) := by
  refine TT_aload_n dX9_changes_0 rfl ?_
  refine TT_iload_n dX9_changes_1 rfl ?_
  refine TT_iload_n dX9_changes_2 rfl ?_
  refine TT_callVI (M' := m_X9_refuseChange) (as := [vI x1, vI x2]) (rest := []) dX9_changes_3 mo_X9_refuseChange ml_X9_268 im_X9_refuseChange se_X9_refuseChange (Nat.le_of_ble_eq_true rfl) (Nat.le_of_ble_eq_true rfl) ⟨rfl, rfl, rfl⟩ rfl rfl (Nat.le_of_ble_eq_true rfl) (by decide) rfl rfl (by decide) h (fun y1 s2 h => ?_)
  refine TT_istore_n dX9_changes_6 (Nat.le_of_ble_eq_true rfl) rfl rfl ?_
  refine TT_iload_n dX9_changes_7 rfl ?_
  obtain ⟨o3, h⟩ := h
  refine TT_if_eq (tgt := 13) dX9_changes_8 rfl o3 (fun c4 => ?_) (fun c4 => ?_)
  · replace h := h.1 c4
    refine TT_iconst dX9_changes_13 ?_
    refine TT_istore dX9_changes_14 (Nat.le_of_ble_eq_true rfl) rfl rfl ?_
    refine TT_iconst dX9_changes_16 ?_
    refine TT_istore dX9_changes_17 (Nat.le_of_ble_eq_true rfl) rfl rfl ?_
    refine TT_kill 3 rfl ?_
    exact h
  · replace h := h.2 c4
    refine TT_iload_n dX9_changes_11 rfl ?_
    exact TT_iret dX9_changes_12 rfl rfl h
theorem e_X9_changes (x1 : Int) (x2 : Int) {σ : Mem} {K : Int → Mem → Prop} (h : CC m_X9_refuseChange [vR 0, vI x1, vI x2] σ (PI (fun y1 s2 => R32 y1 ∧ ((y1 = 0 → TT m_X9_changes 19 [vR 0, vI x1, vI x2, vU, vI 0, vI 0] [] s2 (PI K)) ∧ (¬ y1 = 0 → K y1 s2))))) : CC m_X9_changes [vR 0, vI x1, vI x2] σ (PI K) := CC_of (by decide) rfl rfl rfl (Nat.le_of_ble_eq_true rfl) (w_X9_changes_0 x1 x2 h)
set_option maxRecDepth 4000 in
theorem w_X9_changes_19 (x1 : Int) (x2 : Int) (x4 : Int) (x5 : Int) {σ : Mem} {K : Int → Mem → Prop} (h : R32 x5 ∧ ((10 ≤ x5 → K x4 σ) ∧ (¬ 10 ≤ x5 → (0 ≤ x1 ∧ x1 < 6) ∧ CC m_X9_isChange [vR 0, vR (std x1), vI x5, vI x2] σ (PZ (fun s10 => TT m_X9_changes 19 [vR 0, vI x1, vI x2, vU, vI (x4 + 1), vI (x5 + 1)] [] s10 (PI K)) (fun s11 => TT m_X9_changes 19 [vR 0, vI x1, vI x2, vU, vI x4, vI (x5 + 1)] [] s11 (PI K)))))) : TT m_X9_changes 19 [vR 0, vI x1, vI x2, vU, vI x4, vI x5] [] σ (PI K) := by
  refine TT_iload dX9_changes_19 rfl ?_
  refine TT_bipush dX9_changes_21 (by decide) ?_
  obtain ⟨o5, h⟩ := h
  refine TT_icmp_ge (tgt := 51) dX9_changes_23 rfl o5 (by decide) (fun c6 => ?_) (fun c6 => ?_)
  · replace h := h.1 c6
    refine TT_iload dX9_changes_51 rfl ?_
    exact TT_iret dX9_changes_53 rfl rfl h
  · replace h := h.2 c6
    refine TT_aload_n dX9_changes_26 rfl ?_
    refine TT_aload_n dX9_changes_27 rfl ?_
    refine TT_getR (r := 2) dX9_changes_28 fd_X9_17 (by decide) rfl (by decide) rfl rfl ?_
    refine TT_iload_n dX9_changes_31 rfl ?_
    obtain ⟨o7, h⟩ := h
    have t8 : isP (std x1) := isP_std o7
    refine TT_aald (r := (std x1)) dX9_changes_32 (Or.inr rfl) (by decide) rfl (by decide) o7 (rs_std o7) ?_
    refine TT_iload dX9_changes_33 rfl ?_
    refine TT_iload_n dX9_changes_35 rfl ?_
    refine TT_callVZ (M' := m_X9_isChange) (as := [vR (std x1), vI x5, vI x2]) (rest := []) dX9_changes_36 mo_X9_isChange ml_X9_271 im_X9_isChange se_X9_isChange (Nat.le_of_ble_eq_true rfl) (Nat.le_of_ble_eq_true rfl) ⟨rfl, rfl, rfl⟩ rfl rfl (Nat.le_of_ble_eq_true rfl) (by decide) rfl rfl (by decide) h (fun s10 h => ?_) (fun s11 h => ?_)
    · refine TT_if_eq (tgt := 45) dX9_changes_39 rfl (by decide) (fun c12 => absurd c12 (by decide)) (fun c12 => ?_)
      refine TT_iinc dX9_changes_42 (Nat.le_of_ble_eq_true rfl) rfl rfl rfl ?_
      refine TT_iinc dX9_changes_45 (Nat.le_of_ble_eq_true rfl) rfl rfl rfl ?_
      refine TT_goto (tgt := 19) dX9_changes_48 rfl ?_
      exact h
    · refine TT_if_eq (tgt := 45) dX9_changes_39 rfl (by decide) (fun c13 => ?_) (fun c13 => absurd c13 (by decide))
      refine TT_iinc dX9_changes_45 (Nat.le_of_ble_eq_true rfl) rfl rfl rfl ?_
      refine TT_goto (tgt := 19) dX9_changes_48 rfl ?_
      exact h
set_option maxRecDepth 4000 in
theorem w_X9_change_0 (x1 : Int) (x2 : Int) (x3 : Int) {σ : Mem} {K : Int → Mem → Prop} (h : CC m_X9_refuseChange [vR 0, vI x1, vI x2] σ (PI (fun y1 s2 => R32 y1 ∧ ((y1 = 0 → TT m_X9_change 22 [vR 0, vI x1, vI x2, vI x3, vU, vI 0, vI 0] [] s2 (PI K)) ∧ (¬ y1 = 0 → K y1 s2))))) : TT m_X9_change 0 [vR 0, vI x1, vI x2, vI x3, vU, vU, vU] [] σ (PI K) := by
  refine TT_aload_n dX9_change_0 rfl ?_
  refine TT_iload_n dX9_change_1 rfl ?_
  refine TT_iload_n dX9_change_2 rfl ?_
  refine TT_callVI (M' := m_X9_refuseChange) (as := [vI x1, vI x2]) (rest := []) dX9_change_3 mo_X9_refuseChange ml_X9_268 im_X9_refuseChange se_X9_refuseChange (Nat.le_of_ble_eq_true rfl) (Nat.le_of_ble_eq_true rfl) ⟨rfl, rfl, rfl⟩ rfl rfl (Nat.le_of_ble_eq_true rfl) (by decide) rfl rfl (by decide) h (fun y1 s2 h => ?_)
  refine TT_istore dX9_change_6 (Nat.le_of_ble_eq_true rfl) rfl rfl ?_
  refine TT_iload dX9_change_8 rfl ?_
  obtain ⟨o3, h⟩ := h
  refine TT_if_eq (tgt := 16) dX9_change_10 rfl o3 (fun c4 => ?_) (fun c4 => ?_)
  · replace h := h.1 c4
    refine TT_iconst dX9_change_16 ?_
    refine TT_istore dX9_change_17 (Nat.le_of_ble_eq_true rfl) rfl rfl ?_
    refine TT_iconst dX9_change_19 ?_
    refine TT_istore dX9_change_20 (Nat.le_of_ble_eq_true rfl) rfl rfl ?_
    refine TT_kill 4 rfl ?_
    exact h
  · replace h := h.2 c4
    refine TT_iload dX9_change_13 rfl ?_
    exact TT_iret dX9_change_15 rfl rfl h
theorem e_X9_change (x1 : Int) (x2 : Int) (x3 : Int) {σ : Mem} {K : Int → Mem → Prop} (h : CC m_X9_refuseChange [vR 0, vI x1, vI x2] σ (PI (fun y1 s2 => R32 y1 ∧ ((y1 = 0 → TT m_X9_change 22 [vR 0, vI x1, vI x2, vI x3, vU, vI 0, vI 0] [] s2 (PI K)) ∧ (¬ y1 = 0 → K y1 s2))))) : CC m_X9_change [vR 0, vI x1, vI x2, vI x3] σ (PI K) := CC_of (by decide) rfl rfl rfl (Nat.le_of_ble_eq_true rfl) (w_X9_change_0 x1 x2 x3 h)
set_option maxRecDepth 4000 in
theorem w_X9_change_22 (x1 : Int) (x2 : Int) (x3 : Int) (x5 : Int) (x6 : Int) {σ : Mem} {K : Int → Mem → Prop} (h : R32 x6 ∧ ((10 ≤ x6 → K (-900009) σ) ∧ (¬ 10 ≤ x6 → (0 ≤ x1 ∧ x1 < 6) ∧ CC m_X9_isChange [vR 0, vR (std x1), vI x6, vI x2] σ (PZ (fun s10 => R32 x5 ∧ R32 x3 ∧ ((¬ x5 = x3 → TT m_X9_change 22 [vR 0, vI x1, vI x2, vI x3, vU, vI (x5 + 1), vI (x6 + 1)] [] s10 (PI K)) ∧ (x5 = x3 → CC m_X9_isIn [vR 0, vR (std x1), vI x6, vI x2] s10 (PZ (fun s18 => K (x6 + 100) s18) (fun s19 => K x6 s19))))) (fun s11 => TT m_X9_change 22 [vR 0, vI x1, vI x2, vI x3, vU, vI x5, vI (x6 + 1)] [] s11 (PI K)))))) : TT m_X9_change 22 [vR 0, vI x1, vI x2, vI x3, vU, vI x5, vI x6] [] σ (PI K) := by
  refine TT_iload dX9_change_22 rfl ?_
  refine TT_bipush dX9_change_24 (by decide) ?_
  obtain ⟨o5, h⟩ := h
  refine TT_icmp_ge (tgt := 87) dX9_change_26 rfl o5 (by decide) (fun c6 => ?_) (fun c6 => ?_)
  · replace h := h.1 c6
    refine TT_ldc dX9_change_87 kc_X9_165 (x := (-900009)) rfl ?_
    exact TT_iret dX9_change_89 rfl rfl h
  · replace h := h.2 c6
    refine TT_aload_n dX9_change_29 rfl ?_
    refine TT_aload_n dX9_change_30 rfl ?_
    refine TT_getR (r := 2) dX9_change_31 fd_X9_17 (by decide) rfl (by decide) rfl rfl ?_
    refine TT_iload_n dX9_change_34 rfl ?_
    obtain ⟨o7, h⟩ := h
    have t8 : isP (std x1) := isP_std o7
    refine TT_aald (r := (std x1)) dX9_change_35 (Or.inr rfl) (by decide) rfl (by decide) o7 (rs_std o7) ?_
    refine TT_iload dX9_change_36 rfl ?_
    refine TT_iload_n dX9_change_38 rfl ?_
    refine TT_callVZ (M' := m_X9_isChange) (as := [vR (std x1), vI x6, vI x2]) (rest := []) dX9_change_39 mo_X9_isChange ml_X9_271 im_X9_isChange se_X9_isChange (Nat.le_of_ble_eq_true rfl) (Nat.le_of_ble_eq_true rfl) ⟨rfl, rfl, rfl⟩ rfl rfl (Nat.le_of_ble_eq_true rfl) (by decide) rfl rfl (by decide) h (fun s10 h => ?_) (fun s11 h => ?_)
    · refine TT_if_eq (tgt := 81) dX9_change_42 rfl (by decide) (fun c12 => absurd c12 (by decide)) (fun c12 => ?_)
      refine TT_iload dX9_change_45 rfl ?_
      refine TT_iload_n dX9_change_47 rfl ?_
      obtain ⟨o13, h⟩ := h
      obtain ⟨o14, h⟩ := h
      refine TT_icmp_ne (tgt := 78) dX9_change_48 rfl o13 o14 (fun c15 => ?_) (fun c15 => ?_)
      · replace h := h.1 c15
        refine TT_iinc dX9_change_78 (Nat.le_of_ble_eq_true rfl) rfl rfl rfl ?_
        refine TT_iinc dX9_change_81 (Nat.le_of_ble_eq_true rfl) rfl rfl rfl ?_
        refine TT_goto (tgt := 22) dX9_change_84 rfl ?_
        exact h
      · replace h := h.2 c15
        refine TT_aload_n dX9_change_51 rfl ?_
        refine TT_aload_n dX9_change_52 rfl ?_
        refine TT_getR (r := 2) dX9_change_53 fd_X9_17 (by decide) rfl (by decide) rfl rfl ?_
        refine TT_iload_n dX9_change_56 rfl ?_
        have t16 : isP (std x1) := isP_std o7
        refine TT_aald (r := (std x1)) dX9_change_57 (Or.inr rfl) (by decide) rfl (by decide) o7 (rs_std o7) ?_
        refine TT_iload dX9_change_58 rfl ?_
        refine TT_iload_n dX9_change_60 rfl ?_
        refine TT_callVZ (M' := m_X9_isIn) (as := [vR (std x1), vI x6, vI x2]) (rest := []) dX9_change_61 mo_X9_isIn ml_X9_161 im_X9_isIn se_X9_isIn (Nat.le_of_ble_eq_true rfl) (Nat.le_of_ble_eq_true rfl) ⟨rfl, rfl, rfl⟩ rfl rfl (Nat.le_of_ble_eq_true rfl) (by decide) rfl rfl (by decide) h (fun s18 h => ?_) (fun s19 h => ?_)
        · refine TT_if_eq (tgt := 75) dX9_change_64 rfl (by decide) (fun c20 => absurd c20 (by decide)) (fun c20 => ?_)
          refine TT_iload dX9_change_67 rfl ?_
          refine TT_bipush dX9_change_69 (by decide) ?_
          refine TT_iadd dX9_change_71 ?_
          refine TT_goto (tgt := 77) dX9_change_72 rfl ?_
          exact TT_iret dX9_change_77 rfl rfl h
        · refine TT_if_eq (tgt := 75) dX9_change_64 rfl (by decide) (fun c21 => ?_) (fun c21 => absurd c21 (by decide))
          refine TT_iload dX9_change_75 rfl ?_
          exact TT_iret dX9_change_77 rfl rfl h
    · refine TT_if_eq (tgt := 81) dX9_change_42 rfl (by decide) (fun c22 => ?_) (fun c22 => absurd c22 (by decide))
      refine TT_iinc dX9_change_81 (Nat.le_of_ble_eq_true rfl) rfl rfl rfl ?_
      refine TT_goto (tgt := 22) dX9_change_84 rfl ?_
      exact h
set_option maxRecDepth 4000 in
theorem w_X9_still_0 (x1 : Int) (x2 : Int) {σ : Mem} {K : Int → Mem → Prop} (h : CC m_X9_isStand [vR 0, vI x1] σ (PZ (fun s2 => CC m_X9_isThing [vI x2] s2 (PZ (fun s6 => (0 ≤ x1 ∧ x1 < 6) ∧ CC m_X9_isIn [vR 0, vR (std x1), vI x2, vI (s6 0 13)] s6 (PZ (fun s12 => TT m_X9_still 45 [vR 0, vI x1, vI x2, vI 1, vI 0, vI ((s12 0 13) + 1)] [] s12 (PI K)) (fun s13 => TT m_X9_still 45 [vR 0, vI x1, vI x2, vI 0, vI 0, vI ((s13 0 13) + 1)] [] s13 (PI K)))) (fun s7 => K (-900001) s7))) (fun s3 => K (-900001) s3))) : TT m_X9_still 0 [vR 0, vI x1, vI x2, vU, vU, vU] [] σ (PI K) := by
  refine TT_aload_n dX9_still_0 rfl ?_
  refine TT_iload_n dX9_still_1 rfl ?_
  refine TT_callVZ (M' := m_X9_isStand) (as := [vI x1]) (rest := []) dX9_still_2 mo_X9_isStand ml_X9_274 im_X9_isStand se_X9_isStand (Nat.le_of_ble_eq_true rfl) (Nat.le_of_ble_eq_true rfl) ⟨rfl, rfl, rfl⟩ rfl rfl (Nat.le_of_ble_eq_true rfl) (by decide) rfl rfl (by decide) h (fun s2 h => ?_) (fun s3 h => ?_)
  · refine TT_if_eq (tgt := 15) dX9_still_5 rfl (by decide) (fun c4 => absurd c4 (by decide)) (fun c4 => ?_)
    refine TT_iload_n dX9_still_8 rfl ?_
    refine TT_callSZ (M' := m_X9_isThing) (as := [vI x2]) (rest := []) dX9_still_9 mo_X9_isThing ml_X9_86 sm_X9_isThing (Nat.le_of_ble_eq_true rfl) (Nat.le_of_ble_eq_true rfl) ⟨rfl, rfl, rfl⟩ rfl rfl (Nat.le_of_ble_eq_true rfl) h (fun s6 h => ?_) (fun s7 h => ?_)
    · refine TT_if_ne (tgt := 18) dX9_still_12 rfl (by decide) (fun c8 => ?_) (fun c8 => absurd c8 (by decide))
      refine TT_aload_n dX9_still_18 rfl ?_
      refine TT_aload_n dX9_still_19 rfl ?_
      refine TT_getR (r := 2) dX9_still_20 fd_X9_17 (by decide) rfl (by decide) rfl rfl ?_
      refine TT_iload_n dX9_still_23 rfl ?_
      obtain ⟨o9, h⟩ := h
      have t10 : isP (std x1) := isP_std o9
      refine TT_aald (r := (std x1)) dX9_still_24 (Or.inr rfl) (by decide) rfl (by decide) o9 (rs_std o9) ?_
      refine TT_iload_n dX9_still_25 rfl ?_
      refine TT_aload_n dX9_still_26 rfl ?_
      refine TT_getI dX9_still_27 fd_X9_82 (by decide) (Or.inl rfl) (by decide) rfl ?_
      refine TT_callVZ (M' := m_X9_isIn) (as := [vR (std x1), vI x2, vI (s6 0 13)]) (rest := []) dX9_still_30 mo_X9_isIn ml_X9_161 im_X9_isIn se_X9_isIn (Nat.le_of_ble_eq_true rfl) (Nat.le_of_ble_eq_true rfl) ⟨rfl, rfl, rfl⟩ rfl rfl (Nat.le_of_ble_eq_true rfl) (by decide) rfl rfl (by decide) h (fun s12 h => ?_) (fun s13 h => ?_)
      · refine TT_istore_n dX9_still_33 (Nat.le_of_ble_eq_true rfl) rfl rfl ?_
        refine TT_iconst dX9_still_34 ?_
        refine TT_istore dX9_still_35 (Nat.le_of_ble_eq_true rfl) rfl rfl ?_
        refine TT_aload_n dX9_still_37 rfl ?_
        refine TT_getI dX9_still_38 fd_X9_82 (by decide) (Or.inl rfl) (by decide) rfl ?_
        refine TT_iconst dX9_still_41 ?_
        refine TT_iadd dX9_still_42 ?_
        refine TT_istore dX9_still_43 (Nat.le_of_ble_eq_true rfl) rfl rfl ?_
        exact h
      · refine TT_istore_n dX9_still_33 (Nat.le_of_ble_eq_true rfl) rfl rfl ?_
        refine TT_iconst dX9_still_34 ?_
        refine TT_istore dX9_still_35 (Nat.le_of_ble_eq_true rfl) rfl rfl ?_
        refine TT_aload_n dX9_still_37 rfl ?_
        refine TT_getI dX9_still_38 fd_X9_82 (by decide) (Or.inl rfl) (by decide) rfl ?_
        refine TT_iconst dX9_still_41 ?_
        refine TT_iadd dX9_still_42 ?_
        refine TT_istore dX9_still_43 (Nat.le_of_ble_eq_true rfl) rfl rfl ?_
        exact h
    · refine TT_if_ne (tgt := 18) dX9_still_12 rfl (by decide) (fun c14 => absurd c14 (by decide)) (fun c14 => ?_)
      refine TT_ldc dX9_still_15 kc_X9_90 (x := (-900001)) rfl ?_
      exact TT_iret dX9_still_17 rfl rfl h
  · refine TT_if_eq (tgt := 15) dX9_still_5 rfl (by decide) (fun c15 => ?_) (fun c15 => absurd c15 (by decide))
    refine TT_ldc dX9_still_15 kc_X9_90 (x := (-900001)) rfl ?_
    exact TT_iret dX9_still_17 rfl rfl h
theorem e_X9_still (x1 : Int) (x2 : Int) {σ : Mem} {K : Int → Mem → Prop} (h : CC m_X9_isStand [vR 0, vI x1] σ (PZ (fun s2 => CC m_X9_isThing [vI x2] s2 (PZ (fun s6 => (0 ≤ x1 ∧ x1 < 6) ∧ CC m_X9_isIn [vR 0, vR (std x1), vI x2, vI (s6 0 13)] s6 (PZ (fun s12 => TT m_X9_still 45 [vR 0, vI x1, vI x2, vI 1, vI 0, vI ((s12 0 13) + 1)] [] s12 (PI K)) (fun s13 => TT m_X9_still 45 [vR 0, vI x1, vI x2, vI 0, vI 0, vI ((s13 0 13) + 1)] [] s13 (PI K)))) (fun s7 => K (-900001) s7))) (fun s3 => K (-900001) s3))) : CC m_X9_still [vR 0, vI x1, vI x2] σ (PI K) := CC_of (by decide) rfl rfl rfl (Nat.le_of_ble_eq_true rfl) (w_X9_still_0 x1 x2 h)
set_option maxRecDepth 4000 in
theorem w_X9_still_45 (x1 : Int) (x2 : Int) (x3 : Int) (x4 : Int) (x5 : Int) {σ : Mem} {K : Int → Mem → Prop} (h : R32 x5 ∧ ((200 ≤ x5 → K x4 σ) ∧ (¬ 200 ≤ x5 → (0 ≤ x1 ∧ x1 < 6) ∧ CC m_X9_isIn [vR 0, vR (std x1), vI x2, vI x5] σ (PZ (fun s21 => R32 x3 ∧ ((1 = x3 → TT m_X9_still 45 [vR 0, vI x1, vI x2, vI x3, vI (x4 + 1), vI (x5 + 1)] [] s21 (PI K)) ∧ (¬ 1 = x3 → K x4 s21))) (fun s22 => R32 x3 ∧ ((0 = x3 → TT m_X9_still 45 [vR 0, vI x1, vI x2, vI x3, vI (x4 + 1), vI (x5 + 1)] [] s22 (PI K)) ∧ (¬ 0 = x3 → K x4 s22))))))) : TT m_X9_still 45 [vR 0, vI x1, vI x2, vI x3, vI x4, vI x5] [] σ (PI K) := by
  refine TT_iload dX9_still_45 rfl ?_
  refine TT_sipush dX9_still_47 (by decide) ?_
  obtain ⟨o16, h⟩ := h
  refine TT_icmp_ge (tgt := 82) dX9_still_50 rfl o16 (by decide) (fun c17 => ?_) (fun c17 => ?_)
  · replace h := h.1 c17
    refine TT_iload dX9_still_82 rfl ?_
    exact TT_iret dX9_still_84 rfl rfl h
  · replace h := h.2 c17
    refine TT_aload_n dX9_still_53 rfl ?_
    refine TT_aload_n dX9_still_54 rfl ?_
    refine TT_getR (r := 2) dX9_still_55 fd_X9_17 (by decide) rfl (by decide) rfl rfl ?_
    refine TT_iload_n dX9_still_58 rfl ?_
    obtain ⟨o18, h⟩ := h
    have t19 : isP (std x1) := isP_std o18
    refine TT_aald (r := (std x1)) dX9_still_59 (Or.inr rfl) (by decide) rfl (by decide) o18 (rs_std o18) ?_
    refine TT_iload_n dX9_still_60 rfl ?_
    refine TT_iload dX9_still_61 rfl ?_
    refine TT_callVZ (M' := m_X9_isIn) (as := [vR (std x1), vI x2, vI x5]) (rest := []) dX9_still_63 mo_X9_isIn ml_X9_161 im_X9_isIn se_X9_isIn (Nat.le_of_ble_eq_true rfl) (Nat.le_of_ble_eq_true rfl) ⟨rfl, rfl, rfl⟩ rfl rfl (Nat.le_of_ble_eq_true rfl) (by decide) rfl rfl (by decide) h (fun s21 h => ?_) (fun s22 h => ?_)
    · refine TT_iload_n dX9_still_66 rfl ?_
      obtain ⟨o23, h⟩ := h
      refine TT_icmp_eq (tgt := 73) dX9_still_67 rfl (by decide) o23 (fun c24 => ?_) (fun c24 => ?_)
      · replace h := h.1 c24
        refine TT_iinc dX9_still_73 (Nat.le_of_ble_eq_true rfl) rfl rfl rfl ?_
        refine TT_iinc dX9_still_76 (Nat.le_of_ble_eq_true rfl) rfl rfl rfl ?_
        refine TT_goto (tgt := 45) dX9_still_79 rfl ?_
        exact h
      · replace h := h.2 c24
        refine TT_goto (tgt := 82) dX9_still_70 rfl ?_
        refine TT_iload dX9_still_82 rfl ?_
        exact TT_iret dX9_still_84 rfl rfl h
    · refine TT_iload_n dX9_still_66 rfl ?_
      obtain ⟨o25, h⟩ := h
      refine TT_icmp_eq (tgt := 73) dX9_still_67 rfl (by decide) o25 (fun c26 => ?_) (fun c26 => ?_)
      · replace h := h.1 c26
        refine TT_iinc dX9_still_73 (Nat.le_of_ble_eq_true rfl) rfl rfl rfl ?_
        refine TT_iinc dX9_still_76 (Nat.le_of_ble_eq_true rfl) rfl rfl rfl ?_
        refine TT_goto (tgt := 45) dX9_still_79 rfl ?_
        exact h
      · replace h := h.2 c26
        refine TT_goto (tgt := 82) dX9_still_70 rfl ?_
        refine TT_iload dX9_still_82 rfl ?_
        exact TT_iret dX9_still_84 rfl rfl h
set_option maxRecDepth 4000 in
theorem w_X9_load_0 (x1 : Int) {σ : Mem} {K : Int → Mem → Prop} (h : CC m_X9_isWithin [vI x1, vI 0, vI 9] σ (PZ (fun s2 => CC m_X9_countColumns [vR 0] s2 (PN (fun s6 => (0 ≤ x1 ∧ x1 < 10) ∧ K (s6 33 (x1).toNat) s6))) (fun s3 => K (-900002) s3))) : TT m_X9_load 0 [vR 0, vI x1] [] σ (PI K) := by
  refine TT_iload_n dX9_load_0 rfl ?_
  refine TT_iconst dX9_load_1 ?_
  refine TT_bipush dX9_load_2 (by decide) ?_
  refine TT_callSZ (M' := m_X9_isWithin) (as := [vI x1, vI 0, vI 9]) (rest := []) dX9_load_4 mo_X9_isWithin ml_X9_94 sm_X9_isWithin (Nat.le_of_ble_eq_true rfl) (Nat.le_of_ble_eq_true rfl) ⟨rfl, rfl, rfl⟩ rfl rfl (Nat.le_of_ble_eq_true rfl) h (fun s2 h => ?_) (fun s3 h => ?_)
  · refine TT_if_ne (tgt := 13) dX9_load_7 rfl (by decide) (fun c4 => ?_) (fun c4 => absurd c4 (by decide))
    refine TT_aload_n dX9_load_13 rfl ?_
    refine TT_callVN (M' := m_X9_countColumns) (as := []) (rest := []) dX9_load_14 mo_X9_countColumns ml_X9_277 im_X9_countColumns se_X9_countColumns (Nat.le_of_ble_eq_true rfl) (Nat.le_of_ble_eq_true rfl) ⟨rfl, rfl, rfl⟩ rfl rfl (Nat.le_of_ble_eq_true rfl) (by decide) rfl rfl (by decide) h (fun s6 h => ?_)
    refine TT_aload_n dX9_load_17 rfl ?_
    refine TT_getR (r := 32) dX9_load_18 fd_X9_67 (by decide) rfl (by decide) rfl rfl ?_
    refine TT_getR (r := 33) dX9_load_21 fd_X9_280 (by decide) rfl (by decide) rfl rfl ?_
    refine TT_iload_n dX9_load_24 rfl ?_
    obtain ⟨o7, h⟩ := h
    refine TT_iald dX9_load_25 (by decide) rfl (by decide) o7 ?_
    exact TT_iret dX9_load_26 rfl rfl h
  · refine TT_if_ne (tgt := 13) dX9_load_7 rfl (by decide) (fun c8 => absurd c8 (by decide)) (fun c8 => ?_)
    refine TT_ldc dX9_load_10 kc_X9_98 (x := (-900002)) rfl ?_
    exact TT_iret dX9_load_12 rfl rfl h
theorem e_X9_load (x1 : Int) {σ : Mem} {K : Int → Mem → Prop} (h : CC m_X9_isWithin [vI x1, vI 0, vI 9] σ (PZ (fun s2 => CC m_X9_countColumns [vR 0] s2 (PN (fun s6 => (0 ≤ x1 ∧ x1 < 10) ∧ K (s6 33 (x1).toNat) s6))) (fun s3 => K (-900002) s3))) : CC m_X9_load [vR 0, vI x1] σ (PI K) := CC_of (by decide) rfl rfl rfl (Nat.le_of_ble_eq_true rfl) (w_X9_load_0 x1 h)
set_option maxRecDepth 4000 in
theorem w_X9_share_0 (x1 : Int) {σ : Mem} {K : Int → Mem → Prop} (h : CC m_X9_isWithin [vI x1, vI 1, vI 5] σ (PZ (fun s2 => CC m_X9_countColumns [vR 0] s2 (PN (fun s6 => CC m_X1_leastGreatest [vR 32, vI x1] s6 (PI (fun y7 s8 => K y7 s8))))) (fun s3 => K (-900002) s3))) : TT m_X9_share 0 [vR 0, vI x1] [] σ (PI K) := by
  refine TT_iload_n dX9_share_0 rfl ?_
  refine TT_iconst dX9_share_1 ?_
  refine TT_iconst dX9_share_2 ?_
  refine TT_callSZ (M' := m_X9_isWithin) (as := [vI x1, vI 1, vI 5]) (rest := []) dX9_share_3 mo_X9_isWithin ml_X9_94 sm_X9_isWithin (Nat.le_of_ble_eq_true rfl) (Nat.le_of_ble_eq_true rfl) ⟨rfl, rfl, rfl⟩ rfl rfl (Nat.le_of_ble_eq_true rfl) h (fun s2 h => ?_) (fun s3 h => ?_)
  · refine TT_if_ne (tgt := 12) dX9_share_6 rfl (by decide) (fun c4 => ?_) (fun c4 => absurd c4 (by decide))
    refine TT_aload_n dX9_share_12 rfl ?_
    refine TT_callVN (M' := m_X9_countColumns) (as := []) (rest := []) dX9_share_13 mo_X9_countColumns ml_X9_277 im_X9_countColumns se_X9_countColumns (Nat.le_of_ble_eq_true rfl) (Nat.le_of_ble_eq_true rfl) ⟨rfl, rfl, rfl⟩ rfl rfl (Nat.le_of_ble_eq_true rfl) (by decide) rfl rfl (by decide) h (fun s6 h => ?_)
    refine TT_aload_n dX9_share_16 rfl ?_
    refine TT_getR (r := 32) dX9_share_17 fd_X9_67 (by decide) rfl (by decide) rfl rfl ?_
    refine TT_iload_n dX9_share_20 rfl ?_
    refine TT_callVI (M' := m_X1_leastGreatest) (as := [vI x1]) (rest := []) dX9_share_21 mo_X1_leastGreatest ml_X9_283 im_X1_leastGreatest se_X1_leastGreatest (Nat.le_of_ble_eq_true rfl) (Nat.le_of_ble_eq_true rfl) ⟨rfl, rfl, rfl⟩ rfl rfl (Nat.le_of_ble_eq_true rfl) (by decide) rfl rfl (by decide) h (fun y7 s8 h => ?_)
    exact TT_iret dX9_share_24 rfl rfl h
  · refine TT_if_ne (tgt := 12) dX9_share_6 rfl (by decide) (fun c9 => absurd c9 (by decide)) (fun c9 => ?_)
    refine TT_ldc dX9_share_9 kc_X9_98 (x := (-900002)) rfl ?_
    exact TT_iret dX9_share_11 rfl rfl h
theorem e_X9_share (x1 : Int) {σ : Mem} {K : Int → Mem → Prop} (h : CC m_X9_isWithin [vI x1, vI 1, vI 5] σ (PZ (fun s2 => CC m_X9_countColumns [vR 0] s2 (PN (fun s6 => CC m_X1_leastGreatest [vR 32, vI x1] s6 (PI (fun y7 s8 => K y7 s8))))) (fun s3 => K (-900002) s3))) : CC m_X9_share [vR 0, vI x1] σ (PI K) := CC_of (by decide) rfl rfl rfl (Nat.le_of_ble_eq_true rfl) (w_X9_share_0 x1 h)
set_option maxRecDepth 4000 in
theorem w_X9_gets_0 (x1 : Int) (x2 : Int) {σ : Mem} {K : Int → Mem → Prop} (h : CC m_X9_isWithin [vI x1, vI 1, vI 5] σ (PZ (fun s2 => CC m_X9_isWithin [vI x2, vI 0, vI (x1 - 1)] s2 (PZ (fun s6 => CC m_X9_countColumns [vR 0] s6 (PN (fun s10 => CC m_X1_partOf [vR 32, vI x1, vI x2] s10 (PI (fun y11 s12 => K y11 s12))))) (fun s7 => K (-900002) s7))) (fun s3 => K (-900002) s3))) : TT m_X9_gets 0 [vR 0, vI x1, vI x2] [] σ (PI K) := by
  refine TT_iload_n dX9_gets_0 rfl ?_
  refine TT_iconst dX9_gets_1 ?_
  refine TT_iconst dX9_gets_2 ?_
  refine TT_callSZ (M' := m_X9_isWithin) (as := [vI x1, vI 1, vI 5]) (rest := []) dX9_gets_3 mo_X9_isWithin ml_X9_94 sm_X9_isWithin (Nat.le_of_ble_eq_true rfl) (Nat.le_of_ble_eq_true rfl) ⟨rfl, rfl, rfl⟩ rfl rfl (Nat.le_of_ble_eq_true rfl) h (fun s2 h => ?_) (fun s3 h => ?_)
  · refine TT_if_eq (tgt := 20) dX9_gets_6 rfl (by decide) (fun c4 => absurd c4 (by decide)) (fun c4 => ?_)
    refine TT_iload_n dX9_gets_9 rfl ?_
    refine TT_iconst dX9_gets_10 ?_
    refine TT_iload_n dX9_gets_11 rfl ?_
    refine TT_iconst dX9_gets_12 ?_
    refine TT_isub dX9_gets_13 ?_
    refine TT_callSZ (M' := m_X9_isWithin) (as := [vI x2, vI 0, vI (x1 - 1)]) (rest := []) dX9_gets_14 mo_X9_isWithin ml_X9_94 sm_X9_isWithin (Nat.le_of_ble_eq_true rfl) (Nat.le_of_ble_eq_true rfl) ⟨rfl, rfl, rfl⟩ rfl rfl (Nat.le_of_ble_eq_true rfl) h (fun s6 h => ?_) (fun s7 h => ?_)
    · refine TT_if_ne (tgt := 23) dX9_gets_17 rfl (by decide) (fun c8 => ?_) (fun c8 => absurd c8 (by decide))
      refine TT_aload_n dX9_gets_23 rfl ?_
      refine TT_callVN (M' := m_X9_countColumns) (as := []) (rest := []) dX9_gets_24 mo_X9_countColumns ml_X9_277 im_X9_countColumns se_X9_countColumns (Nat.le_of_ble_eq_true rfl) (Nat.le_of_ble_eq_true rfl) ⟨rfl, rfl, rfl⟩ rfl rfl (Nat.le_of_ble_eq_true rfl) (by decide) rfl rfl (by decide) h (fun s10 h => ?_)
      refine TT_aload_n dX9_gets_27 rfl ?_
      refine TT_getR (r := 32) dX9_gets_28 fd_X9_67 (by decide) rfl (by decide) rfl rfl ?_
      refine TT_iload_n dX9_gets_31 rfl ?_
      refine TT_iload_n dX9_gets_32 rfl ?_
      refine TT_callVI (M' := m_X1_partOf) (as := [vI x1, vI x2]) (rest := []) dX9_gets_33 mo_X1_partOf ml_X9_286 im_X1_partOf se_X1_partOf (Nat.le_of_ble_eq_true rfl) (Nat.le_of_ble_eq_true rfl) ⟨rfl, rfl, rfl⟩ rfl rfl (Nat.le_of_ble_eq_true rfl) (by decide) rfl rfl (by decide) h (fun y11 s12 h => ?_)
      exact TT_iret dX9_gets_36 rfl rfl h
    · refine TT_if_ne (tgt := 23) dX9_gets_17 rfl (by decide) (fun c13 => absurd c13 (by decide)) (fun c13 => ?_)
      refine TT_ldc dX9_gets_20 kc_X9_98 (x := (-900002)) rfl ?_
      exact TT_iret dX9_gets_22 rfl rfl h
  · refine TT_if_eq (tgt := 20) dX9_gets_6 rfl (by decide) (fun c14 => ?_) (fun c14 => absurd c14 (by decide))
    refine TT_ldc dX9_gets_20 kc_X9_98 (x := (-900002)) rfl ?_
    exact TT_iret dX9_gets_22 rfl rfl h
theorem e_X9_gets (x1 : Int) (x2 : Int) {σ : Mem} {K : Int → Mem → Prop} (h : CC m_X9_isWithin [vI x1, vI 1, vI 5] σ (PZ (fun s2 => CC m_X9_isWithin [vI x2, vI 0, vI (x1 - 1)] s2 (PZ (fun s6 => CC m_X9_countColumns [vR 0] s6 (PN (fun s10 => CC m_X1_partOf [vR 32, vI x1, vI x2] s10 (PI (fun y11 s12 => K y11 s12))))) (fun s7 => K (-900002) s7))) (fun s3 => K (-900002) s3))) : CC m_X9_gets [vR 0, vI x1, vI x2] σ (PI K) := CC_of (by decide) rfl rfl rfl (Nat.le_of_ble_eq_true rfl) (w_X9_gets_0 x1 x2 h)
set_option maxRecDepth 4000 in
theorem w_X9_blur_0 (x1 : Int) (x2 : Int) (x3 : Int) (x4 : Int) (x5 : Int) {σ : Mem} {K : Int → Mem → Prop} (h : CC m_X9_isRow [vR 0, vI x1, vI x2] σ (PZ (fun s2 => CC m_X9_isBlur [vI x3, vI x4] s2 (PZ (fun s6 => R32 x5 ∧ (x5 = 0 → (0 ≤ x1 ∧ x1 < 10) ∧ (0 ≤ x2 ∧ x2 < 24)) ∧ (¬ x5 = 0 → (0 ≤ x1 ∧ x1 < 10) ∧ (0 ≤ x2 ∧ x2 < 24)) ∧ (∀ v18 : Int, v18 = (if x5 = 0 then (s6 ((trk x1) + 2) (x2).toNat) else (s6 ((trk x1) + 3) (x2).toNat) : Int) → R32 (v18 + x4) ∧ R32 x3 ∧ x3 ≠ 0 ∧ K (Int.tdiv (v18 + x4) x3) s6)) (fun s7 => K (-900002) s7))) (fun s3 => K (-900001) s3))) : TT m_X9_blur 0 [vR 0, vI x1, vI x2, vI x3, vI x4, vI x5, vU] [] σ (PI K) := by
  refine TT_aload_n dX9_blur_0 rfl ?_
  refine TT_iload_n dX9_blur_1 rfl ?_
  refine TT_iload_n dX9_blur_2 rfl ?_
  refine TT_callVZ (M' := m_X9_isRow) (as := [vI x1, vI x2]) (rest := []) dX9_blur_3 mo_X9_isRow ml_X9_110 im_X9_isRow se_X9_isRow (Nat.le_of_ble_eq_true rfl) (Nat.le_of_ble_eq_true rfl) ⟨rfl, rfl, rfl⟩ rfl rfl (Nat.le_of_ble_eq_true rfl) (by decide) rfl rfl (by decide) h (fun s2 h => ?_) (fun s3 h => ?_)
  · refine TT_if_ne (tgt := 12) dX9_blur_6 rfl (by decide) (fun c4 => ?_) (fun c4 => absurd c4 (by decide))
    refine TT_iload_n dX9_blur_12 rfl ?_
    refine TT_iload dX9_blur_13 rfl ?_
    refine TT_callSZ (M' := m_X9_isBlur) (as := [vI x3, vI x4]) (rest := []) dX9_blur_15 mo_X9_isBlur ml_X9_289 sm_X9_isBlur (Nat.le_of_ble_eq_true rfl) (Nat.le_of_ble_eq_true rfl) ⟨rfl, rfl, rfl⟩ rfl rfl (Nat.le_of_ble_eq_true rfl) h (fun s6 h => ?_) (fun s7 h => ?_)
    · refine TT_if_ne (tgt := 24) dX9_blur_18 rfl (by decide) (fun c8 => ?_) (fun c8 => absurd c8 (by decide))
      refine TT_iload dX9_blur_24 rfl ?_
      obtain ⟨o9, h⟩ := h
      obtain ⟨o23, h⟩ := h
      obtain ⟨o24, h⟩ := h
      have j17 : TT m_X9_blur 54 [vR 0, vI x1, vI x2, vI x3, vI x4, vI x5, vU] [vI (if x5 = 0 then (s6 ((trk x1) + 2) (x2).toNat) else (s6 ((trk x1) + 3) (x2).toNat) : Int)] s6 (PI K) := by
        refine TT_nmI (fun v18 e19 => ?_)
        replace h := h v18 e19
        refine TT_istore dX9_blur_54 (Nat.le_of_ble_eq_true rfl) rfl rfl ?_
        refine TT_iload dX9_blur_56 rfl ?_
        refine TT_iload dX9_blur_58 rfl ?_
        refine TT_iadd dX9_blur_60 ?_
        refine TT_iload_n dX9_blur_61 rfl ?_
        obtain ⟨o20, h⟩ := h
        obtain ⟨o21, h⟩ := h
        obtain ⟨o22, h⟩ := h
        refine TT_idiv dX9_blur_62 o20 o21 o22 ?_
        exact TT_iret dX9_blur_63 rfl rfl h
      refine TT_if_eq (tgt := 43) dX9_blur_26 rfl o9 (fun c10 => ?_) (fun c10 => ?_)
      · have h := o23 c10
        refine TT_aload_n dX9_blur_43 rfl ?_
        refine TT_getR (r := 1) dX9_blur_44 fd_X9_11 (by decide) rfl (by decide) rfl rfl ?_
        refine TT_iload_n dX9_blur_47 rfl ?_
        obtain ⟨o11, h⟩ := h
        have t12 : isT (trk x1) := isT_trk o11
        refine TT_aald (r := (trk x1)) dX9_blur_48 (Or.inl rfl) (by decide) rfl (by decide) o11 (rs_trk o11) ?_
        refine TT_getR (r := ((trk x1) + 2)) dX9_blur_49 fd_X9_125 (by decide) rfl (ltT t12) (shT t12) (rsT1 t12) ?_
        refine TT_iload_n dX9_blur_52 rfl ?_
        have o13 := h
        refine TT_iald dX9_blur_53 (ltT2 t12) (shT2 t12) (by decide) o13 ?_
        exact TT.cast j17 (by first | rfl | (simp only [if_pos c10] <;> rfl)) (by first | rfl | (simp only [if_pos c10] <;> rfl))
      · have h := o24 c10
        refine TT_aload_n dX9_blur_29 rfl ?_
        refine TT_getR (r := 1) dX9_blur_30 fd_X9_11 (by decide) rfl (by decide) rfl rfl ?_
        refine TT_iload_n dX9_blur_33 rfl ?_
        obtain ⟨o14, h⟩ := h
        have t15 : isT (trk x1) := isT_trk o14
        refine TT_aald (r := (trk x1)) dX9_blur_34 (Or.inl rfl) (by decide) rfl (by decide) o14 (rs_trk o14) ?_
        refine TT_getR (r := ((trk x1) + 3)) dX9_blur_35 fd_X9_128 (by decide) rfl (ltT t15) (shT t15) (rsT2 t15) ?_
        refine TT_iload_n dX9_blur_38 rfl ?_
        have o16 := h
        refine TT_iald dX9_blur_39 (ltT3 t15) (shT3 t15) (by decide) o16 ?_
        refine TT_goto (tgt := 54) dX9_blur_40 rfl ?_
        exact TT.cast j17 (by first | rfl | (simp only [if_neg c10] <;> rfl)) (by first | rfl | (simp only [if_neg c10] <;> rfl))
    · refine TT_if_ne (tgt := 24) dX9_blur_18 rfl (by decide) (fun c25 => absurd c25 (by decide)) (fun c25 => ?_)
      refine TT_ldc dX9_blur_21 kc_X9_98 (x := (-900002)) rfl ?_
      exact TT_iret dX9_blur_23 rfl rfl h
  · refine TT_if_ne (tgt := 12) dX9_blur_6 rfl (by decide) (fun c26 => absurd c26 (by decide)) (fun c26 => ?_)
    refine TT_ldc dX9_blur_9 kc_X9_90 (x := (-900001)) rfl ?_
    exact TT_iret dX9_blur_11 rfl rfl h
theorem e_X9_blur (x1 : Int) (x2 : Int) (x3 : Int) (x4 : Int) (x5 : Int) {σ : Mem} {K : Int → Mem → Prop} (h : CC m_X9_isRow [vR 0, vI x1, vI x2] σ (PZ (fun s2 => CC m_X9_isBlur [vI x3, vI x4] s2 (PZ (fun s6 => R32 x5 ∧ (x5 = 0 → (0 ≤ x1 ∧ x1 < 10) ∧ (0 ≤ x2 ∧ x2 < 24)) ∧ (¬ x5 = 0 → (0 ≤ x1 ∧ x1 < 10) ∧ (0 ≤ x2 ∧ x2 < 24)) ∧ (∀ v18 : Int, v18 = (if x5 = 0 then (s6 ((trk x1) + 2) (x2).toNat) else (s6 ((trk x1) + 3) (x2).toNat) : Int) → R32 (v18 + x4) ∧ R32 x3 ∧ x3 ≠ 0 ∧ K (Int.tdiv (v18 + x4) x3) s6)) (fun s7 => K (-900002) s7))) (fun s3 => K (-900001) s3))) : CC m_X9_blur [vR 0, vI x1, vI x2, vI x3, vI x4, vI x5] σ (PI K) := CC_of (by decide) rfl rfl rfl (Nat.le_of_ble_eq_true rfl) (w_X9_blur_0 x1 x2 x3 x4 x5 h)
set_option maxRecDepth 4000 in
theorem w_X9_together_0 (x1 : Int) (x2 : Int) (x3 : Int) (x4 : Int) (x5 : Int) (x6 : Int) {σ : Mem} {K : Int → Mem → Prop} (h : CC m_X9_isRow [vR 0, vI x1, vI x2] σ (PZ (fun s2 => CC m_X9_isBlur [vI x3, vI x4] s2 (PZ (fun s6 => CC m_X9_isBlur [vI x5, vI x6] s6 (PZ (fun s10 => (0 ≤ x1 ∧ x1 < 10) ∧ (0 ≤ x2 ∧ x2 < 24) ∧ CC m_X9_agreeing [vI (s10 ((trk x1) + 2) (x2).toNat), vI x3, vI x4, vI x5, vI x6] s10 (PI (fun y16 s17 => CC m_X9_agreeing [vI (s17 ((trk x1) + 3) (x2).toNat), vI x3, vI x4, vI x5, vI x6] s17 (PI (fun y18 s19 => K (y16 * y18) s19))))) (fun s11 => K (-900002) s11))) (fun s7 => K (-900002) s7))) (fun s3 => K (-900001) s3))) : TT m_X9_together 0 [vR 0, vI x1, vI x2, vI x3, vI x4, vI x5, vI x6, vU] [] σ (PI K) := by
  refine TT_aload_n dX9_together_0 rfl ?_
  refine TT_iload_n dX9_together_1 rfl ?_
  refine TT_iload_n dX9_together_2 rfl ?_
  refine TT_callVZ (M' := m_X9_isRow) (as := [vI x1, vI x2]) (rest := []) dX9_together_3 mo_X9_isRow ml_X9_110 im_X9_isRow se_X9_isRow (Nat.le_of_ble_eq_true rfl) (Nat.le_of_ble_eq_true rfl) ⟨rfl, rfl, rfl⟩ rfl rfl (Nat.le_of_ble_eq_true rfl) (by decide) rfl rfl (by decide) h (fun s2 h => ?_) (fun s3 h => ?_)
  · refine TT_if_ne (tgt := 12) dX9_together_6 rfl (by decide) (fun c4 => ?_) (fun c4 => absurd c4 (by decide))
    refine TT_iload_n dX9_together_12 rfl ?_
    refine TT_iload dX9_together_13 rfl ?_
    refine TT_callSZ (M' := m_X9_isBlur) (as := [vI x3, vI x4]) (rest := []) dX9_together_15 mo_X9_isBlur ml_X9_289 sm_X9_isBlur (Nat.le_of_ble_eq_true rfl) (Nat.le_of_ble_eq_true rfl) ⟨rfl, rfl, rfl⟩ rfl rfl (Nat.le_of_ble_eq_true rfl) h (fun s6 h => ?_) (fun s7 h => ?_)
    · refine TT_if_eq (tgt := 31) dX9_together_18 rfl (by decide) (fun c8 => absurd c8 (by decide)) (fun c8 => ?_)
      refine TT_iload dX9_together_21 rfl ?_
      refine TT_iload dX9_together_23 rfl ?_
      refine TT_callSZ (M' := m_X9_isBlur) (as := [vI x5, vI x6]) (rest := []) dX9_together_25 mo_X9_isBlur ml_X9_289 sm_X9_isBlur (Nat.le_of_ble_eq_true rfl) (Nat.le_of_ble_eq_true rfl) ⟨rfl, rfl, rfl⟩ rfl rfl (Nat.le_of_ble_eq_true rfl) h (fun s10 h => ?_) (fun s11 h => ?_)
      · refine TT_if_ne (tgt := 34) dX9_together_28 rfl (by decide) (fun c12 => ?_) (fun c12 => absurd c12 (by decide))
        refine TT_aload_n dX9_together_34 rfl ?_
        refine TT_getR (r := 1) dX9_together_35 fd_X9_11 (by decide) rfl (by decide) rfl rfl ?_
        refine TT_iload_n dX9_together_38 rfl ?_
        obtain ⟨o13, h⟩ := h
        have t14 : isT (trk x1) := isT_trk o13
        refine TT_aald (r := (trk x1)) dX9_together_39 (Or.inl rfl) (by decide) rfl (by decide) o13 (rs_trk o13) ?_
        refine TT_astore dX9_together_40 (Nat.le_of_ble_eq_true rfl) rfl rfl ?_
        refine TT_aload dX9_together_42 rfl ?_
        refine TT_getR (r := ((trk x1) + 2)) dX9_together_44 fd_X9_125 (by decide) rfl (ltT t14) (shT t14) (rsT1 t14) ?_
        refine TT_iload_n dX9_together_47 rfl ?_
        obtain ⟨o15, h⟩ := h
        refine TT_iald dX9_together_48 (ltT2 t14) (shT2 t14) (by decide) o15 ?_
        refine TT_iload_n dX9_together_49 rfl ?_
        refine TT_iload dX9_together_50 rfl ?_
        refine TT_iload dX9_together_52 rfl ?_
        refine TT_iload dX9_together_54 rfl ?_
        refine TT_callSI (M' := m_X9_agreeing) (as := [vI (s10 ((trk x1) + 2) (x2).toNat), vI x3, vI x4, vI x5, vI x6]) (rest := []) dX9_together_56 mo_X9_agreeing ml_X9_292 sm_X9_agreeing (Nat.le_of_ble_eq_true rfl) (Nat.le_of_ble_eq_true rfl) ⟨rfl, rfl, rfl⟩ rfl rfl (Nat.le_of_ble_eq_true rfl) h (fun y16 s17 h => ?_)
        refine TT_aload dX9_together_59 rfl ?_
        refine TT_getR (r := ((trk x1) + 3)) dX9_together_61 fd_X9_128 (by decide) rfl (ltT t14) (shT t14) (rsT2 t14) ?_
        refine TT_iload_n dX9_together_64 rfl ?_
        refine TT_iald dX9_together_65 (ltT3 t14) (shT3 t14) (by decide) o15 ?_
        refine TT_iload_n dX9_together_66 rfl ?_
        refine TT_iload dX9_together_67 rfl ?_
        refine TT_iload dX9_together_69 rfl ?_
        refine TT_iload dX9_together_71 rfl ?_
        refine TT_callSI (M' := m_X9_agreeing) (as := [vI (s17 ((trk x1) + 3) (x2).toNat), vI x3, vI x4, vI x5, vI x6]) (rest := [vI y16]) dX9_together_73 mo_X9_agreeing ml_X9_292 sm_X9_agreeing (Nat.le_of_ble_eq_true rfl) (Nat.le_of_ble_eq_true rfl) ⟨rfl, rfl, rfl⟩ rfl rfl (Nat.le_of_ble_eq_true rfl) h (fun y18 s19 h => ?_)
        refine TT_imul dX9_together_76 ?_
        exact TT_iret dX9_together_77 rfl rfl h
      · refine TT_if_ne (tgt := 34) dX9_together_28 rfl (by decide) (fun c20 => absurd c20 (by decide)) (fun c20 => ?_)
        refine TT_ldc dX9_together_31 kc_X9_98 (x := (-900002)) rfl ?_
        exact TT_iret dX9_together_33 rfl rfl h
    · refine TT_if_eq (tgt := 31) dX9_together_18 rfl (by decide) (fun c21 => ?_) (fun c21 => absurd c21 (by decide))
      refine TT_ldc dX9_together_31 kc_X9_98 (x := (-900002)) rfl ?_
      exact TT_iret dX9_together_33 rfl rfl h
  · refine TT_if_ne (tgt := 12) dX9_together_6 rfl (by decide) (fun c22 => absurd c22 (by decide)) (fun c22 => ?_)
    refine TT_ldc dX9_together_9 kc_X9_90 (x := (-900001)) rfl ?_
    exact TT_iret dX9_together_11 rfl rfl h
theorem e_X9_together (x1 : Int) (x2 : Int) (x3 : Int) (x4 : Int) (x5 : Int) (x6 : Int) {σ : Mem} {K : Int → Mem → Prop} (h : CC m_X9_isRow [vR 0, vI x1, vI x2] σ (PZ (fun s2 => CC m_X9_isBlur [vI x3, vI x4] s2 (PZ (fun s6 => CC m_X9_isBlur [vI x5, vI x6] s6 (PZ (fun s10 => (0 ≤ x1 ∧ x1 < 10) ∧ (0 ≤ x2 ∧ x2 < 24) ∧ CC m_X9_agreeing [vI (s10 ((trk x1) + 2) (x2).toNat), vI x3, vI x4, vI x5, vI x6] s10 (PI (fun y16 s17 => CC m_X9_agreeing [vI (s17 ((trk x1) + 3) (x2).toNat), vI x3, vI x4, vI x5, vI x6] s17 (PI (fun y18 s19 => K (y16 * y18) s19))))) (fun s11 => K (-900002) s11))) (fun s7 => K (-900002) s7))) (fun s3 => K (-900001) s3))) : CC m_X9_together [vR 0, vI x1, vI x2, vI x3, vI x4, vI x5, vI x6] σ (PI K) := CC_of (by decide) rfl rfl rfl (Nat.le_of_ble_eq_true rfl) (w_X9_together_0 x1 x2 x3 x4 x5 x6 h)
set_option maxRecDepth 4000 in
theorem w_X9_count_0 (x1 : Int) {σ : Mem} {K : Int → Mem → Prop} (h : R32 x1 ∧ (x1 = 0 → CC m_X9_allRows [vR 0] σ (PI (fun y2 s3 => K y2 s3))) ∧ (x1 = 1 → CC m_X9_thingsWithRows [vR 0] σ (PI (fun y4 s5 => K y4 s5))) ∧ (x1 = 2 → CC m_X9_thingsThere [vR 0] σ (PI (fun y6 s7 => K y6 s7))) ∧ (x1 = 3 → K (σ 0 11) σ) ∧ (x1 = 4 → K (σ 0 13) σ) ∧ (x1 < 0 ∨ 4 < x1 → K (-900002) σ)) : TT m_X9_count 0 [vR 0, vI x1] [] σ (PI K) := by
  refine TT_iload_n dX9_count_0 rfl ?_
  obtain ⟨o1, h⟩ := h
  by_cases c8 : x1 = 0
  · replace h := h.1 c8
    refine TT_tableIn (x := x1) (tgt := 36) (off := 35) dX9_count_1 o1 (by rw [c8]; decide) (by rw [c8]; decide) (by rw [c8]; rfl) rfl ?_
    refine TT_aload_n dX9_count_36 rfl ?_
    refine TT_callVI (M' := m_X9_allRows) (as := []) (rest := []) dX9_count_37 mo_X9_allRows ml_X9_295 im_X9_allRows se_X9_allRows (Nat.le_of_ble_eq_true rfl) (Nat.le_of_ble_eq_true rfl) ⟨rfl, rfl, rfl⟩ rfl rfl (Nat.le_of_ble_eq_true rfl) (by decide) rfl rfl (by decide) h (fun y2 s3 h => ?_)
    exact TT_iret dX9_count_40 rfl rfl h
  by_cases c9 : x1 = 1
  · replace h := h.2.1 c9
    refine TT_tableIn (x := x1) (tgt := 41) (off := 40) dX9_count_1 o1 (by rw [c9]; decide) (by rw [c9]; decide) (by rw [c9]; rfl) rfl ?_
    refine TT_aload_n dX9_count_41 rfl ?_
    refine TT_callVI (M' := m_X9_thingsWithRows) (as := []) (rest := []) dX9_count_42 mo_X9_thingsWithRows ml_X9_298 im_X9_thingsWithRows se_X9_thingsWithRows (Nat.le_of_ble_eq_true rfl) (Nat.le_of_ble_eq_true rfl) ⟨rfl, rfl, rfl⟩ rfl rfl (Nat.le_of_ble_eq_true rfl) (by decide) rfl rfl (by decide) h (fun y4 s5 h => ?_)
    exact TT_iret dX9_count_45 rfl rfl h
  by_cases c10 : x1 = 2
  · replace h := h.2.2.1 c10
    refine TT_tableIn (x := x1) (tgt := 46) (off := 45) dX9_count_1 o1 (by rw [c10]; decide) (by rw [c10]; decide) (by rw [c10]; rfl) rfl ?_
    refine TT_aload_n dX9_count_46 rfl ?_
    refine TT_callVI (M' := m_X9_thingsThere) (as := []) (rest := []) dX9_count_47 mo_X9_thingsThere ml_X9_301 im_X9_thingsThere se_X9_thingsThere (Nat.le_of_ble_eq_true rfl) (Nat.le_of_ble_eq_true rfl) ⟨rfl, rfl, rfl⟩ rfl rfl (Nat.le_of_ble_eq_true rfl) (by decide) rfl rfl (by decide) h (fun y6 s7 h => ?_)
    exact TT_iret dX9_count_50 rfl rfl h
  by_cases c11 : x1 = 3
  · replace h := h.2.2.2.1 c11
    refine TT_tableIn (x := x1) (tgt := 51) (off := 50) dX9_count_1 o1 (by rw [c11]; decide) (by rw [c11]; decide) (by rw [c11]; rfl) rfl ?_
    refine TT_aload_n dX9_count_51 rfl ?_
    refine TT_getI dX9_count_52 fd_X9_75 (by decide) (Or.inl rfl) (by decide) rfl ?_
    exact TT_iret dX9_count_55 rfl rfl h
  by_cases c12 : x1 = 4
  · replace h := h.2.2.2.2.1 c12
    refine TT_tableIn (x := x1) (tgt := 56) (off := 55) dX9_count_1 o1 (by rw [c12]; decide) (by rw [c12]; decide) (by rw [c12]; rfl) rfl ?_
    refine TT_aload_n dX9_count_56 rfl ?_
    refine TT_getI dX9_count_57 fd_X9_82 (by decide) (Or.inl rfl) (by decide) rfl ?_
    exact TT_iret dX9_count_60 rfl rfl h
  have c13 : x1 < 0 ∨ 4 < x1 := by omega
  replace h := h.2.2.2.2.2 c13
  refine TT_tableOut (x := x1) (tgt := 61) dX9_count_1 o1 c13 rfl ?_
  refine TT_ldc dX9_count_61 kc_X9_98 (x := (-900002)) rfl ?_
  exact TT_iret dX9_count_63 rfl rfl h
theorem e_X9_count (x1 : Int) {σ : Mem} {K : Int → Mem → Prop} (h : R32 x1 ∧ (x1 = 0 → CC m_X9_allRows [vR 0] σ (PI (fun y2 s3 => K y2 s3))) ∧ (x1 = 1 → CC m_X9_thingsWithRows [vR 0] σ (PI (fun y4 s5 => K y4 s5))) ∧ (x1 = 2 → CC m_X9_thingsThere [vR 0] σ (PI (fun y6 s7 => K y6 s7))) ∧ (x1 = 3 → K (σ 0 11) σ) ∧ (x1 = 4 → K (σ 0 13) σ) ∧ (x1 < 0 ∨ 4 < x1 → K (-900002) σ)) : CC m_X9_count [vR 0, vI x1] σ (PI K) := CC_of (by decide) rfl rfl rfl (Nat.le_of_ble_eq_true rfl) (w_X9_count_0 x1 h)
set_option maxRecDepth 4000 in
theorem w_X9_isWithin_0 (x0 : Int) (x1 : Int) (x2 : Int) {σ : Mem} {A B : Mem → Prop} (h : R32 x0 ∧ R32 x1 ∧ ((x0 < x1 → B σ) ∧ (¬ x0 < x1 → R32 x2 ∧ ((x2 < x0 → B σ) ∧ (¬ x2 < x0 → A σ))))) : TT m_X9_isWithin 0 [vI x0, vI x1, vI x2] [] σ (PZ A B) := by
  refine TT_iload_n dX9_isWithin_0 rfl ?_
  refine TT_iload_n dX9_isWithin_1 rfl ?_
  obtain ⟨o1, h⟩ := h
  obtain ⟨o2, h⟩ := h
  refine TT_icmp_lt (tgt := 14) dX9_isWithin_2 rfl o1 o2 (fun c3 => ?_) (fun c3 => ?_)
  · replace h := h.1 c3
    refine TT_iconst dX9_isWithin_14 ?_
    exact TT_z0 dX9_isWithin_15 rfl rfl h
  · replace h := h.2 c3
    refine TT_iload_n dX9_isWithin_5 rfl ?_
    refine TT_iload_n dX9_isWithin_6 rfl ?_
    obtain ⟨o4, h⟩ := h
    refine TT_icmp_gt (tgt := 14) dX9_isWithin_7 rfl o1 o4 (fun c5 => ?_) (fun c5 => ?_)
    · replace h := h.1 c5
      refine TT_iconst dX9_isWithin_14 ?_
      exact TT_z0 dX9_isWithin_15 rfl rfl h
    · replace h := h.2 c5
      refine TT_iconst dX9_isWithin_10 ?_
      refine TT_goto (tgt := 15) dX9_isWithin_11 rfl ?_
      exact TT_z1 dX9_isWithin_15 rfl rfl h
theorem e_X9_isWithin (x0 : Int) (x1 : Int) (x2 : Int) {σ : Mem} {A B : Mem → Prop} (h : R32 x0 ∧ R32 x1 ∧ ((x0 < x1 → B σ) ∧ (¬ x0 < x1 → R32 x2 ∧ ((x2 < x0 → B σ) ∧ (¬ x2 < x0 → A σ))))) : CC m_X9_isWithin [vI x0, vI x1, vI x2] σ (PZ A B) := CC_of (by decide) rfl rfl rfl (Nat.le_of_ble_eq_true rfl) (w_X9_isWithin_0 x0 x1 x2 h)
set_option maxRecDepth 4000 in
theorem w_X9_isThing_0 (x0 : Int) {σ : Mem} {A B : Mem → Prop} (h : CC m_X9_isWithin [vI x0, vI 0, vI 9] σ (PZ (fun s2 => A s2) (fun s3 => B s3))) : TT m_X9_isThing 0 [vI x0] [] σ (PZ A B) := by
  refine TT_iload_n dX9_isThing_0 rfl ?_
  refine TT_iconst dX9_isThing_1 ?_
  refine TT_bipush dX9_isThing_2 (by decide) ?_
  refine TT_callSZ (M' := m_X9_isWithin) (as := [vI x0, vI 0, vI 9]) (rest := []) dX9_isThing_4 mo_X9_isWithin ml_X9_94 sm_X9_isWithin (Nat.le_of_ble_eq_true rfl) (Nat.le_of_ble_eq_true rfl) ⟨rfl, rfl, rfl⟩ rfl rfl (Nat.le_of_ble_eq_true rfl) h (fun s2 h => ?_) (fun s3 h => ?_)
  · exact TT_z1 dX9_isThing_7 rfl rfl h
  · exact TT_z0 dX9_isThing_7 rfl rfl h
theorem e_X9_isThing (x0 : Int) {σ : Mem} {A B : Mem → Prop} (h : CC m_X9_isWithin [vI x0, vI 0, vI 9] σ (PZ (fun s2 => A s2) (fun s3 => B s3))) : CC m_X9_isThing [vI x0] σ (PZ A B) := CC_of (by decide) rfl rfl rfl (Nat.le_of_ble_eq_true rfl) (w_X9_isThing_0 x0 h)
set_option maxRecDepth 4000 in
theorem w_X9_isMinute_0 (x0 : Int) {σ : Mem} {A B : Mem → Prop} (h : CC m_X9_isWithin [vI x0, vI 0, vI 199] σ (PZ (fun s2 => A s2) (fun s3 => B s3))) : TT m_X9_isMinute 0 [vI x0] [] σ (PZ A B) := by
  refine TT_iload_n dX9_isMinute_0 rfl ?_
  refine TT_iconst dX9_isMinute_1 ?_
  refine TT_sipush dX9_isMinute_2 (by decide) ?_
  refine TT_callSZ (M' := m_X9_isWithin) (as := [vI x0, vI 0, vI 199]) (rest := []) dX9_isMinute_5 mo_X9_isWithin ml_X9_94 sm_X9_isWithin (Nat.le_of_ble_eq_true rfl) (Nat.le_of_ble_eq_true rfl) ⟨rfl, rfl, rfl⟩ rfl rfl (Nat.le_of_ble_eq_true rfl) h (fun s2 h => ?_) (fun s3 h => ?_)
  · exact TT_z1 dX9_isMinute_8 rfl rfl h
  · exact TT_z0 dX9_isMinute_8 rfl rfl h
theorem e_X9_isMinute (x0 : Int) {σ : Mem} {A B : Mem → Prop} (h : CC m_X9_isWithin [vI x0, vI 0, vI 199] σ (PZ (fun s2 => A s2) (fun s3 => B s3))) : CC m_X9_isMinute [vI x0] σ (PZ A B) := CC_of (by decide) rfl rfl rfl (Nat.le_of_ble_eq_true rfl) (w_X9_isMinute_0 x0 h)
set_option maxRecDepth 4000 in
theorem w_X9_isPlace_0 (x0 : Int) (x1 : Int) (x2 : Int) (x3 : Int) {σ : Mem} {A B : Mem → Prop} (h : CC m_X9_isSpan [vI x0, vI x1] σ (PZ (fun s2 => CC m_X9_isSpan [vI x2, vI x3] s2 (PZ (fun s6 => A s6) (fun s7 => B s7))) (fun s3 => B s3))) : TT m_X9_isPlace 0 [vI x0, vI x1, vI x2, vI x3] [] σ (PZ A B) := by
  refine TT_iload_n dX9_isPlace_0 rfl ?_
  refine TT_iload_n dX9_isPlace_1 rfl ?_
  refine TT_callSZ (M' := m_X9_isSpan) (as := [vI x0, vI x1]) (rest := []) dX9_isPlace_2 mo_X9_isSpan ml_X9_304 sm_X9_isSpan (Nat.le_of_ble_eq_true rfl) (Nat.le_of_ble_eq_true rfl) ⟨rfl, rfl, rfl⟩ rfl rfl (Nat.le_of_ble_eq_true rfl) h (fun s2 h => ?_) (fun s3 h => ?_)
  · refine TT_if_eq (tgt := 20) dX9_isPlace_5 rfl (by decide) (fun c4 => absurd c4 (by decide)) (fun c4 => ?_)
    refine TT_iload_n dX9_isPlace_8 rfl ?_
    refine TT_iload_n dX9_isPlace_9 rfl ?_
    refine TT_callSZ (M' := m_X9_isSpan) (as := [vI x2, vI x3]) (rest := []) dX9_isPlace_10 mo_X9_isSpan ml_X9_304 sm_X9_isSpan (Nat.le_of_ble_eq_true rfl) (Nat.le_of_ble_eq_true rfl) ⟨rfl, rfl, rfl⟩ rfl rfl (Nat.le_of_ble_eq_true rfl) h (fun s6 h => ?_) (fun s7 h => ?_)
    · refine TT_if_eq (tgt := 20) dX9_isPlace_13 rfl (by decide) (fun c8 => absurd c8 (by decide)) (fun c8 => ?_)
      refine TT_iconst dX9_isPlace_16 ?_
      refine TT_goto (tgt := 21) dX9_isPlace_17 rfl ?_
      exact TT_z1 dX9_isPlace_21 rfl rfl h
    · refine TT_if_eq (tgt := 20) dX9_isPlace_13 rfl (by decide) (fun c9 => ?_) (fun c9 => absurd c9 (by decide))
      refine TT_iconst dX9_isPlace_20 ?_
      exact TT_z0 dX9_isPlace_21 rfl rfl h
  · refine TT_if_eq (tgt := 20) dX9_isPlace_5 rfl (by decide) (fun c10 => ?_) (fun c10 => absurd c10 (by decide))
    refine TT_iconst dX9_isPlace_20 ?_
    exact TT_z0 dX9_isPlace_21 rfl rfl h
theorem e_X9_isPlace (x0 : Int) (x1 : Int) (x2 : Int) (x3 : Int) {σ : Mem} {A B : Mem → Prop} (h : CC m_X9_isSpan [vI x0, vI x1] σ (PZ (fun s2 => CC m_X9_isSpan [vI x2, vI x3] s2 (PZ (fun s6 => A s6) (fun s7 => B s7))) (fun s3 => B s3))) : CC m_X9_isPlace [vI x0, vI x1, vI x2, vI x3] σ (PZ A B) := CC_of (by decide) rfl rfl rfl (Nat.le_of_ble_eq_true rfl) (w_X9_isPlace_0 x0 x1 x2 x3 h)
set_option maxRecDepth 4000 in
theorem w_X9_isSpan_0 (x0 : Int) (x1 : Int) {σ : Mem} {A B : Mem → Prop} (h : R32 x0 ∧ ((x0 < (-2000) → B σ) ∧ (¬ x0 < (-2000) → R32 x1 ∧ ((2000 < x1 → B σ) ∧ (¬ 2000 < x1 → ((x1 < x0 → B σ) ∧ (¬ x1 < x0 → A σ))))))) : TT m_X9_isSpan 0 [vI x0, vI x1] [] σ (PZ A B) := by
  refine TT_iload_n dX9_isSpan_0 rfl ?_
  refine TT_sipush dX9_isSpan_1 (by decide) ?_
  obtain ⟨o1, h⟩ := h
  refine TT_icmp_lt (tgt := 23) dX9_isSpan_4 rfl o1 (by decide) (fun c2 => ?_) (fun c2 => ?_)
  · replace h := h.1 c2
    refine TT_iconst dX9_isSpan_23 ?_
    exact TT_z0 dX9_isSpan_24 rfl rfl h
  · replace h := h.2 c2
    refine TT_iload_n dX9_isSpan_7 rfl ?_
    refine TT_sipush dX9_isSpan_8 (by decide) ?_
    obtain ⟨o3, h⟩ := h
    refine TT_icmp_gt (tgt := 23) dX9_isSpan_11 rfl o3 (by decide) (fun c4 => ?_) (fun c4 => ?_)
    · replace h := h.1 c4
      refine TT_iconst dX9_isSpan_23 ?_
      exact TT_z0 dX9_isSpan_24 rfl rfl h
    · replace h := h.2 c4
      refine TT_iload_n dX9_isSpan_14 rfl ?_
      refine TT_iload_n dX9_isSpan_15 rfl ?_
      refine TT_icmp_gt (tgt := 23) dX9_isSpan_16 rfl o1 o3 (fun c5 => ?_) (fun c5 => ?_)
      · replace h := h.1 c5
        refine TT_iconst dX9_isSpan_23 ?_
        exact TT_z0 dX9_isSpan_24 rfl rfl h
      · replace h := h.2 c5
        refine TT_iconst dX9_isSpan_19 ?_
        refine TT_goto (tgt := 24) dX9_isSpan_20 rfl ?_
        exact TT_z1 dX9_isSpan_24 rfl rfl h
theorem e_X9_isSpan (x0 : Int) (x1 : Int) {σ : Mem} {A B : Mem → Prop} (h : R32 x0 ∧ ((x0 < (-2000) → B σ) ∧ (¬ x0 < (-2000) → R32 x1 ∧ ((2000 < x1 → B σ) ∧ (¬ 2000 < x1 → ((x1 < x0 → B σ) ∧ (¬ x1 < x0 → A σ))))))) : CC m_X9_isSpan [vI x0, vI x1] σ (PZ A B) := CC_of (by decide) rfl rfl rfl (Nat.le_of_ble_eq_true rfl) (w_X9_isSpan_0 x0 x1 h)
set_option maxRecDepth 4000 in
theorem w_X9_isBlur_0 (x0 : Int) (x1 : Int) {σ : Mem} {A B : Mem → Prop} (h : CC m_X9_isWithin [vI x0, vI 1, vI 20] σ (PZ (fun s2 => CC m_X9_isWithin [vI x1, vI 0, vI (x0 - 1)] s2 (PZ (fun s6 => A s6) (fun s7 => B s7))) (fun s3 => B s3))) : TT m_X9_isBlur 0 [vI x0, vI x1] [] σ (PZ A B) := by
  refine TT_iload_n dX9_isBlur_0 rfl ?_
  refine TT_iconst dX9_isBlur_1 ?_
  refine TT_bipush dX9_isBlur_2 (by decide) ?_
  refine TT_callSZ (M' := m_X9_isWithin) (as := [vI x0, vI 1, vI 20]) (rest := []) dX9_isBlur_4 mo_X9_isWithin ml_X9_94 sm_X9_isWithin (Nat.le_of_ble_eq_true rfl) (Nat.le_of_ble_eq_true rfl) ⟨rfl, rfl, rfl⟩ rfl rfl (Nat.le_of_ble_eq_true rfl) h (fun s2 h => ?_) (fun s3 h => ?_)
  · refine TT_if_eq (tgt := 25) dX9_isBlur_7 rfl (by decide) (fun c4 => absurd c4 (by decide)) (fun c4 => ?_)
    refine TT_iload_n dX9_isBlur_10 rfl ?_
    refine TT_iconst dX9_isBlur_11 ?_
    refine TT_iload_n dX9_isBlur_12 rfl ?_
    refine TT_iconst dX9_isBlur_13 ?_
    refine TT_isub dX9_isBlur_14 ?_
    refine TT_callSZ (M' := m_X9_isWithin) (as := [vI x1, vI 0, vI (x0 - 1)]) (rest := []) dX9_isBlur_15 mo_X9_isWithin ml_X9_94 sm_X9_isWithin (Nat.le_of_ble_eq_true rfl) (Nat.le_of_ble_eq_true rfl) ⟨rfl, rfl, rfl⟩ rfl rfl (Nat.le_of_ble_eq_true rfl) h (fun s6 h => ?_) (fun s7 h => ?_)
    · refine TT_if_eq (tgt := 25) dX9_isBlur_18 rfl (by decide) (fun c8 => absurd c8 (by decide)) (fun c8 => ?_)
      refine TT_iconst dX9_isBlur_21 ?_
      refine TT_goto (tgt := 26) dX9_isBlur_22 rfl ?_
      exact TT_z1 dX9_isBlur_26 rfl rfl h
    · refine TT_if_eq (tgt := 25) dX9_isBlur_18 rfl (by decide) (fun c9 => ?_) (fun c9 => absurd c9 (by decide))
      refine TT_iconst dX9_isBlur_25 ?_
      exact TT_z0 dX9_isBlur_26 rfl rfl h
  · refine TT_if_eq (tgt := 25) dX9_isBlur_7 rfl (by decide) (fun c10 => ?_) (fun c10 => absurd c10 (by decide))
    refine TT_iconst dX9_isBlur_25 ?_
    exact TT_z0 dX9_isBlur_26 rfl rfl h
theorem e_X9_isBlur (x0 : Int) (x1 : Int) {σ : Mem} {A B : Mem → Prop} (h : CC m_X9_isWithin [vI x0, vI 1, vI 20] σ (PZ (fun s2 => CC m_X9_isWithin [vI x1, vI 0, vI (x0 - 1)] s2 (PZ (fun s6 => A s6) (fun s7 => B s7))) (fun s3 => B s3))) : CC m_X9_isBlur [vI x0, vI x1] σ (PZ A B) := CC_of (by decide) rfl rfl rfl (Nat.le_of_ble_eq_true rfl) (w_X9_isBlur_0 x0 x1 h)
set_option maxRecDepth 4000 in
theorem w_X9_isRow_0 (x1 : Int) (x2 : Int) {σ : Mem} {A B : Mem → Prop} (h : CC m_X9_isThing [vI x1] σ (PZ (fun s2 => (0 ≤ x1 ∧ x1 < 10) ∧ CC m_X9_isWithin [vI x2, vI 0, vI ((s2 (trk x1) 3) - 1)] s2 (PZ (fun s8 => A s8) (fun s9 => B s9))) (fun s3 => B s3))) : TT m_X9_isRow 0 [vR 0, vI x1, vI x2] [] σ (PZ A B) := by
  refine TT_iload_n dX9_isRow_0 rfl ?_
  refine TT_callSZ (M' := m_X9_isThing) (as := [vI x1]) (rest := []) dX9_isRow_1 mo_X9_isThing ml_X9_86 sm_X9_isThing (Nat.le_of_ble_eq_true rfl) (Nat.le_of_ble_eq_true rfl) ⟨rfl, rfl, rfl⟩ rfl rfl (Nat.le_of_ble_eq_true rfl) h (fun s2 h => ?_) (fun s3 h => ?_)
  · refine TT_if_eq (tgt := 30) dX9_isRow_4 rfl (by decide) (fun c4 => absurd c4 (by decide)) (fun c4 => ?_)
    refine TT_iload_n dX9_isRow_7 rfl ?_
    refine TT_iconst dX9_isRow_8 ?_
    refine TT_aload_n dX9_isRow_9 rfl ?_
    refine TT_getR (r := 1) dX9_isRow_10 fd_X9_11 (by decide) rfl (by decide) rfl rfl ?_
    refine TT_iload_n dX9_isRow_13 rfl ?_
    obtain ⟨o5, h⟩ := h
    have t6 : isT (trk x1) := isT_trk o5
    refine TT_aald (r := (trk x1)) dX9_isRow_14 (Or.inl rfl) (by decide) rfl (by decide) o5 (rs_trk o5) ?_
    refine TT_getI dX9_isRow_15 fd_X9_102 (by decide) (Or.inl rfl) (ltT t6) (shT t6) ?_
    refine TT_iconst dX9_isRow_18 ?_
    refine TT_isub dX9_isRow_19 ?_
    refine TT_callSZ (M' := m_X9_isWithin) (as := [vI x2, vI 0, vI ((s2 (trk x1) 3) - 1)]) (rest := []) dX9_isRow_20 mo_X9_isWithin ml_X9_94 sm_X9_isWithin (Nat.le_of_ble_eq_true rfl) (Nat.le_of_ble_eq_true rfl) ⟨rfl, rfl, rfl⟩ rfl rfl (Nat.le_of_ble_eq_true rfl) h (fun s8 h => ?_) (fun s9 h => ?_)
    · refine TT_if_eq (tgt := 30) dX9_isRow_23 rfl (by decide) (fun c10 => absurd c10 (by decide)) (fun c10 => ?_)
      refine TT_iconst dX9_isRow_26 ?_
      refine TT_goto (tgt := 31) dX9_isRow_27 rfl ?_
      exact TT_z1 dX9_isRow_31 rfl rfl h
    · refine TT_if_eq (tgt := 30) dX9_isRow_23 rfl (by decide) (fun c11 => ?_) (fun c11 => absurd c11 (by decide))
      refine TT_iconst dX9_isRow_30 ?_
      exact TT_z0 dX9_isRow_31 rfl rfl h
  · refine TT_if_eq (tgt := 30) dX9_isRow_4 rfl (by decide) (fun c12 => ?_) (fun c12 => absurd c12 (by decide))
    refine TT_iconst dX9_isRow_30 ?_
    exact TT_z0 dX9_isRow_31 rfl rfl h
theorem e_X9_isRow (x1 : Int) (x2 : Int) {σ : Mem} {A B : Mem → Prop} (h : CC m_X9_isThing [vI x1] σ (PZ (fun s2 => (0 ≤ x1 ∧ x1 < 10) ∧ CC m_X9_isWithin [vI x2, vI 0, vI ((s2 (trk x1) 3) - 1)] s2 (PZ (fun s8 => A s8) (fun s9 => B s9))) (fun s3 => B s3))) : CC m_X9_isRow [vR 0, vI x1, vI x2] σ (PZ A B) := CC_of (by decide) rfl rfl rfl (Nat.le_of_ble_eq_true rfl) (w_X9_isRow_0 x1 x2 h)
set_option maxRecDepth 4000 in
theorem w_X9_isStand_0 (x1 : Int) {σ : Mem} {A B : Mem → Prop} (h : CC m_X9_isWithin [vI x1, vI 0, vI ((σ 0 11) - 1)] σ (PZ (fun s2 => A s2) (fun s3 => B s3))) : TT m_X9_isStand 0 [vR 0, vI x1] [] σ (PZ A B) := by
  refine TT_iload_n dX9_isStand_0 rfl ?_
  refine TT_iconst dX9_isStand_1 ?_
  refine TT_aload_n dX9_isStand_2 rfl ?_
  refine TT_getI dX9_isStand_3 fd_X9_75 (by decide) (Or.inl rfl) (by decide) rfl ?_
  refine TT_iconst dX9_isStand_6 ?_
  refine TT_isub dX9_isStand_7 ?_
  refine TT_callSZ (M' := m_X9_isWithin) (as := [vI x1, vI 0, vI ((σ 0 11) - 1)]) (rest := []) dX9_isStand_8 mo_X9_isWithin ml_X9_94 sm_X9_isWithin (Nat.le_of_ble_eq_true rfl) (Nat.le_of_ble_eq_true rfl) ⟨rfl, rfl, rfl⟩ rfl rfl (Nat.le_of_ble_eq_true rfl) h (fun s2 h => ?_) (fun s3 h => ?_)
  · exact TT_z1 dX9_isStand_11 rfl rfl h
  · exact TT_z0 dX9_isStand_11 rfl rfl h
theorem e_X9_isStand (x1 : Int) {σ : Mem} {A B : Mem → Prop} (h : CC m_X9_isWithin [vI x1, vI 0, vI ((σ 0 11) - 1)] σ (PZ (fun s2 => A s2) (fun s3 => B s3))) : CC m_X9_isStand [vR 0, vI x1] σ (PZ A B) := CC_of (by decide) rfl rfl rfl (Nat.le_of_ble_eq_true rfl) (w_X9_isStand_0 x1 h)
set_option maxRecDepth 4000 in
theorem w_X9_refuseMoment_0 (x0 : Int) (x1 : Int) {σ : Mem} {K : Int → Mem → Prop} (h : CC m_X9_isThing [vI x0] σ (PZ (fun s2 => CC m_X9_isMinute [vI x1] s2 (PZ (fun s6 => K 0 s6) (fun s7 => K (-900002) s7))) (fun s3 => K (-900001) s3))) : TT m_X9_refuseMoment 0 [vI x0, vI x1] [] σ (PI K) := by
  refine TT_iload_n dX9_refuseMoment_0 rfl ?_
  refine TT_callSZ (M' := m_X9_isThing) (as := [vI x0]) (rest := []) dX9_refuseMoment_1 mo_X9_isThing ml_X9_86 sm_X9_isThing (Nat.le_of_ble_eq_true rfl) (Nat.le_of_ble_eq_true rfl) ⟨rfl, rfl, rfl⟩ rfl rfl (Nat.le_of_ble_eq_true rfl) h (fun s2 h => ?_) (fun s3 h => ?_)
  · refine TT_if_ne (tgt := 10) dX9_refuseMoment_4 rfl (by decide) (fun c4 => ?_) (fun c4 => absurd c4 (by decide))
    refine TT_iload_n dX9_refuseMoment_10 rfl ?_
    refine TT_callSZ (M' := m_X9_isMinute) (as := [vI x1]) (rest := []) dX9_refuseMoment_11 mo_X9_isMinute ml_X9_91 sm_X9_isMinute (Nat.le_of_ble_eq_true rfl) (Nat.le_of_ble_eq_true rfl) ⟨rfl, rfl, rfl⟩ rfl rfl (Nat.le_of_ble_eq_true rfl) h (fun s6 h => ?_) (fun s7 h => ?_)
    · refine TT_if_eq (tgt := 21) dX9_refuseMoment_14 rfl (by decide) (fun c8 => absurd c8 (by decide)) (fun c8 => ?_)
      refine TT_iconst dX9_refuseMoment_17 ?_
      refine TT_goto (tgt := 23) dX9_refuseMoment_18 rfl ?_
      exact TT_iret dX9_refuseMoment_23 rfl rfl h
    · refine TT_if_eq (tgt := 21) dX9_refuseMoment_14 rfl (by decide) (fun c9 => ?_) (fun c9 => absurd c9 (by decide))
      refine TT_ldc dX9_refuseMoment_21 kc_X9_98 (x := (-900002)) rfl ?_
      exact TT_iret dX9_refuseMoment_23 rfl rfl h
  · refine TT_if_ne (tgt := 10) dX9_refuseMoment_4 rfl (by decide) (fun c10 => absurd c10 (by decide)) (fun c10 => ?_)
    refine TT_ldc dX9_refuseMoment_7 kc_X9_90 (x := (-900001)) rfl ?_
    exact TT_iret dX9_refuseMoment_9 rfl rfl h
theorem e_X9_refuseMoment (x0 : Int) (x1 : Int) {σ : Mem} {K : Int → Mem → Prop} (h : CC m_X9_isThing [vI x0] σ (PZ (fun s2 => CC m_X9_isMinute [vI x1] s2 (PZ (fun s6 => K 0 s6) (fun s7 => K (-900002) s7))) (fun s3 => K (-900001) s3))) : CC m_X9_refuseMoment [vI x0, vI x1] σ (PI K) := CC_of (by decide) rfl rfl rfl (Nat.le_of_ble_eq_true rfl) (w_X9_refuseMoment_0 x0 x1 h)
set_option maxRecDepth 4000 in
theorem w_X9_refuseVisit_0 (x0 : Int) (x1 : Int) (x2 : Int) (x3 : Int) (x4 : Int) {σ : Mem} {K : Int → Mem → Prop} (h : CC m_X9_isThing [vI x0] σ (PZ (fun s2 => CC m_X9_isPlace [vI x1, vI x2, vI x3, vI x4] s2 (PZ (fun s6 => K 0 s6) (fun s7 => K (-900002) s7))) (fun s3 => K (-900001) s3))) : TT m_X9_refuseVisit 0 [vI x0, vI x1, vI x2, vI x3, vI x4] [] σ (PI K) := by
  refine TT_iload_n dX9_refuseVisit_0 rfl ?_
  refine TT_callSZ (M' := m_X9_isThing) (as := [vI x0]) (rest := []) dX9_refuseVisit_1 mo_X9_isThing ml_X9_86 sm_X9_isThing (Nat.le_of_ble_eq_true rfl) (Nat.le_of_ble_eq_true rfl) ⟨rfl, rfl, rfl⟩ rfl rfl (Nat.le_of_ble_eq_true rfl) h (fun s2 h => ?_) (fun s3 h => ?_)
  · refine TT_if_ne (tgt := 10) dX9_refuseVisit_4 rfl (by decide) (fun c4 => ?_) (fun c4 => absurd c4 (by decide))
    refine TT_iload_n dX9_refuseVisit_10 rfl ?_
    refine TT_iload_n dX9_refuseVisit_11 rfl ?_
    refine TT_iload_n dX9_refuseVisit_12 rfl ?_
    refine TT_iload dX9_refuseVisit_13 rfl ?_
    refine TT_callSZ (M' := m_X9_isPlace) (as := [vI x1, vI x2, vI x3, vI x4]) (rest := []) dX9_refuseVisit_15 mo_X9_isPlace ml_X9_153 sm_X9_isPlace (Nat.le_of_ble_eq_true rfl) (Nat.le_of_ble_eq_true rfl) ⟨rfl, rfl, rfl⟩ rfl rfl (Nat.le_of_ble_eq_true rfl) h (fun s6 h => ?_) (fun s7 h => ?_)
    · refine TT_if_eq (tgt := 25) dX9_refuseVisit_18 rfl (by decide) (fun c8 => absurd c8 (by decide)) (fun c8 => ?_)
      refine TT_iconst dX9_refuseVisit_21 ?_
      refine TT_goto (tgt := 27) dX9_refuseVisit_22 rfl ?_
      exact TT_iret dX9_refuseVisit_27 rfl rfl h
    · refine TT_if_eq (tgt := 25) dX9_refuseVisit_18 rfl (by decide) (fun c9 => ?_) (fun c9 => absurd c9 (by decide))
      refine TT_ldc dX9_refuseVisit_25 kc_X9_98 (x := (-900002)) rfl ?_
      exact TT_iret dX9_refuseVisit_27 rfl rfl h
  · refine TT_if_ne (tgt := 10) dX9_refuseVisit_4 rfl (by decide) (fun c10 => absurd c10 (by decide)) (fun c10 => ?_)
    refine TT_ldc dX9_refuseVisit_7 kc_X9_90 (x := (-900001)) rfl ?_
    exact TT_iret dX9_refuseVisit_9 rfl rfl h
theorem e_X9_refuseVisit (x0 : Int) (x1 : Int) (x2 : Int) (x3 : Int) (x4 : Int) {σ : Mem} {K : Int → Mem → Prop} (h : CC m_X9_isThing [vI x0] σ (PZ (fun s2 => CC m_X9_isPlace [vI x1, vI x2, vI x3, vI x4] s2 (PZ (fun s6 => K 0 s6) (fun s7 => K (-900002) s7))) (fun s3 => K (-900001) s3))) : CC m_X9_refuseVisit [vI x0, vI x1, vI x2, vI x3, vI x4] σ (PI K) := CC_of (by decide) rfl rfl rfl (Nat.le_of_ble_eq_true rfl) (w_X9_refuseVisit_0 x0 x1 x2 x3 x4 h)
set_option maxRecDepth 4000 in
theorem w_X9_refuseThinning_0 (x0 : Int) (x1 : Int) {σ : Mem} {K : Int → Mem → Prop} (h : CC m_X9_isThing [vI x0] σ (PZ (fun s2 => CC m_X9_isWithin [vI x1, vI 0, vI 99] s2 (PZ (fun s6 => K 0 s6) (fun s7 => K (-900002) s7))) (fun s3 => K (-900001) s3))) : TT m_X9_refuseThinning 0 [vI x0, vI x1] [] σ (PI K) := by
  refine TT_iload_n dX9_refuseThinning_0 rfl ?_
  refine TT_callSZ (M' := m_X9_isThing) (as := [vI x0]) (rest := []) dX9_refuseThinning_1 mo_X9_isThing ml_X9_86 sm_X9_isThing (Nat.le_of_ble_eq_true rfl) (Nat.le_of_ble_eq_true rfl) ⟨rfl, rfl, rfl⟩ rfl rfl (Nat.le_of_ble_eq_true rfl) h (fun s2 h => ?_) (fun s3 h => ?_)
  · refine TT_if_ne (tgt := 10) dX9_refuseThinning_4 rfl (by decide) (fun c4 => ?_) (fun c4 => absurd c4 (by decide))
    refine TT_iload_n dX9_refuseThinning_10 rfl ?_
    refine TT_iconst dX9_refuseThinning_11 ?_
    refine TT_bipush dX9_refuseThinning_12 (by decide) ?_
    refine TT_callSZ (M' := m_X9_isWithin) (as := [vI x1, vI 0, vI 99]) (rest := []) dX9_refuseThinning_14 mo_X9_isWithin ml_X9_94 sm_X9_isWithin (Nat.le_of_ble_eq_true rfl) (Nat.le_of_ble_eq_true rfl) ⟨rfl, rfl, rfl⟩ rfl rfl (Nat.le_of_ble_eq_true rfl) h (fun s6 h => ?_) (fun s7 h => ?_)
    · refine TT_if_eq (tgt := 24) dX9_refuseThinning_17 rfl (by decide) (fun c8 => absurd c8 (by decide)) (fun c8 => ?_)
      refine TT_iconst dX9_refuseThinning_20 ?_
      refine TT_goto (tgt := 26) dX9_refuseThinning_21 rfl ?_
      exact TT_iret dX9_refuseThinning_26 rfl rfl h
    · refine TT_if_eq (tgt := 24) dX9_refuseThinning_17 rfl (by decide) (fun c9 => ?_) (fun c9 => absurd c9 (by decide))
      refine TT_ldc dX9_refuseThinning_24 kc_X9_98 (x := (-900002)) rfl ?_
      exact TT_iret dX9_refuseThinning_26 rfl rfl h
  · refine TT_if_ne (tgt := 10) dX9_refuseThinning_4 rfl (by decide) (fun c10 => absurd c10 (by decide)) (fun c10 => ?_)
    refine TT_ldc dX9_refuseThinning_7 kc_X9_90 (x := (-900001)) rfl ?_
    exact TT_iret dX9_refuseThinning_9 rfl rfl h
theorem e_X9_refuseThinning (x0 : Int) (x1 : Int) {σ : Mem} {K : Int → Mem → Prop} (h : CC m_X9_isThing [vI x0] σ (PZ (fun s2 => CC m_X9_isWithin [vI x1, vI 0, vI 99] s2 (PZ (fun s6 => K 0 s6) (fun s7 => K (-900002) s7))) (fun s3 => K (-900001) s3))) : CC m_X9_refuseThinning [vI x0, vI x1] σ (PI K) := CC_of (by decide) rfl rfl rfl (Nat.le_of_ble_eq_true rfl) (w_X9_refuseThinning_0 x0 x1 h)
set_option maxRecDepth 4000 in
theorem w_X9_refuseChange_0 (x1 : Int) (x2 : Int) {σ : Mem} {K : Int → Mem → Prop} (h : CC m_X9_isStand [vR 0, vI x1] σ (PZ (fun s2 => CC m_X9_isMinute [vI x2] s2 (PZ (fun s6 => K 0 s6) (fun s7 => K (-900002) s7))) (fun s3 => K (-900001) s3))) : TT m_X9_refuseChange 0 [vR 0, vI x1, vI x2] [] σ (PI K) := by
  refine TT_aload_n dX9_refuseChange_0 rfl ?_
  refine TT_iload_n dX9_refuseChange_1 rfl ?_
  refine TT_callVZ (M' := m_X9_isStand) (as := [vI x1]) (rest := []) dX9_refuseChange_2 mo_X9_isStand ml_X9_274 im_X9_isStand se_X9_isStand (Nat.le_of_ble_eq_true rfl) (Nat.le_of_ble_eq_true rfl) ⟨rfl, rfl, rfl⟩ rfl rfl (Nat.le_of_ble_eq_true rfl) (by decide) rfl rfl (by decide) h (fun s2 h => ?_) (fun s3 h => ?_)
  · refine TT_if_ne (tgt := 11) dX9_refuseChange_5 rfl (by decide) (fun c4 => ?_) (fun c4 => absurd c4 (by decide))
    refine TT_iload_n dX9_refuseChange_11 rfl ?_
    refine TT_callSZ (M' := m_X9_isMinute) (as := [vI x2]) (rest := []) dX9_refuseChange_12 mo_X9_isMinute ml_X9_91 sm_X9_isMinute (Nat.le_of_ble_eq_true rfl) (Nat.le_of_ble_eq_true rfl) ⟨rfl, rfl, rfl⟩ rfl rfl (Nat.le_of_ble_eq_true rfl) h (fun s6 h => ?_) (fun s7 h => ?_)
    · refine TT_if_eq (tgt := 22) dX9_refuseChange_15 rfl (by decide) (fun c8 => absurd c8 (by decide)) (fun c8 => ?_)
      refine TT_iconst dX9_refuseChange_18 ?_
      refine TT_goto (tgt := 24) dX9_refuseChange_19 rfl ?_
      exact TT_iret dX9_refuseChange_24 rfl rfl h
    · refine TT_if_eq (tgt := 22) dX9_refuseChange_15 rfl (by decide) (fun c9 => ?_) (fun c9 => absurd c9 (by decide))
      refine TT_ldc dX9_refuseChange_22 kc_X9_98 (x := (-900002)) rfl ?_
      exact TT_iret dX9_refuseChange_24 rfl rfl h
  · refine TT_if_ne (tgt := 11) dX9_refuseChange_5 rfl (by decide) (fun c10 => absurd c10 (by decide)) (fun c10 => ?_)
    refine TT_ldc dX9_refuseChange_8 kc_X9_90 (x := (-900001)) rfl ?_
    exact TT_iret dX9_refuseChange_10 rfl rfl h
theorem e_X9_refuseChange (x1 : Int) (x2 : Int) {σ : Mem} {K : Int → Mem → Prop} (h : CC m_X9_isStand [vR 0, vI x1] σ (PZ (fun s2 => CC m_X9_isMinute [vI x2] s2 (PZ (fun s6 => K 0 s6) (fun s7 => K (-900002) s7))) (fun s3 => K (-900001) s3))) : CC m_X9_refuseChange [vR 0, vI x1, vI x2] σ (PI K) := CC_of (by decide) rfl rfl rfl (Nat.le_of_ble_eq_true rfl) (w_X9_refuseChange_0 x1 x2 h)
set_option maxRecDepth 4000 in
theorem w_X9_refuseMeeting_0 (x0 : Int) (x1 : Int) (x2 : Int) {σ : Mem} {K : Int → Mem → Prop} (h : CC m_X9_isThing [vI x0] σ (PZ (fun s2 => CC m_X9_isThing [vI x1] s2 (PZ (fun s6 => CC m_X9_isWithin [vI x2, vI 0, vI 200] s6 (PZ (fun s10 => R32 x0 ∧ R32 x1 ∧ K (if ¬ x0 = x1 then 0 else (-900003) : Int) s10) (fun s11 => K (-900002) s11))) (fun s7 => K (-900001) s7))) (fun s3 => K (-900001) s3))) : TT m_X9_refuseMeeting 0 [vI x0, vI x1, vI x2] [] σ (PI K) := by
  refine TT_iload_n dX9_refuseMeeting_0 rfl ?_
  refine TT_callSZ (M' := m_X9_isThing) (as := [vI x0]) (rest := []) dX9_refuseMeeting_1 mo_X9_isThing ml_X9_86 sm_X9_isThing (Nat.le_of_ble_eq_true rfl) (Nat.le_of_ble_eq_true rfl) ⟨rfl, rfl, rfl⟩ rfl rfl (Nat.le_of_ble_eq_true rfl) h (fun s2 h => ?_) (fun s3 h => ?_)
  · refine TT_if_eq (tgt := 14) dX9_refuseMeeting_4 rfl (by decide) (fun c4 => absurd c4 (by decide)) (fun c4 => ?_)
    refine TT_iload_n dX9_refuseMeeting_7 rfl ?_
    refine TT_callSZ (M' := m_X9_isThing) (as := [vI x1]) (rest := []) dX9_refuseMeeting_8 mo_X9_isThing ml_X9_86 sm_X9_isThing (Nat.le_of_ble_eq_true rfl) (Nat.le_of_ble_eq_true rfl) ⟨rfl, rfl, rfl⟩ rfl rfl (Nat.le_of_ble_eq_true rfl) h (fun s6 h => ?_) (fun s7 h => ?_)
    · refine TT_if_ne (tgt := 17) dX9_refuseMeeting_11 rfl (by decide) (fun c8 => ?_) (fun c8 => absurd c8 (by decide))
      refine TT_iload_n dX9_refuseMeeting_17 rfl ?_
      refine TT_iconst dX9_refuseMeeting_18 ?_
      refine TT_sipush dX9_refuseMeeting_19 (by decide) ?_
      refine TT_callSZ (M' := m_X9_isWithin) (as := [vI x2, vI 0, vI 200]) (rest := []) dX9_refuseMeeting_22 mo_X9_isWithin ml_X9_94 sm_X9_isWithin (Nat.le_of_ble_eq_true rfl) (Nat.le_of_ble_eq_true rfl) ⟨rfl, rfl, rfl⟩ rfl rfl (Nat.le_of_ble_eq_true rfl) h (fun s10 h => ?_) (fun s11 h => ?_)
      · refine TT_if_ne (tgt := 31) dX9_refuseMeeting_25 rfl (by decide) (fun c12 => ?_) (fun c12 => absurd c12 (by decide))
        refine TT_iload_n dX9_refuseMeeting_31 rfl ?_
        refine TT_iload_n dX9_refuseMeeting_32 rfl ?_
        obtain ⟨o13, h⟩ := h
        obtain ⟨o14, h⟩ := h
        have j16 : TT m_X9_refuseMeeting 42 [vI x0, vI x1, vI x2] [vI (if ¬ x0 = x1 then 0 else (-900003) : Int)] s10 (PI K) := by
          exact TT_iret dX9_refuseMeeting_42 rfl rfl h
        refine TT_icmp_ne (tgt := 41) dX9_refuseMeeting_33 rfl o13 o14 (fun c15 => ?_) (fun c15 => ?_)
        · refine TT_iconst dX9_refuseMeeting_41 ?_
          exact TT.cast j16 (by first | rfl | (simp only [if_pos c15] <;> rfl)) (by first | rfl | (simp only [if_pos c15] <;> rfl))
        · refine TT_ldc dX9_refuseMeeting_36 kc_X9_139 (x := (-900003)) rfl ?_
          refine TT_goto (tgt := 42) dX9_refuseMeeting_38 rfl ?_
          exact TT.cast j16 (by first | rfl | (simp only [if_neg (not_not_intro c15)] <;> rfl)) (by first | rfl | (simp only [if_neg (not_not_intro c15)] <;> rfl))
      · refine TT_if_ne (tgt := 31) dX9_refuseMeeting_25 rfl (by decide) (fun c17 => absurd c17 (by decide)) (fun c17 => ?_)
        refine TT_ldc dX9_refuseMeeting_28 kc_X9_98 (x := (-900002)) rfl ?_
        exact TT_iret dX9_refuseMeeting_30 rfl rfl h
    · refine TT_if_ne (tgt := 17) dX9_refuseMeeting_11 rfl (by decide) (fun c18 => absurd c18 (by decide)) (fun c18 => ?_)
      refine TT_ldc dX9_refuseMeeting_14 kc_X9_90 (x := (-900001)) rfl ?_
      exact TT_iret dX9_refuseMeeting_16 rfl rfl h
  · refine TT_if_eq (tgt := 14) dX9_refuseMeeting_4 rfl (by decide) (fun c19 => ?_) (fun c19 => absurd c19 (by decide))
    refine TT_ldc dX9_refuseMeeting_14 kc_X9_90 (x := (-900001)) rfl ?_
    exact TT_iret dX9_refuseMeeting_16 rfl rfl h
theorem e_X9_refuseMeeting (x0 : Int) (x1 : Int) (x2 : Int) {σ : Mem} {K : Int → Mem → Prop} (h : CC m_X9_isThing [vI x0] σ (PZ (fun s2 => CC m_X9_isThing [vI x1] s2 (PZ (fun s6 => CC m_X9_isWithin [vI x2, vI 0, vI 200] s6 (PZ (fun s10 => R32 x0 ∧ R32 x1 ∧ K (if ¬ x0 = x1 then 0 else (-900003) : Int) s10) (fun s11 => K (-900002) s11))) (fun s7 => K (-900001) s7))) (fun s3 => K (-900001) s3))) : CC m_X9_refuseMeeting [vI x0, vI x1, vI x2] σ (PI K) := CC_of (by decide) rfl rfl rfl (Nat.le_of_ble_eq_true rfl) (w_X9_refuseMeeting_0 x0 x1 x2 h)
set_option maxRecDepth 4000 in
theorem w_X9_leastTerm_0 (x0 : Int) (x2 : Int) (x4 : Int) {σ : Mem} {K : Int → Mem → Prop} (h : R64 x0 ∧ CC m_X9_commonMeasure [vL (iabs x0), vL x2] σ (PJ (fun y2 s3 => R32 x4 ∧ (∀ v7 : Int, v7 = (if x4 = 0 then x2 else x0 : Int) → R64 y2 ∧ (¬ y2 ≤ 0 → R64 v7 ∧ y2 ≠ 0) ∧ K (if y2 ≤ 0 then v7 else (Int.tdiv v7 y2) : Int) s3)))) : TT m_X9_leastTerm 0 [vL x0, vU, vL x2, vU, vI x4, vU, vU, vU, vU] [] σ (PJ K) := by
  refine TT_lload_n dX9_leastTerm_0 rfl ?_
  obtain ⟨o1, h⟩ := h
  refine TT_labs dX9_leastTerm_1 ml_X9_307 (Nat.le_of_ble_eq_true rfl) (Nat.le_of_ble_eq_true rfl) o1 ?_
  refine TT_lload_n dX9_leastTerm_4 rfl ?_
  refine TT_callSJ (M' := m_X9_commonMeasure) (as := [vL (iabs x0), vL x2]) (rest := []) dX9_leastTerm_5 mo_X9_commonMeasure ml_X9_313 sm_X9_commonMeasure (Nat.le_of_ble_eq_true rfl) (Nat.le_of_ble_eq_true rfl) ⟨rfl, rfl, rfl⟩ rfl rfl (Nat.le_of_ble_eq_true rfl) h (fun y2 s3 h => ?_)
  refine TT_lstore dX9_leastTerm_8 (Nat.le_of_ble_eq_true rfl) rfl rfl ?_
  refine TT_iload dX9_leastTerm_10 rfl ?_
  obtain ⟨o4, h⟩ := h
  have j6 : TT m_X9_leastTerm 20 [vL x0, vU, vL x2, vU, vI x4, vL y2, vU, vU, vU] [vL (if x4 = 0 then x2 else x0 : Int)] s3 (PJ K) := by
    refine TT_nmL (fun v7 e8 => ?_)
    replace h := h v7 e8
    refine TT_lstore dX9_leastTerm_20 (Nat.le_of_ble_eq_true rfl) rfl rfl ?_
    refine TT_lload dX9_leastTerm_22 rfl ?_
    refine TT_lconst dX9_leastTerm_24 (x := 0) rfl ?_
    obtain ⟨o9, h⟩ := h
    obtain ⟨o14, h⟩ := h
    have j13 : TT m_X9_leastTerm 39 [vL x0, vU, vL x2, vU, vI x4, vL y2, vU, vL v7, vU] [vL (if y2 ≤ 0 then v7 else (Int.tdiv v7 y2) : Int)] s3 (PJ K) := by
      exact TT_lret dX9_leastTerm_39 rfl rfl h
    refine TT_lc_le (tgt := 37) dX9_leastTerm_25 dX9_leastTerm_26 rfl o9 (by decide) (fun c10 => ?_) (fun c10 => ?_)
    · refine TT_lload dX9_leastTerm_37 rfl ?_
      exact TT.cast j13 (by first | rfl | (simp only [if_pos c10] <;> rfl)) (by first | rfl | (simp only [if_pos c10] <;> rfl))
    · have h := o14 c10
      refine TT_lload dX9_leastTerm_29 rfl ?_
      refine TT_lload dX9_leastTerm_31 rfl ?_
      obtain ⟨o11, h⟩ := h
      have o12 := h
      refine TT_ldiv dX9_leastTerm_33 o11 o9 o12 ?_
      refine TT_goto (tgt := 39) dX9_leastTerm_34 rfl ?_
      exact TT.cast j13 (by first | rfl | (simp only [if_neg c10] <;> rfl)) (by first | rfl | (simp only [if_neg c10] <;> rfl))
  refine TT_if_eq (tgt := 19) dX9_leastTerm_12 rfl o4 (fun c5 => ?_) (fun c5 => ?_)
  · refine TT_lload_n dX9_leastTerm_19 rfl ?_
    exact TT.cast j6 (by first | rfl | (simp only [if_pos c5] <;> rfl)) (by first | rfl | (simp only [if_pos c5] <;> rfl))
  · refine TT_lload_n dX9_leastTerm_15 rfl ?_
    refine TT_goto (tgt := 20) dX9_leastTerm_16 rfl ?_
    exact TT.cast j6 (by first | rfl | (simp only [if_neg c5] <;> rfl)) (by first | rfl | (simp only [if_neg c5] <;> rfl))
theorem e_X9_leastTerm (x0 : Int) (x2 : Int) (x4 : Int) {σ : Mem} {K : Int → Mem → Prop} (h : R64 x0 ∧ CC m_X9_commonMeasure [vL (iabs x0), vL x2] σ (PJ (fun y2 s3 => R32 x4 ∧ (∀ v7 : Int, v7 = (if x4 = 0 then x2 else x0 : Int) → R64 y2 ∧ (¬ y2 ≤ 0 → R64 v7 ∧ y2 ≠ 0) ∧ K (if y2 ≤ 0 then v7 else (Int.tdiv v7 y2) : Int) s3)))) : CC m_X9_leastTerm [vL x0, vL x2, vI x4] σ (PJ K) := CC_of (by decide) rfl rfl rfl (Nat.le_of_ble_eq_true rfl) (w_X9_leastTerm_0 x0 x2 x4 h)
set_option maxRecDepth 4000 in
theorem w_X9_commonMeasure_0 (x0 : Int) (x2 : Int) {σ : Mem} {K : Int → Mem → Prop} (h : TT m_X9_commonMeasure 9 [vU, vU, vU, vU, vL x0, vU, vL x2, vU, vI 0, vU, vU] [] σ (PJ K)) : TT m_X9_commonMeasure 0 [vL x0, vU, vL x2, vU, vU, vU, vU, vU, vU, vU, vU] [] σ (PJ K) := by
  refine TT_lload_n dX9_commonMeasure_0 rfl ?_
  refine TT_lstore dX9_commonMeasure_1 (Nat.le_of_ble_eq_true rfl) rfl rfl ?_
  refine TT_lload_n dX9_commonMeasure_3 rfl ?_
  refine TT_lstore dX9_commonMeasure_4 (Nat.le_of_ble_eq_true rfl) rfl rfl ?_
  refine TT_iconst dX9_commonMeasure_6 ?_
  refine TT_istore dX9_commonMeasure_7 (Nat.le_of_ble_eq_true rfl) rfl rfl ?_
  refine TT_kill 0 rfl ?_
  refine TT_kill 2 rfl ?_
  exact h
theorem e_X9_commonMeasure (x0 : Int) (x2 : Int) {σ : Mem} {K : Int → Mem → Prop} (h : TT m_X9_commonMeasure 9 [vU, vU, vU, vU, vL x0, vU, vL x2, vU, vI 0, vU, vU] [] σ (PJ K)) : CC m_X9_commonMeasure [vL x0, vL x2] σ (PJ K) := CC_of (by decide) rfl rfl rfl (Nat.le_of_ble_eq_true rfl) (w_X9_commonMeasure_0 x0 x2 h)
set_option maxRecDepth 4000 in
theorem w_X9_commonMeasure_9 (x4 : Int) (x6 : Int) (x8 : Int) {σ : Mem} {K : Int → Mem → Prop} (h : R32 x8 ∧ ((100 ≤ x8 → K x4 σ) ∧ (¬ 100 ≤ x8 → R64 x6 ∧ ((x6 = 0 → K x4 σ) ∧ (¬ x6 = 0 → R64 x4 ∧ x6 ≠ 0 ∧ TT m_X9_commonMeasure 9 [vU, vU, vU, vU, vL x6, vU, vL (Int.tmod x4 x6), vU, vI (x8 + 1), vU, vU] [] σ (PJ K)))))) : TT m_X9_commonMeasure 9 [vU, vU, vU, vU, vL x4, vU, vL x6, vU, vI x8, vU, vU] [] σ (PJ K) := by
  refine TT_iload dX9_commonMeasure_9 rfl ?_
  refine TT_bipush dX9_commonMeasure_11 (by decide) ?_
  obtain ⟨o1, h⟩ := h
  refine TT_icmp_ge (tgt := 44) dX9_commonMeasure_13 rfl o1 (by decide) (fun c2 => ?_) (fun c2 => ?_)
  · replace h := h.1 c2
    refine TT_lload dX9_commonMeasure_44 rfl ?_
    exact TT_lret dX9_commonMeasure_46 rfl rfl h
  · replace h := h.2 c2
    refine TT_lload dX9_commonMeasure_16 rfl ?_
    refine TT_lconst dX9_commonMeasure_18 (x := 0) rfl ?_
    obtain ⟨o3, h⟩ := h
    refine TT_lc_eq (tgt := 44) dX9_commonMeasure_19 dX9_commonMeasure_20 rfl o3 (by decide) (fun c4 => ?_) (fun c4 => ?_)
    · replace h := h.1 c4
      refine TT_lload dX9_commonMeasure_44 rfl ?_
      exact TT_lret dX9_commonMeasure_46 rfl rfl h
    · replace h := h.2 c4
      refine TT_lload dX9_commonMeasure_23 rfl ?_
      refine TT_lload dX9_commonMeasure_25 rfl ?_
      obtain ⟨o5, h⟩ := h
      obtain ⟨o6, h⟩ := h
      refine TT_lrem dX9_commonMeasure_27 o5 o3 o6 ?_
      refine TT_lstore dX9_commonMeasure_28 (Nat.le_of_ble_eq_true rfl) rfl rfl ?_
      refine TT_lload dX9_commonMeasure_30 rfl ?_
      refine TT_lstore dX9_commonMeasure_32 (Nat.le_of_ble_eq_true rfl) rfl rfl ?_
      refine TT_lload dX9_commonMeasure_34 rfl ?_
      refine TT_lstore dX9_commonMeasure_36 (Nat.le_of_ble_eq_true rfl) rfl rfl ?_
      refine TT_iinc dX9_commonMeasure_38 (Nat.le_of_ble_eq_true rfl) rfl rfl rfl ?_
      refine TT_goto (tgt := 9) dX9_commonMeasure_41 rfl ?_
      refine TT_kill 9 rfl ?_
      exact h
set_option maxRecDepth 4000 in
theorem w_X9_farAbove_0  {σ : Mem} {K : Int → Mem → Prop} (h : R32 (σ 4 0) ∧ R32 (σ 5 2) ∧ R32 (σ 5 0) ∧ R32 (σ 4 2) ∧ (∀ v5 : Int, v5 = (((σ 4 0) * (σ 5 2)) - ((σ 5 0) * (σ 4 2))) → R32 (σ 4 1) ∧ R32 (σ 5 1) ∧ (∀ v9 : Int, v9 = (((σ 4 1) * (σ 5 2)) - ((σ 5 1) * (σ 4 2))) → K ((v5 * v5) + (v9 * v9)) σ))) : TT m_X9_farAbove 0 [vR 4, vR 5, vU, vU, vU, vU] [] σ (PJ K) := by
  refine TT_aload_n dX9_farAbove_0 rfl ?_
  refine TT_getI dX9_farAbove_1 fd_X9_143 (by decide) (Or.inl rfl) (by decide) rfl ?_
  obtain ⟨o1, h⟩ := h
  refine TT_i2l dX9_farAbove_4 o1 ?_
  refine TT_aload_n dX9_farAbove_5 rfl ?_
  refine TT_getI dX9_farAbove_6 fd_X9_146 (by decide) (Or.inl rfl) (by decide) rfl ?_
  obtain ⟨o2, h⟩ := h
  refine TT_i2l dX9_farAbove_9 o2 ?_
  refine TT_lmul dX9_farAbove_10 ?_
  refine TT_aload_n dX9_farAbove_11 rfl ?_
  refine TT_getI dX9_farAbove_12 fd_X9_143 (by decide) (Or.inl rfl) (by decide) rfl ?_
  obtain ⟨o3, h⟩ := h
  refine TT_i2l dX9_farAbove_15 o3 ?_
  refine TT_aload_n dX9_farAbove_16 rfl ?_
  refine TT_getI dX9_farAbove_17 fd_X9_146 (by decide) (Or.inl rfl) (by decide) rfl ?_
  obtain ⟨o4, h⟩ := h
  refine TT_i2l dX9_farAbove_20 o4 ?_
  refine TT_lmul dX9_farAbove_21 ?_
  refine TT_lsub dX9_farAbove_22 ?_
  refine TT_nmL (fun v5 e6 => ?_)
  replace h := h v5 e6
  refine TT_lstore_n dX9_farAbove_23 (Nat.le_of_ble_eq_true rfl) rfl rfl ?_
  refine TT_aload_n dX9_farAbove_24 rfl ?_
  refine TT_getI dX9_farAbove_25 fd_X9_140 (by decide) (Or.inl rfl) (by decide) rfl ?_
  obtain ⟨o7, h⟩ := h
  refine TT_i2l dX9_farAbove_28 o7 ?_
  refine TT_aload_n dX9_farAbove_29 rfl ?_
  refine TT_getI dX9_farAbove_30 fd_X9_146 (by decide) (Or.inl rfl) (by decide) rfl ?_
  refine TT_i2l dX9_farAbove_33 o2 ?_
  refine TT_lmul dX9_farAbove_34 ?_
  refine TT_aload_n dX9_farAbove_35 rfl ?_
  refine TT_getI dX9_farAbove_36 fd_X9_140 (by decide) (Or.inl rfl) (by decide) rfl ?_
  obtain ⟨o8, h⟩ := h
  refine TT_i2l dX9_farAbove_39 o8 ?_
  refine TT_aload_n dX9_farAbove_40 rfl ?_
  refine TT_getI dX9_farAbove_41 fd_X9_146 (by decide) (Or.inl rfl) (by decide) rfl ?_
  refine TT_i2l dX9_farAbove_44 o4 ?_
  refine TT_lmul dX9_farAbove_45 ?_
  refine TT_lsub dX9_farAbove_46 ?_
  refine TT_nmL (fun v9 e10 => ?_)
  replace h := h v9 e10
  refine TT_lstore dX9_farAbove_47 (Nat.le_of_ble_eq_true rfl) rfl rfl ?_
  refine TT_lload_n dX9_farAbove_49 rfl ?_
  refine TT_lload_n dX9_farAbove_50 rfl ?_
  refine TT_lmul dX9_farAbove_51 ?_
  refine TT_lload dX9_farAbove_52 rfl ?_
  refine TT_lload dX9_farAbove_54 rfl ?_
  refine TT_lmul dX9_farAbove_56 ?_
  refine TT_ladd dX9_farAbove_57 ?_
  exact TT_lret dX9_farAbove_58 rfl rfl h
theorem e_X9_farAbove  {σ : Mem} {K : Int → Mem → Prop} (h : R32 (σ 4 0) ∧ R32 (σ 5 2) ∧ R32 (σ 5 0) ∧ R32 (σ 4 2) ∧ (∀ v5 : Int, v5 = (((σ 4 0) * (σ 5 2)) - ((σ 5 0) * (σ 4 2))) → R32 (σ 4 1) ∧ R32 (σ 5 1) ∧ (∀ v9 : Int, v9 = (((σ 4 1) * (σ 5 2)) - ((σ 5 1) * (σ 4 2))) → K ((v5 * v5) + (v9 * v9)) σ))) : CC m_X9_farAbove [vR 4, vR 5] σ (PJ K) := CC_of (by decide) rfl rfl rfl (Nat.le_of_ble_eq_true rfl) (w_X9_farAbove_0  h)
set_option maxRecDepth 4000 in
theorem w_X9_farBelow_0  {σ : Mem} {K : Int → Mem → Prop} (h : R32 (σ 4 2) ∧ R32 (σ 5 2) ∧ K (((σ 4 2) * (σ 5 2)) * ((σ 4 2) * (σ 5 2))) σ) : TT m_X9_farBelow 0 [vR 4, vR 5, vU, vU] [] σ (PJ K) := by
  refine TT_aload_n dX9_farBelow_0 rfl ?_
  refine TT_getI dX9_farBelow_1 fd_X9_146 (by decide) (Or.inl rfl) (by decide) rfl ?_
  obtain ⟨o1, h⟩ := h
  refine TT_i2l dX9_farBelow_4 o1 ?_
  refine TT_aload_n dX9_farBelow_5 rfl ?_
  refine TT_getI dX9_farBelow_6 fd_X9_146 (by decide) (Or.inl rfl) (by decide) rfl ?_
  obtain ⟨o2, h⟩ := h
  refine TT_i2l dX9_farBelow_9 o2 ?_
  refine TT_lmul dX9_farBelow_10 ?_
  refine TT_lstore_n dX9_farBelow_11 (Nat.le_of_ble_eq_true rfl) rfl rfl ?_
  refine TT_lload_n dX9_farBelow_12 rfl ?_
  refine TT_lload_n dX9_farBelow_13 rfl ?_
  refine TT_lmul dX9_farBelow_14 ?_
  exact TT_lret dX9_farBelow_15 rfl rfl h
theorem e_X9_farBelow  {σ : Mem} {K : Int → Mem → Prop} (h : R32 (σ 4 2) ∧ R32 (σ 5 2) ∧ K (((σ 4 2) * (σ 5 2)) * ((σ 4 2) * (σ 5 2))) σ) : CC m_X9_farBelow [vR 4, vR 5] σ (PJ K) := CC_of (by decide) rfl rfl rfl (Nat.le_of_ble_eq_true rfl) (w_X9_farBelow_0  h)
set_option maxRecDepth 4000 in
theorem w_X9_isIn_0 (r1 : Nat) (hr1 : isP r1) (x2 : Int) (x3 : Int) {σ : Mem} {A B : Mem → Prop} (h : (0 ≤ x2 ∧ x2 < 10) ∧ CC m_X8_locate [vR (trk x2), vI x3, vR 4] σ (PZ (fun s4 => CC m_X3_holds [vR r1, vR 4] s4 (PZ (fun s8 => A s8) (fun s9 => B s9))) (fun s5 => B s5))) : TT m_X9_isIn 0 [vR 0, vR r1, vI x2, vI x3] [] σ (PZ A B) := by
  refine TT_aload_n dX9_isIn_0 rfl ?_
  refine TT_getR (r := 1) dX9_isIn_1 fd_X9_11 (by decide) rfl (by decide) rfl rfl ?_
  refine TT_iload_n dX9_isIn_4 rfl ?_
  obtain ⟨o1, h⟩ := h
  have t2 : isT (trk x2) := isT_trk o1
  refine TT_aald (r := (trk x2)) dX9_isIn_5 (Or.inl rfl) (by decide) rfl (by decide) o1 (rs_trk o1) ?_
  refine TT_iload_n dX9_isIn_6 rfl ?_
  refine TT_aload_n dX9_isIn_7 rfl ?_
  refine TT_getR (r := 4) dX9_isIn_8 fd_X9_29 (by decide) rfl (by decide) rfl rfl ?_
  refine TT_callVZ (M' := m_X8_locate) (as := [vI x3, vR 4]) (rest := []) dX9_isIn_11 mo_X8_locate ml_X9_135 im_X8_locate se_X8_locate (Nat.le_of_ble_eq_true rfl) (Nat.le_of_ble_eq_true rfl) ⟨rfl, rfl, rfl⟩ rfl rfl (Nat.le_of_ble_eq_true rfl) (ltT t2) (shT t2) rfl (by decide) h (fun s4 h => ?_) (fun s5 h => ?_)
  · refine TT_if_eq (tgt := 32) dX9_isIn_14 rfl (by decide) (fun c6 => absurd c6 (by decide)) (fun c6 => ?_)
    refine TT_aload_n dX9_isIn_17 rfl ?_
    refine TT_aload_n dX9_isIn_18 rfl ?_
    refine TT_getR (r := 4) dX9_isIn_19 fd_X9_29 (by decide) rfl (by decide) rfl rfl ?_
    refine TT_callVZ (M' := m_X3_holds) (as := [vR 4]) (rest := []) dX9_isIn_22 mo_X3_holds ml_X9_317 im_X3_holds se_X3_holds (Nat.le_of_ble_eq_true rfl) (Nat.le_of_ble_eq_true rfl) ⟨rfl, rfl, rfl⟩ rfl rfl (Nat.le_of_ble_eq_true rfl) (ltP hr1) (shP hr1) rfl (by decide) h (fun s8 h => ?_) (fun s9 h => ?_)
    · refine TT_if_eq (tgt := 32) dX9_isIn_25 rfl (by decide) (fun c10 => absurd c10 (by decide)) (fun c10 => ?_)
      refine TT_iconst dX9_isIn_28 ?_
      refine TT_goto (tgt := 33) dX9_isIn_29 rfl ?_
      exact TT_z1 dX9_isIn_33 rfl rfl h
    · refine TT_if_eq (tgt := 32) dX9_isIn_25 rfl (by decide) (fun c11 => ?_) (fun c11 => absurd c11 (by decide))
      refine TT_iconst dX9_isIn_32 ?_
      exact TT_z0 dX9_isIn_33 rfl rfl h
  · refine TT_if_eq (tgt := 32) dX9_isIn_14 rfl (by decide) (fun c12 => ?_) (fun c12 => absurd c12 (by decide))
    refine TT_iconst dX9_isIn_32 ?_
    exact TT_z0 dX9_isIn_33 rfl rfl h
theorem e_X9_isIn (r1 : Nat) (hr1 : isP r1) (x2 : Int) (x3 : Int) {σ : Mem} {A B : Mem → Prop} (h : (0 ≤ x2 ∧ x2 < 10) ∧ CC m_X8_locate [vR (trk x2), vI x3, vR 4] σ (PZ (fun s4 => CC m_X3_holds [vR r1, vR 4] s4 (PZ (fun s8 => A s8) (fun s9 => B s9))) (fun s5 => B s5))) : CC m_X9_isIn [vR 0, vR r1, vI x2, vI x3] σ (PZ A B) := CC_of (by decide) rfl rfl rfl (Nat.le_of_ble_eq_true rfl) (w_X9_isIn_0 r1 hr1 x2 x3 h)
set_option maxRecDepth 4000 in
theorem w_X9_isChange_0 (r1 : Nat) (hr1 : isP r1) (x2 : Int) (x3 : Int) {σ : Mem} {A B : Mem → Prop} (h : R32 x3 ∧ ((x3 ≤ 0 → TT m_X9_isChange 21 [vR 0, vR r1, vI x2, vI x3, vU] [vI 0] σ (PZ A B)) ∧ (¬ x3 ≤ 0 → CC m_X9_isIn [vR 0, vR r1, vI x2, vI (x3 - 1)] σ (PZ (fun s4 => TT m_X9_isChange 21 [vR 0, vR r1, vI x2, vI x3, vU] [vI 1] s4 (PZ A B)) (fun s5 => TT m_X9_isChange 21 [vR 0, vR r1, vI x2, vI x3, vU] [vI 0] s5 (PZ A B)))))) : TT m_X9_isChange 0 [vR 0, vR r1, vI x2, vI x3, vU] [] σ (PZ A B) := by
  refine TT_iload_n dX9_isChange_0 rfl ?_
  obtain ⟨o1, h⟩ := h
  refine TT_if_le (tgt := 20) dX9_isChange_1 rfl o1 (fun c2 => ?_) (fun c2 => ?_)
  · replace h := h.1 c2
    refine TT_iconst dX9_isChange_20 ?_
    exact h
  · replace h := h.2 c2
    refine TT_aload_n dX9_isChange_4 rfl ?_
    refine TT_aload_n dX9_isChange_5 rfl ?_
    refine TT_iload_n dX9_isChange_6 rfl ?_
    refine TT_iload_n dX9_isChange_7 rfl ?_
    refine TT_iconst dX9_isChange_8 ?_
    refine TT_isub dX9_isChange_9 ?_
    refine TT_callVZ (M' := m_X9_isIn) (as := [vR r1, vI x2, vI (x3 - 1)]) (rest := []) dX9_isChange_10 mo_X9_isIn ml_X9_161 im_X9_isIn se_X9_isIn (Nat.le_of_ble_eq_true rfl) (Nat.le_of_ble_eq_true rfl) ⟨rfl, rfl, rfl⟩ rfl rfl (Nat.le_of_ble_eq_true rfl) (by decide) rfl rfl (by decide) h (fun s4 h => ?_) (fun s5 h => ?_)
    · refine TT_if_eq (tgt := 20) dX9_isChange_13 rfl (by decide) (fun c6 => absurd c6 (by decide)) (fun c6 => ?_)
      refine TT_iconst dX9_isChange_16 ?_
      refine TT_goto (tgt := 21) dX9_isChange_17 rfl ?_
      exact h
    · refine TT_if_eq (tgt := 20) dX9_isChange_13 rfl (by decide) (fun c7 => ?_) (fun c7 => absurd c7 (by decide))
      refine TT_iconst dX9_isChange_20 ?_
      exact h
theorem e_X9_isChange (r1 : Nat) (hr1 : isP r1) (x2 : Int) (x3 : Int) {σ : Mem} {A B : Mem → Prop} (h : R32 x3 ∧ ((x3 ≤ 0 → TT m_X9_isChange 21 [vR 0, vR r1, vI x2, vI x3, vU] [vI 0] σ (PZ A B)) ∧ (¬ x3 ≤ 0 → CC m_X9_isIn [vR 0, vR r1, vI x2, vI (x3 - 1)] σ (PZ (fun s4 => TT m_X9_isChange 21 [vR 0, vR r1, vI x2, vI x3, vU] [vI 1] s4 (PZ A B)) (fun s5 => TT m_X9_isChange 21 [vR 0, vR r1, vI x2, vI x3, vU] [vI 0] s5 (PZ A B)))))) : CC m_X9_isChange [vR 0, vR r1, vI x2, vI x3] σ (PZ A B) := CC_of (by decide) rfl rfl rfl (Nat.le_of_ble_eq_true rfl) (w_X9_isChange_0 r1 hr1 x2 x3 h)
set_option maxRecDepth 4000 in
theorem w_X9_isChange_21 (r1 : Nat) (hr1 : isP r1) (x2 : Int) (x3 : Int) (w0 : Int) {σ : Mem} {A B : Mem → Prop} (h : CC m_X9_isIn [vR 0, vR r1, vI x2, vI x3] σ (PZ (fun s9 => R32 w0 ∧ ((w0 = 1 → B s9) ∧ (¬ w0 = 1 → A s9))) (fun s10 => R32 w0 ∧ ((w0 = 0 → B s10) ∧ (¬ w0 = 0 → A s10))))) : TT m_X9_isChange 21 [vR 0, vR r1, vI x2, vI x3, vU] [vI w0] σ (PZ A B) := by
  refine TT_istore dX9_isChange_21 (Nat.le_of_ble_eq_true rfl) rfl rfl ?_
  refine TT_iload dX9_isChange_23 rfl ?_
  refine TT_aload_n dX9_isChange_25 rfl ?_
  refine TT_aload_n dX9_isChange_26 rfl ?_
  refine TT_iload_n dX9_isChange_27 rfl ?_
  refine TT_iload_n dX9_isChange_28 rfl ?_
  refine TT_callVZ (M' := m_X9_isIn) (as := [vR r1, vI x2, vI x3]) (rest := [vI w0]) dX9_isChange_29 mo_X9_isIn ml_X9_161 im_X9_isIn se_X9_isIn (Nat.le_of_ble_eq_true rfl) (Nat.le_of_ble_eq_true rfl) ⟨rfl, rfl, rfl⟩ rfl rfl (Nat.le_of_ble_eq_true rfl) (by decide) rfl rfl (by decide) h (fun s9 h => ?_) (fun s10 h => ?_)
  · obtain ⟨o11, h⟩ := h
    refine TT_icmp_eq (tgt := 39) dX9_isChange_32 rfl o11 (by decide) (fun c12 => ?_) (fun c12 => ?_)
    · replace h := h.1 c12
      refine TT_iconst dX9_isChange_39 ?_
      exact TT_z0 dX9_isChange_40 rfl rfl h
    · replace h := h.2 c12
      refine TT_iconst dX9_isChange_35 ?_
      refine TT_goto (tgt := 40) dX9_isChange_36 rfl ?_
      exact TT_z1 dX9_isChange_40 rfl rfl h
  · obtain ⟨o13, h⟩ := h
    refine TT_icmp_eq (tgt := 39) dX9_isChange_32 rfl o13 (by decide) (fun c14 => ?_) (fun c14 => ?_)
    · replace h := h.1 c14
      refine TT_iconst dX9_isChange_39 ?_
      exact TT_z0 dX9_isChange_40 rfl rfl h
    · replace h := h.2 c14
      refine TT_iconst dX9_isChange_35 ?_
      refine TT_goto (tgt := 40) dX9_isChange_36 rfl ?_
      exact TT_z1 dX9_isChange_40 rfl rfl h
set_option maxRecDepth 4000 in
theorem w_X9_locateBoth_0 (x1 : Int) (x2 : Int) (x3 : Int) {σ : Mem} {A B : Mem → Prop} (h : (0 ≤ x1 ∧ x1 < 10) ∧ CC m_X8_locate [vR (trk x1), vI x3, vR 4] σ (PZ (fun s4 => (0 ≤ x2 ∧ x2 < 10) ∧ CC m_X8_locate [vR (trk x2), vI x3, vR 5] s4 (PZ (fun s10 => A s10) (fun s11 => B s11))) (fun s5 => B s5))) : TT m_X9_locateBoth 0 [vR 0, vI x1, vI x2, vI x3] [] σ (PZ A B) := by
  refine TT_aload_n dX9_locateBoth_0 rfl ?_
  refine TT_getR (r := 1) dX9_locateBoth_1 fd_X9_11 (by decide) rfl (by decide) rfl rfl ?_
  refine TT_iload_n dX9_locateBoth_4 rfl ?_
  obtain ⟨o1, h⟩ := h
  have t2 : isT (trk x1) := isT_trk o1
  refine TT_aald (r := (trk x1)) dX9_locateBoth_5 (Or.inl rfl) (by decide) rfl (by decide) o1 (rs_trk o1) ?_
  refine TT_iload_n dX9_locateBoth_6 rfl ?_
  refine TT_aload_n dX9_locateBoth_7 rfl ?_
  refine TT_getR (r := 4) dX9_locateBoth_8 fd_X9_29 (by decide) rfl (by decide) rfl rfl ?_
  refine TT_callVZ (M' := m_X8_locate) (as := [vI x3, vR 4]) (rest := []) dX9_locateBoth_11 mo_X8_locate ml_X9_135 im_X8_locate se_X8_locate (Nat.le_of_ble_eq_true rfl) (Nat.le_of_ble_eq_true rfl) ⟨rfl, rfl, rfl⟩ rfl rfl (Nat.le_of_ble_eq_true rfl) (ltT t2) (shT t2) rfl (by decide) h (fun s4 h => ?_) (fun s5 h => ?_)
  · refine TT_if_eq (tgt := 38) dX9_locateBoth_14 rfl (by decide) (fun c6 => absurd c6 (by decide)) (fun c6 => ?_)
    refine TT_aload_n dX9_locateBoth_17 rfl ?_
    refine TT_getR (r := 1) dX9_locateBoth_18 fd_X9_11 (by decide) rfl (by decide) rfl rfl ?_
    refine TT_iload_n dX9_locateBoth_21 rfl ?_
    obtain ⟨o7, h⟩ := h
    have t8 : isT (trk x2) := isT_trk o7
    refine TT_aald (r := (trk x2)) dX9_locateBoth_22 (Or.inl rfl) (by decide) rfl (by decide) o7 (rs_trk o7) ?_
    refine TT_iload_n dX9_locateBoth_23 rfl ?_
    refine TT_aload_n dX9_locateBoth_24 rfl ?_
    refine TT_getR (r := 5) dX9_locateBoth_25 fd_X9_33 (by decide) rfl (by decide) rfl rfl ?_
    refine TT_callVZ (M' := m_X8_locate) (as := [vI x3, vR 5]) (rest := []) dX9_locateBoth_28 mo_X8_locate ml_X9_135 im_X8_locate se_X8_locate (Nat.le_of_ble_eq_true rfl) (Nat.le_of_ble_eq_true rfl) ⟨rfl, rfl, rfl⟩ rfl rfl (Nat.le_of_ble_eq_true rfl) (ltT t8) (shT t8) rfl (by decide) h (fun s10 h => ?_) (fun s11 h => ?_)
    · refine TT_if_eq (tgt := 38) dX9_locateBoth_31 rfl (by decide) (fun c12 => absurd c12 (by decide)) (fun c12 => ?_)
      refine TT_iconst dX9_locateBoth_34 ?_
      refine TT_goto (tgt := 39) dX9_locateBoth_35 rfl ?_
      exact TT_z1 dX9_locateBoth_39 rfl rfl h
    · refine TT_if_eq (tgt := 38) dX9_locateBoth_31 rfl (by decide) (fun c13 => ?_) (fun c13 => absurd c13 (by decide))
      refine TT_iconst dX9_locateBoth_38 ?_
      exact TT_z0 dX9_locateBoth_39 rfl rfl h
  · refine TT_if_eq (tgt := 38) dX9_locateBoth_14 rfl (by decide) (fun c14 => ?_) (fun c14 => absurd c14 (by decide))
    refine TT_iconst dX9_locateBoth_38 ?_
    exact TT_z0 dX9_locateBoth_39 rfl rfl h
theorem e_X9_locateBoth (x1 : Int) (x2 : Int) (x3 : Int) {σ : Mem} {A B : Mem → Prop} (h : (0 ≤ x1 ∧ x1 < 10) ∧ CC m_X8_locate [vR (trk x1), vI x3, vR 4] σ (PZ (fun s4 => (0 ≤ x2 ∧ x2 < 10) ∧ CC m_X8_locate [vR (trk x2), vI x3, vR 5] s4 (PZ (fun s10 => A s10) (fun s11 => B s11))) (fun s5 => B s5))) : CC m_X9_locateBoth [vR 0, vI x1, vI x2, vI x3] σ (PZ A B) := CC_of (by decide) rfl rfl rfl (Nat.le_of_ble_eq_true rfl) (w_X9_locateBoth_0 x1 x2 x3 h)
set_option maxRecDepth 4000 in
theorem w_X9_isMeeting_0 (x1 : Int) (x2 : Int) (x3 : Int) (x4 : Int) {σ : Mem} {A B : Mem → Prop} (h : CC m_X9_locateBoth [vR 0, vI x1, vI x2, vI x4] σ (PZ (fun s2 => CC m_X9_farAbove [vR 4, vR 5] s2 (PJ (fun y5 s6 => R32 x3 ∧ CC m_X9_farBelow [vR 4, vR 5] s6 (PJ (fun y8 s9 => R64 y5 ∧ R64 ((x3 * x3) * y8) ∧ ((((x3 * x3) * y8) < y5 → B s9) ∧ (¬ ((x3 * x3) * y8) < y5 → A s9))))))) (fun s3 => B s3))) : TT m_X9_isMeeting 0 [vR 0, vI x1, vI x2, vI x3, vI x4] [] σ (PZ A B) := by
  refine TT_aload_n dX9_isMeeting_0 rfl ?_
  refine TT_iload_n dX9_isMeeting_1 rfl ?_
  refine TT_iload_n dX9_isMeeting_2 rfl ?_
  refine TT_iload dX9_isMeeting_3 rfl ?_
  refine TT_callVZ (M' := m_X9_locateBoth) (as := [vI x1, vI x2, vI x4]) (rest := []) dX9_isMeeting_5 mo_X9_locateBoth ml_X9_186 im_X9_locateBoth se_X9_locateBoth (Nat.le_of_ble_eq_true rfl) (Nat.le_of_ble_eq_true rfl) ⟨rfl, rfl, rfl⟩ rfl rfl (Nat.le_of_ble_eq_true rfl) (by decide) rfl rfl (by decide) h (fun s2 h => ?_) (fun s3 h => ?_)
  · refine TT_if_eq (tgt := 47) dX9_isMeeting_8 rfl (by decide) (fun c4 => absurd c4 (by decide)) (fun c4 => ?_)
    refine TT_aload_n dX9_isMeeting_11 rfl ?_
    refine TT_getR (r := 4) dX9_isMeeting_12 fd_X9_29 (by decide) rfl (by decide) rfl rfl ?_
    refine TT_aload_n dX9_isMeeting_15 rfl ?_
    refine TT_getR (r := 5) dX9_isMeeting_16 fd_X9_33 (by decide) rfl (by decide) rfl rfl ?_
    refine TT_callSJ (M' := m_X9_farAbove) (as := [vR 4, vR 5]) (rest := []) dX9_isMeeting_19 mo_X9_farAbove ml_X9_191 sm_X9_farAbove (Nat.le_of_ble_eq_true rfl) (Nat.le_of_ble_eq_true rfl) ⟨rfl, rfl, rfl⟩ rfl rfl (Nat.le_of_ble_eq_true rfl) h (fun y5 s6 h => ?_)
    refine TT_iload_n dX9_isMeeting_22 rfl ?_
    obtain ⟨o7, h⟩ := h
    refine TT_i2l dX9_isMeeting_23 o7 ?_
    refine TT_iload_n dX9_isMeeting_24 rfl ?_
    refine TT_i2l dX9_isMeeting_25 o7 ?_
    refine TT_lmul dX9_isMeeting_26 ?_
    refine TT_aload_n dX9_isMeeting_27 rfl ?_
    refine TT_getR (r := 4) dX9_isMeeting_28 fd_X9_29 (by decide) rfl (by decide) rfl rfl ?_
    refine TT_aload_n dX9_isMeeting_31 rfl ?_
    refine TT_getR (r := 5) dX9_isMeeting_32 fd_X9_33 (by decide) rfl (by decide) rfl rfl ?_
    refine TT_callSJ (M' := m_X9_farBelow) (as := [vR 4, vR 5]) (rest := [vL (x3 * x3), vL y5]) dX9_isMeeting_35 mo_X9_farBelow ml_X9_195 sm_X9_farBelow (Nat.le_of_ble_eq_true rfl) (Nat.le_of_ble_eq_true rfl) ⟨rfl, rfl, rfl⟩ rfl rfl (Nat.le_of_ble_eq_true rfl) h (fun y8 s9 h => ?_)
    refine TT_lmul dX9_isMeeting_38 ?_
    obtain ⟨o10, h⟩ := h
    obtain ⟨o11, h⟩ := h
    refine TT_lc_gt (tgt := 47) dX9_isMeeting_39 dX9_isMeeting_40 rfl o10 o11 (fun c12 => ?_) (fun c12 => ?_)
    · replace h := h.1 c12
      refine TT_iconst dX9_isMeeting_47 ?_
      exact TT_z0 dX9_isMeeting_48 rfl rfl h
    · replace h := h.2 c12
      refine TT_iconst dX9_isMeeting_43 ?_
      refine TT_goto (tgt := 48) dX9_isMeeting_44 rfl ?_
      exact TT_z1 dX9_isMeeting_48 rfl rfl h
  · refine TT_if_eq (tgt := 47) dX9_isMeeting_8 rfl (by decide) (fun c13 => ?_) (fun c13 => absurd c13 (by decide))
    refine TT_iconst dX9_isMeeting_47 ?_
    exact TT_z0 dX9_isMeeting_48 rfl rfl h
theorem e_X9_isMeeting (x1 : Int) (x2 : Int) (x3 : Int) (x4 : Int) {σ : Mem} {A B : Mem → Prop} (h : CC m_X9_locateBoth [vR 0, vI x1, vI x2, vI x4] σ (PZ (fun s2 => CC m_X9_farAbove [vR 4, vR 5] s2 (PJ (fun y5 s6 => R32 x3 ∧ CC m_X9_farBelow [vR 4, vR 5] s6 (PJ (fun y8 s9 => R64 y5 ∧ R64 ((x3 * x3) * y8) ∧ ((((x3 * x3) * y8) < y5 → B s9) ∧ (¬ ((x3 * x3) * y8) < y5 → A s9))))))) (fun s3 => B s3))) : CC m_X9_isMeeting [vR 0, vI x1, vI x2, vI x3, vI x4] σ (PZ A B) := CC_of (by decide) rfl rfl rfl (Nat.le_of_ble_eq_true rfl) (w_X9_isMeeting_0 x1 x2 x3 x4 h)
set_option maxRecDepth 4000 in
theorem w_X9_gatherVisits_0 (x1 : Int) {σ : Mem} {K : Mem → Prop} (h : CC m_X5_clear [vR 6] σ (PN (fun s2 => TT m_X9_gatherVisits 9 [vR 0, vI x1, vI 0] [] s2 (PN K)))) : TT m_X9_gatherVisits 0 [vR 0, vI x1, vU] [] σ (PN K) := by
  refine TT_aload_n dX9_gatherVisits_0 rfl ?_
  refine TT_getR (r := 6) dX9_gatherVisits_1 fd_X9_39 (by decide) rfl (by decide) rfl rfl ?_
  refine TT_callVN (M' := m_X5_clear) (as := []) (rest := []) dX9_gatherVisits_4 mo_X5_clear ml_X9_321 im_X5_clear se_X5_clear (Nat.le_of_ble_eq_true rfl) (Nat.le_of_ble_eq_true rfl) ⟨rfl, rfl, rfl⟩ rfl rfl (Nat.le_of_ble_eq_true rfl) (by decide) rfl rfl (by decide) h (fun s2 h => ?_)
  refine TT_iconst dX9_gatherVisits_7 ?_
  refine TT_istore_n dX9_gatherVisits_8 (Nat.le_of_ble_eq_true rfl) rfl rfl ?_
  exact h
theorem e_X9_gatherVisits (x1 : Int) {σ : Mem} {K : Mem → Prop} (h : CC m_X5_clear [vR 6] σ (PN (fun s2 => TT m_X9_gatherVisits 9 [vR 0, vI x1, vI 0] [] s2 (PN K)))) : CC m_X9_gatherVisits [vR 0, vI x1] σ (PN K) := CC_of (by decide) rfl rfl rfl (Nat.le_of_ble_eq_true rfl) (w_X9_gatherVisits_0 x1 h)
set_option maxRecDepth 4000 in
theorem w_X9_gatherVisits_9 (x1 : Int) (x2 : Int) {σ : Mem} {K : Mem → Prop} (h : R32 x2 ∧ ((200 ≤ x2 → K σ) ∧ (¬ 200 ≤ x2 → CC m_X9_isIn [vR 0, vR 3, vI x1, vI x2] σ (PZ (fun s6 => CC m_X5_add [vR 6, vI x2] s6 (PN (fun s10 => TT m_X9_gatherVisits 9 [vR 0, vI x1, vI (x2 + 1)] [] s10 (PN K)))) (fun s7 => TT m_X9_gatherVisits 9 [vR 0, vI x1, vI (x2 + 1)] [] s7 (PN K)))))) : TT m_X9_gatherVisits 9 [vR 0, vI x1, vI x2] [] σ (PN K) := by
  refine TT_iload_n dX9_gatherVisits_9 rfl ?_
  refine TT_sipush dX9_gatherVisits_10 (by decide) ?_
  obtain ⟨o3, h⟩ := h
  refine TT_icmp_ge (tgt := 43) dX9_gatherVisits_13 rfl o3 (by decide) (fun c4 => ?_) (fun c4 => ?_)
  · replace h := h.1 c4
    exact TT_vret dX9_gatherVisits_43 rfl rfl h
  · replace h := h.2 c4
    refine TT_aload_n dX9_gatherVisits_16 rfl ?_
    refine TT_aload_n dX9_gatherVisits_17 rfl ?_
    refine TT_getR (r := 3) dX9_gatherVisits_18 fd_X9_22 (by decide) rfl (by decide) rfl rfl ?_
    refine TT_iload_n dX9_gatherVisits_21 rfl ?_
    refine TT_iload_n dX9_gatherVisits_22 rfl ?_
    refine TT_callVZ (M' := m_X9_isIn) (as := [vR 3, vI x1, vI x2]) (rest := []) dX9_gatherVisits_23 mo_X9_isIn ml_X9_161 im_X9_isIn se_X9_isIn (Nat.le_of_ble_eq_true rfl) (Nat.le_of_ble_eq_true rfl) ⟨rfl, rfl, rfl⟩ rfl rfl (Nat.le_of_ble_eq_true rfl) (by decide) rfl rfl (by decide) h (fun s6 h => ?_) (fun s7 h => ?_)
    · refine TT_if_eq (tgt := 37) dX9_gatherVisits_26 rfl (by decide) (fun c8 => absurd c8 (by decide)) (fun c8 => ?_)
      refine TT_aload_n dX9_gatherVisits_29 rfl ?_
      refine TT_getR (r := 6) dX9_gatherVisits_30 fd_X9_39 (by decide) rfl (by decide) rfl rfl ?_
      refine TT_iload_n dX9_gatherVisits_33 rfl ?_
      refine TT_callVN (M' := m_X5_add) (as := [vI x2]) (rest := []) dX9_gatherVisits_34 mo_X5_add ml_X9_322 im_X5_add se_X5_add (Nat.le_of_ble_eq_true rfl) (Nat.le_of_ble_eq_true rfl) ⟨rfl, rfl, rfl⟩ rfl rfl (Nat.le_of_ble_eq_true rfl) (by decide) rfl rfl (by decide) h (fun s10 h => ?_)
      refine TT_iinc dX9_gatherVisits_37 (Nat.le_of_ble_eq_true rfl) rfl rfl rfl ?_
      refine TT_goto (tgt := 9) dX9_gatherVisits_40 rfl ?_
      exact h
    · refine TT_if_eq (tgt := 37) dX9_gatherVisits_26 rfl (by decide) (fun c11 => ?_) (fun c11 => absurd c11 (by decide))
      refine TT_iinc dX9_gatherVisits_37 (Nat.le_of_ble_eq_true rfl) rfl rfl rfl ?_
      refine TT_goto (tgt := 9) dX9_gatherVisits_40 rfl ?_
      exact h
set_option maxRecDepth 4000 in
theorem w_X9_gatherMeetings_0 (x1 : Int) (x2 : Int) (x3 : Int) {σ : Mem} {K : Mem → Prop} (h : CC m_X5_clear [vR 6] σ (PN (fun s2 => TT m_X9_gatherMeetings 10 [vR 0, vI x1, vI x2, vI x3, vI 0] [] s2 (PN K)))) : TT m_X9_gatherMeetings 0 [vR 0, vI x1, vI x2, vI x3, vU] [] σ (PN K) := by
  refine TT_aload_n dX9_gatherMeetings_0 rfl ?_
  refine TT_getR (r := 6) dX9_gatherMeetings_1 fd_X9_39 (by decide) rfl (by decide) rfl rfl ?_
  refine TT_callVN (M' := m_X5_clear) (as := []) (rest := []) dX9_gatherMeetings_4 mo_X5_clear ml_X9_321 im_X5_clear se_X5_clear (Nat.le_of_ble_eq_true rfl) (Nat.le_of_ble_eq_true rfl) ⟨rfl, rfl, rfl⟩ rfl rfl (Nat.le_of_ble_eq_true rfl) (by decide) rfl rfl (by decide) h (fun s2 h => ?_)
  refine TT_iconst dX9_gatherMeetings_7 ?_
  refine TT_istore dX9_gatherMeetings_8 (Nat.le_of_ble_eq_true rfl) rfl rfl ?_
  exact h
theorem e_X9_gatherMeetings (x1 : Int) (x2 : Int) (x3 : Int) {σ : Mem} {K : Mem → Prop} (h : CC m_X5_clear [vR 6] σ (PN (fun s2 => TT m_X9_gatherMeetings 10 [vR 0, vI x1, vI x2, vI x3, vI 0] [] s2 (PN K)))) : CC m_X9_gatherMeetings [vR 0, vI x1, vI x2, vI x3] σ (PN K) := CC_of (by decide) rfl rfl rfl (Nat.le_of_ble_eq_true rfl) (w_X9_gatherMeetings_0 x1 x2 x3 h)
set_option maxRecDepth 4000 in
theorem w_X9_gatherMeetings_10 (x1 : Int) (x2 : Int) (x3 : Int) (x4 : Int) {σ : Mem} {K : Mem → Prop} (h : R32 x4 ∧ ((200 ≤ x4 → K σ) ∧ (¬ 200 ≤ x4 → CC m_X9_isMeeting [vR 0, vI x1, vI x2, vI x3, vI x4] σ (PZ (fun s6 => CC m_X5_add [vR 6, vI x4] s6 (PN (fun s10 => TT m_X9_gatherMeetings 10 [vR 0, vI x1, vI x2, vI x3, vI (x4 + 1)] [] s10 (PN K)))) (fun s7 => TT m_X9_gatherMeetings 10 [vR 0, vI x1, vI x2, vI x3, vI (x4 + 1)] [] s7 (PN K)))))) : TT m_X9_gatherMeetings 10 [vR 0, vI x1, vI x2, vI x3, vI x4] [] σ (PN K) := by
  refine TT_iload dX9_gatherMeetings_10 rfl ?_
  refine TT_sipush dX9_gatherMeetings_12 (by decide) ?_
  obtain ⟨o3, h⟩ := h
  refine TT_icmp_ge (tgt := 45) dX9_gatherMeetings_15 rfl o3 (by decide) (fun c4 => ?_) (fun c4 => ?_)
  · replace h := h.1 c4
    exact TT_vret dX9_gatherMeetings_45 rfl rfl h
  · replace h := h.2 c4
    refine TT_aload_n dX9_gatherMeetings_18 rfl ?_
    refine TT_iload_n dX9_gatherMeetings_19 rfl ?_
    refine TT_iload_n dX9_gatherMeetings_20 rfl ?_
    refine TT_iload_n dX9_gatherMeetings_21 rfl ?_
    refine TT_iload dX9_gatherMeetings_22 rfl ?_
    refine TT_callVZ (M' := m_X9_isMeeting) (as := [vI x1, vI x2, vI x3, vI x4]) (rest := []) dX9_gatherMeetings_24 mo_X9_isMeeting ml_X9_325 im_X9_isMeeting se_X9_isMeeting (Nat.le_of_ble_eq_true rfl) (Nat.le_of_ble_eq_true rfl) ⟨rfl, rfl, rfl⟩ rfl rfl (Nat.le_of_ble_eq_true rfl) (by decide) rfl rfl (by decide) h (fun s6 h => ?_) (fun s7 h => ?_)
    · refine TT_if_eq (tgt := 39) dX9_gatherMeetings_27 rfl (by decide) (fun c8 => absurd c8 (by decide)) (fun c8 => ?_)
      refine TT_aload_n dX9_gatherMeetings_30 rfl ?_
      refine TT_getR (r := 6) dX9_gatherMeetings_31 fd_X9_39 (by decide) rfl (by decide) rfl rfl ?_
      refine TT_iload dX9_gatherMeetings_34 rfl ?_
      refine TT_callVN (M' := m_X5_add) (as := [vI x4]) (rest := []) dX9_gatherMeetings_36 mo_X5_add ml_X9_322 im_X5_add se_X5_add (Nat.le_of_ble_eq_true rfl) (Nat.le_of_ble_eq_true rfl) ⟨rfl, rfl, rfl⟩ rfl rfl (Nat.le_of_ble_eq_true rfl) (by decide) rfl rfl (by decide) h (fun s10 h => ?_)
      refine TT_iinc dX9_gatherMeetings_39 (Nat.le_of_ble_eq_true rfl) rfl rfl rfl ?_
      refine TT_goto (tgt := 10) dX9_gatherMeetings_42 rfl ?_
      exact h
    · refine TT_if_eq (tgt := 39) dX9_gatherMeetings_27 rfl (by decide) (fun c11 => ?_) (fun c11 => absurd c11 (by decide))
      refine TT_iinc dX9_gatherMeetings_39 (Nat.le_of_ble_eq_true rfl) rfl rfl rfl ?_
      refine TT_goto (tgt := 10) dX9_gatherMeetings_42 rfl ?_
      exact h
set_option maxRecDepth 4000 in
theorem w_X9_allRows_0  {σ : Mem} {K : Int → Mem → Prop} (h : TT m_X9_allRows 4 [vR 0, vI 0, vI 0] [] σ (PI K)) : TT m_X9_allRows 0 [vR 0, vU, vU] [] σ (PI K) := by
  refine TT_iconst dX9_allRows_0 ?_
  refine TT_istore_n dX9_allRows_1 (Nat.le_of_ble_eq_true rfl) rfl rfl ?_
  refine TT_iconst dX9_allRows_2 ?_
  refine TT_istore_n dX9_allRows_3 (Nat.le_of_ble_eq_true rfl) rfl rfl ?_
  exact h
theorem e_X9_allRows  {σ : Mem} {K : Int → Mem → Prop} (h : TT m_X9_allRows 4 [vR 0, vI 0, vI 0] [] σ (PI K)) : CC m_X9_allRows [vR 0] σ (PI K) := CC_of (by decide) rfl rfl rfl (Nat.le_of_ble_eq_true rfl) (w_X9_allRows_0  h)
set_option maxRecDepth 4000 in
theorem w_X9_allRows_4 (x1 : Int) (x2 : Int) {σ : Mem} {K : Int → Mem → Prop} (h : R32 x2 ∧ ((10 ≤ x2 → K x1 σ) ∧ (¬ 10 ≤ x2 → (0 ≤ x2 ∧ x2 < 10) ∧ TT m_X9_allRows 4 [vR 0, vI (x1 + (σ (trk x2) 3)), vI (x2 + 1)] [] σ (PI K)))) : TT m_X9_allRows 4 [vR 0, vI x1, vI x2] [] σ (PI K) := by
  refine TT_iload_n dX9_allRows_4 rfl ?_
  refine TT_bipush dX9_allRows_5 (by decide) ?_
  obtain ⟨o1, h⟩ := h
  refine TT_icmp_ge (tgt := 28) dX9_allRows_7 rfl o1 (by decide) (fun c2 => ?_) (fun c2 => ?_)
  · replace h := h.1 c2
    refine TT_iload_n dX9_allRows_28 rfl ?_
    exact TT_iret dX9_allRows_29 rfl rfl h
  · replace h := h.2 c2
    refine TT_iload_n dX9_allRows_10 rfl ?_
    refine TT_aload_n dX9_allRows_11 rfl ?_
    refine TT_getR (r := 1) dX9_allRows_12 fd_X9_11 (by decide) rfl (by decide) rfl rfl ?_
    refine TT_iload_n dX9_allRows_15 rfl ?_
    obtain ⟨o3, h⟩ := h
    have t4 : isT (trk x2) := isT_trk o3
    refine TT_aald (r := (trk x2)) dX9_allRows_16 (Or.inl rfl) (by decide) rfl (by decide) o3 (rs_trk o3) ?_
    refine TT_getI dX9_allRows_17 fd_X9_102 (by decide) (Or.inl rfl) (ltT t4) (shT t4) ?_
    refine TT_iadd dX9_allRows_20 ?_
    refine TT_istore_n dX9_allRows_21 (Nat.le_of_ble_eq_true rfl) rfl rfl ?_
    refine TT_iinc dX9_allRows_22 (Nat.le_of_ble_eq_true rfl) rfl rfl rfl ?_
    refine TT_goto (tgt := 4) dX9_allRows_25 rfl ?_
    exact h
set_option maxRecDepth 4000 in
theorem w_X9_thingsWithRows_0  {σ : Mem} {K : Int → Mem → Prop} (h : TT m_X9_thingsWithRows 4 [vR 0, vI 0, vI 0] [] σ (PI K)) : TT m_X9_thingsWithRows 0 [vR 0, vU, vU] [] σ (PI K) := by
  refine TT_iconst dX9_thingsWithRows_0 ?_
  refine TT_istore_n dX9_thingsWithRows_1 (Nat.le_of_ble_eq_true rfl) rfl rfl ?_
  refine TT_iconst dX9_thingsWithRows_2 ?_
  refine TT_istore_n dX9_thingsWithRows_3 (Nat.le_of_ble_eq_true rfl) rfl rfl ?_
  exact h
theorem e_X9_thingsWithRows  {σ : Mem} {K : Int → Mem → Prop} (h : TT m_X9_thingsWithRows 4 [vR 0, vI 0, vI 0] [] σ (PI K)) : CC m_X9_thingsWithRows [vR 0] σ (PI K) := CC_of (by decide) rfl rfl rfl (Nat.le_of_ble_eq_true rfl) (w_X9_thingsWithRows_0  h)
set_option maxRecDepth 4000 in
theorem w_X9_thingsWithRows_4 (x1 : Int) (x2 : Int) {σ : Mem} {K : Int → Mem → Prop} (h : R32 x2 ∧ ((10 ≤ x2 → K x1 σ) ∧ (¬ 10 ≤ x2 → (0 ≤ x2 ∧ x2 < 10) ∧ R32 (σ (trk x2) 3) ∧ TT m_X9_thingsWithRows 4 [vR 0, vI (if (σ (trk x2) 3) ≤ 0 then x1 else (x1 + 1) : Int), vI (x2 + 1)] [] σ (PI K)))) : TT m_X9_thingsWithRows 4 [vR 0, vI x1, vI x2] [] σ (PI K) := by
  refine TT_iload_n dX9_thingsWithRows_4 rfl ?_
  refine TT_bipush dX9_thingsWithRows_5 (by decide) ?_
  obtain ⟨o1, h⟩ := h
  refine TT_icmp_ge (tgt := 31) dX9_thingsWithRows_7 rfl o1 (by decide) (fun c2 => ?_) (fun c2 => ?_)
  · replace h := h.1 c2
    refine TT_iload_n dX9_thingsWithRows_31 rfl ?_
    exact TT_iret dX9_thingsWithRows_32 rfl rfl h
  · replace h := h.2 c2
    refine TT_aload_n dX9_thingsWithRows_10 rfl ?_
    refine TT_getR (r := 1) dX9_thingsWithRows_11 fd_X9_11 (by decide) rfl (by decide) rfl rfl ?_
    refine TT_iload_n dX9_thingsWithRows_14 rfl ?_
    obtain ⟨o3, h⟩ := h
    have t4 : isT (trk x2) := isT_trk o3
    refine TT_aald (r := (trk x2)) dX9_thingsWithRows_15 (Or.inl rfl) (by decide) rfl (by decide) o3 (rs_trk o3) ?_
    refine TT_getI dX9_thingsWithRows_16 fd_X9_102 (by decide) (Or.inl rfl) (ltT t4) (shT t4) ?_
    obtain ⟨o5, h⟩ := h
    have j7 : TT m_X9_thingsWithRows 25 [vR 0, vI (if (σ (trk x2) 3) ≤ 0 then x1 else (x1 + 1) : Int), vI x2] [] σ (PI K) := by
      refine TT_iinc dX9_thingsWithRows_25 (Nat.le_of_ble_eq_true rfl) rfl rfl rfl ?_
      refine TT_goto (tgt := 4) dX9_thingsWithRows_28 rfl ?_
      exact h
    refine TT_if_le (tgt := 25) dX9_thingsWithRows_19 rfl o5 (fun c6 => ?_) (fun c6 => ?_)
    · exact TT.cast j7 (by first | rfl | (simp only [if_pos c6] <;> rfl)) (by first | rfl | (simp only [if_pos c6] <;> rfl))
    · refine TT_iinc dX9_thingsWithRows_22 (Nat.le_of_ble_eq_true rfl) rfl rfl rfl ?_
      exact TT.cast j7 (by first | rfl | (simp only [if_neg c6] <;> rfl)) (by first | rfl | (simp only [if_neg c6] <;> rfl))
set_option maxRecDepth 4000 in
theorem w_X9_thingsThere_0  {σ : Mem} {K : Int → Mem → Prop} (h : TT m_X9_thingsThere 4 [vR 0, vI 0, vI 0] [] σ (PI K)) : TT m_X9_thingsThere 0 [vR 0, vU, vU] [] σ (PI K) := by
  refine TT_iconst dX9_thingsThere_0 ?_
  refine TT_istore_n dX9_thingsThere_1 (Nat.le_of_ble_eq_true rfl) rfl rfl ?_
  refine TT_iconst dX9_thingsThere_2 ?_
  refine TT_istore_n dX9_thingsThere_3 (Nat.le_of_ble_eq_true rfl) rfl rfl ?_
  exact h
theorem e_X9_thingsThere  {σ : Mem} {K : Int → Mem → Prop} (h : TT m_X9_thingsThere 4 [vR 0, vI 0, vI 0] [] σ (PI K)) : CC m_X9_thingsThere [vR 0] σ (PI K) := CC_of (by decide) rfl rfl rfl (Nat.le_of_ble_eq_true rfl) (w_X9_thingsThere_0  h)
set_option maxRecDepth 4000 in
theorem w_X9_thingsThere_4 (x1 : Int) (x2 : Int) {σ : Mem} {K : Int → Mem → Prop} (h : R32 x2 ∧ ((10 ≤ x2 → K x1 σ) ∧ (¬ 10 ≤ x2 → (0 ≤ x2 ∧ x2 < 10) ∧ CC m_X8_locate [vR (trk x2), vI (σ 0 13), vR 4] σ (PZ (fun s6 => TT m_X9_thingsThere 4 [vR 0, vI (x1 + 1), vI (x2 + 1)] [] s6 (PI K)) (fun s7 => TT m_X9_thingsThere 4 [vR 0, vI x1, vI (x2 + 1)] [] s7 (PI K)))))) : TT m_X9_thingsThere 4 [vR 0, vI x1, vI x2] [] σ (PI K) := by
  refine TT_iload_n dX9_thingsThere_4 rfl ?_
  refine TT_bipush dX9_thingsThere_5 (by decide) ?_
  obtain ⟨o1, h⟩ := h
  refine TT_icmp_ge (tgt := 39) dX9_thingsThere_7 rfl o1 (by decide) (fun c2 => ?_) (fun c2 => ?_)
  · replace h := h.1 c2
    refine TT_iload_n dX9_thingsThere_39 rfl ?_
    exact TT_iret dX9_thingsThere_40 rfl rfl h
  · replace h := h.2 c2
    refine TT_aload_n dX9_thingsThere_10 rfl ?_
    refine TT_getR (r := 1) dX9_thingsThere_11 fd_X9_11 (by decide) rfl (by decide) rfl rfl ?_
    refine TT_iload_n dX9_thingsThere_14 rfl ?_
    obtain ⟨o3, h⟩ := h
    have t4 : isT (trk x2) := isT_trk o3
    refine TT_aald (r := (trk x2)) dX9_thingsThere_15 (Or.inl rfl) (by decide) rfl (by decide) o3 (rs_trk o3) ?_
    refine TT_aload_n dX9_thingsThere_16 rfl ?_
    refine TT_getI dX9_thingsThere_17 fd_X9_82 (by decide) (Or.inl rfl) (by decide) rfl ?_
    refine TT_aload_n dX9_thingsThere_20 rfl ?_
    refine TT_getR (r := 4) dX9_thingsThere_21 fd_X9_29 (by decide) rfl (by decide) rfl rfl ?_
    refine TT_callVZ (M' := m_X8_locate) (as := [vI (σ 0 13), vR 4]) (rest := []) dX9_thingsThere_24 mo_X8_locate ml_X9_135 im_X8_locate se_X8_locate (Nat.le_of_ble_eq_true rfl) (Nat.le_of_ble_eq_true rfl) ⟨rfl, rfl, rfl⟩ rfl rfl (Nat.le_of_ble_eq_true rfl) (ltT t4) (shT t4) rfl (by decide) h (fun s6 h => ?_) (fun s7 h => ?_)
    · refine TT_if_eq (tgt := 33) dX9_thingsThere_27 rfl (by decide) (fun c8 => absurd c8 (by decide)) (fun c8 => ?_)
      refine TT_iinc dX9_thingsThere_30 (Nat.le_of_ble_eq_true rfl) rfl rfl rfl ?_
      refine TT_iinc dX9_thingsThere_33 (Nat.le_of_ble_eq_true rfl) rfl rfl rfl ?_
      refine TT_goto (tgt := 4) dX9_thingsThere_36 rfl ?_
      exact h
    · refine TT_if_eq (tgt := 33) dX9_thingsThere_27 rfl (by decide) (fun c9 => ?_) (fun c9 => absurd c9 (by decide))
      refine TT_iinc dX9_thingsThere_33 (Nat.le_of_ble_eq_true rfl) rfl rfl rfl ?_
      refine TT_goto (tgt := 4) dX9_thingsThere_36 rfl ?_
      exact h
set_option maxRecDepth 4000 in
theorem w_X9_refreshTree_0  {σ : Mem} {K : Mem → Prop} (h : R32 (σ 0 10) ∧ ((¬ (σ 0 10) = 0 → CC m_X2_clear [vR 13] σ (PN (fun s4 => TT m_X9_refreshTree 17 [vR 0, vI 0, vU, vU, vU] [] s4 (PN K)))) ∧ ((σ 0 10) = 0 → K σ))) : TT m_X9_refreshTree 0 [vR 0, vU, vU, vU, vU] [] σ (PN K) := by
  refine TT_aload_n dX9_refreshTree_0 rfl ?_
  refine TT_getI dX9_refreshTree_1 fd_X9_71 (by decide) (Or.inr rfl) (by decide) rfl ?_
  obtain ⟨o1, h⟩ := h
  refine TT_if_ne (tgt := 8) dX9_refreshTree_4 rfl o1 (fun c2 => ?_) (fun c2 => ?_)
  · replace h := h.1 c2
    refine TT_aload_n dX9_refreshTree_8 rfl ?_
    refine TT_getR (r := 13) dX9_refreshTree_9 fd_X9_53 (by decide) rfl (by decide) rfl rfl ?_
    refine TT_callVN (M' := m_X2_clear) (as := []) (rest := []) dX9_refreshTree_12 mo_X2_clear ml_X9_328 im_X2_clear se_X2_clear (Nat.le_of_ble_eq_true rfl) (Nat.le_of_ble_eq_true rfl) ⟨rfl, rfl, rfl⟩ rfl rfl (Nat.le_of_ble_eq_true rfl) (by decide) rfl rfl (by decide) h (fun s4 h => ?_)
    refine TT_iconst dX9_refreshTree_15 ?_
    refine TT_istore_n dX9_refreshTree_16 (Nat.le_of_ble_eq_true rfl) rfl rfl ?_
    exact h
  · replace h := h.2 c2
    exact TT_vret dX9_refreshTree_7 rfl rfl h
theorem e_X9_refreshTree  {σ : Mem} {K : Mem → Prop} (h : R32 (σ 0 10) ∧ ((¬ (σ 0 10) = 0 → CC m_X2_clear [vR 13] σ (PN (fun s4 => TT m_X9_refreshTree 17 [vR 0, vI 0, vU, vU, vU] [] s4 (PN K)))) ∧ ((σ 0 10) = 0 → K σ))) : CC m_X9_refreshTree [vR 0] σ (PN K) := CC_of (by decide) rfl rfl rfl (Nat.le_of_ble_eq_true rfl) (w_X9_refreshTree_0  h)
set_option maxRecDepth 4000 in
theorem w_X9_refreshTree_17 (x1 : Int) {σ : Mem} {K : Mem → Prop} (h : R32 x1 ∧ ((10 ≤ x1 → (∀ s7 : Mem, s7 = up σ 0 10 0 → K s7)) ∧ (¬ 10 ≤ x1 → (0 ≤ x1 ∧ x1 < 10) ∧ TT m_X9_refreshTree 32 [vR 0, vI x1, vR (trk x1), vI 0, vU] [] σ (PN K)))) : TT m_X9_refreshTree 17 [vR 0, vI x1, vU, vU, vU] [] σ (PN K) := by
  refine TT_iload_n dX9_refreshTree_17 rfl ?_
  refine TT_bipush dX9_refreshTree_18 (by decide) ?_
  obtain ⟨o5, h⟩ := h
  refine TT_icmp_ge (tgt := 82) dX9_refreshTree_20 rfl o5 (by decide) (fun c6 => ?_) (fun c6 => ?_)
  · replace h := h.1 c6
    refine TT_aload_n dX9_refreshTree_82 rfl ?_
    refine TT_iconst dX9_refreshTree_83 ?_
    refine TT_putZ dX9_refreshTree_84 fd_X9_71 (by decide) rfl (Or.inl rfl) (by decide) rfl ?_
    refine TT_nmM (fun s7 e8 => ?_)
    replace h := h s7 e8
    exact TT_vret dX9_refreshTree_87 rfl rfl h
  · replace h := h.2 c6
    refine TT_aload_n dX9_refreshTree_23 rfl ?_
    refine TT_getR (r := 1) dX9_refreshTree_24 fd_X9_11 (by decide) rfl (by decide) rfl rfl ?_
    refine TT_iload_n dX9_refreshTree_27 rfl ?_
    obtain ⟨o9, h⟩ := h
    have t10 : isT (trk x1) := isT_trk o9
    refine TT_aald (r := (trk x1)) dX9_refreshTree_28 (Or.inl rfl) (by decide) rfl (by decide) o9 (rs_trk o9) ?_
    refine TT_astore_n dX9_refreshTree_29 (Nat.le_of_ble_eq_true rfl) rfl rfl ?_
    refine TT_iconst dX9_refreshTree_30 ?_
    refine TT_istore_n dX9_refreshTree_31 (Nat.le_of_ble_eq_true rfl) rfl rfl ?_
    exact h
set_option maxRecDepth 4000 in
theorem w_X9_refreshTree_32 (x1 : Int) (r2 : Nat) (hr2 : isT r2) (x3 : Int) {σ : Mem} {K : Mem → Prop} (h : R32 (x3 + 1) ∧ R32 (σ r2 3) ∧ (((σ r2 3) ≤ (x3 + 1) → TT m_X9_refreshTree 17 [vR 0, vI (x1 + 1), vU, vU, vU] [] σ (PN K)) ∧ (¬ (σ r2 3) ≤ (x3 + 1) → CC m_X8_isLeg [vR r2, vI x3] σ (PZ (fun s15 => CC m_X2_takeLeg [vR 13, vR r2, vI x3] s15 (PI (fun y18 s19 => CC m_X2_cutIfOverfull [vR 13, vI y18] s19 (PN (fun s21 => TT m_X9_refreshTree 32 [vR 0, vI x1, vR r2, vI (x3 + 1), vU] [] s21 (PN K)))))) (fun s16 => TT m_X9_refreshTree 32 [vR 0, vI x1, vR r2, vI (x3 + 1), vU] [] s16 (PN K)))))) : TT m_X9_refreshTree 32 [vR 0, vI x1, vR r2, vI x3, vU] [] σ (PN K) := by
  refine TT_iload_n dX9_refreshTree_32 rfl ?_
  refine TT_iconst dX9_refreshTree_33 ?_
  refine TT_iadd dX9_refreshTree_34 ?_
  refine TT_aload_n dX9_refreshTree_35 rfl ?_
  refine TT_getI dX9_refreshTree_36 fd_X9_102 (by decide) (Or.inl rfl) (ltT hr2) (shT hr2) ?_
  obtain ⟨o11, h⟩ := h
  obtain ⟨o12, h⟩ := h
  refine TT_icmp_ge (tgt := 76) dX9_refreshTree_39 rfl o11 o12 (fun c13 => ?_) (fun c13 => ?_)
  · replace h := h.1 c13
    refine TT_iinc dX9_refreshTree_76 (Nat.le_of_ble_eq_true rfl) rfl rfl rfl ?_
    refine TT_goto (tgt := 17) dX9_refreshTree_79 rfl ?_
    refine TT_kill 2 rfl ?_
    refine TT_kill 3 rfl ?_
    exact h
  · replace h := h.2 c13
    refine TT_aload_n dX9_refreshTree_42 rfl ?_
    refine TT_iload_n dX9_refreshTree_43 rfl ?_
    refine TT_callVZ (M' := m_X8_isLeg) (as := [vI x3]) (rest := []) dX9_refreshTree_44 mo_X8_isLeg ml_X9_329 im_X8_isLeg se_X8_isLeg (Nat.le_of_ble_eq_true rfl) (Nat.le_of_ble_eq_true rfl) ⟨rfl, rfl, rfl⟩ rfl rfl (Nat.le_of_ble_eq_true rfl) (ltT hr2) (shT hr2) rfl (by decide) h (fun s15 h => ?_) (fun s16 h => ?_)
    · refine TT_if_eq (tgt := 70) dX9_refreshTree_47 rfl (by decide) (fun c17 => absurd c17 (by decide)) (fun c17 => ?_)
      refine TT_aload_n dX9_refreshTree_50 rfl ?_
      refine TT_getR (r := 13) dX9_refreshTree_51 fd_X9_53 (by decide) rfl (by decide) rfl rfl ?_
      refine TT_aload_n dX9_refreshTree_54 rfl ?_
      refine TT_iload_n dX9_refreshTree_55 rfl ?_
      refine TT_callVI (M' := m_X2_takeLeg) (as := [vR r2, vI x3]) (rest := []) dX9_refreshTree_56 mo_X2_takeLeg ml_X9_332 im_X2_takeLeg se_X2_takeLeg (Nat.le_of_ble_eq_true rfl) (Nat.le_of_ble_eq_true rfl) ⟨rfl, rfl, rfl⟩ rfl rfl (Nat.le_of_ble_eq_true rfl) (by decide) rfl rfl (by decide) h (fun y18 s19 h => ?_)
      refine TT_istore dX9_refreshTree_59 (Nat.le_of_ble_eq_true rfl) rfl rfl ?_
      refine TT_aload_n dX9_refreshTree_61 rfl ?_
      refine TT_getR (r := 13) dX9_refreshTree_62 fd_X9_53 (by decide) rfl (by decide) rfl rfl ?_
      refine TT_iload dX9_refreshTree_65 rfl ?_
      refine TT_callVN (M' := m_X2_cutIfOverfull) (as := [vI y18]) (rest := []) dX9_refreshTree_67 mo_X2_cutIfOverfull ml_X9_336 im_X2_cutIfOverfull se_X2_cutIfOverfull (Nat.le_of_ble_eq_true rfl) (Nat.le_of_ble_eq_true rfl) ⟨rfl, rfl, rfl⟩ rfl rfl (Nat.le_of_ble_eq_true rfl) (by decide) rfl rfl (by decide) h (fun s21 h => ?_)
      refine TT_iinc dX9_refreshTree_70 (Nat.le_of_ble_eq_true rfl) rfl rfl rfl ?_
      refine TT_goto (tgt := 32) dX9_refreshTree_73 rfl ?_
      refine TT_kill 4 rfl ?_
      exact h
    · refine TT_if_eq (tgt := 70) dX9_refreshTree_47 rfl (by decide) (fun c22 => ?_) (fun c22 => absurd c22 (by decide))
      refine TT_iinc dX9_refreshTree_70 (Nat.le_of_ble_eq_true rfl) rfl rfl rfl ?_
      refine TT_goto (tgt := 32) dX9_refreshTree_73 rfl ?_
      exact h
set_option maxRecDepth 4000 in
theorem w_X9_countColumns_0  {σ : Mem} {K : Mem → Prop} (h : CC m_X1_clear [vR 32] σ (PN (fun s2 => TT m_X9_countColumns 9 [vR 0, vI 0, vU, vU] [] s2 (PN K)))) : TT m_X9_countColumns 0 [vR 0, vU, vU, vU] [] σ (PN K) := by
  refine TT_aload_n dX9_countColumns_0 rfl ?_
  refine TT_getR (r := 32) dX9_countColumns_1 fd_X9_67 (by decide) rfl (by decide) rfl rfl ?_
  refine TT_callVN (M' := m_X1_clear) (as := []) (rest := []) dX9_countColumns_4 mo_X1_clear ml_X9_339 im_X1_clear se_X1_clear (Nat.le_of_ble_eq_true rfl) (Nat.le_of_ble_eq_true rfl) ⟨rfl, rfl, rfl⟩ rfl rfl (Nat.le_of_ble_eq_true rfl) (by decide) rfl rfl (by decide) h (fun s2 h => ?_)
  refine TT_iconst dX9_countColumns_7 ?_
  refine TT_istore_n dX9_countColumns_8 (Nat.le_of_ble_eq_true rfl) rfl rfl ?_
  exact h
theorem e_X9_countColumns  {σ : Mem} {K : Mem → Prop} (h : CC m_X1_clear [vR 32] σ (PN (fun s2 => TT m_X9_countColumns 9 [vR 0, vI 0, vU, vU] [] s2 (PN K)))) : CC m_X9_countColumns [vR 0] σ (PN K) := CC_of (by decide) rfl rfl rfl (Nat.le_of_ble_eq_true rfl) (w_X9_countColumns_0  h)
set_option maxRecDepth 4000 in
theorem w_X9_countColumns_9 (x1 : Int) {σ : Mem} {K : Mem → Prop} (h : R32 x1 ∧ ((10 ≤ x1 → K σ) ∧ (¬ 10 ≤ x1 → (0 ≤ x1 ∧ x1 < 10) ∧ TT m_X9_countColumns 24 [vR 0, vI x1, vR (trk x1), vI 0] [] σ (PN K)))) : TT m_X9_countColumns 9 [vR 0, vI x1, vU, vU] [] σ (PN K) := by
  refine TT_iload_n dX9_countColumns_9 rfl ?_
  refine TT_bipush dX9_countColumns_10 (by decide) ?_
  obtain ⟨o3, h⟩ := h
  refine TT_icmp_ge (tgt := 60) dX9_countColumns_12 rfl o3 (by decide) (fun c4 => ?_) (fun c4 => ?_)
  · replace h := h.1 c4
    exact TT_vret dX9_countColumns_60 rfl rfl h
  · replace h := h.2 c4
    refine TT_aload_n dX9_countColumns_15 rfl ?_
    refine TT_getR (r := 1) dX9_countColumns_16 fd_X9_11 (by decide) rfl (by decide) rfl rfl ?_
    refine TT_iload_n dX9_countColumns_19 rfl ?_
    obtain ⟨o5, h⟩ := h
    have t6 : isT (trk x1) := isT_trk o5
    refine TT_aald (r := (trk x1)) dX9_countColumns_20 (Or.inl rfl) (by decide) rfl (by decide) o5 (rs_trk o5) ?_
    refine TT_astore_n dX9_countColumns_21 (Nat.le_of_ble_eq_true rfl) rfl rfl ?_
    refine TT_iconst dX9_countColumns_22 ?_
    refine TT_istore_n dX9_countColumns_23 (Nat.le_of_ble_eq_true rfl) rfl rfl ?_
    exact h
set_option maxRecDepth 4000 in
theorem w_X9_countColumns_24 (x1 : Int) (r2 : Nat) (hr2 : isT r2) (x3 : Int) {σ : Mem} {K : Mem → Prop} (h : R32 x3 ∧ R32 (σ r2 3) ∧ (((σ r2 3) ≤ x3 → TT m_X9_countColumns 9 [vR 0, vI (x1 + 1), vU, vU] [] σ (PN K)) ∧ (¬ (σ r2 3) ≤ x3 → (0 ≤ x3 ∧ x3 < 24) ∧ R32 (σ (r2 + 2) (x3).toNat) ∧ CC m_X1_add [vR 32, vI (Int.tdiv (σ (r2 + 2) (x3).toNat) 10)] σ (PN (fun s13 => TT m_X9_countColumns 24 [vR 0, vI x1, vR r2, vI (x3 + 1)] [] s13 (PN K)))))) : TT m_X9_countColumns 24 [vR 0, vI x1, vR r2, vI x3] [] σ (PN K) := by
  refine TT_iload_n dX9_countColumns_24 rfl ?_
  refine TT_aload_n dX9_countColumns_25 rfl ?_
  refine TT_getI dX9_countColumns_26 fd_X9_102 (by decide) (Or.inl rfl) (ltT hr2) (shT hr2) ?_
  obtain ⟨o7, h⟩ := h
  obtain ⟨o8, h⟩ := h
  refine TT_icmp_ge (tgt := 54) dX9_countColumns_29 rfl o7 o8 (fun c9 => ?_) (fun c9 => ?_)
  · replace h := h.1 c9
    refine TT_iinc dX9_countColumns_54 (Nat.le_of_ble_eq_true rfl) rfl rfl rfl ?_
    refine TT_goto (tgt := 9) dX9_countColumns_57 rfl ?_
    refine TT_kill 2 rfl ?_
    refine TT_kill 3 rfl ?_
    exact h
  · replace h := h.2 c9
    refine TT_aload_n dX9_countColumns_32 rfl ?_
    refine TT_getR (r := 32) dX9_countColumns_33 fd_X9_67 (by decide) rfl (by decide) rfl rfl ?_
    refine TT_aload_n dX9_countColumns_36 rfl ?_
    refine TT_getR (r := (r2 + 2)) dX9_countColumns_37 fd_X9_125 (by decide) rfl (ltT hr2) (shT hr2) (rsT1 hr2) ?_
    refine TT_iload_n dX9_countColumns_40 rfl ?_
    obtain ⟨o10, h⟩ := h
    refine TT_iald dX9_countColumns_41 (ltT2 hr2) (shT2 hr2) (by decide) o10 ?_
    refine TT_bipush dX9_countColumns_42 (by decide) ?_
    obtain ⟨o11, h⟩ := h
    refine TT_idiv dX9_countColumns_44 o11 (by decide) (by decide) ?_
    refine TT_callVN (M' := m_X1_add) (as := [vI (Int.tdiv (σ (r2 + 2) (x3).toNat) 10)]) (rest := []) dX9_countColumns_45 mo_X1_add ml_X9_340 im_X1_add se_X1_add (Nat.le_of_ble_eq_true rfl) (Nat.le_of_ble_eq_true rfl) ⟨rfl, rfl, rfl⟩ rfl rfl (Nat.le_of_ble_eq_true rfl) (by decide) rfl rfl (by decide) h (fun s13 h => ?_)
    refine TT_iinc dX9_countColumns_48 (Nat.le_of_ble_eq_true rfl) rfl rfl rfl ?_
    refine TT_goto (tgt := 24) dX9_countColumns_51 rfl ?_
    exact h
set_option maxRecDepth 4000 in
theorem w_X9_agreeing_0 (x0 : Int) (x1 : Int) (x2 : Int) (x3 : Int) (x4 : Int) {σ : Mem} {K : Int → Mem → Prop} (h : R32 x1 ∧ ((x1 < 1 → K 0 σ) ∧ (¬ x1 < 1 → R32 x3 ∧ ((1 ≤ x3 → R32 (x0 + x2) ∧ x1 ≠ 0 ∧ (∀ v7 : Int, v7 = (((Int.tdiv (x0 + x2) x1) * x1) - x2) → R32 (x0 + x4) ∧ x3 ≠ 0 ∧ (∀ v11 : Int, v11 = (((Int.tdiv (x0 + x4) x3) * x3) - x4) → R32 v7 ∧ R32 v11 ∧ R32 (max v7 v11) ∧ R32 (v7 + x1) ∧ R32 (v11 + x3) ∧ R32 (min (v7 + x1) (v11 + x3)) ∧ (∀ v19 : Int, v19 = (min 100 (min (v7 + x1) (v11 + x3))) → R32 (v19 - (max 0 (max v7 v11))) ∧ K (max 0 (v19 - (max 0 (max v7 v11)))) σ)))) ∧ (¬ 1 ≤ x3 → K 0 σ))))) : TT m_X9_agreeing 0 [vI x0, vI x1, vI x2, vI x3, vI x4, vU, vU, vU, vU] [] σ (PI K) := by
  refine TT_iload_n dX9_agreeing_0 rfl ?_
  refine TT_iconst dX9_agreeing_1 ?_
  obtain ⟨o1, h⟩ := h
  refine TT_icmp_lt (tgt := 10) dX9_agreeing_2 rfl o1 (by decide) (fun c2 => ?_) (fun c2 => ?_)
  · replace h := h.1 c2
    refine TT_iconst dX9_agreeing_10 ?_
    exact TT_iret dX9_agreeing_11 rfl rfl h
  · replace h := h.2 c2
    refine TT_iload_n dX9_agreeing_5 rfl ?_
    refine TT_iconst dX9_agreeing_6 ?_
    obtain ⟨o3, h⟩ := h
    refine TT_icmp_ge (tgt := 12) dX9_agreeing_7 rfl o3 (by decide) (fun c4 => ?_) (fun c4 => ?_)
    · replace h := h.1 c4
      refine TT_iload_n dX9_agreeing_12 rfl ?_
      refine TT_iload_n dX9_agreeing_13 rfl ?_
      refine TT_iadd dX9_agreeing_14 ?_
      refine TT_iload_n dX9_agreeing_15 rfl ?_
      obtain ⟨o5, h⟩ := h
      obtain ⟨o6, h⟩ := h
      refine TT_idiv dX9_agreeing_16 o5 o1 o6 ?_
      refine TT_iload_n dX9_agreeing_17 rfl ?_
      refine TT_imul dX9_agreeing_18 ?_
      refine TT_iload_n dX9_agreeing_19 rfl ?_
      refine TT_isub dX9_agreeing_20 ?_
      refine TT_nmI (fun v7 e8 => ?_)
      replace h := h v7 e8
      refine TT_istore dX9_agreeing_21 (Nat.le_of_ble_eq_true rfl) rfl rfl ?_
      refine TT_iload_n dX9_agreeing_23 rfl ?_
      refine TT_iload dX9_agreeing_24 rfl ?_
      refine TT_iadd dX9_agreeing_26 ?_
      refine TT_iload_n dX9_agreeing_27 rfl ?_
      obtain ⟨o9, h⟩ := h
      obtain ⟨o10, h⟩ := h
      refine TT_idiv dX9_agreeing_28 o9 o3 o10 ?_
      refine TT_iload_n dX9_agreeing_29 rfl ?_
      refine TT_imul dX9_agreeing_30 ?_
      refine TT_iload dX9_agreeing_31 rfl ?_
      refine TT_isub dX9_agreeing_33 ?_
      refine TT_nmI (fun v11 e12 => ?_)
      replace h := h v11 e12
      refine TT_istore dX9_agreeing_34 (Nat.le_of_ble_eq_true rfl) rfl rfl ?_
      refine TT_iconst dX9_agreeing_36 ?_
      refine TT_iload dX9_agreeing_37 rfl ?_
      refine TT_iload dX9_agreeing_39 rfl ?_
      obtain ⟨o13, h⟩ := h
      obtain ⟨o14, h⟩ := h
      refine TT_max dX9_agreeing_41 ml_X9_341 (Nat.le_of_ble_eq_true rfl) (Nat.le_of_ble_eq_true rfl) ⟨o13, o14⟩ ?_
      obtain ⟨o15, h⟩ := h
      refine TT_max dX9_agreeing_44 ml_X9_341 (Nat.le_of_ble_eq_true rfl) (Nat.le_of_ble_eq_true rfl) ⟨(by decide), o15⟩ ?_
      refine TT_istore dX9_agreeing_47 (Nat.le_of_ble_eq_true rfl) rfl rfl ?_
      refine TT_bipush dX9_agreeing_49 (by decide) ?_
      refine TT_iload dX9_agreeing_51 rfl ?_
      refine TT_iload_n dX9_agreeing_53 rfl ?_
      refine TT_iadd dX9_agreeing_54 ?_
      refine TT_iload dX9_agreeing_55 rfl ?_
      refine TT_iload_n dX9_agreeing_57 rfl ?_
      refine TT_iadd dX9_agreeing_58 ?_
      obtain ⟨o16, h⟩ := h
      obtain ⟨o17, h⟩ := h
      refine TT_min dX9_agreeing_59 ml_X9_344 (Nat.le_of_ble_eq_true rfl) (Nat.le_of_ble_eq_true rfl) ⟨o16, o17⟩ ?_
      obtain ⟨o18, h⟩ := h
      refine TT_min dX9_agreeing_62 ml_X9_344 (Nat.le_of_ble_eq_true rfl) (Nat.le_of_ble_eq_true rfl) ⟨(by decide), o18⟩ ?_
      refine TT_nmI (fun v19 e20 => ?_)
      replace h := h v19 e20
      refine TT_istore dX9_agreeing_65 (Nat.le_of_ble_eq_true rfl) rfl rfl ?_
      refine TT_iconst dX9_agreeing_67 ?_
      refine TT_iload dX9_agreeing_68 rfl ?_
      refine TT_iload dX9_agreeing_70 rfl ?_
      refine TT_isub dX9_agreeing_72 ?_
      obtain ⟨o21, h⟩ := h
      refine TT_max dX9_agreeing_73 ml_X9_341 (Nat.le_of_ble_eq_true rfl) (Nat.le_of_ble_eq_true rfl) ⟨(by decide), o21⟩ ?_
      exact TT_iret dX9_agreeing_76 rfl rfl h
    · replace h := h.2 c4
      refine TT_iconst dX9_agreeing_10 ?_
      exact TT_iret dX9_agreeing_11 rfl rfl h
theorem e_X9_agreeing (x0 : Int) (x1 : Int) (x2 : Int) (x3 : Int) (x4 : Int) {σ : Mem} {K : Int → Mem → Prop} (h : R32 x1 ∧ ((x1 < 1 → K 0 σ) ∧ (¬ x1 < 1 → R32 x3 ∧ ((1 ≤ x3 → R32 (x0 + x2) ∧ x1 ≠ 0 ∧ (∀ v7 : Int, v7 = (((Int.tdiv (x0 + x2) x1) * x1) - x2) → R32 (x0 + x4) ∧ x3 ≠ 0 ∧ (∀ v11 : Int, v11 = (((Int.tdiv (x0 + x4) x3) * x3) - x4) → R32 v7 ∧ R32 v11 ∧ R32 (max v7 v11) ∧ R32 (v7 + x1) ∧ R32 (v11 + x3) ∧ R32 (min (v7 + x1) (v11 + x3)) ∧ (∀ v19 : Int, v19 = (min 100 (min (v7 + x1) (v11 + x3))) → R32 (v19 - (max 0 (max v7 v11))) ∧ K (max 0 (v19 - (max 0 (max v7 v11)))) σ)))) ∧ (¬ 1 ≤ x3 → K 0 σ))))) : CC m_X9_agreeing [vI x0, vI x1, vI x2, vI x3, vI x4] σ (PI K) := CC_of (by decide) rfl rfl rfl (Nat.le_of_ble_eq_true rfl) (w_X9_agreeing_0 x0 x1 x2 x3 x4 h)
