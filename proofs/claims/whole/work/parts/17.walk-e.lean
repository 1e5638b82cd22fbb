set_option maxRecDepth 4000 in
theorem w_X10_sizeWith_0 (x1 : Int) (x2 : Int) {σ : Mem} {K : Int → Mem → Prop} (h : TT m_X10_sizeWith 5 [vR 80, vI x1, vI x2, vI 1, vI 0, vU, vU, vU, vU] [] σ (PI K)) : TT m_X10_sizeWith 0 [vR 80, vI x1, vI x2, vU, vU, vU, vU, vU, vU] [] σ (PI K) := by
  refine TT_iconst dX10_sizeWith_0 ?_
  refine TT_istore_n dX10_sizeWith_1 (Nat.le_of_ble_eq_true rfl) rfl rfl ?_
  refine TT_iconst dX10_sizeWith_2 ?_
  refine TT_istore dX10_sizeWith_3 (Nat.le_of_ble_eq_true rfl) rfl rfl ?_
  exact h
theorem e_X10_sizeWith (x1 : Int) (x2 : Int) {σ : Mem} {K : Int → Mem → Prop} (h : TT m_X10_sizeWith 5 [vR 80, vI x1, vI x2, vI 1, vI 0, vU, vU, vU, vU] [] σ (PI K)) : CC m_X10_sizeWith [vR 80, vI x1, vI x2] σ (PI K) := CC_of (by decide) rfl rfl rfl (Nat.le_of_ble_eq_true rfl) (w_X10_sizeWith_0 x1 x2 h)
set_option maxRecDepth 4000 in
theorem w_X10_sizeWith_5 (x1 : Int) (x2 : Int) (x3 : Int) (x4 : Int) {σ : Mem} {K : Int → Mem → Prop} (h : R32 x4 ∧ ((6 ≤ x4 → K x3 σ) ∧ (¬ 6 ≤ x4 → (0 ≤ x1 ∧ x1 < 500) ∧ R32 (σ 90 (x1).toNat) ∧ ((σ 90 (x1).toNat) = 0 → (0 ≤ ((6 * x1) + x4) ∧ ((6 * x1) + x4) < 3000)) ∧ (∀ v8 : Int, v8 = (if (σ 90 (x1).toNat) = 0 then (σ 89 ((6 * x1) + x4).toNat) else 1 : Int) → ((σ 90 (x1).toNat) = 0 → (0 ≤ (((6 * x1) + x4) + 1) ∧ (((6 * x1) + x4) + 1) < 3000)) ∧ (∀ v13 : Int, v13 = (if (σ 90 (x1).toNat) = 0 then (σ 89 (((6 * x1) + x4) + 1).toNat) else 0 : Int) → R32 x2 ∧ (¬ x2 = (-900009) → (0 ≤ ((6 * x2) + x4) ∧ ((6 * x2) + x4) < 1440) ∧ (0 ≤ (((6 * x2) + x4) + 1) ∧ (((6 * x2) + x4) + 1) < 1440) ∧ ((σ 90 (x1).toNat) = 0 → R32 (σ 88 ((6 * x2) + x4).toNat) ∧ R32 v8) ∧ ((σ 90 (x1).toNat) = 0 → R32 (σ 88 (((6 * x2) + x4) + 1).toNat) ∧ R32 v13)) ∧ (∀ v34 : Int, v34 = (x3 * (((if x2 = (-900009) then v13 else (if ¬ (σ 90 (x1).toNat) = 0 then (σ 88 (((6 * x2) + x4) + 1).toNat) else (if (σ 88 (((6 * x2) + x4) + 1).toNat) ≤ v13 then v13 else (σ 88 (((6 * x2) + x4) + 1).toNat) : Int) : Int) : Int) - (if x2 = (-900009) then v8 else (if ¬ (σ 90 (x1).toNat) = 0 then (σ 88 ((6 * x2) + x4).toNat) else (if v8 ≤ (σ 88 ((6 * x2) + x4).toNat) then v8 else (σ 88 ((6 * x2) + x4).toNat) : Int) : Int) : Int)) + 1)) → TT m_X10_sizeWith 5 [vR 80, vI x1, vI x2, vI v34, vI (x4 + 2), vU, vU, vU, vU] [] σ (PI K))))))) : TT m_X10_sizeWith 5 [vR 80, vI x1, vI x2, vI x3, vI x4, vU, vU, vU, vU] [] σ (PI K) := by
  refine TT_iload dX10_sizeWith_5 rfl ?_
  refine TT_bipush dX10_sizeWith_7 (by decide) ?_
  obtain ⟨o1, h⟩ := h
  refine TT_icmp_ge (tgt := 170) dX10_sizeWith_9 rfl o1 (by decide) (fun c2 => ?_) (fun c2 => ?_)
  · replace h := h.1 c2
    refine TT_iload_n dX10_sizeWith_170 rfl ?_
    exact TT_iret dX10_sizeWith_171 rfl rfl h
  · replace h := h.2 c2
    refine TT_aload_n dX10_sizeWith_12 rfl ?_
    refine TT_getR (r := 90) dX10_sizeWith_13 fd_X10_37 (by decide) rfl (by decide) rfl rfl ?_
    refine TT_iload_n dX10_sizeWith_16 rfl ?_
    obtain ⟨o3, h⟩ := h
    refine TT_zald dX10_sizeWith_17 (by decide) rfl (by decide) o3 ?_
    obtain ⟨o4, h⟩ := h
    obtain ⟨o38, h⟩ := h
    have j7 : TT m_X10_sizeWith 37 [vR 80, vI x1, vI x2, vI x3, vI x4, vU, vU, vU, vU] [vI (if (σ 90 (x1).toNat) = 0 then (σ 89 ((6 * x1) + x4).toNat) else 1 : Int)] σ (PI K) := by
      refine TT_nmI (fun v8 e9 => ?_)
      replace h := h v8 e9
      refine TT_istore dX10_sizeWith_37 (Nat.le_of_ble_eq_true rfl) rfl rfl ?_
      refine TT_aload_n dX10_sizeWith_39 rfl ?_
      refine TT_getR (r := 90) dX10_sizeWith_40 fd_X10_37 (by decide) rfl (by decide) rfl rfl ?_
      refine TT_iload_n dX10_sizeWith_43 rfl ?_
      refine TT_zald dX10_sizeWith_44 (by decide) rfl (by decide) o3 ?_
      obtain ⟨o37, h⟩ := h
      have j12 : TT m_X10_sizeWith 66 [vR 80, vI x1, vI x2, vI x3, vI x4, vI v8, vU, vU, vU] [vI (if (σ 90 (x1).toNat) = 0 then (σ 89 (((6 * x1) + x4) + 1).toNat) else 0 : Int)] σ (PI K) := by
        refine TT_nmI (fun v13 e14 => ?_)
        replace h := h v13 e14
        refine TT_istore dX10_sizeWith_66 (Nat.le_of_ble_eq_true rfl) rfl rfl ?_
        refine TT_iload_n dX10_sizeWith_68 rfl ?_
        refine TT_ldc dX10_sizeWith_69 kc_X10_149 (x := (-900009)) rfl ?_
        obtain ⟨o15, h⟩ := h
        obtain ⟨o36, h⟩ := h
        have j33 : TT m_X10_sizeWith 154 [vR 80, vI x1, vI x2, vI x3, vI x4, vI (if x2 = (-900009) then v8 else (if ¬ (σ 90 (x1).toNat) = 0 then (σ 88 ((6 * x2) + x4).toNat) else (if v8 ≤ (σ 88 ((6 * x2) + x4).toNat) then v8 else (σ 88 ((6 * x2) + x4).toNat) : Int) : Int) : Int), vI (if x2 = (-900009) then v13 else (if ¬ (σ 90 (x1).toNat) = 0 then (σ 88 (((6 * x2) + x4) + 1).toNat) else (if (σ 88 (((6 * x2) + x4) + 1).toNat) ≤ v13 then v13 else (σ 88 (((6 * x2) + x4) + 1).toNat) : Int) : Int) : Int), vU, vU] [] σ (PI K) := by
          refine TT_iload_n dX10_sizeWith_154 rfl ?_
          refine TT_iload dX10_sizeWith_155 rfl ?_
          refine TT_iload dX10_sizeWith_157 rfl ?_
          refine TT_isub dX10_sizeWith_159 ?_
          refine TT_iconst dX10_sizeWith_160 ?_
          refine TT_iadd dX10_sizeWith_161 ?_
          refine TT_imul dX10_sizeWith_162 ?_
          refine TT_nmI (fun v34 e35 => ?_)
          replace h := h v34 e35
          refine TT_istore_n dX10_sizeWith_163 (Nat.le_of_ble_eq_true rfl) rfl rfl ?_
          refine TT_iinc dX10_sizeWith_164 (Nat.le_of_ble_eq_true rfl) rfl rfl rfl ?_
          refine TT_goto (tgt := 5) dX10_sizeWith_167 rfl ?_
          refine TT_kill 5 rfl ?_
          refine TT_kill 6 rfl ?_
          exact h
        refine TT_icmp_eq (tgt := 154) dX10_sizeWith_71 rfl o15 (by decide) (fun c16 => ?_) (fun c16 => ?_)
        · exact TT.cast j33 (by first | rfl | (simp only [if_pos c16] <;> rfl)) (by first | rfl | (simp only [if_pos c16] <;> rfl))
        · have h := o36 c16
          refine TT_aload_n dX10_sizeWith_74 rfl ?_
          refine TT_getR (r := 88) dX10_sizeWith_75 fd_X10_31 (by decide) rfl (by decide) rfl rfl ?_
          refine TT_bipush dX10_sizeWith_78 (by decide) ?_
          refine TT_iload_n dX10_sizeWith_80 rfl ?_
          refine TT_imul dX10_sizeWith_81 ?_
          refine TT_iload dX10_sizeWith_82 rfl ?_
          refine TT_iadd dX10_sizeWith_84 ?_
          obtain ⟨o17, h⟩ := h
          refine TT_iald dX10_sizeWith_85 (by decide) rfl (by decide) o17 ?_
          refine TT_istore dX10_sizeWith_86 (Nat.le_of_ble_eq_true rfl) rfl rfl ?_
          refine TT_aload_n dX10_sizeWith_88 rfl ?_
          refine TT_getR (r := 88) dX10_sizeWith_89 fd_X10_31 (by decide) rfl (by decide) rfl rfl ?_
          refine TT_bipush dX10_sizeWith_92 (by decide) ?_
          refine TT_iload_n dX10_sizeWith_94 rfl ?_
          refine TT_imul dX10_sizeWith_95 ?_
          refine TT_iload dX10_sizeWith_96 rfl ?_
          refine TT_iadd dX10_sizeWith_98 ?_
          refine TT_iconst dX10_sizeWith_99 ?_
          refine TT_iadd dX10_sizeWith_100 ?_
          obtain ⟨o18, h⟩ := h
          refine TT_iald dX10_sizeWith_101 (by decide) rfl (by decide) o18 ?_
          refine TT_istore dX10_sizeWith_102 (Nat.le_of_ble_eq_true rfl) rfl rfl ?_
          refine TT_aload_n dX10_sizeWith_104 rfl ?_
          refine TT_getR (r := 90) dX10_sizeWith_105 fd_X10_37 (by decide) rfl (by decide) rfl rfl ?_
          refine TT_iload_n dX10_sizeWith_108 rfl ?_
          refine TT_zald dX10_sizeWith_109 (by decide) rfl (by decide) o3 ?_
          obtain ⟨o32, h⟩ := h
          have j24 : TT m_X10_sizeWith 127 [vR 80, vI x1, vI x2, vI x3, vI x4, vI v8, vI v13, vI (σ 88 ((6 * x2) + x4).toNat), vI (σ 88 (((6 * x2) + x4) + 1).toNat)] [vI (if ¬ (σ 90 (x1).toNat) = 0 then (σ 88 ((6 * x2) + x4).toNat) else (if v8 ≤ (σ 88 ((6 * x2) + x4).toNat) then v8 else (σ 88 ((6 * x2) + x4).toNat) : Int) : Int)] σ (PI K) := by
            refine TT_istore dX10_sizeWith_127 (Nat.le_of_ble_eq_true rfl) rfl rfl ?_
            refine TT_aload_n dX10_sizeWith_129 rfl ?_
            refine TT_getR (r := 90) dX10_sizeWith_130 fd_X10_37 (by decide) rfl (by decide) rfl rfl ?_
            refine TT_iload_n dX10_sizeWith_133 rfl ?_
            refine TT_zald dX10_sizeWith_134 (by decide) rfl (by decide) o3 ?_
            have o31 := h
            have j30 : TT m_X10_sizeWith 152 [vR 80, vI x1, vI x2, vI x3, vI x4, vI (if ¬ (σ 90 (x1).toNat) = 0 then (σ 88 ((6 * x2) + x4).toNat) else (if v8 ≤ (σ 88 ((6 * x2) + x4).toNat) then v8 else (σ 88 ((6 * x2) + x4).toNat) : Int) : Int), vI v13, vI (σ 88 ((6 * x2) + x4).toNat), vI (σ 88 (((6 * x2) + x4) + 1).toNat)] [vI (if ¬ (σ 90 (x1).toNat) = 0 then (σ 88 (((6 * x2) + x4) + 1).toNat) else (if (σ 88 (((6 * x2) + x4) + 1).toNat) ≤ v13 then v13 else (σ 88 (((6 * x2) + x4) + 1).toNat) : Int) : Int)] σ (PI K) := by
              refine TT_istore dX10_sizeWith_152 (Nat.le_of_ble_eq_true rfl) rfl rfl ?_
              refine TT_kill 7 rfl ?_
              refine TT_kill 8 rfl ?_
              exact TT.cast j33 (by first | rfl | (simp only [if_neg c16] <;> rfl)) (by first | rfl | (simp only [if_neg c16] <;> rfl))
            refine TT_if_ne (tgt := 145) dX10_sizeWith_135 rfl o4 (fun c25 => ?_) (fun c25 => ?_)
            · refine TT_iload dX10_sizeWith_145 rfl ?_
              refine TT_goto (tgt := 152) dX10_sizeWith_147 rfl ?_
              exact TT.cast j30 (by first | rfl | (simp only [if_pos c25] <;> rfl)) (by first | rfl | (simp only [if_pos c25] <;> rfl))
            · have h := o31 c25
              refine TT_iload dX10_sizeWith_138 rfl ?_
              refine TT_iload dX10_sizeWith_140 rfl ?_
              obtain ⟨o26, h⟩ := h
              have o27 := h
              have j29 : TT m_X10_sizeWith 152 [vR 80, vI x1, vI x2, vI x3, vI x4, vI (if ¬ (σ 90 (x1).toNat) = 0 then (σ 88 ((6 * x2) + x4).toNat) else (if v8 ≤ (σ 88 ((6 * x2) + x4).toNat) then v8 else (σ 88 ((6 * x2) + x4).toNat) : Int) : Int), vI v13, vI (σ 88 ((6 * x2) + x4).toNat), vI (σ 88 (((6 * x2) + x4) + 1).toNat)] [vI (if (σ 88 (((6 * x2) + x4) + 1).toNat) ≤ v13 then v13 else (σ 88 (((6 * x2) + x4) + 1).toNat) : Int)] σ (PI K) := by
                exact TT.cast j30 (by first | rfl | (simp only [if_neg (not_not_intro c25)] <;> rfl)) (by first | rfl | (simp only [if_neg (not_not_intro c25)] <;> rfl))
              refine TT_icmp_le (tgt := 150) dX10_sizeWith_142 rfl o26 o27 (fun c28 => ?_) (fun c28 => ?_)
              · refine TT_iload dX10_sizeWith_150 rfl ?_
                exact TT.cast j29 (by first | rfl | (simp only [if_pos c28] <;> rfl)) (by first | rfl | (simp only [if_pos c28] <;> rfl))
              · refine TT_iload dX10_sizeWith_145 rfl ?_
                refine TT_goto (tgt := 152) dX10_sizeWith_147 rfl ?_
                exact TT.cast j29 (by first | rfl | (simp only [if_neg c28] <;> rfl)) (by first | rfl | (simp only [if_neg c28] <;> rfl))
          refine TT_if_ne (tgt := 120) dX10_sizeWith_110 rfl o4 (fun c19 => ?_) (fun c19 => ?_)
          · refine TT_iload dX10_sizeWith_120 rfl ?_
            refine TT_goto (tgt := 127) dX10_sizeWith_122 rfl ?_
            exact TT.cast j24 (by first | rfl | (simp only [if_pos c19] <;> rfl)) (by first | rfl | (simp only [if_pos c19] <;> rfl))
          · have h := o32 c19
            refine TT_iload dX10_sizeWith_113 rfl ?_
            refine TT_iload dX10_sizeWith_115 rfl ?_
            obtain ⟨o20, h⟩ := h
            have o21 := h
            have j23 : TT m_X10_sizeWith 127 [vR 80, vI x1, vI x2, vI x3, vI x4, vI v8, vI v13, vI (σ 88 ((6 * x2) + x4).toNat), vI (σ 88 (((6 * x2) + x4) + 1).toNat)] [vI (if v8 ≤ (σ 88 ((6 * x2) + x4).toNat) then v8 else (σ 88 ((6 * x2) + x4).toNat) : Int)] σ (PI K) := by
              exact TT.cast j24 (by first | rfl | (simp only [if_neg (not_not_intro c19)] <;> rfl)) (by first | rfl | (simp only [if_neg (not_not_intro c19)] <;> rfl))
            refine TT_icmp_ge (tgt := 125) dX10_sizeWith_117 rfl o20 o21 (fun c22 => ?_) (fun c22 => ?_)
            · refine TT_iload dX10_sizeWith_125 rfl ?_
              exact TT.cast j23 (by first | rfl | (simp only [if_pos c22] <;> rfl)) (by first | rfl | (simp only [if_pos c22] <;> rfl))
            · refine TT_iload dX10_sizeWith_120 rfl ?_
              refine TT_goto (tgt := 127) dX10_sizeWith_122 rfl ?_
              exact TT.cast j23 (by first | rfl | (simp only [if_neg c22] <;> rfl)) (by first | rfl | (simp only [if_neg c22] <;> rfl))
      refine TT_if_eq (tgt := 52) dX10_sizeWith_45 rfl o4 (fun c10 => ?_) (fun c10 => ?_)
      · have h := o37 c10
        refine TT_aload_n dX10_sizeWith_52 rfl ?_
        refine TT_getR (r := 89) dX10_sizeWith_53 fd_X10_34 (by decide) rfl (by decide) rfl rfl ?_
        refine TT_bipush dX10_sizeWith_56 (by decide) ?_
        refine TT_iload_n dX10_sizeWith_58 rfl ?_
        refine TT_imul dX10_sizeWith_59 ?_
        refine TT_iload dX10_sizeWith_60 rfl ?_
        refine TT_iadd dX10_sizeWith_62 ?_
        refine TT_iconst dX10_sizeWith_63 ?_
        refine TT_iadd dX10_sizeWith_64 ?_
        have o11 := h
        refine TT_iald dX10_sizeWith_65 (by decide) rfl (by decide) o11 ?_
        exact TT.cast j12 (by first | rfl | (simp only [if_pos c10] <;> rfl)) (by first | rfl | (simp only [if_pos c10] <;> rfl))
      · refine TT_iconst dX10_sizeWith_48 ?_
        refine TT_goto (tgt := 66) dX10_sizeWith_49 rfl ?_
        exact TT.cast j12 (by first | rfl | (simp only [if_neg c10] <;> rfl)) (by first | rfl | (simp only [if_neg c10] <;> rfl))
    refine TT_if_eq (tgt := 25) dX10_sizeWith_18 rfl o4 (fun c5 => ?_) (fun c5 => ?_)
    · have h := o38 c5
      refine TT_aload_n dX10_sizeWith_25 rfl ?_
      refine TT_getR (r := 89) dX10_sizeWith_26 fd_X10_34 (by decide) rfl (by decide) rfl rfl ?_
      refine TT_bipush dX10_sizeWith_29 (by decide) ?_
      refine TT_iload_n dX10_sizeWith_31 rfl ?_
      refine TT_imul dX10_sizeWith_32 ?_
      refine TT_iload dX10_sizeWith_33 rfl ?_
      refine TT_iadd dX10_sizeWith_35 ?_
      have o6 := h
      refine TT_iald dX10_sizeWith_36 (by decide) rfl (by decide) o6 ?_
      exact TT.cast j7 (by first | rfl | (simp only [if_pos c5] <;> rfl)) (by first | rfl | (simp only [if_pos c5] <;> rfl))
    · refine TT_iconst dX10_sizeWith_21 ?_
      refine TT_goto (tgt := 37) dX10_sizeWith_22 rfl ?_
      exact TT.cast j7 (by first | rfl | (simp only [if_neg c5] <;> rfl)) (by first | rfl | (simp only [if_neg c5] <;> rfl))
set_option maxRecDepth 4000 in
theorem w_X10_join_0 (x1 : Int) (x2 : Int) {σ : Mem} {K : Mem → Prop} (h : TT m_X10_join 2 [vR 80, vI x1, vI x2, vI 0, vU, vU] [] σ (PN K)) : TT m_X10_join 0 [vR 80, vI x1, vI x2, vU, vU, vU] [] σ (PN K) := by
  refine TT_iconst dX10_join_0 ?_
  refine TT_istore_n dX10_join_1 (Nat.le_of_ble_eq_true rfl) rfl rfl ?_
  exact h
theorem e_X10_join (x1 : Int) (x2 : Int) {σ : Mem} {K : Mem → Prop} (h : TT m_X10_join 2 [vR 80, vI x1, vI x2, vI 0, vU, vU] [] σ (PN K)) : CC m_X10_join [vR 80, vI x1, vI x2] σ (PN K) := CC_of (by decide) rfl rfl rfl (Nat.le_of_ble_eq_true rfl) (w_X10_join_0 x1 x2 h)
set_option maxRecDepth 4000 in
theorem w_X10_join_2 (x1 : Int) (x2 : Int) (x3 : Int) {σ : Mem} {K : Mem → Prop} (h : R32 x3 ∧ ((6 ≤ x3 → (0 ≤ x1 ∧ x1 < 500) ∧ (∀ s4 : Mem, s4 = up σ 90 (x1).toNat 0 → K s4)) ∧ (¬ 6 ≤ x3 → (0 ≤ ((6 * x2) + x3) ∧ ((6 * x2) + x3) < 1440) ∧ (0 ≤ (((6 * x2) + x3) + 1) ∧ (((6 * x2) + x3) + 1) < 1440) ∧ (∀ v8 : Int, v8 = (σ 88 (((6 * x2) + x3) + 1).toNat) → (0 ≤ x1 ∧ x1 < 500) ∧ R32 (σ 90 (x1).toNat) ∧ ((σ 90 (x1).toNat) = 0 → (0 ≤ ((6 * x1) + x3) ∧ ((6 * x1) + x3) < 3000) ∧ R32 (σ 88 ((6 * x2) + x3).toNat) ∧ R32 (σ 89 ((6 * x1) + x3).toNat)) ∧ (0 ≤ ((6 * x1) + x3) ∧ ((6 * x1) + x3) < 3000) ∧ (∀ s20 : Mem, s20 = up σ 89 ((6 * x1) + x3).toNat (if ¬ (σ 90 (x1).toNat) = 0 then (σ 88 ((6 * x2) + x3).toNat) else (if (σ 89 ((6 * x1) + x3).toNat) ≤ (σ 88 ((6 * x2) + x3).toNat) then (σ 89 ((6 * x1) + x3).toNat) else (σ 88 ((6 * x2) + x3).toNat) : Int) : Int) → R32 (s20 90 (x1).toNat) ∧ ((s20 90 (x1).toNat) = 0 → (0 ≤ (((6 * x1) + x3) + 1) ∧ (((6 * x1) + x3) + 1) < 3000) ∧ R32 v8 ∧ R32 (s20 89 (((6 * x1) + x3) + 1).toNat)) ∧ (0 ≤ (((6 * x1) + x3) + 1) ∧ (((6 * x1) + x3) + 1) < 3000) ∧ (∀ s31 : Mem, s31 = up s20 89 (((6 * x1) + x3) + 1).toNat (if ¬ (s20 90 (x1).toNat) = 0 then v8 else (if v8 ≤ (s20 89 (((6 * x1) + x3) + 1).toNat) then (s20 89 (((6 * x1) + x3) + 1).toNat) else v8 : Int) : Int) → TT m_X10_join 2 [vR 80, vI x1, vI x2, vI (x3 + 2), vU, vU] [] s31 (PN K))))))) : TT m_X10_join 2 [vR 80, vI x1, vI x2, vI x3, vU, vU] [] σ (PN K) := by
  refine TT_iload_n dX10_join_2 rfl ?_
  refine TT_bipush dX10_join_3 (by decide) ?_
  obtain ⟨o1, h⟩ := h
  refine TT_icmp_ge (tgt := 152) dX10_join_5 rfl o1 (by decide) (fun c2 => ?_) (fun c2 => ?_)
  · replace h := h.1 c2
    refine TT_aload_n dX10_join_152 rfl ?_
    refine TT_getR (r := 90) dX10_join_153 fd_X10_37 (by decide) rfl (by decide) rfl rfl ?_
    refine TT_iload_n dX10_join_156 rfl ?_
    refine TT_iconst dX10_join_157 ?_
    obtain ⟨o3, h⟩ := h
    refine TT_zast dX10_join_158 (Or.inl rfl) (by decide) rfl (by decide) o3 ?_
    refine TT_nmM (fun s4 e5 => ?_)
    replace h := h s4 e5
    exact TT_vret dX10_join_159 rfl rfl h
  · replace h := h.2 c2
    refine TT_aload_n dX10_join_8 rfl ?_
    refine TT_getR (r := 88) dX10_join_9 fd_X10_31 (by decide) rfl (by decide) rfl rfl ?_
    refine TT_bipush dX10_join_12 (by decide) ?_
    refine TT_iload_n dX10_join_14 rfl ?_
    refine TT_imul dX10_join_15 ?_
    refine TT_iload_n dX10_join_16 rfl ?_
    refine TT_iadd dX10_join_17 ?_
    obtain ⟨o6, h⟩ := h
    refine TT_iald dX10_join_18 (by decide) rfl (by decide) o6 ?_
    refine TT_istore dX10_join_19 (Nat.le_of_ble_eq_true rfl) rfl rfl ?_
    refine TT_aload_n dX10_join_21 rfl ?_
    refine TT_getR (r := 88) dX10_join_22 fd_X10_31 (by decide) rfl (by decide) rfl rfl ?_
    refine TT_bipush dX10_join_25 (by decide) ?_
    refine TT_iload_n dX10_join_27 rfl ?_
    refine TT_imul dX10_join_28 ?_
    refine TT_iload_n dX10_join_29 rfl ?_
    refine TT_iadd dX10_join_30 ?_
    refine TT_iconst dX10_join_31 ?_
    refine TT_iadd dX10_join_32 ?_
    obtain ⟨o7, h⟩ := h
    refine TT_iald dX10_join_33 (by decide) rfl (by decide) o7 ?_
    refine TT_nmI (fun v8 e9 => ?_)
    replace h := h v8 e9
    refine TT_istore dX10_join_34 (Nat.le_of_ble_eq_true rfl) rfl rfl ?_
    refine TT_aload_n dX10_join_36 rfl ?_
    refine TT_getR (r := 89) dX10_join_37 fd_X10_34 (by decide) rfl (by decide) rfl rfl ?_
    refine TT_bipush dX10_join_40 (by decide) ?_
    refine TT_iload_n dX10_join_42 rfl ?_
    refine TT_imul dX10_join_43 ?_
    refine TT_iload_n dX10_join_44 rfl ?_
    refine TT_iadd dX10_join_45 ?_
    refine TT_aload_n dX10_join_46 rfl ?_
    refine TT_getR (r := 90) dX10_join_47 fd_X10_37 (by decide) rfl (by decide) rfl rfl ?_
    refine TT_iload_n dX10_join_50 rfl ?_
    obtain ⟨o10, h⟩ := h
    refine TT_zald dX10_join_51 (by decide) rfl (by decide) o10 ?_
    obtain ⟨o11, h⟩ := h
    obtain ⟨o34, h⟩ := h
    have j18 : TT m_X10_join 87 [vR 80, vI x1, vI x2, vI x3, vI (σ 88 ((6 * x2) + x3).toNat), vI v8] [vI (if ¬ (σ 90 (x1).toNat) = 0 then (σ 88 ((6 * x2) + x3).toNat) else (if (σ 89 ((6 * x1) + x3).toNat) ≤ (σ 88 ((6 * x2) + x3).toNat) then (σ 89 ((6 * x1) + x3).toNat) else (σ 88 ((6 * x2) + x3).toNat) : Int) : Int), vI ((6 * x1) + x3), vR 89] σ (PN K) := by
      obtain ⟨o19, h⟩ := h
      refine TT_iast dX10_join_87 (by decide) rfl (by decide) o19 ?_
      refine TT_nmM (fun s20 e21 => ?_)
      replace h := h s20 e21
      refine TT_aload_n dX10_join_88 rfl ?_
      refine TT_getR (r := 89) dX10_join_89 fd_X10_34 (by decide) rfl (by decide) rfl rfl ?_
      refine TT_bipush dX10_join_92 (by decide) ?_
      refine TT_iload_n dX10_join_94 rfl ?_
      refine TT_imul dX10_join_95 ?_
      refine TT_iload_n dX10_join_96 rfl ?_
      refine TT_iadd dX10_join_97 ?_
      refine TT_iconst dX10_join_98 ?_
      refine TT_iadd dX10_join_99 ?_
      refine TT_aload_n dX10_join_100 rfl ?_
      refine TT_getR (r := 90) dX10_join_101 fd_X10_37 (by decide) rfl (by decide) rfl rfl ?_
      refine TT_iload_n dX10_join_104 rfl ?_
      refine TT_zald dX10_join_105 (by decide) rfl (by decide) o10 ?_
      obtain ⟨o22, h⟩ := h
      obtain ⟨o33, h⟩ := h
      have j29 : TT m_X10_join 145 [vR 80, vI x1, vI x2, vI x3, vI (σ 88 ((6 * x2) + x3).toNat), vI v8] [vI (if ¬ (s20 90 (x1).toNat) = 0 then v8 else (if v8 ≤ (s20 89 (((6 * x1) + x3) + 1).toNat) then (s20 89 (((6 * x1) + x3) + 1).toNat) else v8 : Int) : Int), vI (((6 * x1) + x3) + 1), vR 89] s20 (PN K) := by
        obtain ⟨o30, h⟩ := h
        refine TT_iast dX10_join_145 (by decide) rfl (by decide) o30 ?_
        refine TT_nmM (fun s31 e32 => ?_)
        replace h := h s31 e32
        refine TT_iinc dX10_join_146 (Nat.le_of_ble_eq_true rfl) rfl rfl rfl ?_
        refine TT_goto (tgt := 2) dX10_join_149 rfl ?_
        refine TT_kill 4 rfl ?_
        refine TT_kill 5 rfl ?_
        exact h
      refine TT_if_ne (tgt := 127) dX10_join_106 rfl o22 (fun c23 => ?_) (fun c23 => ?_)
      · refine TT_iload dX10_join_127 rfl ?_
        refine TT_goto (tgt := 145) dX10_join_129 rfl ?_
        exact TT.cast j29 (by first | rfl | (simp only [if_pos c23] <;> rfl)) (by first | rfl | (simp only [if_pos c23] <;> rfl))
      · have h := o33 c23
        refine TT_iload dX10_join_109 rfl ?_
        refine TT_aload_n dX10_join_111 rfl ?_
        refine TT_getR (r := 89) dX10_join_112 fd_X10_34 (by decide) rfl (by decide) rfl rfl ?_
        refine TT_bipush dX10_join_115 (by decide) ?_
        refine TT_iload_n dX10_join_117 rfl ?_
        refine TT_imul dX10_join_118 ?_
        refine TT_iload_n dX10_join_119 rfl ?_
        refine TT_iadd dX10_join_120 ?_
        refine TT_iconst dX10_join_121 ?_
        refine TT_iadd dX10_join_122 ?_
        obtain ⟨o24, h⟩ := h
        refine TT_iald dX10_join_123 (by decide) rfl (by decide) o24 ?_
        obtain ⟨o25, h⟩ := h
        have o26 := h
        have j28 : TT m_X10_join 145 [vR 80, vI x1, vI x2, vI x3, vI (σ 88 ((6 * x2) + x3).toNat), vI v8] [vI (if v8 ≤ (s20 89 (((6 * x1) + x3) + 1).toNat) then (s20 89 (((6 * x1) + x3) + 1).toNat) else v8 : Int), vI (((6 * x1) + x3) + 1), vR 89] s20 (PN K) := by
          exact TT.cast j29 (by first | rfl | (simp only [if_neg (not_not_intro c23)] <;> rfl)) (by first | rfl | (simp only [if_neg (not_not_intro c23)] <;> rfl))
        refine TT_icmp_le (tgt := 132) dX10_join_124 rfl o25 o26 (fun c27 => ?_) (fun c27 => ?_)
        · refine TT_aload_n dX10_join_132 rfl ?_
          refine TT_getR (r := 89) dX10_join_133 fd_X10_34 (by decide) rfl (by decide) rfl rfl ?_
          refine TT_bipush dX10_join_136 (by decide) ?_
          refine TT_iload_n dX10_join_138 rfl ?_
          refine TT_imul dX10_join_139 ?_
          refine TT_iload_n dX10_join_140 rfl ?_
          refine TT_iadd dX10_join_141 ?_
          refine TT_iconst dX10_join_142 ?_
          refine TT_iadd dX10_join_143 ?_
          refine TT_iald dX10_join_144 (by decide) rfl (by decide) o24 ?_
          exact TT.cast j28 (by first | rfl | (simp only [if_pos c27] <;> rfl)) (by first | rfl | (simp only [if_pos c27] <;> rfl))
        · refine TT_iload dX10_join_127 rfl ?_
          refine TT_goto (tgt := 145) dX10_join_129 rfl ?_
          exact TT.cast j28 (by first | rfl | (simp only [if_neg c27] <;> rfl)) (by first | rfl | (simp only [if_neg c27] <;> rfl))
    refine TT_if_ne (tgt := 71) dX10_join_52 rfl o11 (fun c12 => ?_) (fun c12 => ?_)
    · refine TT_iload dX10_join_71 rfl ?_
      refine TT_goto (tgt := 87) dX10_join_73 rfl ?_
      exact TT.cast j18 (by first | rfl | (simp only [if_pos c12] <;> rfl)) (by first | rfl | (simp only [if_pos c12] <;> rfl))
    · have h := o34 c12
      refine TT_iload dX10_join_55 rfl ?_
      refine TT_aload_n dX10_join_57 rfl ?_
      refine TT_getR (r := 89) dX10_join_58 fd_X10_34 (by decide) rfl (by decide) rfl rfl ?_
      refine TT_bipush dX10_join_61 (by decide) ?_
      refine TT_iload_n dX10_join_63 rfl ?_
      refine TT_imul dX10_join_64 ?_
      refine TT_iload_n dX10_join_65 rfl ?_
      refine TT_iadd dX10_join_66 ?_
      obtain ⟨o13, h⟩ := h
      refine TT_iald dX10_join_67 (by decide) rfl (by decide) o13 ?_
      obtain ⟨o14, h⟩ := h
      have o15 := h
      have j17 : TT m_X10_join 87 [vR 80, vI x1, vI x2, vI x3, vI (σ 88 ((6 * x2) + x3).toNat), vI v8] [vI (if (σ 89 ((6 * x1) + x3).toNat) ≤ (σ 88 ((6 * x2) + x3).toNat) then (σ 89 ((6 * x1) + x3).toNat) else (σ 88 ((6 * x2) + x3).toNat) : Int), vI ((6 * x1) + x3), vR 89] σ (PN K) := by
        exact TT.cast j18 (by first | rfl | (simp only [if_neg (not_not_intro c12)] <;> rfl)) (by first | rfl | (simp only [if_neg (not_not_intro c12)] <;> rfl))
      refine TT_icmp_ge (tgt := 76) dX10_join_68 rfl o14 o15 (fun c16 => ?_) (fun c16 => ?_)
      · refine TT_aload_n dX10_join_76 rfl ?_
        refine TT_getR (r := 89) dX10_join_77 fd_X10_34 (by decide) rfl (by decide) rfl rfl ?_
        refine TT_bipush dX10_join_80 (by decide) ?_
        refine TT_iload_n dX10_join_82 rfl ?_
        refine TT_imul dX10_join_83 ?_
        refine TT_iload_n dX10_join_84 rfl ?_
        refine TT_iadd dX10_join_85 ?_
        refine TT_iald dX10_join_86 (by decide) rfl (by decide) o13 ?_
        exact TT.cast j17 (by first | rfl | (simp only [if_pos c16] <;> rfl)) (by first | rfl | (simp only [if_pos c16] <;> rfl))
      · refine TT_iload dX10_join_71 rfl ?_
        refine TT_goto (tgt := 87) dX10_join_73 rfl ?_
        exact TT.cast j17 (by first | rfl | (simp only [if_neg c16] <;> rfl)) (by first | rfl | (simp only [if_neg c16] <;> rfl))
set_option maxRecDepth 4000 in
theorem w_X10_growth_0 (x1 : Int) (x2 : Int) {σ : Mem} {K : Int → Mem → Prop} (h : CC m_X10_sizeWith [vR 80, vI x1, vI x2] σ (PI (fun y1 s2 => CC m_X10_sizeWith [vR 80, vI x1, vI (-900009)] s2 (PI (fun y3 s4 => K (y1 - y3) s4))))) : TT m_X10_growth 0 [vR 80, vI x1, vI x2] [] σ (PI K) := by
  refine TT_aload_n dX10_growth_0 rfl ?_
  refine TT_iload_n dX10_growth_1 rfl ?_
  refine TT_iload_n dX10_growth_2 rfl ?_
  refine TT_callVI (M' := m_X10_sizeWith) (as := [vI x1, vI x2]) (rest := []) dX10_growth_3 mo_X10_sizeWith ml_X10_204 im_X10_sizeWith se_X10_sizeWith (Nat.le_of_ble_eq_true rfl) (Nat.le_of_ble_eq_true rfl) ⟨rfl, rfl, rfl⟩ rfl rfl (Nat.le_of_ble_eq_true rfl) (by decide) rfl rfl (by decide) h (fun y1 s2 h => ?_)
  refine TT_aload_n dX10_growth_6 rfl ?_
  refine TT_iload_n dX10_growth_7 rfl ?_
  refine TT_ldc dX10_growth_8 kc_X10_149 (x := (-900009)) rfl ?_
  refine TT_callVI (M' := m_X10_sizeWith) (as := [vI x1, vI (-900009)]) (rest := [vI y1]) dX10_growth_10 mo_X10_sizeWith ml_X10_204 im_X10_sizeWith se_X10_sizeWith (Nat.le_of_ble_eq_true rfl) (Nat.le_of_ble_eq_true rfl) ⟨rfl, rfl, rfl⟩ rfl rfl (Nat.le_of_ble_eq_true rfl) (by decide) rfl rfl (by decide) h (fun y3 s4 h => ?_)
  refine TT_isub dX10_growth_13 ?_
  exact TT_iret dX10_growth_14 rfl rfl h
theorem e_X10_growth (x1 : Int) (x2 : Int) {σ : Mem} {K : Int → Mem → Prop} (h : CC m_X10_sizeWith [vR 80, vI x1, vI x2] σ (PI (fun y1 s2 => CC m_X10_sizeWith [vR 80, vI x1, vI (-900009)] s2 (PI (fun y3 s4 => K (y1 - y3) s4))))) : CC m_X10_growth [vR 80, vI x1, vI x2] σ (PI K) := CC_of (by decide) rfl rfl rfl (Nat.le_of_ble_eq_true rfl) (w_X10_growth_0 x1 x2 h)
set_option maxRecDepth 4000 in
theorem w_X10_put_0 (x1 : Int) (x2 : Int) {σ : Mem} {K : Mem → Prop} (h : (0 ≤ x1 ∧ x1 < 500) ∧ (0 ≤ ((5 * x1) + (σ 93 (x1).toNat)) ∧ ((5 * x1) + (σ 93 (x1).toNat)) < 2500) ∧ (∀ s3 : Mem, s3 = up σ 94 ((5 * x1) + (σ 93 (x1).toNat)).toNat x2 → (∀ s5 : Mem, s5 = up s3 93 (x1).toNat ((s3 93 (x1).toNat) + 1) → CC m_X10_join [vR 80, vI x1, vI x2] s5 (PN (fun s8 => K s8))))) : TT m_X10_put 0 [vR 80, vI x1, vI x2] [] σ (PN K) := by
  refine TT_aload_n dX10_put_0 rfl ?_
  refine TT_getR (r := 94) dX10_put_1 fd_X10_50 (by decide) rfl (by decide) rfl rfl ?_
  refine TT_iconst dX10_put_4 ?_
  refine TT_iload_n dX10_put_5 rfl ?_
  refine TT_imul dX10_put_6 ?_
  refine TT_aload_n dX10_put_7 rfl ?_
  refine TT_getR (r := 93) dX10_put_8 fd_X10_47 (by decide) rfl (by decide) rfl rfl ?_
  refine TT_iload_n dX10_put_11 rfl ?_
  obtain ⟨o1, h⟩ := h
  refine TT_iald dX10_put_12 (by decide) rfl (by decide) o1 ?_
  refine TT_iadd dX10_put_13 ?_
  refine TT_iload_n dX10_put_14 rfl ?_
  obtain ⟨o2, h⟩ := h
  refine TT_iast dX10_put_15 (by decide) rfl (by decide) o2 ?_
  refine TT_nmM (fun s3 e4 => ?_)
  replace h := h s3 e4
  refine TT_aload_n dX10_put_16 rfl ?_
  refine TT_getR (r := 93) dX10_put_17 fd_X10_47 (by decide) rfl (by decide) rfl rfl ?_
  refine TT_iload_n dX10_put_20 rfl ?_
  refine TT_dup2 dX10_put_21 rfl rfl ?_
  refine TT_iald dX10_put_22 (by decide) rfl (by decide) o1 ?_
  refine TT_iconst dX10_put_23 ?_
  refine TT_iadd dX10_put_24 ?_
  refine TT_iast dX10_put_25 (by decide) rfl (by decide) o1 ?_
  refine TT_nmM (fun s5 e6 => ?_)
  replace h := h s5 e6
  refine TT_aload_n dX10_put_26 rfl ?_
  refine TT_iload_n dX10_put_27 rfl ?_
  refine TT_iload_n dX10_put_28 rfl ?_
  refine TT_callVN (M' := m_X10_join) (as := [vI x1, vI x2]) (rest := []) dX10_put_29 mo_X10_join ml_X10_208 im_X10_join se_X10_join (Nat.le_of_ble_eq_true rfl) (Nat.le_of_ble_eq_true rfl) ⟨rfl, rfl, rfl⟩ rfl rfl (Nat.le_of_ble_eq_true rfl) (by decide) rfl rfl (by decide) h (fun s8 h => ?_)
  exact TT_vret dX10_put_32 rfl rfl h
theorem e_X10_put (x1 : Int) (x2 : Int) {σ : Mem} {K : Mem → Prop} (h : (0 ≤ x1 ∧ x1 < 500) ∧ (0 ≤ ((5 * x1) + (σ 93 (x1).toNat)) ∧ ((5 * x1) + (σ 93 (x1).toNat)) < 2500) ∧ (∀ s3 : Mem, s3 = up σ 94 ((5 * x1) + (σ 93 (x1).toNat)).toNat x2 → (∀ s5 : Mem, s5 = up s3 93 (x1).toNat ((s3 93 (x1).toNat) + 1) → CC m_X10_join [vR 80, vI x1, vI x2] s5 (PN (fun s8 => K s8))))) : CC m_X10_put [vR 80, vI x1, vI x2] σ (PN K) := CC_of (by decide) rfl rfl rfl (Nat.le_of_ble_eq_true rfl) (w_X10_put_0 x1 x2 h)
set_option maxRecDepth 4000 in
theorem w_X10_addLeg_0 (x1 : Int) {σ : Mem} {K : Mem → Prop} (h : TT m_X10_addLeg 2 [vR 80, vI x1, vI 0] [] σ (PN K)) : TT m_X10_addLeg 0 [vR 80, vI x1, vU] [] σ (PN K) := by
  refine TT_iconst dX10_addLeg_0 ?_
  refine TT_istore_n dX10_addLeg_1 (Nat.le_of_ble_eq_true rfl) rfl rfl ?_
  exact h
theorem e_X10_addLeg (x1 : Int) {σ : Mem} {K : Mem → Prop} (h : TT m_X10_addLeg 2 [vR 80, vI x1, vI 0] [] σ (PN K)) : CC m_X10_addLeg [vR 80, vI x1] σ (PN K) := CC_of (by decide) rfl rfl rfl (Nat.le_of_ble_eq_true rfl) (w_X10_addLeg_0 x1 h)
set_option maxRecDepth 4000 in
theorem w_X10_addLeg_2 (x1 : Int) (x2 : Int) {σ : Mem} {K : Mem → Prop} (h : (0 ≤ x2 ∧ x2 < 500) ∧ R32 (σ 91 (x2).toNat) ∧ (((σ 91 (x2).toNat) = (-900009) → CC m_X10_put [vR 80, vI x2, vI x1] σ (PN (fun s5 => R32 (s5 93 (x2).toNat) ∧ ((¬ (s5 93 (x2).toNat) = 5 → K s5) ∧ ((s5 93 (x2).toNat) = 5 → CC m_X10_cut [vR 80, vI x2] s5 (PN (fun s9 => K s9))))))) ∧ (¬ (σ 91 (x2).toNat) = (-900009) → CC m_X10_join [vR 80, vI x2, vI x1] σ (PN (fun s11 => CC m_X10_growth [vR 80, vI ((s11 91 (x2).toNat) + 1), vI x1] s11 (PI (fun y12 s13 => CC m_X10_growth [vR 80, vI (s13 91 (x2).toNat), vI x1] s13 (PI (fun y14 s15 => R32 y12 ∧ R32 y14 ∧ (∀ v20 : Int, v20 = (if y14 ≤ y12 then (s15 91 (x2).toNat) else ((s15 91 (x2).toNat) + 1) : Int) → TT m_X10_addLeg 2 [vR 80, vI x1, vI v20] [] s15 (PN K))))))))))) : TT m_X10_addLeg 2 [vR 80, vI x1, vI x2] [] σ (PN K) := by
  refine TT_aload_n dX10_addLeg_2 rfl ?_
  refine TT_getR (r := 91) dX10_addLeg_3 fd_X10_41 (by decide) rfl (by decide) rfl rfl ?_
  refine TT_iload_n dX10_addLeg_6 rfl ?_
  obtain ⟨o1, h⟩ := h
  refine TT_iald dX10_addLeg_7 (by decide) rfl (by decide) o1 ?_
  refine TT_ldc dX10_addLeg_8 kc_X10_149 (x := (-900009)) rfl ?_
  obtain ⟨o2, h⟩ := h
  refine TT_icmp_eq (tgt := 67) dX10_addLeg_10 rfl o2 (by decide) (fun c3 => ?_) (fun c3 => ?_)
  · replace h := h.1 c3
    refine TT_aload_n dX10_addLeg_67 rfl ?_
    refine TT_iload_n dX10_addLeg_68 rfl ?_
    refine TT_iload_n dX10_addLeg_69 rfl ?_
    refine TT_callVN (M' := m_X10_put) (as := [vI x2, vI x1]) (rest := []) dX10_addLeg_70 mo_X10_put ml_X10_214 im_X10_put se_X10_put (Nat.le_of_ble_eq_true rfl) (Nat.le_of_ble_eq_true rfl) ⟨rfl, rfl, rfl⟩ rfl rfl (Nat.le_of_ble_eq_true rfl) (by decide) rfl rfl (by decide) h (fun s5 h => ?_)
    refine TT_aload_n dX10_addLeg_73 rfl ?_
    refine TT_getR (r := 93) dX10_addLeg_74 fd_X10_47 (by decide) rfl (by decide) rfl rfl ?_
    refine TT_iload_n dX10_addLeg_77 rfl ?_
    refine TT_iald dX10_addLeg_78 (by decide) rfl (by decide) o1 ?_
    refine TT_iconst dX10_addLeg_79 ?_
    obtain ⟨o6, h⟩ := h
    refine TT_icmp_ne (tgt := 88) dX10_addLeg_80 rfl o6 (by decide) (fun c7 => ?_) (fun c7 => ?_)
    · replace h := h.1 c7
      exact TT_vret dX10_addLeg_88 rfl rfl h
    · replace h := h.2 c7
      refine TT_aload_n dX10_addLeg_83 rfl ?_
      refine TT_iload_n dX10_addLeg_84 rfl ?_
      refine TT_callVN (M' := m_X10_cut) (as := [vI x2]) (rest := []) dX10_addLeg_85 mo_X10_cut ml_X10_217 im_X10_cut se_X10_cut (Nat.le_of_ble_eq_true rfl) (Nat.le_of_ble_eq_true rfl) ⟨rfl, rfl, rfl⟩ rfl rfl (Nat.le_of_ble_eq_true rfl) (by decide) rfl rfl (by decide) h (fun s9 h => ?_)
      exact TT_vret dX10_addLeg_88 rfl rfl h
  · replace h := h.2 c3
    refine TT_aload_n dX10_addLeg_13 rfl ?_
    refine TT_iload_n dX10_addLeg_14 rfl ?_
    refine TT_iload_n dX10_addLeg_15 rfl ?_
    refine TT_callVN (M' := m_X10_join) (as := [vI x2, vI x1]) (rest := []) dX10_addLeg_16 mo_X10_join ml_X10_208 im_X10_join se_X10_join (Nat.le_of_ble_eq_true rfl) (Nat.le_of_ble_eq_true rfl) ⟨rfl, rfl, rfl⟩ rfl rfl (Nat.le_of_ble_eq_true rfl) (by decide) rfl rfl (by decide) h (fun s11 h => ?_)
    refine TT_aload_n dX10_addLeg_19 rfl ?_
    refine TT_aload_n dX10_addLeg_20 rfl ?_
    refine TT_getR (r := 91) dX10_addLeg_21 fd_X10_41 (by decide) rfl (by decide) rfl rfl ?_
    refine TT_iload_n dX10_addLeg_24 rfl ?_
    refine TT_iald dX10_addLeg_25 (by decide) rfl (by decide) o1 ?_
    refine TT_iconst dX10_addLeg_26 ?_
    refine TT_iadd dX10_addLeg_27 ?_
    refine TT_iload_n dX10_addLeg_28 rfl ?_
    refine TT_callVI (M' := m_X10_growth) (as := [vI ((s11 91 (x2).toNat) + 1), vI x1]) (rest := []) dX10_addLeg_29 mo_X10_growth ml_X10_211 im_X10_growth se_X10_growth (Nat.le_of_ble_eq_true rfl) (Nat.le_of_ble_eq_true rfl) ⟨rfl, rfl, rfl⟩ rfl rfl (Nat.le_of_ble_eq_true rfl) (by decide) rfl rfl (by decide) h (fun y12 s13 h => ?_)
    refine TT_aload_n dX10_addLeg_32 rfl ?_
    refine TT_aload_n dX10_addLeg_33 rfl ?_
    refine TT_getR (r := 91) dX10_addLeg_34 fd_X10_41 (by decide) rfl (by decide) rfl rfl ?_
    refine TT_iload_n dX10_addLeg_37 rfl ?_
    refine TT_iald dX10_addLeg_38 (by decide) rfl (by decide) o1 ?_
    refine TT_iload_n dX10_addLeg_39 rfl ?_
    refine TT_callVI (M' := m_X10_growth) (as := [vI (s13 91 (x2).toNat), vI x1]) (rest := [vI y12]) dX10_addLeg_40 mo_X10_growth ml_X10_211 im_X10_growth se_X10_growth (Nat.le_of_ble_eq_true rfl) (Nat.le_of_ble_eq_true rfl) ⟨rfl, rfl, rfl⟩ rfl rfl (Nat.le_of_ble_eq_true rfl) (by decide) rfl rfl (by decide) h (fun y14 s15 h => ?_)
    obtain ⟨o16, h⟩ := h
    obtain ⟨o17, h⟩ := h
    have j19 : TT m_X10_addLeg 63 [vR 80, vI x1, vI x2] [vI (if y14 ≤ y12 then (s15 91 (x2).toNat) else ((s15 91 (x2).toNat) + 1) : Int)] s15 (PN K) := by
      refine TT_nmI (fun v20 e21 => ?_)
      replace h := h v20 e21
      refine TT_istore_n dX10_addLeg_63 (Nat.le_of_ble_eq_true rfl) rfl rfl ?_
      refine TT_goto (tgt := 2) dX10_addLeg_64 rfl ?_
      exact h
    refine TT_icmp_ge (tgt := 57) dX10_addLeg_43 rfl o16 o17 (fun c18 => ?_) (fun c18 => ?_)
    · refine TT_aload_n dX10_addLeg_57 rfl ?_
      refine TT_getR (r := 91) dX10_addLeg_58 fd_X10_41 (by decide) rfl (by decide) rfl rfl ?_
      refine TT_iload_n dX10_addLeg_61 rfl ?_
      refine TT_iald dX10_addLeg_62 (by decide) rfl (by decide) o1 ?_
      exact TT.cast j19 (by first | rfl | (simp only [if_pos c18] <;> rfl)) (by first | rfl | (simp only [if_pos c18] <;> rfl))
    · refine TT_aload_n dX10_addLeg_46 rfl ?_
      refine TT_getR (r := 91) dX10_addLeg_47 fd_X10_41 (by decide) rfl (by decide) rfl rfl ?_
      refine TT_iload_n dX10_addLeg_50 rfl ?_
      refine TT_iald dX10_addLeg_51 (by decide) rfl (by decide) o1 ?_
      refine TT_iconst dX10_addLeg_52 ?_
      refine TT_iadd dX10_addLeg_53 ?_
      refine TT_goto (tgt := 63) dX10_addLeg_54 rfl ?_
      exact TT.cast j19 (by first | rfl | (simp only [if_neg c18] <;> rfl)) (by first | rfl | (simp only [if_neg c18] <;> rfl))
set_option maxRecDepth 4000 in
theorem w_X10_sort_0 (x1 : Int) (x2 : Int) {σ : Mem} {K : Mem → Prop} (h : TT m_X10_sort 2 [vR 80, vI x1, vI x2, vI 0, vU, vU] [] σ (PN K)) : TT m_X10_sort 0 [vR 80, vI x1, vI x2, vU, vU, vU] [] σ (PN K) := by
  refine TT_iconst dX10_sort_0 ?_
  refine TT_istore_n dX10_sort_1 (Nat.le_of_ble_eq_true rfl) rfl rfl ?_
  exact h
theorem e_X10_sort (x1 : Int) (x2 : Int) {σ : Mem} {K : Mem → Prop} (h : TT m_X10_sort 2 [vR 80, vI x1, vI x2, vI 0, vU, vU] [] σ (PN K)) : CC m_X10_sort [vR 80, vI x1, vI x2] σ (PN K) := CC_of (by decide) rfl rfl rfl (Nat.le_of_ble_eq_true rfl) (w_X10_sort_0 x1 x2 h)
set_option maxRecDepth 4000 in
theorem w_X10_sort_2 (x1 : Int) (x2 : Int) (x3 : Int) {σ : Mem} {K : Mem → Prop} (h : R32 x3 ∧ ((5 ≤ x3 → K σ) ∧ (¬ 5 ≤ x3 → (0 ≤ ((5 * x1) + x3) ∧ ((5 * x1) + x3) < 2500) ∧ TT m_X10_sort 22 [vR 80, vI x1, vI x2, vI x3, vI (σ 94 ((5 * x1) + x3).toNat), vI x3] [] σ (PN K)))) : TT m_X10_sort 2 [vR 80, vI x1, vI x2, vI x3, vU, vU] [] σ (PN K) := by
  refine TT_iload_n dX10_sort_2 rfl ?_
  refine TT_iconst dX10_sort_3 ?_
  obtain ⟨o1, h⟩ := h
  refine TT_icmp_ge (tgt := 83) dX10_sort_4 rfl o1 (by decide) (fun c2 => ?_) (fun c2 => ?_)
  · replace h := h.1 c2
    exact TT_vret dX10_sort_83 rfl rfl h
  · replace h := h.2 c2
    refine TT_aload_n dX10_sort_7 rfl ?_
    refine TT_getR (r := 94) dX10_sort_8 fd_X10_50 (by decide) rfl (by decide) rfl rfl ?_
    refine TT_iconst dX10_sort_11 ?_
    refine TT_iload_n dX10_sort_12 rfl ?_
    refine TT_imul dX10_sort_13 ?_
    refine TT_iload_n dX10_sort_14 rfl ?_
    refine TT_iadd dX10_sort_15 ?_
    obtain ⟨o3, h⟩ := h
    refine TT_iald dX10_sort_16 (by decide) rfl (by decide) o3 ?_
    refine TT_istore dX10_sort_17 (Nat.le_of_ble_eq_true rfl) rfl rfl ?_
    refine TT_iload_n dX10_sort_19 rfl ?_
    refine TT_istore dX10_sort_20 (Nat.le_of_ble_eq_true rfl) rfl rfl ?_
    exact h
set_option maxRecDepth 4000 in
theorem w_X10_sort_22 (x1 : Int) (x2 : Int) (x3 : Int) (x4 : Int) (x5 : Int) {σ : Mem} {K : Mem → Prop} (h : R32 x5 ∧ ((x5 ≤ 0 → (0 ≤ x5 ∧ x5 < 5) ∧ (∀ s7 : Mem, s7 = up σ 95 (x5).toNat x4 → TT m_X10_sort 2 [vR 80, vI x1, vI x2, vI (x3 + 1), vU, vU] [] s7 (PN K))) ∧ (¬ x5 ≤ 0 → (0 ≤ (x5 - 1) ∧ (x5 - 1) < 5) ∧ CC m_X10_isBehind [vR 80, vI (σ 95 (x5 - 1).toNat), vI x4, vI x2] σ (PZ (fun s11 => (0 ≤ x5 ∧ x5 < 5) ∧ (∀ s15 : Mem, s15 = up s11 95 (x5).toNat (s11 95 (x5 - 1).toNat) → TT m_X10_sort 22 [vR 80, vI x1, vI x2, vI x3, vI x4, vI (x5 + (-1))] [] s15 (PN K))) (fun s12 => (0 ≤ x5 ∧ x5 < 5) ∧ (∀ s19 : Mem, s19 = up s12 95 (x5).toNat x4 → TT m_X10_sort 2 [vR 80, vI x1, vI x2, vI (x3 + 1), vU, vU] [] s19 (PN K))))))) : TT m_X10_sort 22 [vR 80, vI x1, vI x2, vI x3, vI x4, vI x5] [] σ (PN K) := by
  refine TT_iload dX10_sort_22 rfl ?_
  obtain ⟨o4, h⟩ := h
  refine TT_if_le (tgt := 68) dX10_sort_24 rfl o4 (fun c5 => ?_) (fun c5 => ?_)
  · replace h := h.1 c5
    refine TT_aload_n dX10_sort_68 rfl ?_
    refine TT_getR (r := 95) dX10_sort_69 fd_X10_53 (by decide) rfl (by decide) rfl rfl ?_
    refine TT_iload dX10_sort_72 rfl ?_
    refine TT_iload dX10_sort_74 rfl ?_
    obtain ⟨o6, h⟩ := h
    refine TT_iast dX10_sort_76 (by decide) rfl (by decide) o6 ?_
    refine TT_nmM (fun s7 e8 => ?_)
    replace h := h s7 e8
    refine TT_iinc dX10_sort_77 (Nat.le_of_ble_eq_true rfl) rfl rfl rfl ?_
    refine TT_goto (tgt := 2) dX10_sort_80 rfl ?_
    refine TT_kill 4 rfl ?_
    refine TT_kill 5 rfl ?_
    exact h
  · replace h := h.2 c5
    refine TT_aload_n dX10_sort_27 rfl ?_
    refine TT_aload_n dX10_sort_28 rfl ?_
    refine TT_getR (r := 95) dX10_sort_29 fd_X10_53 (by decide) rfl (by decide) rfl rfl ?_
    refine TT_iload dX10_sort_32 rfl ?_
    refine TT_iconst dX10_sort_34 ?_
    refine TT_isub dX10_sort_35 ?_
    obtain ⟨o9, h⟩ := h
    refine TT_iald dX10_sort_36 (by decide) rfl (by decide) o9 ?_
    refine TT_iload dX10_sort_37 rfl ?_
    refine TT_iload_n dX10_sort_39 rfl ?_
    refine TT_callVZ (M' := m_X10_isBehind) (as := [vI (σ 95 (x5 - 1).toNat), vI x4, vI x2]) (rest := []) dX10_sort_40 mo_X10_isBehind ml_X10_221 im_X10_isBehind se_X10_isBehind (Nat.le_of_ble_eq_true rfl) (Nat.le_of_ble_eq_true rfl) ⟨rfl, rfl, rfl⟩ rfl rfl (Nat.le_of_ble_eq_true rfl) (by decide) rfl rfl (by decide) h (fun s11 h => ?_) (fun s12 h => ?_)
    · refine TT_if_eq (tgt := 68) dX10_sort_43 rfl (by decide) (fun c13 => absurd c13 (by decide)) (fun c13 => ?_)
      refine TT_aload_n dX10_sort_46 rfl ?_
      refine TT_getR (r := 95) dX10_sort_47 fd_X10_53 (by decide) rfl (by decide) rfl rfl ?_
      refine TT_iload dX10_sort_50 rfl ?_
      refine TT_aload_n dX10_sort_52 rfl ?_
      refine TT_getR (r := 95) dX10_sort_53 fd_X10_53 (by decide) rfl (by decide) rfl rfl ?_
      refine TT_iload dX10_sort_56 rfl ?_
      refine TT_iconst dX10_sort_58 ?_
      refine TT_isub dX10_sort_59 ?_
      refine TT_iald dX10_sort_60 (by decide) rfl (by decide) o9 ?_
      obtain ⟨o14, h⟩ := h
      refine TT_iast dX10_sort_61 (by decide) rfl (by decide) o14 ?_
      refine TT_nmM (fun s15 e16 => ?_)
      replace h := h s15 e16
      refine TT_iinc dX10_sort_62 (Nat.le_of_ble_eq_true rfl) rfl rfl rfl ?_
      refine TT_goto (tgt := 22) dX10_sort_65 rfl ?_
      exact h
    · refine TT_if_eq (tgt := 68) dX10_sort_43 rfl (by decide) (fun c17 => ?_) (fun c17 => absurd c17 (by decide))
      refine TT_aload_n dX10_sort_68 rfl ?_
      refine TT_getR (r := 95) dX10_sort_69 fd_X10_53 (by decide) rfl (by decide) rfl rfl ?_
      refine TT_iload dX10_sort_72 rfl ?_
      refine TT_iload dX10_sort_74 rfl ?_
      obtain ⟨o18, h⟩ := h
      refine TT_iast dX10_sort_76 (by decide) rfl (by decide) o18 ?_
      refine TT_nmM (fun s19 e20 => ?_)
      replace h := h s19 e20
      refine TT_iinc dX10_sort_77 (Nat.le_of_ble_eq_true rfl) rfl rfl rfl ?_
      refine TT_goto (tgt := 2) dX10_sort_80 rfl ?_
      refine TT_kill 4 rfl ?_
      refine TT_kill 5 rfl ?_
      exact h
set_option maxRecDepth 4000 in
theorem w_X10_isBehind_0 (x1 : Int) (x2 : Int) (x3 : Int) {σ : Mem} {A B : Mem → Prop} (h : (0 ≤ ((6 * x1) + (2 * x3)) ∧ ((6 * x1) + (2 * x3)) < 1440) ∧ (0 ≤ (((6 * x1) + (2 * x3)) + 1) ∧ (((6 * x1) + (2 * x3)) + 1) < 1440) ∧ (∀ v3 : Int, v3 = ((σ 88 ((6 * x1) + (2 * x3)).toNat) + (σ 88 (((6 * x1) + (2 * x3)) + 1).toNat)) → (0 ≤ ((6 * x2) + (2 * x3)) ∧ ((6 * x2) + (2 * x3)) < 1440) ∧ (0 ≤ (((6 * x2) + (2 * x3)) + 1) ∧ (((6 * x2) + (2 * x3)) + 1) < 1440) ∧ (∀ v7 : Int, v7 = ((σ 88 ((6 * x2) + (2 * x3)).toNat) + (σ 88 (((6 * x2) + (2 * x3)) + 1).toNat)) → R32 v3 ∧ R32 v7 ∧ ((v7 < v3 → A σ) ∧ (¬ v7 < v3 → ((¬ v3 = v7 → B σ) ∧ (v3 = v7 → R32 x1 ∧ R32 x2 ∧ ((x1 ≤ x2 → B σ) ∧ (¬ x1 ≤ x2 → A σ))))))))) : TT m_X10_isBehind 0 [vR 80, vI x1, vI x2, vI x3, vU, vU] [] σ (PZ A B) := by
  refine TT_aload_n dX10_isBehind_0 rfl ?_
  refine TT_getR (r := 88) dX10_isBehind_1 fd_X10_31 (by decide) rfl (by decide) rfl rfl ?_
  refine TT_bipush dX10_isBehind_4 (by decide) ?_
  refine TT_iload_n dX10_isBehind_6 rfl ?_
  refine TT_imul dX10_isBehind_7 ?_
  refine TT_iconst dX10_isBehind_8 ?_
  refine TT_iload_n dX10_isBehind_9 rfl ?_
  refine TT_imul dX10_isBehind_10 ?_
  refine TT_iadd dX10_isBehind_11 ?_
  obtain ⟨o1, h⟩ := h
  refine TT_iald dX10_isBehind_12 (by decide) rfl (by decide) o1 ?_
  refine TT_aload_n dX10_isBehind_13 rfl ?_
  refine TT_getR (r := 88) dX10_isBehind_14 fd_X10_31 (by decide) rfl (by decide) rfl rfl ?_
  refine TT_bipush dX10_isBehind_17 (by decide) ?_
  refine TT_iload_n dX10_isBehind_19 rfl ?_
  refine TT_imul dX10_isBehind_20 ?_
  refine TT_iconst dX10_isBehind_21 ?_
  refine TT_iload_n dX10_isBehind_22 rfl ?_
  refine TT_imul dX10_isBehind_23 ?_
  refine TT_iadd dX10_isBehind_24 ?_
  refine TT_iconst dX10_isBehind_25 ?_
  refine TT_iadd dX10_isBehind_26 ?_
  obtain ⟨o2, h⟩ := h
  refine TT_iald dX10_isBehind_27 (by decide) rfl (by decide) o2 ?_
  refine TT_iadd dX10_isBehind_28 ?_
  refine TT_nmI (fun v3 e4 => ?_)
  replace h := h v3 e4
  refine TT_istore dX10_isBehind_29 (Nat.le_of_ble_eq_true rfl) rfl rfl ?_
  refine TT_aload_n dX10_isBehind_31 rfl ?_
  refine TT_getR (r := 88) dX10_isBehind_32 fd_X10_31 (by decide) rfl (by decide) rfl rfl ?_
  refine TT_bipush dX10_isBehind_35 (by decide) ?_
  refine TT_iload_n dX10_isBehind_37 rfl ?_
  refine TT_imul dX10_isBehind_38 ?_
  refine TT_iconst dX10_isBehind_39 ?_
  refine TT_iload_n dX10_isBehind_40 rfl ?_
  refine TT_imul dX10_isBehind_41 ?_
  refine TT_iadd dX10_isBehind_42 ?_
  obtain ⟨o5, h⟩ := h
  refine TT_iald dX10_isBehind_43 (by decide) rfl (by decide) o5 ?_
  refine TT_aload_n dX10_isBehind_44 rfl ?_
  refine TT_getR (r := 88) dX10_isBehind_45 fd_X10_31 (by decide) rfl (by decide) rfl rfl ?_
  refine TT_bipush dX10_isBehind_48 (by decide) ?_
  refine TT_iload_n dX10_isBehind_50 rfl ?_
  refine TT_imul dX10_isBehind_51 ?_
  refine TT_iconst dX10_isBehind_52 ?_
  refine TT_iload_n dX10_isBehind_53 rfl ?_
  refine TT_imul dX10_isBehind_54 ?_
  refine TT_iadd dX10_isBehind_55 ?_
  refine TT_iconst dX10_isBehind_56 ?_
  refine TT_iadd dX10_isBehind_57 ?_
  obtain ⟨o6, h⟩ := h
  refine TT_iald dX10_isBehind_58 (by decide) rfl (by decide) o6 ?_
  refine TT_iadd dX10_isBehind_59 ?_
  refine TT_nmI (fun v7 e8 => ?_)
  replace h := h v7 e8
  refine TT_istore dX10_isBehind_60 (Nat.le_of_ble_eq_true rfl) rfl rfl ?_
  refine TT_iload dX10_isBehind_62 rfl ?_
  refine TT_iload dX10_isBehind_64 rfl ?_
  obtain ⟨o9, h⟩ := h
  obtain ⟨o10, h⟩ := h
  refine TT_icmp_gt (tgt := 81) dX10_isBehind_66 rfl o9 o10 (fun c11 => ?_) (fun c11 => ?_)
  · replace h := h.1 c11
    refine TT_iconst dX10_isBehind_81 ?_
    refine TT_goto (tgt := 86) dX10_isBehind_82 rfl ?_
    exact TT_z1 dX10_isBehind_86 rfl rfl h
  · replace h := h.2 c11
    refine TT_iload dX10_isBehind_69 rfl ?_
    refine TT_iload dX10_isBehind_71 rfl ?_
    refine TT_icmp_ne (tgt := 85) dX10_isBehind_73 rfl o9 o10 (fun c12 => ?_) (fun c12 => ?_)
    · replace h := h.1 c12
      refine TT_iconst dX10_isBehind_85 ?_
      exact TT_z0 dX10_isBehind_86 rfl rfl h
    · replace h := h.2 c12
      refine TT_iload_n dX10_isBehind_76 rfl ?_
      refine TT_iload_n dX10_isBehind_77 rfl ?_
      obtain ⟨o13, h⟩ := h
      obtain ⟨o14, h⟩ := h
      refine TT_icmp_le (tgt := 85) dX10_isBehind_78 rfl o13 o14 (fun c15 => ?_) (fun c15 => ?_)
      · replace h := h.1 c15
        refine TT_iconst dX10_isBehind_85 ?_
        exact TT_z0 dX10_isBehind_86 rfl rfl h
      · replace h := h.2 c15
        refine TT_iconst dX10_isBehind_81 ?_
        refine TT_goto (tgt := 86) dX10_isBehind_82 rfl ?_
        exact TT_z1 dX10_isBehind_86 rfl rfl h
theorem e_X10_isBehind (x1 : Int) (x2 : Int) (x3 : Int) {σ : Mem} {A B : Mem → Prop} (h : (0 ≤ ((6 * x1) + (2 * x3)) ∧ ((6 * x1) + (2 * x3)) < 1440) ∧ (0 ≤ (((6 * x1) + (2 * x3)) + 1) ∧ (((6 * x1) + (2 * x3)) + 1) < 1440) ∧ (∀ v3 : Int, v3 = ((σ 88 ((6 * x1) + (2 * x3)).toNat) + (σ 88 (((6 * x1) + (2 * x3)) + 1).toNat)) → (0 ≤ ((6 * x2) + (2 * x3)) ∧ ((6 * x2) + (2 * x3)) < 1440) ∧ (0 ≤ (((6 * x2) + (2 * x3)) + 1) ∧ (((6 * x2) + (2 * x3)) + 1) < 1440) ∧ (∀ v7 : Int, v7 = ((σ 88 ((6 * x2) + (2 * x3)).toNat) + (σ 88 (((6 * x2) + (2 * x3)) + 1).toNat)) → R32 v3 ∧ R32 v7 ∧ ((v7 < v3 → A σ) ∧ (¬ v7 < v3 → ((¬ v3 = v7 → B σ) ∧ (v3 = v7 → R32 x1 ∧ R32 x2 ∧ ((x1 ≤ x2 → B σ) ∧ (¬ x1 ≤ x2 → A σ))))))))) : CC m_X10_isBehind [vR 80, vI x1, vI x2, vI x3] σ (PZ A B) := CC_of (by decide) rfl rfl rfl (Nat.le_of_ble_eq_true rfl) (w_X10_isBehind_0 x1 x2 x3 h)
set_option maxRecDepth 4000 in
theorem w_X10_sizeOf_0 (x1 : Int) (x2 : Int) {σ : Mem} {K : Int → Mem → Prop} (h : TT m_X10_sizeOf 5 [vR 80, vI x1, vI x2, vI 1, vI 0, vU, vU, vU] [] σ (PI K)) : TT m_X10_sizeOf 0 [vR 80, vI x1, vI x2, vU, vU, vU, vU, vU] [] σ (PI K) := by
  refine TT_iconst dX10_sizeOf_0 ?_
  refine TT_istore_n dX10_sizeOf_1 (Nat.le_of_ble_eq_true rfl) rfl rfl ?_
  refine TT_iconst dX10_sizeOf_2 ?_
  refine TT_istore dX10_sizeOf_3 (Nat.le_of_ble_eq_true rfl) rfl rfl ?_
  exact h
theorem e_X10_sizeOf (x1 : Int) (x2 : Int) {σ : Mem} {K : Int → Mem → Prop} (h : TT m_X10_sizeOf 5 [vR 80, vI x1, vI x2, vI 1, vI 0, vU, vU, vU] [] σ (PI K)) : CC m_X10_sizeOf [vR 80, vI x1, vI x2] σ (PI K) := CC_of (by decide) rfl rfl rfl (Nat.le_of_ble_eq_true rfl) (w_X10_sizeOf_0 x1 x2 h)
set_option maxRecDepth 4000 in
theorem w_X10_sizeOf_5 (x1 : Int) (x2 : Int) (x3 : Int) (x4 : Int) {σ : Mem} {K : Int → Mem → Prop} (h : R32 x4 ∧ ((6 ≤ x4 → K x3 σ) ∧ (¬ 6 ≤ x4 → TT m_X10_sizeOf 23 [vR 80, vI x1, vI x2, vI x3, vI x4, vI 100000000, vI (-100000000), vI x1] [] σ (PI K)))) : TT m_X10_sizeOf 5 [vR 80, vI x1, vI x2, vI x3, vI x4, vU, vU, vU] [] σ (PI K) := by
  refine TT_iload dX10_sizeOf_5 rfl ?_
  refine TT_bipush dX10_sizeOf_7 (by decide) ?_
  obtain ⟨o1, h⟩ := h
  refine TT_icmp_ge (tgt := 151) dX10_sizeOf_9 rfl o1 (by decide) (fun c2 => ?_) (fun c2 => ?_)
  · replace h := h.1 c2
    refine TT_iload_n dX10_sizeOf_151 rfl ?_
    exact TT_iret dX10_sizeOf_152 rfl rfl h
  · replace h := h.2 c2
    refine TT_ldc dX10_sizeOf_12 kc_X10_224 (x := 100000000) rfl ?_
    refine TT_istore dX10_sizeOf_14 (Nat.le_of_ble_eq_true rfl) rfl rfl ?_
    refine TT_ldc dX10_sizeOf_16 kc_X10_225 (x := (-100000000)) rfl ?_
    refine TT_istore dX10_sizeOf_18 (Nat.le_of_ble_eq_true rfl) rfl rfl ?_
    refine TT_iload_n dX10_sizeOf_20 rfl ?_
    refine TT_istore dX10_sizeOf_21 (Nat.le_of_ble_eq_true rfl) rfl rfl ?_
    exact h
set_option maxRecDepth 4000 in
theorem w_X10_sizeOf_23 (x1 : Int) (x2 : Int) (x3 : Int) (x4 : Int) (x5 : Int) (x6 : Int) (x7 : Int) {σ : Mem} {K : Int → Mem → Prop} (h : R32 x7 ∧ R32 x2 ∧ ((x2 ≤ x7 → TT m_X10_sizeOf 5 [vR 80, vI x1, vI x2, vI (x3 * ((x6 - x5) + 1)), vI (x4 + 2), vU, vU, vU] [] σ (PI K)) ∧ (¬ x2 ≤ x7 → (0 ≤ x7 ∧ x7 < 5) ∧ (0 ≤ ((6 * (σ 95 (x7).toNat)) + x4) ∧ ((6 * (σ 95 (x7).toNat)) + x4) < 1440) ∧ R32 (σ 88 ((6 * (σ 95 (x7).toNat)) + x4).toNat) ∧ R32 x5 ∧ (∀ v12 : Int, v12 = (if x5 ≤ (σ 88 ((6 * (σ 95 (x7).toNat)) + x4).toNat) then x5 else (σ 88 ((6 * (σ 95 (x7).toNat)) + x4).toNat) : Int) → (0 ≤ (((6 * (σ 95 (x7).toNat)) + x4) + 1) ∧ (((6 * (σ 95 (x7).toNat)) + x4) + 1) < 1440) ∧ R32 (σ 88 (((6 * (σ 95 (x7).toNat)) + x4) + 1).toNat) ∧ R32 x6 ∧ (∀ v19 : Int, v19 = (if (σ 88 (((6 * (σ 95 (x7).toNat)) + x4) + 1).toNat) ≤ x6 then x6 else (σ 88 (((6 * (σ 95 (x7).toNat)) + x4) + 1).toNat) : Int) → TT m_X10_sizeOf 23 [vR 80, vI x1, vI x2, vI x3, vI x4, vI v12, vI v19, vI (x7 + 1)] [] σ (PI K)))))) : TT m_X10_sizeOf 23 [vR 80, vI x1, vI x2, vI x3, vI x4, vI x5, vI x6, vI x7] [] σ (PI K) := by
  refine TT_iload dX10_sizeOf_23 rfl ?_
  refine TT_iload_n dX10_sizeOf_25 rfl ?_
  obtain ⟨o3, h⟩ := h
  obtain ⟨o4, h⟩ := h
  refine TT_icmp_ge (tgt := 135) dX10_sizeOf_26 rfl o3 o4 (fun c5 => ?_) (fun c5 => ?_)
  · replace h := h.1 c5
    refine TT_iload_n dX10_sizeOf_135 rfl ?_
    refine TT_iload dX10_sizeOf_136 rfl ?_
    refine TT_iload dX10_sizeOf_138 rfl ?_
    refine TT_isub dX10_sizeOf_140 ?_
    refine TT_iconst dX10_sizeOf_141 ?_
    refine TT_iadd dX10_sizeOf_142 ?_
    refine TT_imul dX10_sizeOf_143 ?_
    refine TT_istore_n dX10_sizeOf_144 (Nat.le_of_ble_eq_true rfl) rfl rfl ?_
    refine TT_iinc dX10_sizeOf_145 (Nat.le_of_ble_eq_true rfl) rfl rfl rfl ?_
    refine TT_goto (tgt := 5) dX10_sizeOf_148 rfl ?_
    refine TT_kill 5 rfl ?_
    refine TT_kill 6 rfl ?_
    refine TT_kill 7 rfl ?_
    exact h
  · replace h := h.2 c5
    refine TT_aload_n dX10_sizeOf_29 rfl ?_
    refine TT_getR (r := 88) dX10_sizeOf_30 fd_X10_31 (by decide) rfl (by decide) rfl rfl ?_
    refine TT_bipush dX10_sizeOf_33 (by decide) ?_
    refine TT_aload_n dX10_sizeOf_35 rfl ?_
    refine TT_getR (r := 95) dX10_sizeOf_36 fd_X10_53 (by decide) rfl (by decide) rfl rfl ?_
    refine TT_iload dX10_sizeOf_39 rfl ?_
    obtain ⟨o6, h⟩ := h
    refine TT_iald dX10_sizeOf_41 (by decide) rfl (by decide) o6 ?_
    refine TT_imul dX10_sizeOf_42 ?_
    refine TT_iload dX10_sizeOf_43 rfl ?_
    refine TT_iadd dX10_sizeOf_45 ?_
    obtain ⟨o7, h⟩ := h
    refine TT_iald dX10_sizeOf_46 (by decide) rfl (by decide) o7 ?_
    refine TT_iload dX10_sizeOf_47 rfl ?_
    obtain ⟨o8, h⟩ := h
    obtain ⟨o9, h⟩ := h
    have j11 : TT m_X10_sizeOf 75 [vR 80, vI x1, vI x2, vI x3, vI x4, vI x5, vI x6, vI x7] [vI (if x5 ≤ (σ 88 ((6 * (σ 95 (x7).toNat)) + x4).toNat) then x5 else (σ 88 ((6 * (σ 95 (x7).toNat)) + x4).toNat) : Int)] σ (PI K) := by
      refine TT_nmI (fun v12 e13 => ?_)
      replace h := h v12 e13
      refine TT_istore dX10_sizeOf_75 (Nat.le_of_ble_eq_true rfl) rfl rfl ?_
      refine TT_aload_n dX10_sizeOf_77 rfl ?_
      refine TT_getR (r := 88) dX10_sizeOf_78 fd_X10_31 (by decide) rfl (by decide) rfl rfl ?_
      refine TT_bipush dX10_sizeOf_81 (by decide) ?_
      refine TT_aload_n dX10_sizeOf_83 rfl ?_
      refine TT_getR (r := 95) dX10_sizeOf_84 fd_X10_53 (by decide) rfl (by decide) rfl rfl ?_
      refine TT_iload dX10_sizeOf_87 rfl ?_
      refine TT_iald dX10_sizeOf_89 (by decide) rfl (by decide) o6 ?_
      refine TT_imul dX10_sizeOf_90 ?_
      refine TT_iload dX10_sizeOf_91 rfl ?_
      refine TT_iadd dX10_sizeOf_93 ?_
      refine TT_iconst dX10_sizeOf_94 ?_
      refine TT_iadd dX10_sizeOf_95 ?_
      obtain ⟨o14, h⟩ := h
      refine TT_iald dX10_sizeOf_96 (by decide) rfl (by decide) o14 ?_
      refine TT_iload dX10_sizeOf_97 rfl ?_
      obtain ⟨o15, h⟩ := h
      obtain ⟨o16, h⟩ := h
      have j18 : TT m_X10_sizeOf 127 [vR 80, vI x1, vI x2, vI x3, vI x4, vI v12, vI x6, vI x7] [vI (if (σ 88 (((6 * (σ 95 (x7).toNat)) + x4) + 1).toNat) ≤ x6 then x6 else (σ 88 (((6 * (σ 95 (x7).toNat)) + x4) + 1).toNat) : Int)] σ (PI K) := by
        refine TT_nmI (fun v19 e20 => ?_)
        replace h := h v19 e20
        refine TT_istore dX10_sizeOf_127 (Nat.le_of_ble_eq_true rfl) rfl rfl ?_
        refine TT_iinc dX10_sizeOf_129 (Nat.le_of_ble_eq_true rfl) rfl rfl rfl ?_
        refine TT_goto (tgt := 23) dX10_sizeOf_132 rfl ?_
        exact h
      refine TT_icmp_le (tgt := 125) dX10_sizeOf_99 rfl o15 o16 (fun c17 => ?_) (fun c17 => ?_)
      · refine TT_iload dX10_sizeOf_125 rfl ?_
        exact TT.cast j18 (by first | rfl | (simp only [if_pos c17] <;> rfl)) (by first | rfl | (simp only [if_pos c17] <;> rfl))
      · refine TT_aload_n dX10_sizeOf_102 rfl ?_
        refine TT_getR (r := 88) dX10_sizeOf_103 fd_X10_31 (by decide) rfl (by decide) rfl rfl ?_
        refine TT_bipush dX10_sizeOf_106 (by decide) ?_
        refine TT_aload_n dX10_sizeOf_108 rfl ?_
        refine TT_getR (r := 95) dX10_sizeOf_109 fd_X10_53 (by decide) rfl (by decide) rfl rfl ?_
        refine TT_iload dX10_sizeOf_112 rfl ?_
        refine TT_iald dX10_sizeOf_114 (by decide) rfl (by decide) o6 ?_
        refine TT_imul dX10_sizeOf_115 ?_
        refine TT_iload dX10_sizeOf_116 rfl ?_
        refine TT_iadd dX10_sizeOf_118 ?_
        refine TT_iconst dX10_sizeOf_119 ?_
        refine TT_iadd dX10_sizeOf_120 ?_
        refine TT_iald dX10_sizeOf_121 (by decide) rfl (by decide) o14 ?_
        refine TT_goto (tgt := 127) dX10_sizeOf_122 rfl ?_
        exact TT.cast j18 (by first | rfl | (simp only [if_neg c17] <;> rfl)) (by first | rfl | (simp only [if_neg c17] <;> rfl))
    refine TT_icmp_ge (tgt := 73) dX10_sizeOf_49 rfl o8 o9 (fun c10 => ?_) (fun c10 => ?_)
    · refine TT_iload dX10_sizeOf_73 rfl ?_
      exact TT.cast j11 (by first | rfl | (simp only [if_pos c10] <;> rfl)) (by first | rfl | (simp only [if_pos c10] <;> rfl))
    · refine TT_aload_n dX10_sizeOf_52 rfl ?_
      refine TT_getR (r := 88) dX10_sizeOf_53 fd_X10_31 (by decide) rfl (by decide) rfl rfl ?_
      refine TT_bipush dX10_sizeOf_56 (by decide) ?_
      refine TT_aload_n dX10_sizeOf_58 rfl ?_
      refine TT_getR (r := 95) dX10_sizeOf_59 fd_X10_53 (by decide) rfl (by decide) rfl rfl ?_
      refine TT_iload dX10_sizeOf_62 rfl ?_
      refine TT_iald dX10_sizeOf_64 (by decide) rfl (by decide) o6 ?_
      refine TT_imul dX10_sizeOf_65 ?_
      refine TT_iload dX10_sizeOf_66 rfl ?_
      refine TT_iadd dX10_sizeOf_68 ?_
      refine TT_iald dX10_sizeOf_69 (by decide) rfl (by decide) o7 ?_
      refine TT_goto (tgt := 75) dX10_sizeOf_70 rfl ?_
      exact TT.cast j11 (by first | rfl | (simp only [if_neg c10] <;> rfl)) (by first | rfl | (simp only [if_neg c10] <;> rfl))
set_option maxRecDepth 4000 in
theorem w_X10_cut_0 (x1 : Int) {σ : Mem} {K : Mem → Prop} (h : TT m_X10_cut 8 [vR 80, vI x1, vI 200000000, vI 2, vI 0, vU, vU, vU] [] σ (PN K)) : TT m_X10_cut 0 [vR 80, vI x1, vU, vU, vU, vU, vU, vU] [] σ (PN K) := by
  refine TT_ldc dX10_cut_0 kc_X10_226 (x := 200000000) rfl ?_
  refine TT_istore_n dX10_cut_2 (Nat.le_of_ble_eq_true rfl) rfl rfl ?_
  refine TT_iconst dX10_cut_3 ?_
  refine TT_istore_n dX10_cut_4 (Nat.le_of_ble_eq_true rfl) rfl rfl ?_
  refine TT_iconst dX10_cut_5 ?_
  refine TT_istore dX10_cut_6 (Nat.le_of_ble_eq_true rfl) rfl rfl ?_
  exact h
theorem e_X10_cut (x1 : Int) {σ : Mem} {K : Mem → Prop} (h : TT m_X10_cut 8 [vR 80, vI x1, vI 200000000, vI 2, vI 0, vU, vU, vU] [] σ (PN K)) : CC m_X10_cut [vR 80, vI x1] σ (PN K) := CC_of (by decide) rfl rfl rfl (Nat.le_of_ble_eq_true rfl) (w_X10_cut_0 x1 h)
set_option maxRecDepth 4000 in
theorem w_X10_cut_8 (x1 : Int) (x2 : Int) (x3 : Int) (x4 : Int) {σ : Mem} {K : Mem → Prop} (h : R32 x4 ∧ ((6 ≤ x4 → (0 ≤ x1 ∧ x1 < 500) ∧ CC m_X10_newPage [vR 80, vI ((σ 92 (x1).toNat) + 1)] σ (PI (fun y4 s5 => CC m_X10_newPage [vR 80, vI ((s5 92 (x1).toNat) + 1)] s5 (PI (fun y6 s7 => TT m_X10_cut 127 [vR 80, vI x1, vU, vI x3, vI y4, vI y6, vI 0, vU] [] s7 (PN K)))))) ∧ (¬ 6 ≤ x4 → CC m_X10_sort [vR 80, vI x1, vI (Int.tdiv x4 2)] σ (PN (fun s9 => CC m_X10_sizeOf [vR 80, vI 0, vI (2 + (Int.tmod x4 2))] s9 (PI (fun y10 s11 => CC m_X10_sizeOf [vR 80, vI (2 + (Int.tmod x4 2)), vI 5] s11 (PI (fun y12 s13 => R32 (y10 + y12) ∧ R32 x2 ∧ ((x2 ≤ (y10 + y12) → TT m_X10_cut 8 [vR 80, vI x1, vI x2, vI x3, vI (x4 + 1), vU, vU, vU] [] s13 (PN K)) ∧ (¬ x2 ≤ (y10 + y12) → TT m_X10_cut 64 [vR 80, vI x1, vI (y10 + y12), vI (2 + (Int.tmod x4 2)), vI x4, vU, vU, vI 0] [] s13 (PN K)))))))))))) : TT m_X10_cut 8 [vR 80, vI x1, vI x2, vI x3, vI x4, vU, vU, vU] [] σ (PN K) := by
  refine TT_iload dX10_cut_8 rfl ?_
  refine TT_bipush dX10_cut_10 (by decide) ?_
  obtain ⟨o1, h⟩ := h
  refine TT_icmp_ge (tgt := 96) dX10_cut_12 rfl o1 (by decide) (fun c2 => ?_) (fun c2 => ?_)
  · replace h := h.1 c2
    refine TT_aload_n dX10_cut_96 rfl ?_
    refine TT_aload_n dX10_cut_97 rfl ?_
    refine TT_getR (r := 92) dX10_cut_98 fd_X10_44 (by decide) rfl (by decide) rfl rfl ?_
    refine TT_iload_n dX10_cut_101 rfl ?_
    obtain ⟨o3, h⟩ := h
    refine TT_iald dX10_cut_102 (by decide) rfl (by decide) o3 ?_
    refine TT_iconst dX10_cut_103 ?_
    refine TT_iadd dX10_cut_104 ?_
    refine TT_callVI (M' := m_X10_newPage) (as := [vI ((σ 92 (x1).toNat) + 1)]) (rest := []) dX10_cut_105 mo_X10_newPage ml_X10_233 im_X10_newPage se_X10_newPage (Nat.le_of_ble_eq_true rfl) (Nat.le_of_ble_eq_true rfl) ⟨rfl, rfl, rfl⟩ rfl rfl (Nat.le_of_ble_eq_true rfl) (by decide) rfl rfl (by decide) h (fun y4 s5 h => ?_)
    refine TT_istore dX10_cut_108 (Nat.le_of_ble_eq_true rfl) rfl rfl ?_
    refine TT_aload_n dX10_cut_110 rfl ?_
    refine TT_aload_n dX10_cut_111 rfl ?_
    refine TT_getR (r := 92) dX10_cut_112 fd_X10_44 (by decide) rfl (by decide) rfl rfl ?_
    refine TT_iload_n dX10_cut_115 rfl ?_
    refine TT_iald dX10_cut_116 (by decide) rfl (by decide) o3 ?_
    refine TT_iconst dX10_cut_117 ?_
    refine TT_iadd dX10_cut_118 ?_
    refine TT_callVI (M' := m_X10_newPage) (as := [vI ((s5 92 (x1).toNat) + 1)]) (rest := []) dX10_cut_119 mo_X10_newPage ml_X10_233 im_X10_newPage se_X10_newPage (Nat.le_of_ble_eq_true rfl) (Nat.le_of_ble_eq_true rfl) ⟨rfl, rfl, rfl⟩ rfl rfl (Nat.le_of_ble_eq_true rfl) (by decide) rfl rfl (by decide) h (fun y6 s7 h => ?_)
    refine TT_istore dX10_cut_122 (Nat.le_of_ble_eq_true rfl) rfl rfl ?_
    refine TT_iconst dX10_cut_124 ?_
    refine TT_istore dX10_cut_125 (Nat.le_of_ble_eq_true rfl) rfl rfl ?_
    refine TT_kill 2 rfl ?_
    exact h
  · replace h := h.2 c2
    refine TT_aload_n dX10_cut_15 rfl ?_
    refine TT_iload_n dX10_cut_16 rfl ?_
    refine TT_iload dX10_cut_17 rfl ?_
    refine TT_iconst dX10_cut_19 ?_
    refine TT_idiv dX10_cut_20 o1 (by decide) (by decide) ?_
    refine TT_callVN (M' := m_X10_sort) (as := [vI x1, vI (Int.tdiv x4 2)]) (rest := []) dX10_cut_21 mo_X10_sort ml_X10_227 im_X10_sort se_X10_sort (Nat.le_of_ble_eq_true rfl) (Nat.le_of_ble_eq_true rfl) ⟨rfl, rfl, rfl⟩ rfl rfl (Nat.le_of_ble_eq_true rfl) (by decide) rfl rfl (by decide) h (fun s9 h => ?_)
    refine TT_iconst dX10_cut_24 ?_
    refine TT_iload dX10_cut_25 rfl ?_
    refine TT_iconst dX10_cut_27 ?_
    refine TT_irem dX10_cut_28 o1 (by decide) (by decide) ?_
    refine TT_iadd dX10_cut_29 ?_
    refine TT_istore dX10_cut_30 (Nat.le_of_ble_eq_true rfl) rfl rfl ?_
    refine TT_aload_n dX10_cut_32 rfl ?_
    refine TT_iconst dX10_cut_33 ?_
    refine TT_iload dX10_cut_34 rfl ?_
    refine TT_callVI (M' := m_X10_sizeOf) (as := [vI 0, vI (2 + (Int.tmod x4 2))]) (rest := []) dX10_cut_36 mo_X10_sizeOf ml_X10_230 im_X10_sizeOf se_X10_sizeOf (Nat.le_of_ble_eq_true rfl) (Nat.le_of_ble_eq_true rfl) ⟨rfl, rfl, rfl⟩ rfl rfl (Nat.le_of_ble_eq_true rfl) (by decide) rfl rfl (by decide) h (fun y10 s11 h => ?_)
    refine TT_aload_n dX10_cut_39 rfl ?_
    refine TT_iload dX10_cut_40 rfl ?_
    refine TT_iconst dX10_cut_42 ?_
    refine TT_callVI (M' := m_X10_sizeOf) (as := [vI (2 + (Int.tmod x4 2)), vI 5]) (rest := [vI y10]) dX10_cut_43 mo_X10_sizeOf ml_X10_230 im_X10_sizeOf se_X10_sizeOf (Nat.le_of_ble_eq_true rfl) (Nat.le_of_ble_eq_true rfl) ⟨rfl, rfl, rfl⟩ rfl rfl (Nat.le_of_ble_eq_true rfl) (by decide) rfl rfl (by decide) h (fun y12 s13 h => ?_)
    refine TT_iadd dX10_cut_46 ?_
    refine TT_istore dX10_cut_47 (Nat.le_of_ble_eq_true rfl) rfl rfl ?_
    refine TT_iload dX10_cut_49 rfl ?_
    refine TT_iload_n dX10_cut_51 rfl ?_
    obtain ⟨o14, h⟩ := h
    obtain ⟨o15, h⟩ := h
    refine TT_icmp_ge (tgt := 90) dX10_cut_52 rfl o14 o15 (fun c16 => ?_) (fun c16 => ?_)
    · replace h := h.1 c16
      refine TT_iinc dX10_cut_90 (Nat.le_of_ble_eq_true rfl) rfl rfl rfl ?_
      refine TT_goto (tgt := 8) dX10_cut_93 rfl ?_
      refine TT_kill 5 rfl ?_
      refine TT_kill 6 rfl ?_
      exact h
    · replace h := h.2 c16
      refine TT_iload dX10_cut_55 rfl ?_
      refine TT_istore_n dX10_cut_57 (Nat.le_of_ble_eq_true rfl) rfl rfl ?_
      refine TT_iload dX10_cut_58 rfl ?_
      refine TT_istore_n dX10_cut_60 (Nat.le_of_ble_eq_true rfl) rfl rfl ?_
      refine TT_iconst dX10_cut_61 ?_
      refine TT_istore dX10_cut_62 (Nat.le_of_ble_eq_true rfl) rfl rfl ?_
      refine TT_kill 5 rfl ?_
      refine TT_kill 6 rfl ?_
      exact h
set_option maxRecDepth 4000 in
theorem w_X10_cut_127 (x1 : Int) (x3 : Int) (x4 : Int) (x5 : Int) (x6 : Int) {σ : Mem} {K : Mem → Prop} (h : R32 x6 ∧ ((5 ≤ x6 → (0 ≤ x1 ∧ x1 < 500) ∧ (∀ s20 : Mem, s20 = up σ 91 (x1).toNat x4 → (∀ s22 : Mem, s22 = up s20 93 (x1).toNat 0 → K s22))) ∧ (¬ 5 ≤ x6 → R32 x3 ∧ (0 ≤ x6 ∧ x6 < 5) ∧ CC m_X10_put [vR 80, vI (if x3 ≤ x6 then x5 else x4 : Int), vI (σ 96 (x6).toNat)] σ (PN (fun s29 => TT m_X10_cut 127 [vR 80, vI x1, vU, vI x3, vI x4, vI x5, vI (x6 + 1), vU] [] s29 (PN K)))))) : TT m_X10_cut 127 [vR 80, vI x1, vU, vI x3, vI x4, vI x5, vI x6, vU] [] σ (PN K) := by
  refine TT_iload dX10_cut_127 rfl ?_
  refine TT_iconst dX10_cut_129 ?_
  obtain ⟨o17, h⟩ := h
  refine TT_icmp_ge (tgt := 163) dX10_cut_130 rfl o17 (by decide) (fun c18 => ?_) (fun c18 => ?_)
  · replace h := h.1 c18
    refine TT_aload_n dX10_cut_163 rfl ?_
    refine TT_getR (r := 91) dX10_cut_164 fd_X10_41 (by decide) rfl (by decide) rfl rfl ?_
    refine TT_iload_n dX10_cut_167 rfl ?_
    refine TT_iload dX10_cut_168 rfl ?_
    obtain ⟨o19, h⟩ := h
    refine TT_iast dX10_cut_170 (by decide) rfl (by decide) o19 ?_
    refine TT_nmM (fun s20 e21 => ?_)
    replace h := h s20 e21
    refine TT_aload_n dX10_cut_171 rfl ?_
    refine TT_getR (r := 93) dX10_cut_172 fd_X10_47 (by decide) rfl (by decide) rfl rfl ?_
    refine TT_iload_n dX10_cut_175 rfl ?_
    refine TT_iconst dX10_cut_176 ?_
    refine TT_iast dX10_cut_177 (by decide) rfl (by decide) o19 ?_
    refine TT_nmM (fun s22 e23 => ?_)
    replace h := h s22 e23
    exact TT_vret dX10_cut_178 rfl rfl h
  · replace h := h.2 c18
    refine TT_aload_n dX10_cut_133 rfl ?_
    refine TT_iload dX10_cut_134 rfl ?_
    refine TT_iload_n dX10_cut_136 rfl ?_
    obtain ⟨o24, h⟩ := h
    have j26 : TT m_X10_cut 147 [vR 80, vI x1, vU, vI x3, vI x4, vI x5, vI x6, vU] [vI (if x3 ≤ x6 then x5 else x4 : Int), vR 80] σ (PN K) := by
      refine TT_aload_n dX10_cut_147 rfl ?_
      refine TT_getR (r := 96) dX10_cut_148 fd_X10_56 (by decide) rfl (by decide) rfl rfl ?_
      refine TT_iload dX10_cut_151 rfl ?_
      obtain ⟨o27, h⟩ := h
      refine TT_iald dX10_cut_153 (by decide) rfl (by decide) o27 ?_
      refine TT_callVN (M' := m_X10_put) (as := [vI (if x3 ≤ x6 then x5 else x4 : Int), vI (σ 96 (x6).toNat)]) (rest := []) dX10_cut_154 mo_X10_put ml_X10_214 im_X10_put se_X10_put (Nat.le_of_ble_eq_true rfl) (Nat.le_of_ble_eq_true rfl) ⟨rfl, rfl, rfl⟩ rfl rfl (Nat.le_of_ble_eq_true rfl) (by decide) rfl rfl (by decide) h (fun s29 h => ?_)
      refine TT_iinc dX10_cut_157 (Nat.le_of_ble_eq_true rfl) rfl rfl rfl ?_
      refine TT_goto (tgt := 127) dX10_cut_160 rfl ?_
      exact h
    refine TT_icmp_ge (tgt := 145) dX10_cut_137 rfl o17 o24 (fun c25 => ?_) (fun c25 => ?_)
    · refine TT_iload dX10_cut_145 rfl ?_
      exact TT.cast j26 (by first | rfl | (simp only [if_pos c25] <;> rfl)) (by first | rfl | (simp only [if_pos c25] <;> rfl))
    · refine TT_iload dX10_cut_140 rfl ?_
      refine TT_goto (tgt := 147) dX10_cut_142 rfl ?_
      exact TT.cast j26 (by first | rfl | (simp only [if_neg c25] <;> rfl)) (by first | rfl | (simp only [if_neg c25] <;> rfl))
set_option maxRecDepth 4000 in
theorem w_X10_cut_64 (x1 : Int) (x2 : Int) (x3 : Int) (x4 : Int) (x7 : Int) {σ : Mem} {K : Mem → Prop} (h : R32 x7 ∧ ((5 ≤ x7 → TT m_X10_cut 8 [vR 80, vI x1, vI x2, vI x3, vI (x4 + 1), vU, vU, vU] [] σ (PN K)) ∧ (¬ 5 ≤ x7 → (0 ≤ x7 ∧ x7 < 5) ∧ (∀ s33 : Mem, s33 = up σ 96 (x7).toNat (σ 95 (x7).toNat) → TT m_X10_cut 64 [vR 80, vI x1, vI x2, vI x3, vI x4, vU, vU, vI (x7 + 1)] [] s33 (PN K))))) : TT m_X10_cut 64 [vR 80, vI x1, vI x2, vI x3, vI x4, vU, vU, vI x7] [] σ (PN K) := by
  refine TT_iload dX10_cut_64 rfl ?_
  refine TT_iconst dX10_cut_66 ?_
  obtain ⟨o30, h⟩ := h
  refine TT_icmp_ge (tgt := 90) dX10_cut_67 rfl o30 (by decide) (fun c31 => ?_) (fun c31 => ?_)
  · replace h := h.1 c31
    refine TT_iinc dX10_cut_90 (Nat.le_of_ble_eq_true rfl) rfl rfl rfl ?_
    refine TT_goto (tgt := 8) dX10_cut_93 rfl ?_
    refine TT_kill 7 rfl ?_
    exact h
  · replace h := h.2 c31
    refine TT_aload_n dX10_cut_70 rfl ?_
    refine TT_getR (r := 96) dX10_cut_71 fd_X10_56 (by decide) rfl (by decide) rfl rfl ?_
    refine TT_iload dX10_cut_74 rfl ?_
    refine TT_aload_n dX10_cut_76 rfl ?_
    refine TT_getR (r := 95) dX10_cut_77 fd_X10_53 (by decide) rfl (by decide) rfl rfl ?_
    refine TT_iload dX10_cut_80 rfl ?_
    obtain ⟨o32, h⟩ := h
    refine TT_iald dX10_cut_82 (by decide) rfl (by decide) o32 ?_
    refine TT_iast dX10_cut_83 (by decide) rfl (by decide) o32 ?_
    refine TT_nmM (fun s33 e34 => ?_)
    replace h := h s33 e34
    refine TT_iinc dX10_cut_84 (Nat.le_of_ble_eq_true rfl) rfl rfl rfl ?_
    refine TT_goto (tgt := 64) dX10_cut_87 rfl ?_
    exact h
set_option maxRecDepth 4000 in
theorem w_X10_layPages_0  {σ : Mem} {K : Mem → Prop} (h : CC m_X10_layLegs [vR 80] σ (PN (fun s2 => (∀ s3 : Mem, s3 = up s2 80 17 0 → CC m_X10_newPage [vR 80, vI 1] s3 (PI (fun y5 s6 => TT m_X10_layPages 17 [vR 80, vU, vI 0] [] s6 (PN K))))))) : TT m_X10_layPages 0 [vR 80, vU, vU] [] σ (PN K) := by
  refine TT_aload_n dX10_layPages_0 rfl ?_
  refine TT_callVN (M' := m_X10_layLegs) (as := []) (rest := []) dX10_layPages_1 mo_X10_layLegs ml_X10_237 im_X10_layLegs se_X10_layLegs (Nat.le_of_ble_eq_true rfl) (Nat.le_of_ble_eq_true rfl) ⟨rfl, rfl, rfl⟩ rfl rfl (Nat.le_of_ble_eq_true rfl) (by decide) rfl rfl (by decide) h (fun s2 h => ?_)
  refine TT_aload_n dX10_layPages_4 rfl ?_
  refine TT_iconst dX10_layPages_5 ?_
  refine TT_putI dX10_layPages_6 fd_X10_201 (by decide) rfl (by decide) rfl ?_
  refine TT_nmM (fun s3 e4 => ?_)
  replace h := h s3 e4
  refine TT_aload_n dX10_layPages_9 rfl ?_
  refine TT_iconst dX10_layPages_10 ?_
  refine TT_callVI (M' := m_X10_newPage) (as := [vI 1]) (rest := []) dX10_layPages_11 mo_X10_newPage ml_X10_233 im_X10_newPage se_X10_newPage (Nat.le_of_ble_eq_true rfl) (Nat.le_of_ble_eq_true rfl) ⟨rfl, rfl, rfl⟩ rfl rfl (Nat.le_of_ble_eq_true rfl) (by decide) rfl rfl (by decide) h (fun y5 s6 h => ?_)
  refine TT_istore_n dX10_layPages_14 (Nat.le_of_ble_eq_true rfl) rfl rfl ?_
  refine TT_iconst dX10_layPages_15 ?_
  refine TT_istore_n dX10_layPages_16 (Nat.le_of_ble_eq_true rfl) rfl rfl ?_
  refine TT_kill 1 rfl ?_
  exact h
theorem e_X10_layPages  {σ : Mem} {K : Mem → Prop} (h : CC m_X10_layLegs [vR 80] σ (PN (fun s2 => (∀ s3 : Mem, s3 = up s2 80 17 0 → CC m_X10_newPage [vR 80, vI 1] s3 (PI (fun y5 s6 => TT m_X10_layPages 17 [vR 80, vU, vI 0] [] s6 (PN K))))))) : CC m_X10_layPages [vR 80] σ (PN K) := CC_of (by decide) rfl rfl rfl (Nat.le_of_ble_eq_true rfl) (w_X10_layPages_0  h)
set_option maxRecDepth 4000 in
theorem w_X10_layPages_17 (x2 : Int) {σ : Mem} {K : Mem → Prop} (h : R32 x2 ∧ R32 (σ 80 15) ∧ (((σ 80 15) ≤ x2 → K σ) ∧ (¬ (σ 80 15) ≤ x2 → CC m_X10_addLeg [vR 80, vI x2] σ (PN (fun s11 => TT m_X10_layPages 17 [vR 80, vU, vI (x2 + 1)] [] s11 (PN K)))))) : TT m_X10_layPages 17 [vR 80, vU, vI x2] [] σ (PN K) := by
  refine TT_iload_n dX10_layPages_17 rfl ?_
  refine TT_aload_n dX10_layPages_18 rfl ?_
  refine TT_getI dX10_layPages_19 fd_X10_195 (by decide) (Or.inl rfl) (by decide) rfl ?_
  obtain ⟨o7, h⟩ := h
  obtain ⟨o8, h⟩ := h
  refine TT_icmp_ge (tgt := 36) dX10_layPages_22 rfl o7 o8 (fun c9 => ?_) (fun c9 => ?_)
  · replace h := h.1 c9
    exact TT_vret dX10_layPages_36 rfl rfl h
  · replace h := h.2 c9
    refine TT_aload_n dX10_layPages_25 rfl ?_
    refine TT_iload_n dX10_layPages_26 rfl ?_
    refine TT_callVN (M' := m_X10_addLeg) (as := [vI x2]) (rest := []) dX10_layPages_27 mo_X10_addLeg ml_X10_240 im_X10_addLeg se_X10_addLeg (Nat.le_of_ble_eq_true rfl) (Nat.le_of_ble_eq_true rfl) ⟨rfl, rfl, rfl⟩ rfl rfl (Nat.le_of_ble_eq_true rfl) (by decide) rfl rfl (by decide) h (fun s11 h => ?_)
    refine TT_iinc dX10_layPages_30 (Nat.le_of_ble_eq_true rfl) rfl rfl rfl ?_
    refine TT_goto (tgt := 17) dX10_layPages_33 rfl ?_
    exact h
set_option maxRecDepth 4000 in
theorem w_X10_pages_0 (x1 : Int) {σ : Mem} {K : Int → Mem → Prop} (h : R32 x1 ∧ CC m_X10_in [vL x1, vL 0, vL 3] σ (PZ (fun s3 => CC m_X10_layPages [vR 80] s3 (PN (fun s7 => TT m_X10_pages 26 [vR 80, vI x1, vI 0, vI 0, vI 0] [] s7 (PI K)))) (fun s4 => K (-900002) s4))) : TT m_X10_pages 0 [vR 80, vI x1, vU, vU, vU] [] σ (PI K) := by
  refine TT_iload_n dX10_pages_0 rfl ?_
  obtain ⟨o1, h⟩ := h
  refine TT_i2l dX10_pages_1 o1 ?_
  refine TT_lconst dX10_pages_2 (x := 0) rfl ?_
  refine TT_ldc2 dX10_pages_3 kl_X10_243 (x := 3) rfl ?_
  refine TT_callSZ (M' := m_X10_in) (as := [vL x1, vL 0, vL 3]) (rest := []) dX10_pages_6 mo_X10_in ml_X10_73 sm_X10_in (Nat.le_of_ble_eq_true rfl) (Nat.le_of_ble_eq_true rfl) ⟨rfl, rfl, rfl⟩ rfl rfl (Nat.le_of_ble_eq_true rfl) h (fun s3 h => ?_) (fun s4 h => ?_)
  · refine TT_if_ne (tgt := 15) dX10_pages_9 rfl (by decide) (fun c5 => ?_) (fun c5 => absurd c5 (by decide))
    refine TT_aload_n dX10_pages_15 rfl ?_
    refine TT_callVN (M' := m_X10_layPages) (as := []) (rest := []) dX10_pages_16 mo_X10_layPages ml_X10_245 im_X10_layPages se_X10_layPages (Nat.le_of_ble_eq_true rfl) (Nat.le_of_ble_eq_true rfl) ⟨rfl, rfl, rfl⟩ rfl rfl (Nat.le_of_ble_eq_true rfl) (by decide) rfl rfl (by decide) h (fun s7 h => ?_)
    refine TT_iconst dX10_pages_19 ?_
    refine TT_istore_n dX10_pages_20 (Nat.le_of_ble_eq_true rfl) rfl rfl ?_
    refine TT_iconst dX10_pages_21 ?_
    refine TT_istore_n dX10_pages_22 (Nat.le_of_ble_eq_true rfl) rfl rfl ?_
    refine TT_iconst dX10_pages_23 ?_
    refine TT_istore dX10_pages_24 (Nat.le_of_ble_eq_true rfl) rfl rfl ?_
    exact h
  · refine TT_if_ne (tgt := 15) dX10_pages_9 rfl (by decide) (fun c8 => absurd c8 (by decide)) (fun c8 => ?_)
    refine TT_ldc dX10_pages_12 kc_X10_89 (x := (-900002)) rfl ?_
    exact TT_iret dX10_pages_14 rfl rfl h
theorem e_X10_pages (x1 : Int) {σ : Mem} {K : Int → Mem → Prop} (h : R32 x1 ∧ CC m_X10_in [vL x1, vL 0, vL 3] σ (PZ (fun s3 => CC m_X10_layPages [vR 80] s3 (PN (fun s7 => TT m_X10_pages 26 [vR 80, vI x1, vI 0, vI 0, vI 0] [] s7 (PI K)))) (fun s4 => K (-900002) s4))) : CC m_X10_pages [vR 80, vI x1] σ (PI K) := CC_of (by decide) rfl rfl rfl (Nat.le_of_ble_eq_true rfl) (w_X10_pages_0 x1 h)
set_option maxRecDepth 4000 in
theorem w_X10_pages_26 (x1 : Int) (x2 : Int) (x3 : Int) (x4 : Int) {σ : Mem} {K : Int → Mem → Prop} (h : R32 x4 ∧ R32 (σ 80 17) ∧ (((σ 80 17) ≤ x4 → R32 x1 ∧ K (if ¬ x1 = 0 then (if ¬ x1 = 1 then (if ¬ x1 = 2 then x3 else x2 : Int) else (σ 80 17) : Int) else (σ 80 15) : Int) σ) ∧ (¬ (σ 80 17) ≤ x4 → (0 ≤ x4 ∧ x4 < 500) ∧ R32 (σ 91 (x4).toNat) ∧ (∀ v23 : Int, v23 = (x2 + (if ¬ (σ 91 (x4).toNat) = (-900009) then 0 else 1 : Int)) → R32 (σ 92 (x4).toNat) ∧ R32 x3 ∧ (∀ v29 : Int, v29 = (if (σ 92 (x4).toNat) ≤ x3 then x3 else (σ 92 (x4).toNat) : Int) → TT m_X10_pages 26 [vR 80, vI x1, vI v23, vI v29, vI (x4 + 1)] [] σ (PI K)))))) : TT m_X10_pages 26 [vR 80, vI x1, vI x2, vI x3, vI x4] [] σ (PI K) := by
  refine TT_iload dX10_pages_26 rfl ?_
  refine TT_aload_n dX10_pages_28 rfl ?_
  refine TT_getI dX10_pages_29 fd_X10_201 (by decide) (Or.inl rfl) (by decide) rfl ?_
  obtain ⟨o9, h⟩ := h
  obtain ⟨o10, h⟩ := h
  refine TT_icmp_ge (tgt := 84) dX10_pages_32 rfl o9 o10 (fun c11 => ?_) (fun c11 => ?_)
  · replace h := h.1 c11
    refine TT_iload_n dX10_pages_84 rfl ?_
    obtain ⟨o12, h⟩ := h
    have j18 : TT m_X10_pages 117 [vR 80, vI x1, vI x2, vI x3, vI x4] [vI (if ¬ x1 = 0 then (if ¬ x1 = 1 then (if ¬ x1 = 2 then x3 else x2 : Int) else (σ 80 17) : Int) else (σ 80 15) : Int)] σ (PI K) := by
      exact TT_iret dX10_pages_117 rfl rfl h
    refine TT_if_ne (tgt := 95) dX10_pages_85 rfl o12 (fun c13 => ?_) (fun c13 => ?_)
    · refine TT_iload_n dX10_pages_95 rfl ?_
      refine TT_iconst dX10_pages_96 ?_
      have j17 : TT m_X10_pages 117 [vR 80, vI x1, vI x2, vI x3, vI x4] [vI (if ¬ x1 = 1 then (if ¬ x1 = 2 then x3 else x2 : Int) else (σ 80 17) : Int)] σ (PI K) := by
        exact TT.cast j18 (by first | rfl | (simp only [if_pos c13] <;> rfl)) (by first | rfl | (simp only [if_pos c13] <;> rfl))
      refine TT_icmp_ne (tgt := 107) dX10_pages_97 rfl o12 (by decide) (fun c14 => ?_) (fun c14 => ?_)
      · refine TT_iload_n dX10_pages_107 rfl ?_
        refine TT_iconst dX10_pages_108 ?_
        have j16 : TT m_X10_pages 117 [vR 80, vI x1, vI x2, vI x3, vI x4] [vI (if ¬ x1 = 2 then x3 else x2 : Int)] σ (PI K) := by
          exact TT.cast j17 (by first | rfl | (simp only [if_pos c14] <;> rfl)) (by first | rfl | (simp only [if_pos c14] <;> rfl))
        refine TT_icmp_ne (tgt := 116) dX10_pages_109 rfl o12 (by decide) (fun c15 => ?_) (fun c15 => ?_)
        · refine TT_iload_n dX10_pages_116 rfl ?_
          exact TT.cast j16 (by first | rfl | (simp only [if_pos c15] <;> rfl)) (by first | rfl | (simp only [if_pos c15] <;> rfl))
        · refine TT_iload_n dX10_pages_112 rfl ?_
          refine TT_goto (tgt := 117) dX10_pages_113 rfl ?_
          exact TT.cast j16 (by first | rfl | (simp only [if_neg (not_not_intro c15)] <;> rfl)) (by first | rfl | (simp only [if_neg (not_not_intro c15)] <;> rfl))
      · refine TT_aload_n dX10_pages_100 rfl ?_
        refine TT_getI dX10_pages_101 fd_X10_201 (by decide) (Or.inl rfl) (by decide) rfl ?_
        refine TT_goto (tgt := 117) dX10_pages_104 rfl ?_
        exact TT.cast j17 (by first | rfl | (simp only [if_neg (not_not_intro c14)] <;> rfl)) (by first | rfl | (simp only [if_neg (not_not_intro c14)] <;> rfl))
    · refine TT_aload_n dX10_pages_88 rfl ?_
      refine TT_getI dX10_pages_89 fd_X10_195 (by decide) (Or.inl rfl) (by decide) rfl ?_
      refine TT_goto (tgt := 117) dX10_pages_92 rfl ?_
      exact TT.cast j18 (by first | rfl | (simp only [if_neg (not_not_intro c13)] <;> rfl)) (by first | rfl | (simp only [if_neg (not_not_intro c13)] <;> rfl))
  · replace h := h.2 c11
    refine TT_iload_n dX10_pages_35 rfl ?_
    refine TT_aload_n dX10_pages_36 rfl ?_
    refine TT_getR (r := 91) dX10_pages_37 fd_X10_41 (by decide) rfl (by decide) rfl rfl ?_
    refine TT_iload dX10_pages_40 rfl ?_
    obtain ⟨o19, h⟩ := h
    refine TT_iald dX10_pages_42 (by decide) rfl (by decide) o19 ?_
    refine TT_ldc dX10_pages_43 kc_X10_149 (x := (-900009)) rfl ?_
    obtain ⟨o20, h⟩ := h
    have j22 : TT m_X10_pages 53 [vR 80, vI x1, vI x2, vI x3, vI x4] [vI (if ¬ (σ 91 (x4).toNat) = (-900009) then 0 else 1 : Int), vI x2] σ (PI K) := by
      refine TT_iadd dX10_pages_53 ?_
      refine TT_nmI (fun v23 e24 => ?_)
      replace h := h v23 e24
      refine TT_istore_n dX10_pages_54 (Nat.le_of_ble_eq_true rfl) rfl rfl ?_
      refine TT_aload_n dX10_pages_55 rfl ?_
      refine TT_getR (r := 92) dX10_pages_56 fd_X10_44 (by decide) rfl (by decide) rfl rfl ?_
      refine TT_iload dX10_pages_59 rfl ?_
      refine TT_iald dX10_pages_61 (by decide) rfl (by decide) o19 ?_
      refine TT_iload_n dX10_pages_62 rfl ?_
      obtain ⟨o25, h⟩ := h
      obtain ⟨o26, h⟩ := h
      have j28 : TT m_X10_pages 77 [vR 80, vI x1, vI v23, vI x3, vI x4] [vI (if (σ 92 (x4).toNat) ≤ x3 then x3 else (σ 92 (x4).toNat) : Int)] σ (PI K) := by
        refine TT_nmI (fun v29 e30 => ?_)
        replace h := h v29 e30
        refine TT_istore_n dX10_pages_77 (Nat.le_of_ble_eq_true rfl) rfl rfl ?_
        refine TT_iinc dX10_pages_78 (Nat.le_of_ble_eq_true rfl) rfl rfl rfl ?_
        refine TT_goto (tgt := 26) dX10_pages_81 rfl ?_
        exact h
      refine TT_icmp_le (tgt := 76) dX10_pages_63 rfl o25 o26 (fun c27 => ?_) (fun c27 => ?_)
      · refine TT_iload_n dX10_pages_76 rfl ?_
        exact TT.cast j28 (by first | rfl | (simp only [if_pos c27] <;> rfl)) (by first | rfl | (simp only [if_pos c27] <;> rfl))
      · refine TT_aload_n dX10_pages_66 rfl ?_
        refine TT_getR (r := 92) dX10_pages_67 fd_X10_44 (by decide) rfl (by decide) rfl rfl ?_
        refine TT_iload dX10_pages_70 rfl ?_
        refine TT_iald dX10_pages_72 (by decide) rfl (by decide) o19 ?_
        refine TT_goto (tgt := 77) dX10_pages_73 rfl ?_
        exact TT.cast j28 (by first | rfl | (simp only [if_neg c27] <;> rfl)) (by first | rfl | (simp only [if_neg c27] <;> rfl))
    refine TT_icmp_ne (tgt := 52) dX10_pages_45 rfl o20 (by decide) (fun c21 => ?_) (fun c21 => ?_)
    · refine TT_iconst dX10_pages_52 ?_
      exact TT.cast j22 (by first | rfl | (simp only [if_pos c21] <;> rfl)) (by first | rfl | (simp only [if_pos c21] <;> rfl))
    · refine TT_iconst dX10_pages_48 ?_
      refine TT_goto (tgt := 53) dX10_pages_49 rfl ?_
      exact TT.cast j22 (by first | rfl | (simp only [if_neg (not_not_intro c21)] <;> rfl)) (by first | rfl | (simp only [if_neg (not_not_intro c21)] <;> rfl))
set_option maxRecDepth 4000 in
theorem w_X10_size_0  {σ : Mem} {K : Int → Mem → Prop} (h : CC m_X10_layPages [vR 80] σ (PN (fun s2 => TT m_X10_size 8 [vR 80, vL 0, vU, vI 0] [] s2 (PJ K)))) : TT m_X10_size 0 [vR 80, vU, vU, vU] [] σ (PJ K) := by
  refine TT_aload_n dX10_size_0 rfl ?_
  refine TT_callVN (M' := m_X10_layPages) (as := []) (rest := []) dX10_size_1 mo_X10_layPages ml_X10_245 im_X10_layPages se_X10_layPages (Nat.le_of_ble_eq_true rfl) (Nat.le_of_ble_eq_true rfl) ⟨rfl, rfl, rfl⟩ rfl rfl (Nat.le_of_ble_eq_true rfl) (by decide) rfl rfl (by decide) h (fun s2 h => ?_)
  refine TT_lconst dX10_size_4 (x := 0) rfl ?_
  refine TT_lstore_n dX10_size_5 (Nat.le_of_ble_eq_true rfl) rfl rfl ?_
  refine TT_iconst dX10_size_6 ?_
  refine TT_istore_n dX10_size_7 (Nat.le_of_ble_eq_true rfl) rfl rfl ?_
  exact h
theorem e_X10_size  {σ : Mem} {K : Int → Mem → Prop} (h : CC m_X10_layPages [vR 80] σ (PN (fun s2 => TT m_X10_size 8 [vR 80, vL 0, vU, vI 0] [] s2 (PJ K)))) : CC m_X10_size [vR 80] σ (PJ K) := CC_of (by decide) rfl rfl rfl (Nat.le_of_ble_eq_true rfl) (w_X10_size_0  h)
set_option maxRecDepth 4000 in
theorem w_X10_size_8 (x1 : Int) (x3 : Int) {σ : Mem} {K : Int → Mem → Prop} (h : R32 x3 ∧ R32 (σ 80 17) ∧ (((σ 80 17) ≤ x3 → K x1 σ) ∧ (¬ (σ 80 17) ≤ x3 → (0 ≤ x3 ∧ x3 < 500) ∧ R32 (σ 91 (x3).toNat) ∧ ((¬ (σ 91 (x3).toNat) = (-900009) → TT m_X10_size 8 [vR 80, vL (x1 + 0), vU, vI (x3 + 1)] [] σ (PJ K)) ∧ ((σ 91 (x3).toNat) = (-900009) → R32 (σ 90 (x3).toNat) ∧ ((¬ (σ 90 (x3).toNat) = 0 → TT m_X10_size 8 [vR 80, vL (x1 + 0), vU, vI (x3 + 1)] [] σ (PJ K)) ∧ ((σ 90 (x3).toNat) = 0 → CC m_X10_sizeWith [vR 80, vI x3, vI (-900009)] σ (PI (fun y11 s12 => R32 y11 ∧ TT m_X10_size 8 [vR 80, vL (x1 + y11), vU, vI (x3 + 1)] [] s12 (PJ K)))))))))) : TT m_X10_size 8 [vR 80, vL x1, vU, vI x3] [] σ (PJ K) := by
  refine TT_iload_n dX10_size_8 rfl ?_
  refine TT_aload_n dX10_size_9 rfl ?_
  refine TT_getI dX10_size_10 fd_X10_201 (by decide) (Or.inl rfl) (by decide) rfl ?_
  obtain ⟨o3, h⟩ := h
  obtain ⟨o4, h⟩ := h
  refine TT_icmp_ge (tgt := 57) dX10_size_13 rfl o3 o4 (fun c5 => ?_) (fun c5 => ?_)
  · replace h := h.1 c5
    refine TT_lload_n dX10_size_57 rfl ?_
    exact TT_lret dX10_size_58 rfl rfl h
  · replace h := h.2 c5
    refine TT_lload_n dX10_size_16 rfl ?_
    refine TT_aload_n dX10_size_17 rfl ?_
    refine TT_getR (r := 91) dX10_size_18 fd_X10_41 (by decide) rfl (by decide) rfl rfl ?_
    refine TT_iload_n dX10_size_21 rfl ?_
    obtain ⟨o6, h⟩ := h
    refine TT_iald dX10_size_22 (by decide) rfl (by decide) o6 ?_
    refine TT_ldc dX10_size_23 kc_X10_149 (x := (-900009)) rfl ?_
    obtain ⟨o7, h⟩ := h
    refine TT_icmp_ne (tgt := 48) dX10_size_25 rfl o7 (by decide) (fun c8 => ?_) (fun c8 => ?_)
    · replace h := h.1 c8
      refine TT_lconst dX10_size_48 (x := 0) rfl ?_
      refine TT_ladd dX10_size_49 ?_
      refine TT_lstore_n dX10_size_50 (Nat.le_of_ble_eq_true rfl) rfl rfl ?_
      refine TT_iinc dX10_size_51 (Nat.le_of_ble_eq_true rfl) rfl rfl rfl ?_
      refine TT_goto (tgt := 8) dX10_size_54 rfl ?_
      exact h
    · replace h := h.2 c8
      refine TT_aload_n dX10_size_28 rfl ?_
      refine TT_getR (r := 90) dX10_size_29 fd_X10_37 (by decide) rfl (by decide) rfl rfl ?_
      refine TT_iload_n dX10_size_32 rfl ?_
      refine TT_zald dX10_size_33 (by decide) rfl (by decide) o6 ?_
      obtain ⟨o9, h⟩ := h
      refine TT_if_ne (tgt := 48) dX10_size_34 rfl o9 (fun c10 => ?_) (fun c10 => ?_)
      · replace h := h.1 c10
        refine TT_lconst dX10_size_48 (x := 0) rfl ?_
        refine TT_ladd dX10_size_49 ?_
        refine TT_lstore_n dX10_size_50 (Nat.le_of_ble_eq_true rfl) rfl rfl ?_
        refine TT_iinc dX10_size_51 (Nat.le_of_ble_eq_true rfl) rfl rfl rfl ?_
        refine TT_goto (tgt := 8) dX10_size_54 rfl ?_
        exact h
      · replace h := h.2 c10
        refine TT_aload_n dX10_size_37 rfl ?_
        refine TT_iload_n dX10_size_38 rfl ?_
        refine TT_ldc dX10_size_39 kc_X10_149 (x := (-900009)) rfl ?_
        refine TT_callVI (M' := m_X10_sizeWith) (as := [vI x3, vI (-900009)]) (rest := [vL x1]) dX10_size_41 mo_X10_sizeWith ml_X10_204 im_X10_sizeWith se_X10_sizeWith (Nat.le_of_ble_eq_true rfl) (Nat.le_of_ble_eq_true rfl) ⟨rfl, rfl, rfl⟩ rfl rfl (Nat.le_of_ble_eq_true rfl) (by decide) rfl rfl (by decide) h (fun y11 s12 h => ?_)
        obtain ⟨o13, h⟩ := h
        refine TT_i2l dX10_size_44 o13 ?_
        refine TT_goto (tgt := 49) dX10_size_45 rfl ?_
        refine TT_ladd dX10_size_49 ?_
        refine TT_lstore_n dX10_size_50 (Nat.le_of_ble_eq_true rfl) rfl rfl ?_
        refine TT_iinc dX10_size_51 (Nat.le_of_ble_eq_true rfl) rfl rfl rfl ?_
        refine TT_goto (tgt := 8) dX10_size_54 rfl ?_
        exact h
set_option maxRecDepth 4000 in
theorem w_X10_touches_0 (x1 : Int) (x2 : Int) (x3 : Int) (x4 : Int) {σ : Mem} {A B : Mem → Prop} (h : R32 x1 ∧ R32 x4 ∧ ((x4 < x1 → B σ) ∧ (¬ x4 < x1 → R32 x3 ∧ R32 x2 ∧ ((x2 < x3 → B σ) ∧ (¬ x2 < x3 → A σ))))) : TT m_X10_touches 0 [vR 80, vI x1, vI x2, vI x3, vI x4] [] σ (PZ A B) := by
  refine TT_iload_n dX10_touches_0 rfl ?_
  refine TT_iload dX10_touches_1 rfl ?_
  obtain ⟨o1, h⟩ := h
  obtain ⟨o2, h⟩ := h
  refine TT_icmp_gt (tgt := 15) dX10_touches_3 rfl o1 o2 (fun c3 => ?_) (fun c3 => ?_)
  · replace h := h.1 c3
    refine TT_iconst dX10_touches_15 ?_
    exact TT_z0 dX10_touches_16 rfl rfl h
  · replace h := h.2 c3
    refine TT_iload_n dX10_touches_6 rfl ?_
    refine TT_iload_n dX10_touches_7 rfl ?_
    obtain ⟨o4, h⟩ := h
    obtain ⟨o5, h⟩ := h
    refine TT_icmp_gt (tgt := 15) dX10_touches_8 rfl o4 o5 (fun c6 => ?_) (fun c6 => ?_)
    · replace h := h.1 c6
      refine TT_iconst dX10_touches_15 ?_
      exact TT_z0 dX10_touches_16 rfl rfl h
    · replace h := h.2 c6
      refine TT_iconst dX10_touches_11 ?_
      refine TT_goto (tgt := 16) dX10_touches_12 rfl ?_
      exact TT_z1 dX10_touches_16 rfl rfl h
theorem e_X10_touches (x1 : Int) (x2 : Int) (x3 : Int) (x4 : Int) {σ : Mem} {A B : Mem → Prop} (h : R32 x1 ∧ R32 x4 ∧ ((x4 < x1 → B σ) ∧ (¬ x4 < x1 → R32 x3 ∧ R32 x2 ∧ ((x2 < x3 → B σ) ∧ (¬ x2 < x3 → A σ))))) : CC m_X10_touches [vR 80, vI x1, vI x2, vI x3, vI x4] σ (PZ A B) := CC_of (by decide) rfl rfl rfl (Nat.le_of_ble_eq_true rfl) (w_X10_touches_0 x1 x2 x3 x4 h)
set_option maxRecDepth 4000 in
theorem w_X10_touchesPage_0 (x1 : Int) {σ : Mem} {A B : Mem → Prop} (h : (0 ≤ x1 ∧ x1 < 500) ∧ R32 (σ 90 (x1).toNat) ∧ (∀ v5 : Int, v5 = (if ¬ (σ 90 (x1).toNat) = 0 then 0 else 1 : Int) → TT m_X10_touchesPage 17 [vR 80, vI x1, vI v5, vI 0] [] σ (PZ A B))) : TT m_X10_touchesPage 0 [vR 80, vI x1, vU, vU] [] σ (PZ A B) := by
  refine TT_aload_n dX10_touchesPage_0 rfl ?_
  refine TT_getR (r := 90) dX10_touchesPage_1 fd_X10_37 (by decide) rfl (by decide) rfl rfl ?_
  refine TT_iload_n dX10_touchesPage_4 rfl ?_
  obtain ⟨o1, h⟩ := h
  refine TT_zald dX10_touchesPage_5 (by decide) rfl (by decide) o1 ?_
  obtain ⟨o2, h⟩ := h
  have j4 : TT m_X10_touchesPage 14 [vR 80, vI x1, vU, vU] [vI (if ¬ (σ 90 (x1).toNat) = 0 then 0 else 1 : Int)] σ (PZ A B) := by
    refine TT_nmI (fun v5 e6 => ?_)
    replace h := h v5 e6
    refine TT_istore_n dX10_touchesPage_14 (Nat.le_of_ble_eq_true rfl) rfl rfl ?_
    refine TT_iconst dX10_touchesPage_15 ?_
    refine TT_istore_n dX10_touchesPage_16 (Nat.le_of_ble_eq_true rfl) rfl rfl ?_
    exact h
  refine TT_if_ne (tgt := 13) dX10_touchesPage_6 rfl o2 (fun c3 => ?_) (fun c3 => ?_)
  · refine TT_iconst dX10_touchesPage_13 ?_
    exact TT.cast j4 (by first | rfl | (simp only [if_pos c3] <;> rfl)) (by first | rfl | (simp only [if_pos c3] <;> rfl))
  · refine TT_iconst dX10_touchesPage_9 ?_
    refine TT_goto (tgt := 14) dX10_touchesPage_10 rfl ?_
    exact TT.cast j4 (by first | rfl | (simp only [if_neg (not_not_intro c3)] <;> rfl)) (by first | rfl | (simp only [if_neg (not_not_intro c3)] <;> rfl))
theorem e_X10_touchesPage (x1 : Int) {σ : Mem} {A B : Mem → Prop} (h : (0 ≤ x1 ∧ x1 < 500) ∧ R32 (σ 90 (x1).toNat) ∧ (∀ v5 : Int, v5 = (if ¬ (σ 90 (x1).toNat) = 0 then 0 else 1 : Int) → TT m_X10_touchesPage 17 [vR 80, vI x1, vI v5, vI 0] [] σ (PZ A B))) : CC m_X10_touchesPage [vR 80, vI x1] σ (PZ A B) := CC_of (by decide) rfl rfl rfl (Nat.le_of_ble_eq_true rfl) (w_X10_touchesPage_0 x1 h)
set_option maxRecDepth 4000 in
theorem w_X10_touchesPage_17 (x1 : Int) (x2 : Int) (x3 : Int) {σ : Mem} {A B : Mem → Prop} (h : R32 x3 ∧ ((6 ≤ x3 → (x2 = 0 ∨ x2 = 1) ∧ ((x2 = 1 → A σ) ∧ (x2 = 0 → B σ))) ∧ (¬ 6 ≤ x3 → R32 x2 ∧ ((x2 = 0 → TT m_X10_touchesPage 17 [vR 80, vI x1, vI 0, vI (x3 + 2)] [] σ (PZ A B)) ∧ (¬ x2 = 0 → (0 ≤ ((6 * x1) + x3) ∧ ((6 * x1) + x3) < 3000) ∧ (0 ≤ (((6 * x1) + x3) + 1) ∧ (((6 * x1) + x3) + 1) < 3000) ∧ (0 ≤ x3 ∧ x3 < 6) ∧ (0 ≤ (x3 + 1) ∧ (x3 + 1) < 6) ∧ CC m_X10_touches [vR 80, vI (σ 89 ((6 * x1) + x3).toNat), vI (σ 89 (((6 * x1) + x3) + 1).toNat), vI (σ 97 (x3).toNat), vI (σ 97 (x3 + 1).toNat)] σ (PZ (fun s17 => TT m_X10_touchesPage 17 [vR 80, vI x1, vI 1, vI (x3 + 2)] [] s17 (PZ A B)) (fun s18 => TT m_X10_touchesPage 17 [vR 80, vI x1, vI 0, vI (x3 + 2)] [] s18 (PZ A B)))))))) : TT m_X10_touchesPage 17 [vR 80, vI x1, vI x2, vI x3] [] σ (PZ A B) := by
  refine TT_iload_n dX10_touchesPage_17 rfl ?_
  refine TT_bipush dX10_touchesPage_18 (by decide) ?_
  obtain ⟨o7, h⟩ := h
  refine TT_icmp_ge (tgt := 84) dX10_touchesPage_20 rfl o7 (by decide) (fun c8 => ?_) (fun c8 => ?_)
  · replace h := h.1 c8
    refine TT_iload_n dX10_touchesPage_84 rfl ?_
    obtain ⟨o9, h⟩ := h
    exact TT_zE dX10_touchesPage_85 rfl rfl o9 h.1 h.2
  · replace h := h.2 c8
    refine TT_iload_n dX10_touchesPage_23 rfl ?_
    obtain ⟨o10, h⟩ := h
    refine TT_if_eq (tgt := 76) dX10_touchesPage_24 rfl o10 (fun c11 => ?_) (fun c11 => ?_)
    · replace h := h.1 c11
      refine TT_iconst dX10_touchesPage_76 ?_
      refine TT_istore_n dX10_touchesPage_77 (Nat.le_of_ble_eq_true rfl) rfl rfl ?_
      refine TT_iinc dX10_touchesPage_78 (Nat.le_of_ble_eq_true rfl) rfl rfl rfl ?_
      refine TT_goto (tgt := 17) dX10_touchesPage_81 rfl ?_
      exact h
    · replace h := h.2 c11
      refine TT_aload_n dX10_touchesPage_27 rfl ?_
      refine TT_aload_n dX10_touchesPage_28 rfl ?_
      refine TT_getR (r := 89) dX10_touchesPage_29 fd_X10_34 (by decide) rfl (by decide) rfl rfl ?_
      refine TT_bipush dX10_touchesPage_32 (by decide) ?_
      refine TT_iload_n dX10_touchesPage_34 rfl ?_
      refine TT_imul dX10_touchesPage_35 ?_
      refine TT_iload_n dX10_touchesPage_36 rfl ?_
      refine TT_iadd dX10_touchesPage_37 ?_
      obtain ⟨o12, h⟩ := h
      refine TT_iald dX10_touchesPage_38 (by decide) rfl (by decide) o12 ?_
      refine TT_aload_n dX10_touchesPage_39 rfl ?_
      refine TT_getR (r := 89) dX10_touchesPage_40 fd_X10_34 (by decide) rfl (by decide) rfl rfl ?_
      refine TT_bipush dX10_touchesPage_43 (by decide) ?_
      refine TT_iload_n dX10_touchesPage_45 rfl ?_
      refine TT_imul dX10_touchesPage_46 ?_
      refine TT_iload_n dX10_touchesPage_47 rfl ?_
      refine TT_iadd dX10_touchesPage_48 ?_
      refine TT_iconst dX10_touchesPage_49 ?_
      refine TT_iadd dX10_touchesPage_50 ?_
      obtain ⟨o13, h⟩ := h
      refine TT_iald dX10_touchesPage_51 (by decide) rfl (by decide) o13 ?_
      refine TT_aload_n dX10_touchesPage_52 rfl ?_
      refine TT_getR (r := 97) dX10_touchesPage_53 fd_X10_59 (by decide) rfl (by decide) rfl rfl ?_
      refine TT_iload_n dX10_touchesPage_56 rfl ?_
      obtain ⟨o14, h⟩ := h
      refine TT_iald dX10_touchesPage_57 (by decide) rfl (by decide) o14 ?_
      refine TT_aload_n dX10_touchesPage_58 rfl ?_
      refine TT_getR (r := 97) dX10_touchesPage_59 fd_X10_59 (by decide) rfl (by decide) rfl rfl ?_
      refine TT_iload_n dX10_touchesPage_62 rfl ?_
      refine TT_iconst dX10_touchesPage_63 ?_
      refine TT_iadd dX10_touchesPage_64 ?_
      obtain ⟨o15, h⟩ := h
      refine TT_iald dX10_touchesPage_65 (by decide) rfl (by decide) o15 ?_
      refine TT_callVZ (M' := m_X10_touches) (as := [vI (σ 89 ((6 * x1) + x3).toNat), vI (σ 89 (((6 * x1) + x3) + 1).toNat), vI (σ 97 (x3).toNat), vI (σ 97 (x3 + 1).toNat)]) (rest := []) dX10_touchesPage_66 mo_X10_touches ml_X10_248 im_X10_touches se_X10_touches (Nat.le_of_ble_eq_true rfl) (Nat.le_of_ble_eq_true rfl) ⟨rfl, rfl, rfl⟩ rfl rfl (Nat.le_of_ble_eq_true rfl) (by decide) rfl rfl (by decide) h (fun s17 h => ?_) (fun s18 h => ?_)
      · refine TT_if_eq (tgt := 76) dX10_touchesPage_69 rfl (by decide) (fun c19 => absurd c19 (by decide)) (fun c19 => ?_)
        refine TT_iconst dX10_touchesPage_72 ?_
        refine TT_goto (tgt := 77) dX10_touchesPage_73 rfl ?_
        refine TT_istore_n dX10_touchesPage_77 (Nat.le_of_ble_eq_true rfl) rfl rfl ?_
        refine TT_iinc dX10_touchesPage_78 (Nat.le_of_ble_eq_true rfl) rfl rfl rfl ?_
        refine TT_goto (tgt := 17) dX10_touchesPage_81 rfl ?_
        exact h
      · refine TT_if_eq (tgt := 76) dX10_touchesPage_69 rfl (by decide) (fun c20 => ?_) (fun c20 => absurd c20 (by decide))
        refine TT_iconst dX10_touchesPage_76 ?_
        refine TT_istore_n dX10_touchesPage_77 (Nat.le_of_ble_eq_true rfl) rfl rfl ?_
        refine TT_iinc dX10_touchesPage_78 (Nat.le_of_ble_eq_true rfl) rfl rfl rfl ?_
        refine TT_goto (tgt := 17) dX10_touchesPage_81 rfl ?_
        exact h
set_option maxRecDepth 4000 in
theorem w_X10_touchesLeg_0 (x1 : Int) {σ : Mem} {A B : Mem → Prop} (h : TT m_X10_touchesLeg 4 [vR 80, vI x1, vI 1, vI 0] [] σ (PZ A B)) : TT m_X10_touchesLeg 0 [vR 80, vI x1, vU, vU] [] σ (PZ A B) := by
  refine TT_iconst dX10_touchesLeg_0 ?_
  refine TT_istore_n dX10_touchesLeg_1 (Nat.le_of_ble_eq_true rfl) rfl rfl ?_
  refine TT_iconst dX10_touchesLeg_2 ?_
  refine TT_istore_n dX10_touchesLeg_3 (Nat.le_of_ble_eq_true rfl) rfl rfl ?_
  exact h
theorem e_X10_touchesLeg (x1 : Int) {σ : Mem} {A B : Mem → Prop} (h : TT m_X10_touchesLeg 4 [vR 80, vI x1, vI 1, vI 0] [] σ (PZ A B)) : CC m_X10_touchesLeg [vR 80, vI x1] σ (PZ A B) := CC_of (by decide) rfl rfl rfl (Nat.le_of_ble_eq_true rfl) (w_X10_touchesLeg_0 x1 h)
set_option maxRecDepth 4000 in
theorem w_X10_touchesLeg_4 (x1 : Int) (x2 : Int) (x3 : Int) {σ : Mem} {A B : Mem → Prop} (h : R32 x3 ∧ ((6 ≤ x3 → (x2 = 0 ∨ x2 = 1) ∧ ((x2 = 1 → A σ) ∧ (x2 = 0 → B σ))) ∧ (¬ 6 ≤ x3 → R32 x2 ∧ ((x2 = 0 → TT m_X10_touchesLeg 4 [vR 80, vI x1, vI 0, vI (x3 + 2)] [] σ (PZ A B)) ∧ (¬ x2 = 0 → (0 ≤ ((6 * x1) + x3) ∧ ((6 * x1) + x3) < 1440) ∧ (0 ≤ (((6 * x1) + x3) + 1) ∧ (((6 * x1) + x3) + 1) < 1440) ∧ (0 ≤ x3 ∧ x3 < 6) ∧ (0 ≤ (x3 + 1) ∧ (x3 + 1) < 6) ∧ CC m_X10_touches [vR 80, vI (σ 88 ((6 * x1) + x3).toNat), vI (σ 88 (((6 * x1) + x3) + 1).toNat), vI (σ 97 (x3).toNat), vI (σ 97 (x3 + 1).toNat)] σ (PZ (fun s11 => TT m_X10_touchesLeg 4 [vR 80, vI x1, vI 1, vI (x3 + 2)] [] s11 (PZ A B)) (fun s12 => TT m_X10_touchesLeg 4 [vR 80, vI x1, vI 0, vI (x3 + 2)] [] s12 (PZ A B)))))))) : TT m_X10_touchesLeg 4 [vR 80, vI x1, vI x2, vI x3] [] σ (PZ A B) := by
  refine TT_iload_n dX10_touchesLeg_4 rfl ?_
  refine TT_bipush dX10_touchesLeg_5 (by decide) ?_
  obtain ⟨o1, h⟩ := h
  refine TT_icmp_ge (tgt := 71) dX10_touchesLeg_7 rfl o1 (by decide) (fun c2 => ?_) (fun c2 => ?_)
  · replace h := h.1 c2
    refine TT_iload_n dX10_touchesLeg_71 rfl ?_
    obtain ⟨o3, h⟩ := h
    exact TT_zE dX10_touchesLeg_72 rfl rfl o3 h.1 h.2
  · replace h := h.2 c2
    refine TT_iload_n dX10_touchesLeg_10 rfl ?_
    obtain ⟨o4, h⟩ := h
    refine TT_if_eq (tgt := 63) dX10_touchesLeg_11 rfl o4 (fun c5 => ?_) (fun c5 => ?_)
    · replace h := h.1 c5
      refine TT_iconst dX10_touchesLeg_63 ?_
      refine TT_istore_n dX10_touchesLeg_64 (Nat.le_of_ble_eq_true rfl) rfl rfl ?_
      refine TT_iinc dX10_touchesLeg_65 (Nat.le_of_ble_eq_true rfl) rfl rfl rfl ?_
      refine TT_goto (tgt := 4) dX10_touchesLeg_68 rfl ?_
      exact h
    · replace h := h.2 c5
      refine TT_aload_n dX10_touchesLeg_14 rfl ?_
      refine TT_aload_n dX10_touchesLeg_15 rfl ?_
      refine TT_getR (r := 88) dX10_touchesLeg_16 fd_X10_31 (by decide) rfl (by decide) rfl rfl ?_
      refine TT_bipush dX10_touchesLeg_19 (by decide) ?_
      refine TT_iload_n dX10_touchesLeg_21 rfl ?_
      refine TT_imul dX10_touchesLeg_22 ?_
      refine TT_iload_n dX10_touchesLeg_23 rfl ?_
      refine TT_iadd dX10_touchesLeg_24 ?_
      obtain ⟨o6, h⟩ := h
      refine TT_iald dX10_touchesLeg_25 (by decide) rfl (by decide) o6 ?_
      refine TT_aload_n dX10_touchesLeg_26 rfl ?_
      refine TT_getR (r := 88) dX10_touchesLeg_27 fd_X10_31 (by decide) rfl (by decide) rfl rfl ?_
      refine TT_bipush dX10_touchesLeg_30 (by decide) ?_
      refine TT_iload_n dX10_touchesLeg_32 rfl ?_
      refine TT_imul dX10_touchesLeg_33 ?_
      refine TT_iload_n dX10_touchesLeg_34 rfl ?_
      refine TT_iadd dX10_touchesLeg_35 ?_
      refine TT_iconst dX10_touchesLeg_36 ?_
      refine TT_iadd dX10_touchesLeg_37 ?_
      obtain ⟨o7, h⟩ := h
      refine TT_iald dX10_touchesLeg_38 (by decide) rfl (by decide) o7 ?_
      refine TT_aload_n dX10_touchesLeg_39 rfl ?_
      refine TT_getR (r := 97) dX10_touchesLeg_40 fd_X10_59 (by decide) rfl (by decide) rfl rfl ?_
      refine TT_iload_n dX10_touchesLeg_43 rfl ?_
      obtain ⟨o8, h⟩ := h
      refine TT_iald dX10_touchesLeg_44 (by decide) rfl (by decide) o8 ?_
      refine TT_aload_n dX10_touchesLeg_45 rfl ?_
      refine TT_getR (r := 97) dX10_touchesLeg_46 fd_X10_59 (by decide) rfl (by decide) rfl rfl ?_
      refine TT_iload_n dX10_touchesLeg_49 rfl ?_
      refine TT_iconst dX10_touchesLeg_50 ?_
      refine TT_iadd dX10_touchesLeg_51 ?_
      obtain ⟨o9, h⟩ := h
      refine TT_iald dX10_touchesLeg_52 (by decide) rfl (by decide) o9 ?_
      refine TT_callVZ (M' := m_X10_touches) (as := [vI (σ 88 ((6 * x1) + x3).toNat), vI (σ 88 (((6 * x1) + x3) + 1).toNat), vI (σ 97 (x3).toNat), vI (σ 97 (x3 + 1).toNat)]) (rest := []) dX10_touchesLeg_53 mo_X10_touches ml_X10_248 im_X10_touches se_X10_touches (Nat.le_of_ble_eq_true rfl) (Nat.le_of_ble_eq_true rfl) ⟨rfl, rfl, rfl⟩ rfl rfl (Nat.le_of_ble_eq_true rfl) (by decide) rfl rfl (by decide) h (fun s11 h => ?_) (fun s12 h => ?_)
      · refine TT_if_eq (tgt := 63) dX10_touchesLeg_56 rfl (by decide) (fun c13 => absurd c13 (by decide)) (fun c13 => ?_)
        refine TT_iconst dX10_touchesLeg_59 ?_
        refine TT_goto (tgt := 64) dX10_touchesLeg_60 rfl ?_
        refine TT_istore_n dX10_touchesLeg_64 (Nat.le_of_ble_eq_true rfl) rfl rfl ?_
        refine TT_iinc dX10_touchesLeg_65 (Nat.le_of_ble_eq_true rfl) rfl rfl rfl ?_
        refine TT_goto (tgt := 4) dX10_touchesLeg_68 rfl ?_
        exact h
      · refine TT_if_eq (tgt := 63) dX10_touchesLeg_56 rfl (by decide) (fun c14 => ?_) (fun c14 => absurd c14 (by decide))
        refine TT_iconst dX10_touchesLeg_63 ?_
        refine TT_istore_n dX10_touchesLeg_64 (Nat.le_of_ble_eq_true rfl) rfl rfl ?_
        refine TT_iinc dX10_touchesLeg_65 (Nat.le_of_ble_eq_true rfl) rfl rfl rfl ?_
        refine TT_goto (tgt := 4) dX10_touchesLeg_68 rfl ?_
        exact h
set_option maxRecDepth 4000 in
theorem w_X10_opens_0 (x1 : Int) (x2 : Int) (x3 : Int) (x4 : Int) (x5 : Int) (x6 : Int) (x7 : Int) {σ : Mem} {K : Int → Mem → Prop} (h : CC m_X10_isSpan [vI x1, vI x2] σ (PZ (fun s2 => CC m_X10_isSpan [vI x3, vI x4] s2 (PZ (fun s6 => CC m_X10_isMinute [vI x5] s6 (PZ (fun s10 => R32 x6 ∧ R32 x5 ∧ CC m_X10_in [vL x6, vL x5, vL 199] s10 (PZ (fun s16 => CC m_X10_layPages [vR 80] s16 (PN (fun s20 => (∀ s21 : Mem, s21 = up s20 97 0 x1 → (∀ s23 : Mem, s23 = up s21 97 1 x2 → (∀ s25 : Mem, s25 = up s23 97 2 x3 → (∀ s27 : Mem, s27 = up s25 97 3 x4 → (∀ s29 : Mem, s29 = up s27 97 4 x5 → (∀ s31 : Mem, s31 = up s29 97 5 x6 → TT m_X10_opens 101 [vR 80, vU, vU, vU, vU, vU, vU, vI x7, vI 0, vI 0, vI 0, vU] [] s31 (PI K)))))))))) (fun s17 => K (-900002) s17))) (fun s11 => K (-900002) s11))) (fun s7 => K (-900002) s7))) (fun s3 => K (-900002) s3))) : TT m_X10_opens 0 [vR 80, vI x1, vI x2, vI x3, vI x4, vI x5, vI x6, vI x7, vU, vU, vU, vU] [] σ (PI K) := by
  refine TT_iload_n dX10_opens_0 rfl ?_
  refine TT_iload_n dX10_opens_1 rfl ?_
  refine TT_callSZ (M' := m_X10_isSpan) (as := [vI x1, vI x2]) (rest := []) dX10_opens_2 mo_X10_isSpan ml_X10_142 sm_X10_isSpan (Nat.le_of_ble_eq_true rfl) (Nat.le_of_ble_eq_true rfl) ⟨rfl, rfl, rfl⟩ rfl rfl (Nat.le_of_ble_eq_true rfl) h (fun s2 h => ?_) (fun s3 h => ?_)
  · refine TT_if_eq (tgt := 40) dX10_opens_5 rfl (by decide) (fun c4 => absurd c4 (by decide)) (fun c4 => ?_)
    refine TT_iload_n dX10_opens_8 rfl ?_
    refine TT_iload dX10_opens_9 rfl ?_
    refine TT_callSZ (M' := m_X10_isSpan) (as := [vI x3, vI x4]) (rest := []) dX10_opens_11 mo_X10_isSpan ml_X10_142 sm_X10_isSpan (Nat.le_of_ble_eq_true rfl) (Nat.le_of_ble_eq_true rfl) ⟨rfl, rfl, rfl⟩ rfl rfl (Nat.le_of_ble_eq_true rfl) h (fun s6 h => ?_) (fun s7 h => ?_)
    · refine TT_if_eq (tgt := 40) dX10_opens_14 rfl (by decide) (fun c8 => absurd c8 (by decide)) (fun c8 => ?_)
      refine TT_iload dX10_opens_17 rfl ?_
      refine TT_callSZ (M' := m_X10_isMinute) (as := [vI x5]) (rest := []) dX10_opens_19 mo_X10_isMinute ml_X10_84 sm_X10_isMinute (Nat.le_of_ble_eq_true rfl) (Nat.le_of_ble_eq_true rfl) ⟨rfl, rfl, rfl⟩ rfl rfl (Nat.le_of_ble_eq_true rfl) h (fun s10 h => ?_) (fun s11 h => ?_)
      · refine TT_if_eq (tgt := 40) dX10_opens_22 rfl (by decide) (fun c12 => absurd c12 (by decide)) (fun c12 => ?_)
        refine TT_iload dX10_opens_25 rfl ?_
        obtain ⟨o13, h⟩ := h
        refine TT_i2l dX10_opens_27 o13 ?_
        refine TT_iload dX10_opens_28 rfl ?_
        obtain ⟨o14, h⟩ := h
        refine TT_i2l dX10_opens_30 o14 ?_
        refine TT_ldc2 dX10_opens_31 kl_X10_77 (x := 199) rfl ?_
        refine TT_callSZ (M' := m_X10_in) (as := [vL x6, vL x5, vL 199]) (rest := []) dX10_opens_34 mo_X10_in ml_X10_73 sm_X10_in (Nat.le_of_ble_eq_true rfl) (Nat.le_of_ble_eq_true rfl) ⟨rfl, rfl, rfl⟩ rfl rfl (Nat.le_of_ble_eq_true rfl) h (fun s16 h => ?_) (fun s17 h => ?_)
        · refine TT_if_ne (tgt := 43) dX10_opens_37 rfl (by decide) (fun c18 => ?_) (fun c18 => absurd c18 (by decide))
          refine TT_aload_n dX10_opens_43 rfl ?_
          refine TT_callVN (M' := m_X10_layPages) (as := []) (rest := []) dX10_opens_44 mo_X10_layPages ml_X10_245 im_X10_layPages se_X10_layPages (Nat.le_of_ble_eq_true rfl) (Nat.le_of_ble_eq_true rfl) ⟨rfl, rfl, rfl⟩ rfl rfl (Nat.le_of_ble_eq_true rfl) (by decide) rfl rfl (by decide) h (fun s20 h => ?_)
          refine TT_aload_n dX10_opens_47 rfl ?_
          refine TT_getR (r := 97) dX10_opens_48 fd_X10_59 (by decide) rfl (by decide) rfl rfl ?_
          refine TT_iconst dX10_opens_51 ?_
          refine TT_iload_n dX10_opens_52 rfl ?_
          refine TT_iast dX10_opens_53 (by decide) rfl (by decide) (by decide) ?_
          refine TT_nmM (fun s21 e22 => ?_)
          replace h := h s21 e22
          refine TT_aload_n dX10_opens_54 rfl ?_
          refine TT_getR (r := 97) dX10_opens_55 fd_X10_59 (by decide) rfl (by decide) rfl rfl ?_
          refine TT_iconst dX10_opens_58 ?_
          refine TT_iload_n dX10_opens_59 rfl ?_
          refine TT_iast dX10_opens_60 (by decide) rfl (by decide) (by decide) ?_
          refine TT_nmM (fun s23 e24 => ?_)
          replace h := h s23 e24
          refine TT_aload_n dX10_opens_61 rfl ?_
          refine TT_getR (r := 97) dX10_opens_62 fd_X10_59 (by decide) rfl (by decide) rfl rfl ?_
          refine TT_iconst dX10_opens_65 ?_
          refine TT_iload_n dX10_opens_66 rfl ?_
          refine TT_iast dX10_opens_67 (by decide) rfl (by decide) (by decide) ?_
          refine TT_nmM (fun s25 e26 => ?_)
          replace h := h s25 e26
          refine TT_aload_n dX10_opens_68 rfl ?_
          refine TT_getR (r := 97) dX10_opens_69 fd_X10_59 (by decide) rfl (by decide) rfl rfl ?_
          refine TT_iconst dX10_opens_72 ?_
          refine TT_iload dX10_opens_73 rfl ?_
          refine TT_iast dX10_opens_75 (by decide) rfl (by decide) (by decide) ?_
          refine TT_nmM (fun s27 e28 => ?_)
          replace h := h s27 e28
          refine TT_aload_n dX10_opens_76 rfl ?_
          refine TT_getR (r := 97) dX10_opens_77 fd_X10_59 (by decide) rfl (by decide) rfl rfl ?_
          refine TT_iconst dX10_opens_80 ?_
          refine TT_iload dX10_opens_81 rfl ?_
          refine TT_iast dX10_opens_83 (by decide) rfl (by decide) (by decide) ?_
          refine TT_nmM (fun s29 e30 => ?_)
          replace h := h s29 e30
          refine TT_aload_n dX10_opens_84 rfl ?_
          refine TT_getR (r := 97) dX10_opens_85 fd_X10_59 (by decide) rfl (by decide) rfl rfl ?_
          refine TT_iconst dX10_opens_88 ?_
          refine TT_iload dX10_opens_89 rfl ?_
          refine TT_iast dX10_opens_91 (by decide) rfl (by decide) (by decide) ?_
          refine TT_nmM (fun s31 e32 => ?_)
          replace h := h s31 e32
          refine TT_iconst dX10_opens_92 ?_
          refine TT_istore dX10_opens_93 (Nat.le_of_ble_eq_true rfl) rfl rfl ?_
          refine TT_iconst dX10_opens_95 ?_
          refine TT_istore dX10_opens_96 (Nat.le_of_ble_eq_true rfl) rfl rfl ?_
          refine TT_iconst dX10_opens_98 ?_
          refine TT_istore dX10_opens_99 (Nat.le_of_ble_eq_true rfl) rfl rfl ?_
          refine TT_kill 1 rfl ?_
          refine TT_kill 2 rfl ?_
          refine TT_kill 3 rfl ?_
          refine TT_kill 4 rfl ?_
          refine TT_kill 5 rfl ?_
          refine TT_kill 6 rfl ?_
          exact h
        · refine TT_if_ne (tgt := 43) dX10_opens_37 rfl (by decide) (fun c33 => absurd c33 (by decide)) (fun c33 => ?_)
          refine TT_ldc dX10_opens_40 kc_X10_89 (x := (-900002)) rfl ?_
          exact TT_iret dX10_opens_42 rfl rfl h
      · refine TT_if_eq (tgt := 40) dX10_opens_22 rfl (by decide) (fun c34 => ?_) (fun c34 => absurd c34 (by decide))
        refine TT_ldc dX10_opens_40 kc_X10_89 (x := (-900002)) rfl ?_
        exact TT_iret dX10_opens_42 rfl rfl h
    · refine TT_if_eq (tgt := 40) dX10_opens_14 rfl (by decide) (fun c35 => ?_) (fun c35 => absurd c35 (by decide))
      refine TT_ldc dX10_opens_40 kc_X10_89 (x := (-900002)) rfl ?_
      exact TT_iret dX10_opens_42 rfl rfl h
  · refine TT_if_eq (tgt := 40) dX10_opens_5 rfl (by decide) (fun c36 => ?_) (fun c36 => absurd c36 (by decide))
    refine TT_ldc dX10_opens_40 kc_X10_89 (x := (-900002)) rfl ?_
    exact TT_iret dX10_opens_42 rfl rfl h
theorem e_X10_opens (x1 : Int) (x2 : Int) (x3 : Int) (x4 : Int) (x5 : Int) (x6 : Int) (x7 : Int) {σ : Mem} {K : Int → Mem → Prop} (h : CC m_X10_isSpan [vI x1, vI x2] σ (PZ (fun s2 => CC m_X10_isSpan [vI x3, vI x4] s2 (PZ (fun s6 => CC m_X10_isMinute [vI x5] s6 (PZ (fun s10 => R32 x6 ∧ R32 x5 ∧ CC m_X10_in [vL x6, vL x5, vL 199] s10 (PZ (fun s16 => CC m_X10_layPages [vR 80] s16 (PN (fun s20 => (∀ s21 : Mem, s21 = up s20 97 0 x1 → (∀ s23 : Mem, s23 = up s21 97 1 x2 → (∀ s25 : Mem, s25 = up s23 97 2 x3 → (∀ s27 : Mem, s27 = up s25 97 3 x4 → (∀ s29 : Mem, s29 = up s27 97 4 x5 → (∀ s31 : Mem, s31 = up s29 97 5 x6 → TT m_X10_opens 101 [vR 80, vU, vU, vU, vU, vU, vU, vI x7, vI 0, vI 0, vI 0, vU] [] s31 (PI K)))))))))) (fun s17 => K (-900002) s17))) (fun s11 => K (-900002) s11))) (fun s7 => K (-900002) s7))) (fun s3 => K (-900002) s3))) : CC m_X10_opens [vR 80, vI x1, vI x2, vI x3, vI x4, vI x5, vI x6, vI x7] σ (PI K) := CC_of (by decide) rfl rfl rfl (Nat.le_of_ble_eq_true rfl) (w_X10_opens_0 x1 x2 x3 x4 x5 x6 x7 h)
set_option maxRecDepth 4000 in
theorem w_X10_opens_101 (x7 : Int) (x8 : Int) (x9 : Int) (x10 : Int) {σ : Mem} {K : Int → Mem → Prop} (h : R32 x10 ∧ R32 (σ 80 17) ∧ (((σ 80 17) ≤ x10 → R32 x7 ∧ K (if x7 = 0 then x8 else x9 : Int) σ) ∧ (¬ (σ 80 17) ≤ x10 → CC m_X10_touchesPage [vR 80, vI x10] σ (PZ (fun s44 => TT m_X10_opens 132 [vR 80, vU, vU, vU, vU, vU, vU, vI x7, vI (x8 + 1), vI x9, vI x10, vI 0] [] s44 (PI K)) (fun s45 => TT m_X10_opens 132 [vR 80, vU, vU, vU, vU, vU, vU, vI x7, vI (x8 + 0), vI x9, vI x10, vI 0] [] s45 (PI K)))))) : TT m_X10_opens 101 [vR 80, vU, vU, vU, vU, vU, vU, vI x7, vI x8, vI x9, vI x10, vU] [] σ (PI K) := by
  refine TT_iload dX10_opens_101 rfl ?_
  refine TT_aload_n dX10_opens_103 rfl ?_
  refine TT_getI dX10_opens_104 fd_X10_201 (by decide) (Or.inl rfl) (by decide) rfl ?_
  obtain ⟨o37, h⟩ := h
  obtain ⟨o38, h⟩ := h
  refine TT_icmp_ge (tgt := 194) dX10_opens_107 rfl o37 o38 (fun c39 => ?_) (fun c39 => ?_)
  · replace h := h.1 c39
    refine TT_iload dX10_opens_194 rfl ?_
    obtain ⟨o40, h⟩ := h
    have j42 : TT m_X10_opens 206 [vR 80, vU, vU, vU, vU, vU, vU, vI x7, vI x8, vI x9, vI x10, vU] [vI (if x7 = 0 then x8 else x9 : Int)] σ (PI K) := by
      exact TT_iret dX10_opens_206 rfl rfl h
    refine TT_if_eq (tgt := 204) dX10_opens_196 rfl o40 (fun c41 => ?_) (fun c41 => ?_)
    · refine TT_iload dX10_opens_204 rfl ?_
      exact TT.cast j42 (by first | rfl | (simp only [if_pos c41] <;> rfl)) (by first | rfl | (simp only [if_pos c41] <;> rfl))
    · refine TT_iload dX10_opens_199 rfl ?_
      refine TT_goto (tgt := 206) dX10_opens_201 rfl ?_
      exact TT.cast j42 (by first | rfl | (simp only [if_neg c41] <;> rfl)) (by first | rfl | (simp only [if_neg c41] <;> rfl))
  · replace h := h.2 c39
    refine TT_iload dX10_opens_110 rfl ?_
    refine TT_aload_n dX10_opens_112 rfl ?_
    refine TT_iload dX10_opens_113 rfl ?_
    refine TT_callVZ (M' := m_X10_touchesPage) (as := [vI x10]) (rest := [vI x8]) dX10_opens_115 mo_X10_touchesPage ml_X10_252 im_X10_touchesPage se_X10_touchesPage (Nat.le_of_ble_eq_true rfl) (Nat.le_of_ble_eq_true rfl) ⟨rfl, rfl, rfl⟩ rfl rfl (Nat.le_of_ble_eq_true rfl) (by decide) rfl rfl (by decide) h (fun s44 h => ?_) (fun s45 h => ?_)
    · refine TT_if_eq (tgt := 125) dX10_opens_118 rfl (by decide) (fun c46 => absurd c46 (by decide)) (fun c46 => ?_)
      refine TT_iconst dX10_opens_121 ?_
      refine TT_goto (tgt := 126) dX10_opens_122 rfl ?_
      refine TT_iadd dX10_opens_126 ?_
      refine TT_istore dX10_opens_127 (Nat.le_of_ble_eq_true rfl) rfl rfl ?_
      refine TT_iconst dX10_opens_129 ?_
      refine TT_istore dX10_opens_130 (Nat.le_of_ble_eq_true rfl) rfl rfl ?_
      exact h
    · refine TT_if_eq (tgt := 125) dX10_opens_118 rfl (by decide) (fun c47 => ?_) (fun c47 => absurd c47 (by decide))
      refine TT_iconst dX10_opens_125 ?_
      refine TT_iadd dX10_opens_126 ?_
      refine TT_istore dX10_opens_127 (Nat.le_of_ble_eq_true rfl) rfl rfl ?_
      refine TT_iconst dX10_opens_129 ?_
      refine TT_istore dX10_opens_130 (Nat.le_of_ble_eq_true rfl) rfl rfl ?_
      exact h
set_option maxRecDepth 4000 in
theorem w_X10_opens_132 (x7 : Int) (x8 : Int) (x9 : Int) (x10 : Int) (x11 : Int) {σ : Mem} {K : Int → Mem → Prop} (h : (0 ≤ x10 ∧ x10 < 500) ∧ R32 x11 ∧ R32 (σ 93 (x10).toNat) ∧ (((σ 93 (x10).toNat) ≤ x11 → TT m_X10_opens 101 [vR 80, vU, vU, vU, vU, vU, vU, vI x7, vI x8, vI x9, vI (x10 + 1), vU] [] σ (PI K)) ∧ (¬ (σ 93 (x10).toNat) ≤ x11 → CC m_X10_touchesPage [vR 80, vI x10] σ (PZ (fun s53 => (0 ≤ ((5 * x10) + x11) ∧ ((5 * x10) + x11) < 2500) ∧ CC m_X10_touchesLeg [vR 80, vI (s53 94 ((5 * x10) + x11).toNat)] s53 (PZ (fun s58 => TT m_X10_opens 132 [vR 80, vU, vU, vU, vU, vU, vU, vI x7, vI x8, vI (x9 + 1), vI x10, vI (x11 + 1)] [] s58 (PI K)) (fun s59 => TT m_X10_opens 132 [vR 80, vU, vU, vU, vU, vU, vU, vI x7, vI x8, vI (x9 + 0), vI x10, vI (x11 + 1)] [] s59 (PI K)))) (fun s54 => TT m_X10_opens 101 [vR 80, vU, vU, vU, vU, vU, vU, vI x7, vI x8, vI x9, vI (x10 + 1), vU] [] s54 (PI K)))))) : TT m_X10_opens 132 [vR 80, vU, vU, vU, vU, vU, vU, vI x7, vI x8, vI x9, vI x10, vI x11] [] σ (PI K) := by
  refine TT_iload dX10_opens_132 rfl ?_
  refine TT_aload_n dX10_opens_134 rfl ?_
  refine TT_getR (r := 93) dX10_opens_135 fd_X10_47 (by decide) rfl (by decide) rfl rfl ?_
  refine TT_iload dX10_opens_138 rfl ?_
  obtain ⟨o48, h⟩ := h
  refine TT_iald dX10_opens_140 (by decide) rfl (by decide) o48 ?_
  obtain ⟨o49, h⟩ := h
  obtain ⟨o50, h⟩ := h
  refine TT_icmp_ge (tgt := 188) dX10_opens_141 rfl o49 o50 (fun c51 => ?_) (fun c51 => ?_)
  · replace h := h.1 c51
    refine TT_iinc dX10_opens_188 (Nat.le_of_ble_eq_true rfl) rfl rfl rfl ?_
    refine TT_goto (tgt := 101) dX10_opens_191 rfl ?_
    refine TT_kill 11 rfl ?_
    exact h
  · replace h := h.2 c51
    refine TT_aload_n dX10_opens_144 rfl ?_
    refine TT_iload dX10_opens_145 rfl ?_
    refine TT_callVZ (M' := m_X10_touchesPage) (as := [vI x10]) (rest := []) dX10_opens_147 mo_X10_touchesPage ml_X10_252 im_X10_touchesPage se_X10_touchesPage (Nat.le_of_ble_eq_true rfl) (Nat.le_of_ble_eq_true rfl) ⟨rfl, rfl, rfl⟩ rfl rfl (Nat.le_of_ble_eq_true rfl) (by decide) rfl rfl (by decide) h (fun s53 h => ?_) (fun s54 h => ?_)
    · refine TT_if_eq (tgt := 188) dX10_opens_150 rfl (by decide) (fun c55 => absurd c55 (by decide)) (fun c55 => ?_)
      refine TT_iload dX10_opens_153 rfl ?_
      refine TT_aload_n dX10_opens_155 rfl ?_
      refine TT_aload_n dX10_opens_156 rfl ?_
      refine TT_getR (r := 94) dX10_opens_157 fd_X10_50 (by decide) rfl (by decide) rfl rfl ?_
      refine TT_iconst dX10_opens_160 ?_
      refine TT_iload dX10_opens_161 rfl ?_
      refine TT_imul dX10_opens_163 ?_
      refine TT_iload dX10_opens_164 rfl ?_
      refine TT_iadd dX10_opens_166 ?_
      obtain ⟨o56, h⟩ := h
      refine TT_iald dX10_opens_167 (by decide) rfl (by decide) o56 ?_
      refine TT_callVZ (M' := m_X10_touchesLeg) (as := [vI (s53 94 ((5 * x10) + x11).toNat)]) (rest := [vI x9]) dX10_opens_168 mo_X10_touchesLeg ml_X10_255 im_X10_touchesLeg se_X10_touchesLeg (Nat.le_of_ble_eq_true rfl) (Nat.le_of_ble_eq_true rfl) ⟨rfl, rfl, rfl⟩ rfl rfl (Nat.le_of_ble_eq_true rfl) (by decide) rfl rfl (by decide) h (fun s58 h => ?_) (fun s59 h => ?_)
      · refine TT_if_eq (tgt := 178) dX10_opens_171 rfl (by decide) (fun c60 => absurd c60 (by decide)) (fun c60 => ?_)
        refine TT_iconst dX10_opens_174 ?_
        refine TT_goto (tgt := 179) dX10_opens_175 rfl ?_
        refine TT_iadd dX10_opens_179 ?_
        refine TT_istore dX10_opens_180 (Nat.le_of_ble_eq_true rfl) rfl rfl ?_
        refine TT_iinc dX10_opens_182 (Nat.le_of_ble_eq_true rfl) rfl rfl rfl ?_
        refine TT_goto (tgt := 132) dX10_opens_185 rfl ?_
        exact h
      · refine TT_if_eq (tgt := 178) dX10_opens_171 rfl (by decide) (fun c61 => ?_) (fun c61 => absurd c61 (by decide))
        refine TT_iconst dX10_opens_178 ?_
        refine TT_iadd dX10_opens_179 ?_
        refine TT_istore dX10_opens_180 (Nat.le_of_ble_eq_true rfl) rfl rfl ?_
        refine TT_iinc dX10_opens_182 (Nat.le_of_ble_eq_true rfl) rfl rfl rfl ?_
        refine TT_goto (tgt := 132) dX10_opens_185 rfl ?_
        exact h
    · refine TT_if_eq (tgt := 188) dX10_opens_150 rfl (by decide) (fun c62 => ?_) (fun c62 => absurd c62 (by decide))
      refine TT_iinc dX10_opens_188 (Nat.le_of_ble_eq_true rfl) rfl rfl rfl ?_
      refine TT_goto (tgt := 101) dX10_opens_191 rfl ?_
      refine TT_kill 11 rfl ?_
      exact h
set_option maxRecDepth 4000 in
theorem w_X10_mayFollow_0 (x1 : Int) (x2 : Int) (x3 : Int) (x4 : Int) {σ : Mem} {A B : Mem → Prop} (h : (0 ≤ ((24 * x1) + x3) ∧ ((24 * x1) + x3) < 240) ∧ (0 ≤ ((24 * x1) + x2) ∧ ((24 * x1) + x2) < 240) ∧ (∀ v3 : Int, v3 = ((σ 82 ((24 * x1) + x3).toNat) - (σ 82 ((24 * x1) + x2).toNat)) → R32 x3 ∧ R32 (x2 + 1) ∧ (¬ x3 = (x2 + 1) → R32 v3) ∧ (∀ v12 : Int, v12 = (if x3 = (x2 + 1) then 1 else (if 16 < v3 then 0 else 1 : Int) : Int) → TT m_X10_mayFollow 60 [vR 80, vU, vU, vU, vI x4, vI ((24 * x1) + x2), vI ((24 * x1) + x3), vI v3, vI v12, vI (((24 * x1) + x2) + 1), vU, vU, vU] [] σ (PZ A B)))) : TT m_X10_mayFollow 0 [vR 80, vI x1, vI x2, vI x3, vI x4, vU, vU, vU, vU, vU, vU, vU, vU] [] σ (PZ A B) := by
  refine TT_bipush dX10_mayFollow_0 (by decide) ?_
  refine TT_iload_n dX10_mayFollow_2 rfl ?_
  refine TT_imul dX10_mayFollow_3 ?_
  refine TT_iload_n dX10_mayFollow_4 rfl ?_
  refine TT_iadd dX10_mayFollow_5 ?_
  refine TT_istore dX10_mayFollow_6 (Nat.le_of_ble_eq_true rfl) rfl rfl ?_
  refine TT_bipush dX10_mayFollow_8 (by decide) ?_
  refine TT_iload_n dX10_mayFollow_10 rfl ?_
  refine TT_imul dX10_mayFollow_11 ?_
  refine TT_iload_n dX10_mayFollow_12 rfl ?_
  refine TT_iadd dX10_mayFollow_13 ?_
  refine TT_istore dX10_mayFollow_14 (Nat.le_of_ble_eq_true rfl) rfl rfl ?_
  refine TT_aload_n dX10_mayFollow_16 rfl ?_
  refine TT_getR (r := 82) dX10_mayFollow_17 fd_X10_13 (by decide) rfl (by decide) rfl rfl ?_
  refine TT_iload dX10_mayFollow_20 rfl ?_
  obtain ⟨o1, h⟩ := h
  refine TT_iald dX10_mayFollow_22 (by decide) rfl (by decide) o1 ?_
  refine TT_aload_n dX10_mayFollow_23 rfl ?_
  refine TT_getR (r := 82) dX10_mayFollow_24 fd_X10_13 (by decide) rfl (by decide) rfl rfl ?_
  refine TT_iload dX10_mayFollow_27 rfl ?_
  obtain ⟨o2, h⟩ := h
  refine TT_iald dX10_mayFollow_29 (by decide) rfl (by decide) o2 ?_
  refine TT_isub dX10_mayFollow_30 ?_
  refine TT_nmI (fun v3 e4 => ?_)
  replace h := h v3 e4
  refine TT_istore dX10_mayFollow_31 (Nat.le_of_ble_eq_true rfl) rfl rfl ?_
  refine TT_iload_n dX10_mayFollow_33 rfl ?_
  refine TT_iload_n dX10_mayFollow_34 rfl ?_
  refine TT_iconst dX10_mayFollow_35 ?_
  refine TT_iadd dX10_mayFollow_36 ?_
  obtain ⟨o5, h⟩ := h
  obtain ⟨o6, h⟩ := h
  obtain ⟨o14, h⟩ := h
  have j11 : TT m_X10_mayFollow 52 [vR 80, vI x1, vI x2, vI x3, vI x4, vI ((24 * x1) + x2), vI ((24 * x1) + x3), vI v3, vU, vU, vU, vU, vU] [vI (if x3 = (x2 + 1) then 1 else (if 16 < v3 then 0 else 1 : Int) : Int)] σ (PZ A B) := by
    refine TT_nmI (fun v12 e13 => ?_)
    replace h := h v12 e13
    refine TT_istore dX10_mayFollow_52 (Nat.le_of_ble_eq_true rfl) rfl rfl ?_
    refine TT_iload dX10_mayFollow_54 rfl ?_
    refine TT_iconst dX10_mayFollow_56 ?_
    refine TT_iadd dX10_mayFollow_57 ?_
    refine TT_istore dX10_mayFollow_58 (Nat.le_of_ble_eq_true rfl) rfl rfl ?_
    refine TT_kill 1 rfl ?_
    refine TT_kill 2 rfl ?_
    refine TT_kill 3 rfl ?_
    exact h
  refine TT_icmp_eq (tgt := 47) dX10_mayFollow_37 rfl o5 o6 (fun c7 => ?_) (fun c7 => ?_)
  · refine TT_iconst dX10_mayFollow_47 ?_
    refine TT_goto (tgt := 52) dX10_mayFollow_48 rfl ?_
    exact TT.cast j11 (by first | rfl | (simp only [if_pos c7] <;> rfl)) (by first | rfl | (simp only [if_pos c7] <;> rfl))
  · have h := o14 c7
    refine TT_iload dX10_mayFollow_40 rfl ?_
    refine TT_bipush dX10_mayFollow_42 (by decide) ?_
    have o8 := h
    have j10 : TT m_X10_mayFollow 52 [vR 80, vI x1, vI x2, vI x3, vI x4, vI ((24 * x1) + x2), vI ((24 * x1) + x3), vI v3, vU, vU, vU, vU, vU] [vI (if 16 < v3 then 0 else 1 : Int)] σ (PZ A B) := by
      exact TT.cast j11 (by first | rfl | (simp only [if_neg c7] <;> rfl)) (by first | rfl | (simp only [if_neg c7] <;> rfl))
    refine TT_icmp_gt (tgt := 51) dX10_mayFollow_44 rfl o8 (by decide) (fun c9 => ?_) (fun c9 => ?_)
    · refine TT_iconst dX10_mayFollow_51 ?_
      exact TT.cast j10 (by first | rfl | (simp only [if_pos c9] <;> rfl)) (by first | rfl | (simp only [if_pos c9] <;> rfl))
    · refine TT_iconst dX10_mayFollow_47 ?_
      refine TT_goto (tgt := 52) dX10_mayFollow_48 rfl ?_
      exact TT.cast j10 (by first | rfl | (simp only [if_neg c9] <;> rfl)) (by first | rfl | (simp only [if_neg c9] <;> rfl))
theorem e_X10_mayFollow (x1 : Int) (x2 : Int) (x3 : Int) (x4 : Int) {σ : Mem} {A B : Mem → Prop} (h : (0 ≤ ((24 * x1) + x3) ∧ ((24 * x1) + x3) < 240) ∧ (0 ≤ ((24 * x1) + x2) ∧ ((24 * x1) + x2) < 240) ∧ (∀ v3 : Int, v3 = ((σ 82 ((24 * x1) + x3).toNat) - (σ 82 ((24 * x1) + x2).toNat)) → R32 x3 ∧ R32 (x2 + 1) ∧ (¬ x3 = (x2 + 1) → R32 v3) ∧ (∀ v12 : Int, v12 = (if x3 = (x2 + 1) then 1 else (if 16 < v3 then 0 else 1 : Int) : Int) → TT m_X10_mayFollow 60 [vR 80, vU, vU, vU, vI x4, vI ((24 * x1) + x2), vI ((24 * x1) + x3), vI v3, vI v12, vI (((24 * x1) + x2) + 1), vU, vU, vU] [] σ (PZ A B)))) : CC m_X10_mayFollow [vR 80, vI x1, vI x2, vI x3, vI x4] σ (PZ A B) := CC_of (by decide) rfl rfl rfl (Nat.le_of_ble_eq_true rfl) (w_X10_mayFollow_0 x1 x2 x3 x4 h)
set_option maxRecDepth 4000 in
theorem w_X10_mayFollow_60 (x4 : Int) (x5 : Int) (x6 : Int) (x7 : Int) (x8 : Int) (x9 : Int) {σ : Mem} {A B : Mem → Prop} (h : R32 x9 ∧ R32 x6 ∧ ((x6 ≤ x9 → (x8 = 0 ∨ x8 = 1) ∧ ((x8 = 1 → A σ) ∧ (x8 = 0 → B σ))) ∧ (¬ x6 ≤ x9 → R32 x8 ∧ ((x8 = 0 → (x8 = 0 ∨ x8 = 1) ∧ ((x8 = 1 → A σ) ∧ (x8 = 0 → B σ))) ∧ (¬ x8 = 0 → (0 ≤ x9 ∧ x9 < 240) ∧ (0 ≤ x5 ∧ x5 < 240) ∧ (∀ v24 : Int, v24 = ((σ 82 (x9).toNat) - (σ 82 (x5).toNat)) → (0 ≤ x6 ∧ x6 < 240) ∧ (∀ v27 : Int, v27 = ((((σ 83 (x9).toNat) * x7) - ((σ 83 (x5).toNat) * x7)) - (((σ 83 (x6).toNat) - (σ 83 (x5).toNat)) * v24)) → (∀ v29 : Int, v29 = ((((σ 84 (x9).toNat) * x7) - ((σ 84 (x5).toNat) * x7)) - (((σ 84 (x6).toNat) - (σ 84 (x5).toNat)) * v24)) → R32 v27 ∧ R32 ((-x4) * x7) ∧ R32 (x4 * x7) ∧ CC m_X10_in [vL v27, vL ((-x4) * x7), vL (x4 * x7)] σ (PZ (fun s35 => R32 v29 ∧ CC m_X10_in [vL v29, vL ((-x4) * x7), vL (x4 * x7)] s35 (PZ (fun s40 => TT m_X10_mayFollow 60 [vR 80, vU, vU, vU, vI x4, vI x5, vI x6, vI x7, vI 1, vI (x9 + 1), vU, vU, vU] [] s40 (PZ A B)) (fun s41 => TT m_X10_mayFollow 60 [vR 80, vU, vU, vU, vI x4, vI x5, vI x6, vI x7, vI 0, vI (x9 + 1), vU, vU, vU] [] s41 (PZ A B)))) (fun s36 => TT m_X10_mayFollow 60 [vR 80, vU, vU, vU, vI x4, vI x5, vI x6, vI x7, vI 0, vI (x9 + 1), vU, vU, vU] [] s36 (PZ A B))))))))))) : TT m_X10_mayFollow 60 [vR 80, vU, vU, vU, vI x4, vI x5, vI x6, vI x7, vI x8, vI x9, vU, vU, vU] [] σ (PZ A B) := by
  refine TT_iload dX10_mayFollow_60 rfl ?_
  refine TT_iload dX10_mayFollow_62 rfl ?_
  obtain ⟨o15, h⟩ := h
  obtain ⟨o16, h⟩ := h
  refine TT_icmp_ge (tgt := 230) dX10_mayFollow_64 rfl o15 o16 (fun c17 => ?_) (fun c17 => ?_)
  · replace h := h.1 c17
    refine TT_iload dX10_mayFollow_230 rfl ?_
    obtain ⟨o18, h⟩ := h
    exact TT_zE dX10_mayFollow_232 rfl rfl o18 h.1 h.2
  · replace h := h.2 c17
    refine TT_iload dX10_mayFollow_67 rfl ?_
    obtain ⟨o19, h⟩ := h
    refine TT_if_eq (tgt := 230) dX10_mayFollow_69 rfl o19 (fun c20 => ?_) (fun c20 => ?_)
    · replace h := h.1 c20
      refine TT_iload dX10_mayFollow_230 rfl ?_
      obtain ⟨o21, h⟩ := h
      exact TT_zE dX10_mayFollow_232 rfl rfl o21 h.1 h.2
    · replace h := h.2 c20
      refine TT_aload_n dX10_mayFollow_72 rfl ?_
      refine TT_getR (r := 82) dX10_mayFollow_73 fd_X10_13 (by decide) rfl (by decide) rfl rfl ?_
      refine TT_iload dX10_mayFollow_76 rfl ?_
      obtain ⟨o22, h⟩ := h
      refine TT_iald dX10_mayFollow_78 (by decide) rfl (by decide) o22 ?_
      refine TT_aload_n dX10_mayFollow_79 rfl ?_
      refine TT_getR (r := 82) dX10_mayFollow_80 fd_X10_13 (by decide) rfl (by decide) rfl rfl ?_
      refine TT_iload dX10_mayFollow_83 rfl ?_
      obtain ⟨o23, h⟩ := h
      refine TT_iald dX10_mayFollow_85 (by decide) rfl (by decide) o23 ?_
      refine TT_isub dX10_mayFollow_86 ?_
      refine TT_nmI (fun v24 e25 => ?_)
      replace h := h v24 e25
      refine TT_istore dX10_mayFollow_87 (Nat.le_of_ble_eq_true rfl) rfl rfl ?_
      refine TT_aload_n dX10_mayFollow_89 rfl ?_
      refine TT_getR (r := 83) dX10_mayFollow_90 fd_X10_16 (by decide) rfl (by decide) rfl rfl ?_
      refine TT_iload dX10_mayFollow_93 rfl ?_
      refine TT_iald dX10_mayFollow_95 (by decide) rfl (by decide) o22 ?_
      refine TT_iload dX10_mayFollow_96 rfl ?_
      refine TT_imul dX10_mayFollow_98 ?_
      refine TT_aload_n dX10_mayFollow_99 rfl ?_
      refine TT_getR (r := 83) dX10_mayFollow_100 fd_X10_16 (by decide) rfl (by decide) rfl rfl ?_
      refine TT_iload dX10_mayFollow_103 rfl ?_
      refine TT_iald dX10_mayFollow_105 (by decide) rfl (by decide) o23 ?_
      refine TT_iload dX10_mayFollow_106 rfl ?_
      refine TT_imul dX10_mayFollow_108 ?_
      refine TT_isub dX10_mayFollow_109 ?_
      refine TT_aload_n dX10_mayFollow_110 rfl ?_
      refine TT_getR (r := 83) dX10_mayFollow_111 fd_X10_16 (by decide) rfl (by decide) rfl rfl ?_
      refine TT_iload dX10_mayFollow_114 rfl ?_
      obtain ⟨o26, h⟩ := h
      refine TT_iald dX10_mayFollow_116 (by decide) rfl (by decide) o26 ?_
      refine TT_aload_n dX10_mayFollow_117 rfl ?_
      refine TT_getR (r := 83) dX10_mayFollow_118 fd_X10_16 (by decide) rfl (by decide) rfl rfl ?_
      refine TT_iload dX10_mayFollow_121 rfl ?_
      refine TT_iald dX10_mayFollow_123 (by decide) rfl (by decide) o23 ?_
      refine TT_isub dX10_mayFollow_124 ?_
      refine TT_iload dX10_mayFollow_125 rfl ?_
      refine TT_imul dX10_mayFollow_127 ?_
      refine TT_isub dX10_mayFollow_128 ?_
      refine TT_nmI (fun v27 e28 => ?_)
      replace h := h v27 e28
      refine TT_istore dX10_mayFollow_129 (Nat.le_of_ble_eq_true rfl) rfl rfl ?_
      refine TT_aload_n dX10_mayFollow_131 rfl ?_
      refine TT_getR (r := 84) dX10_mayFollow_132 fd_X10_19 (by decide) rfl (by decide) rfl rfl ?_
      refine TT_iload dX10_mayFollow_135 rfl ?_
      refine TT_iald dX10_mayFollow_137 (by decide) rfl (by decide) o22 ?_
      refine TT_iload dX10_mayFollow_138 rfl ?_
      refine TT_imul dX10_mayFollow_140 ?_
      refine TT_aload_n dX10_mayFollow_141 rfl ?_
      refine TT_getR (r := 84) dX10_mayFollow_142 fd_X10_19 (by decide) rfl (by decide) rfl rfl ?_
      refine TT_iload dX10_mayFollow_145 rfl ?_
      refine TT_iald dX10_mayFollow_147 (by decide) rfl (by decide) o23 ?_
      refine TT_iload dX10_mayFollow_148 rfl ?_
      refine TT_imul dX10_mayFollow_150 ?_
      refine TT_isub dX10_mayFollow_151 ?_
      refine TT_aload_n dX10_mayFollow_152 rfl ?_
      refine TT_getR (r := 84) dX10_mayFollow_153 fd_X10_19 (by decide) rfl (by decide) rfl rfl ?_
      refine TT_iload dX10_mayFollow_156 rfl ?_
      refine TT_iald dX10_mayFollow_158 (by decide) rfl (by decide) o26 ?_
      refine TT_aload_n dX10_mayFollow_159 rfl ?_
      refine TT_getR (r := 84) dX10_mayFollow_160 fd_X10_19 (by decide) rfl (by decide) rfl rfl ?_
      refine TT_iload dX10_mayFollow_163 rfl ?_
      refine TT_iald dX10_mayFollow_165 (by decide) rfl (by decide) o23 ?_
      refine TT_isub dX10_mayFollow_166 ?_
      refine TT_iload dX10_mayFollow_167 rfl ?_
      refine TT_imul dX10_mayFollow_169 ?_
      refine TT_isub dX10_mayFollow_170 ?_
      refine TT_nmI (fun v29 e30 => ?_)
      replace h := h v29 e30
      refine TT_istore dX10_mayFollow_171 (Nat.le_of_ble_eq_true rfl) rfl rfl ?_
      refine TT_iload dX10_mayFollow_173 rfl ?_
      obtain ⟨o31, h⟩ := h
      refine TT_i2l dX10_mayFollow_175 o31 ?_
      refine TT_iload dX10_mayFollow_176 rfl ?_
      refine TT_ineg dX10_mayFollow_178 ?_
      refine TT_iload dX10_mayFollow_179 rfl ?_
      refine TT_imul dX10_mayFollow_181 ?_
      obtain ⟨o32, h⟩ := h
      refine TT_i2l dX10_mayFollow_182 o32 ?_
      refine TT_iload dX10_mayFollow_183 rfl ?_
      refine TT_iload dX10_mayFollow_185 rfl ?_
      refine TT_imul dX10_mayFollow_187 ?_
      obtain ⟨o33, h⟩ := h
      refine TT_i2l dX10_mayFollow_188 o33 ?_
      refine TT_callSZ (M' := m_X10_in) (as := [vL v27, vL ((-x4) * x7), vL (x4 * x7)]) (rest := []) dX10_mayFollow_189 mo_X10_in ml_X10_73 sm_X10_in (Nat.le_of_ble_eq_true rfl) (Nat.le_of_ble_eq_true rfl) ⟨rfl, rfl, rfl⟩ rfl rfl (Nat.le_of_ble_eq_true rfl) h (fun s35 h => ?_) (fun s36 h => ?_)
      · refine TT_if_eq (tgt := 221) dX10_mayFollow_192 rfl (by decide) (fun c37 => absurd c37 (by decide)) (fun c37 => ?_)
        refine TT_iload dX10_mayFollow_195 rfl ?_
        obtain ⟨o38, h⟩ := h
        refine TT_i2l dX10_mayFollow_197 o38 ?_
        refine TT_iload dX10_mayFollow_198 rfl ?_
        refine TT_ineg dX10_mayFollow_200 ?_
        refine TT_iload dX10_mayFollow_201 rfl ?_
        refine TT_imul dX10_mayFollow_203 ?_
        refine TT_i2l dX10_mayFollow_204 o32 ?_
        refine TT_iload dX10_mayFollow_205 rfl ?_
        refine TT_iload dX10_mayFollow_207 rfl ?_
        refine TT_imul dX10_mayFollow_209 ?_
        refine TT_i2l dX10_mayFollow_210 o33 ?_
        refine TT_callSZ (M' := m_X10_in) (as := [vL v29, vL ((-x4) * x7), vL (x4 * x7)]) (rest := []) dX10_mayFollow_211 mo_X10_in ml_X10_73 sm_X10_in (Nat.le_of_ble_eq_true rfl) (Nat.le_of_ble_eq_true rfl) ⟨rfl, rfl, rfl⟩ rfl rfl (Nat.le_of_ble_eq_true rfl) h (fun s40 h => ?_) (fun s41 h => ?_)
        · refine TT_if_eq (tgt := 221) dX10_mayFollow_214 rfl (by decide) (fun c42 => absurd c42 (by decide)) (fun c42 => ?_)
          refine TT_iconst dX10_mayFollow_217 ?_
          refine TT_goto (tgt := 222) dX10_mayFollow_218 rfl ?_
          refine TT_istore dX10_mayFollow_222 (Nat.le_of_ble_eq_true rfl) rfl rfl ?_
          refine TT_iinc dX10_mayFollow_224 (Nat.le_of_ble_eq_true rfl) rfl rfl rfl ?_
          refine TT_goto (tgt := 60) dX10_mayFollow_227 rfl ?_
          refine TT_kill 10 rfl ?_
          refine TT_kill 11 rfl ?_
          refine TT_kill 12 rfl ?_
          exact h
        · refine TT_if_eq (tgt := 221) dX10_mayFollow_214 rfl (by decide) (fun c43 => ?_) (fun c43 => absurd c43 (by decide))
          refine TT_iconst dX10_mayFollow_221 ?_
          refine TT_istore dX10_mayFollow_222 (Nat.le_of_ble_eq_true rfl) rfl rfl ?_
          refine TT_iinc dX10_mayFollow_224 (Nat.le_of_ble_eq_true rfl) rfl rfl rfl ?_
          refine TT_goto (tgt := 60) dX10_mayFollow_227 rfl ?_
          refine TT_kill 10 rfl ?_
          refine TT_kill 11 rfl ?_
          refine TT_kill 12 rfl ?_
          exact h
      · refine TT_if_eq (tgt := 221) dX10_mayFollow_192 rfl (by decide) (fun c44 => ?_) (fun c44 => absurd c44 (by decide))
        refine TT_iconst dX10_mayFollow_221 ?_
        refine TT_istore dX10_mayFollow_222 (Nat.le_of_ble_eq_true rfl) rfl rfl ?_
        refine TT_iinc dX10_mayFollow_224 (Nat.le_of_ble_eq_true rfl) rfl rfl rfl ?_
        refine TT_goto (tgt := 60) dX10_mayFollow_227 rfl ?_
        refine TT_kill 10 rfl ?_
        refine TT_kill 11 rfl ?_
        refine TT_kill 12 rfl ?_
        exact h
set_option maxRecDepth 4000 in
theorem w_X10_layThin_0 (x1 : Int) (x2 : Int) {σ : Mem} {K : Int → Mem → Prop} (h : (0 ≤ x1 ∧ x1 < 10) ∧ TT m_X10_layThin 9 [vR 80, vI x1, vI x2, vI ((σ 81 (x1).toNat) - 1), vU, vU] [] σ (PI K)) : TT m_X10_layThin 0 [vR 80, vI x1, vI x2, vU, vU, vU] [] σ (PI K) := by
  refine TT_aload_n dX10_layThin_0 rfl ?_
  refine TT_getR (r := 81) dX10_layThin_1 fd_X10_7 (by decide) rfl (by decide) rfl rfl ?_
  refine TT_iload_n dX10_layThin_4 rfl ?_
  obtain ⟨o1, h⟩ := h
  refine TT_iald dX10_layThin_5 (by decide) rfl (by decide) o1 ?_
  refine TT_iconst dX10_layThin_6 ?_
  refine TT_isub dX10_layThin_7 ?_
  refine TT_istore_n dX10_layThin_8 (Nat.le_of_ble_eq_true rfl) rfl rfl ?_
  exact h
theorem e_X10_layThin (x1 : Int) (x2 : Int) {σ : Mem} {K : Int → Mem → Prop} (h : (0 ≤ x1 ∧ x1 < 10) ∧ TT m_X10_layThin 9 [vR 80, vI x1, vI x2, vI ((σ 81 (x1).toNat) - 1), vU, vU] [] σ (PI K)) : CC m_X10_layThin [vR 80, vI x1, vI x2] σ (PI K) := CC_of (by decide) rfl rfl rfl (Nat.le_of_ble_eq_true rfl) (w_X10_layThin_0 x1 x2 h)
set_option maxRecDepth 4000 in
theorem w_X10_layThin_9 (x1 : Int) (x2 : Int) (x3 : Int) {σ : Mem} {K : Int → Mem → Prop} (h : R32 x3 ∧ ((x3 < 0 → TT m_X10_layThin 124 [vR 80, vI x1, vI x2, vI 0, vI 0, vU] [] σ (PI K)) ∧ (¬ x3 < 0 → (0 ≤ x1 ∧ x1 < 10) ∧ R32 ((σ 81 (x1).toNat) - 1) ∧ (0 ≤ x3 ∧ x3 < 24) ∧ (∀ s9 : Mem, s9 = up σ 98 (x3).toNat (if ¬ x3 = ((σ 81 (x1).toNat) - 1) then 100000000 else 1 : Int) → TT m_X10_layThin 42 [vR 80, vI x1, vI x2, vI x3, vI (x3 + 1), vU] [] s9 (PI K))))) : TT m_X10_layThin 9 [vR 80, vI x1, vI x2, vI x3, vU, vU] [] σ (PI K) := by
  refine TT_iload_n dX10_layThin_9 rfl ?_
  obtain ⟨o2, h⟩ := h
  refine TT_if_lt (tgt := 119) dX10_layThin_10 rfl o2 (fun c3 => ?_) (fun c3 => ?_)
  · replace h := h.1 c3
    refine TT_iconst dX10_layThin_119 ?_
    refine TT_istore_n dX10_layThin_120 (Nat.le_of_ble_eq_true rfl) rfl rfl ?_
    refine TT_iconst dX10_layThin_121 ?_
    refine TT_istore dX10_layThin_122 (Nat.le_of_ble_eq_true rfl) rfl rfl ?_
    exact h
  · replace h := h.2 c3
    refine TT_aload_n dX10_layThin_13 rfl ?_
    refine TT_getR (r := 98) dX10_layThin_14 fd_X10_62 (by decide) rfl (by decide) rfl rfl ?_
    refine TT_iload_n dX10_layThin_17 rfl ?_
    refine TT_iload_n dX10_layThin_18 rfl ?_
    refine TT_aload_n dX10_layThin_19 rfl ?_
    refine TT_getR (r := 81) dX10_layThin_20 fd_X10_7 (by decide) rfl (by decide) rfl rfl ?_
    refine TT_iload_n dX10_layThin_23 rfl ?_
    obtain ⟨o4, h⟩ := h
    refine TT_iald dX10_layThin_24 (by decide) rfl (by decide) o4 ?_
    refine TT_iconst dX10_layThin_25 ?_
    refine TT_isub dX10_layThin_26 ?_
    obtain ⟨o5, h⟩ := h
    have j7 : TT m_X10_layThin 36 [vR 80, vI x1, vI x2, vI x3, vU, vU] [vI (if ¬ x3 = ((σ 81 (x1).toNat) - 1) then 100000000 else 1 : Int), vI x3, vR 98] σ (PI K) := by
      obtain ⟨o8, h⟩ := h
      refine TT_iast dX10_layThin_36 (by decide) rfl (by decide) o8 ?_
      refine TT_nmM (fun s9 e10 => ?_)
      replace h := h s9 e10
      refine TT_iload_n dX10_layThin_37 rfl ?_
      refine TT_iconst dX10_layThin_38 ?_
      refine TT_iadd dX10_layThin_39 ?_
      refine TT_istore dX10_layThin_40 (Nat.le_of_ble_eq_true rfl) rfl rfl ?_
      exact h
    refine TT_icmp_ne (tgt := 34) dX10_layThin_27 rfl o2 o5 (fun c6 => ?_) (fun c6 => ?_)
    · refine TT_ldc dX10_layThin_34 kc_X10_224 (x := 100000000) rfl ?_
      exact TT.cast j7 (by first | rfl | (simp only [if_pos c6] <;> rfl)) (by first | rfl | (simp only [if_pos c6] <;> rfl))
    · refine TT_iconst dX10_layThin_30 ?_
      refine TT_goto (tgt := 36) dX10_layThin_31 rfl ?_
      exact TT.cast j7 (by first | rfl | (simp only [if_neg (not_not_intro c6)] <;> rfl)) (by first | rfl | (simp only [if_neg (not_not_intro c6)] <;> rfl))
set_option maxRecDepth 4000 in
theorem w_X10_layThin_124 (x1 : Int) (x2 : Int) (x3 : Int) (x4 : Int) {σ : Mem} {K : Int → Mem → Prop} (h : (0 ≤ x1 ∧ x1 < 10) ∧ R32 x4 ∧ R32 (σ 81 (x1).toNat) ∧ (((σ 81 (x1).toNat) ≤ x4 → K x3 σ) ∧ (¬ (σ 81 (x1).toNat) ≤ x4 → (0 ≤ x3 ∧ x3 < 24) ∧ (∀ s16 : Mem, s16 = up σ 99 (x3).toNat x4 → TT m_X10_layThin 152 [vR 80, vI x1, vI x2, vI (x3 + 1), vI x4, vI (x4 + 1)] [] s16 (PI K))))) : TT m_X10_layThin 124 [vR 80, vI x1, vI x2, vI x3, vI x4, vU] [] σ (PI K) := by
  refine TT_iload dX10_layThin_124 rfl ?_
  refine TT_aload_n dX10_layThin_126 rfl ?_
  refine TT_getR (r := 81) dX10_layThin_127 fd_X10_7 (by decide) rfl (by decide) rfl rfl ?_
  refine TT_iload_n dX10_layThin_130 rfl ?_
  obtain ⟨o11, h⟩ := h
  refine TT_iald dX10_layThin_131 (by decide) rfl (by decide) o11 ?_
  obtain ⟨o12, h⟩ := h
  obtain ⟨o13, h⟩ := h
  refine TT_icmp_ge (tgt := 208) dX10_layThin_132 rfl o12 o13 (fun c14 => ?_) (fun c14 => ?_)
  · replace h := h.1 c14
    refine TT_iload_n dX10_layThin_208 rfl ?_
    exact TT_iret dX10_layThin_209 rfl rfl h
  · replace h := h.2 c14
    refine TT_aload_n dX10_layThin_135 rfl ?_
    refine TT_getR (r := 99) dX10_layThin_136 fd_X10_65 (by decide) rfl (by decide) rfl rfl ?_
    refine TT_iload_n dX10_layThin_139 rfl ?_
    refine TT_iload dX10_layThin_140 rfl ?_
    obtain ⟨o15, h⟩ := h
    refine TT_iast dX10_layThin_142 (by decide) rfl (by decide) o15 ?_
    refine TT_nmM (fun s16 e17 => ?_)
    replace h := h s16 e17
    refine TT_iinc dX10_layThin_143 (Nat.le_of_ble_eq_true rfl) rfl rfl rfl ?_
    refine TT_iload dX10_layThin_146 rfl ?_
    refine TT_iconst dX10_layThin_148 ?_
    refine TT_iadd dX10_layThin_149 ?_
    refine TT_istore dX10_layThin_150 (Nat.le_of_ble_eq_true rfl) rfl rfl ?_
    exact h
set_option maxRecDepth 4000 in
theorem w_X10_layThin_42 (x1 : Int) (x2 : Int) (x3 : Int) (x4 : Int) {σ : Mem} {K : Int → Mem → Prop} (h : (0 ≤ x1 ∧ x1 < 10) ∧ R32 x4 ∧ R32 (σ 81 (x1).toNat) ∧ (((σ 81 (x1).toNat) ≤ x4 → TT m_X10_layThin 9 [vR 80, vI x1, vI x2, vI (x3 + (-1)), vU, vU] [] σ (PI K)) ∧ (¬ (σ 81 (x1).toNat) ≤ x4 → CC m_X10_mayFollow [vR 80, vI x1, vI x3, vI x4, vI x2] σ (PZ (fun s23 => (0 ≤ x4 ∧ x4 < 24) ∧ (0 ≤ x3 ∧ x3 < 24) ∧ R32 ((s23 98 (x4).toNat) + 1) ∧ R32 (s23 98 (x3).toNat) ∧ (∀ s32 : Mem, s32 = up s23 98 (x3).toNat (if (s23 98 (x3).toNat) ≤ ((s23 98 (x4).toNat) + 1) then (s23 98 (x3).toNat) else ((s23 98 (x4).toNat) + 1) : Int) → TT m_X10_layThin 42 [vR 80, vI x1, vI x2, vI x3, vI (x4 + 1), vU] [] s32 (PI K))) (fun s24 => (0 ≤ x3 ∧ x3 < 24) ∧ (∀ s36 : Mem, s36 = up s24 98 (x3).toNat (s24 98 (x3).toNat) → TT m_X10_layThin 42 [vR 80, vI x1, vI x2, vI x3, vI (x4 + 1), vU] [] s36 (PI K))))))) : TT m_X10_layThin 42 [vR 80, vI x1, vI x2, vI x3, vI x4, vU] [] σ (PI K) := by
  refine TT_iload dX10_layThin_42 rfl ?_
  refine TT_aload_n dX10_layThin_44 rfl ?_
  refine TT_getR (r := 81) dX10_layThin_45 fd_X10_7 (by decide) rfl (by decide) rfl rfl ?_
  refine TT_iload_n dX10_layThin_48 rfl ?_
  obtain ⟨o18, h⟩ := h
  refine TT_iald dX10_layThin_49 (by decide) rfl (by decide) o18 ?_
  obtain ⟨o19, h⟩ := h
  obtain ⟨o20, h⟩ := h
  refine TT_icmp_ge (tgt := 113) dX10_layThin_50 rfl o19 o20 (fun c21 => ?_) (fun c21 => ?_)
  · replace h := h.1 c21
    refine TT_iinc dX10_layThin_113 (Nat.le_of_ble_eq_true rfl) rfl rfl rfl ?_
    refine TT_goto (tgt := 9) dX10_layThin_116 rfl ?_
    refine TT_kill 4 rfl ?_
    exact h
  · replace h := h.2 c21
    refine TT_aload_n dX10_layThin_53 rfl ?_
    refine TT_getR (r := 98) dX10_layThin_54 fd_X10_62 (by decide) rfl (by decide) rfl rfl ?_
    refine TT_iload_n dX10_layThin_57 rfl ?_
    refine TT_aload_n dX10_layThin_58 rfl ?_
    refine TT_iload_n dX10_layThin_59 rfl ?_
    refine TT_iload_n dX10_layThin_60 rfl ?_
    refine TT_iload dX10_layThin_61 rfl ?_
    refine TT_iload_n dX10_layThin_63 rfl ?_
    refine TT_callVZ (M' := m_X10_mayFollow) (as := [vI x1, vI x3, vI x4, vI x2]) (rest := [vI x3, vR 98]) dX10_layThin_64 mo_X10_mayFollow ml_X10_258 im_X10_mayFollow se_X10_mayFollow (Nat.le_of_ble_eq_true rfl) (Nat.le_of_ble_eq_true rfl) ⟨rfl, rfl, rfl⟩ rfl rfl (Nat.le_of_ble_eq_true rfl) (by decide) rfl rfl (by decide) h (fun s23 h => ?_) (fun s24 h => ?_)
    · refine TT_if_eq (tgt := 100) dX10_layThin_67 rfl (by decide) (fun c25 => absurd c25 (by decide)) (fun c25 => ?_)
      refine TT_aload_n dX10_layThin_70 rfl ?_
      refine TT_getR (r := 98) dX10_layThin_71 fd_X10_62 (by decide) rfl (by decide) rfl rfl ?_
      refine TT_iload dX10_layThin_74 rfl ?_
      obtain ⟨o26, h⟩ := h
      refine TT_iald dX10_layThin_76 (by decide) rfl (by decide) o26 ?_
      refine TT_iconst dX10_layThin_77 ?_
      refine TT_iadd dX10_layThin_78 ?_
      refine TT_aload_n dX10_layThin_79 rfl ?_
      refine TT_getR (r := 98) dX10_layThin_80 fd_X10_62 (by decide) rfl (by decide) rfl rfl ?_
      refine TT_iload_n dX10_layThin_83 rfl ?_
      obtain ⟨o27, h⟩ := h
      refine TT_iald dX10_layThin_84 (by decide) rfl (by decide) o27 ?_
      obtain ⟨o28, h⟩ := h
      obtain ⟨o29, h⟩ := h
      have j31 : TT m_X10_layThin 106 [vR 80, vI x1, vI x2, vI x3, vI x4, vU] [vI (if (s23 98 (x3).toNat) ≤ ((s23 98 (x4).toNat) + 1) then (s23 98 (x3).toNat) else ((s23 98 (x4).toNat) + 1) : Int), vI x3, vR 98] s23 (PI K) := by
        refine TT_iast dX10_layThin_106 (by decide) rfl (by decide) o27 ?_
        refine TT_nmM (fun s32 e33 => ?_)
        replace h := h s32 e33
        refine TT_iinc dX10_layThin_107 (Nat.le_of_ble_eq_true rfl) rfl rfl rfl ?_
        refine TT_goto (tgt := 42) dX10_layThin_110 rfl ?_
        exact h
      refine TT_icmp_ge (tgt := 100) dX10_layThin_85 rfl o28 o29 (fun c30 => ?_) (fun c30 => ?_)
      · refine TT_aload_n dX10_layThin_100 rfl ?_
        refine TT_getR (r := 98) dX10_layThin_101 fd_X10_62 (by decide) rfl (by decide) rfl rfl ?_
        refine TT_iload_n dX10_layThin_104 rfl ?_
        refine TT_iald dX10_layThin_105 (by decide) rfl (by decide) o27 ?_
        exact TT.cast j31 (by first | rfl | (simp only [if_pos c30] <;> rfl)) (by first | rfl | (simp only [if_pos c30] <;> rfl))
      · refine TT_aload_n dX10_layThin_88 rfl ?_
        refine TT_getR (r := 98) dX10_layThin_89 fd_X10_62 (by decide) rfl (by decide) rfl rfl ?_
        refine TT_iload dX10_layThin_92 rfl ?_
        refine TT_iald dX10_layThin_94 (by decide) rfl (by decide) o26 ?_
        refine TT_iconst dX10_layThin_95 ?_
        refine TT_iadd dX10_layThin_96 ?_
        refine TT_goto (tgt := 106) dX10_layThin_97 rfl ?_
        exact TT.cast j31 (by first | rfl | (simp only [if_neg c30] <;> rfl)) (by first | rfl | (simp only [if_neg c30] <;> rfl))
    · refine TT_if_eq (tgt := 100) dX10_layThin_67 rfl (by decide) (fun c34 => ?_) (fun c34 => absurd c34 (by decide))
      refine TT_aload_n dX10_layThin_100 rfl ?_
      refine TT_getR (r := 98) dX10_layThin_101 fd_X10_62 (by decide) rfl (by decide) rfl rfl ?_
      refine TT_iload_n dX10_layThin_104 rfl ?_
      obtain ⟨o35, h⟩ := h
      refine TT_iald dX10_layThin_105 (by decide) rfl (by decide) o35 ?_
      refine TT_iast dX10_layThin_106 (by decide) rfl (by decide) o35 ?_
      refine TT_nmM (fun s36 e37 => ?_)
      replace h := h s36 e37
      refine TT_iinc dX10_layThin_107 (Nat.le_of_ble_eq_true rfl) rfl rfl rfl ?_
      refine TT_goto (tgt := 42) dX10_layThin_110 rfl ?_
      exact h
set_option maxRecDepth 4000 in
theorem w_X10_layThin_152 (x1 : Int) (x2 : Int) (x3 : Int) (x4 : Int) (x5 : Int) {σ : Mem} {K : Int → Mem → Prop} (h : (0 ≤ x1 ∧ x1 < 10) ∧ R32 x5 ∧ R32 (σ 81 (x1).toNat) ∧ (((σ 81 (x1).toNat) ≤ x5 → TT m_X10_layThin 124 [vR 80, vI x1, vI x2, vI x3, vI x5, vU] [] σ (PI K)) ∧ (¬ (σ 81 (x1).toNat) ≤ x5 → CC m_X10_mayFollow [vR 80, vI x1, vI x4, vI x5, vI x2] σ (PZ (fun s43 => (0 ≤ x5 ∧ x5 < 24) ∧ (0 ≤ x4 ∧ x4 < 24) ∧ R32 ((s43 98 (x5).toNat) + 1) ∧ R32 (s43 98 (x4).toNat) ∧ ((((s43 98 (x5).toNat) + 1) = (s43 98 (x4).toNat) → TT m_X10_layThin 124 [vR 80, vI x1, vI x2, vI x3, vI x5, vU] [] s43 (PI K)) ∧ (¬ ((s43 98 (x5).toNat) + 1) = (s43 98 (x4).toNat) → TT m_X10_layThin 152 [vR 80, vI x1, vI x2, vI x3, vI x4, vI (x5 + 1)] [] s43 (PI K)))) (fun s44 => TT m_X10_layThin 152 [vR 80, vI x1, vI x2, vI x3, vI x4, vI (x5 + 1)] [] s44 (PI K)))))) : TT m_X10_layThin 152 [vR 80, vI x1, vI x2, vI x3, vI x4, vI x5] [] σ (PI K) := by
  refine TT_iload dX10_layThin_152 rfl ?_
  refine TT_aload_n dX10_layThin_154 rfl ?_
  refine TT_getR (r := 81) dX10_layThin_155 fd_X10_7 (by decide) rfl (by decide) rfl rfl ?_
  refine TT_iload_n dX10_layThin_158 rfl ?_
  obtain ⟨o38, h⟩ := h
  refine TT_iald dX10_layThin_159 (by decide) rfl (by decide) o38 ?_
  obtain ⟨o39, h⟩ := h
  obtain ⟨o40, h⟩ := h
  refine TT_icmp_ge (tgt := 201) dX10_layThin_160 rfl o39 o40 (fun c41 => ?_) (fun c41 => ?_)
  · replace h := h.1 c41
    refine TT_iload dX10_layThin_201 rfl ?_
    refine TT_istore dX10_layThin_203 (Nat.le_of_ble_eq_true rfl) rfl rfl ?_
    refine TT_goto (tgt := 124) dX10_layThin_205 rfl ?_
    refine TT_kill 5 rfl ?_
    exact h
  · replace h := h.2 c41
    refine TT_aload_n dX10_layThin_163 rfl ?_
    refine TT_iload_n dX10_layThin_164 rfl ?_
    refine TT_iload dX10_layThin_165 rfl ?_
    refine TT_iload dX10_layThin_167 rfl ?_
    refine TT_iload_n dX10_layThin_169 rfl ?_
    refine TT_callVZ (M' := m_X10_mayFollow) (as := [vI x1, vI x4, vI x5, vI x2]) (rest := []) dX10_layThin_170 mo_X10_mayFollow ml_X10_258 im_X10_mayFollow se_X10_mayFollow (Nat.le_of_ble_eq_true rfl) (Nat.le_of_ble_eq_true rfl) ⟨rfl, rfl, rfl⟩ rfl rfl (Nat.le_of_ble_eq_true rfl) (by decide) rfl rfl (by decide) h (fun s43 h => ?_) (fun s44 h => ?_)
    · refine TT_if_eq (tgt := 195) dX10_layThin_173 rfl (by decide) (fun c45 => absurd c45 (by decide)) (fun c45 => ?_)
      refine TT_aload_n dX10_layThin_176 rfl ?_
      refine TT_getR (r := 98) dX10_layThin_177 fd_X10_62 (by decide) rfl (by decide) rfl rfl ?_
      refine TT_iload dX10_layThin_180 rfl ?_
      obtain ⟨o46, h⟩ := h
      refine TT_iald dX10_layThin_182 (by decide) rfl (by decide) o46 ?_
      refine TT_iconst dX10_layThin_183 ?_
      refine TT_iadd dX10_layThin_184 ?_
      refine TT_aload_n dX10_layThin_185 rfl ?_
      refine TT_getR (r := 98) dX10_layThin_186 fd_X10_62 (by decide) rfl (by decide) rfl rfl ?_
      refine TT_iload dX10_layThin_189 rfl ?_
      obtain ⟨o47, h⟩ := h
      refine TT_iald dX10_layThin_191 (by decide) rfl (by decide) o47 ?_
      obtain ⟨o48, h⟩ := h
      obtain ⟨o49, h⟩ := h
      refine TT_icmp_eq (tgt := 201) dX10_layThin_192 rfl o48 o49 (fun c50 => ?_) (fun c50 => ?_)
      · replace h := h.1 c50
        refine TT_iload dX10_layThin_201 rfl ?_
        refine TT_istore dX10_layThin_203 (Nat.le_of_ble_eq_true rfl) rfl rfl ?_
        refine TT_goto (tgt := 124) dX10_layThin_205 rfl ?_
        refine TT_kill 5 rfl ?_
        exact h
      · replace h := h.2 c50
        refine TT_iinc dX10_layThin_195 (Nat.le_of_ble_eq_true rfl) rfl rfl rfl ?_
        refine TT_goto (tgt := 152) dX10_layThin_198 rfl ?_
        exact h
    · refine TT_if_eq (tgt := 195) dX10_layThin_173 rfl (by decide) (fun c51 => ?_) (fun c51 => absurd c51 (by decide))
      refine TT_iinc dX10_layThin_195 (Nat.le_of_ble_eq_true rfl) rfl rfl rfl ?_
      refine TT_goto (tgt := 152) dX10_layThin_198 rfl ?_
      exact h
set_option maxRecDepth 4000 in
theorem w_X10_mayThin_0 (x1 : Int) (x2 : Int) {σ : Mem} {K : Int → Mem → Prop} (h : CC m_X10_isThing [vI x1] σ (PZ (fun s2 => R32 x2 ∧ CC m_X10_in [vL x2, vL 0, vL 99] s2 (PZ (fun s7 => K 0 s7) (fun s8 => K (-900002) s8))) (fun s3 => K (-900001) s3))) : TT m_X10_mayThin 0 [vR 80, vI x1, vI x2] [] σ (PI K) := by
  refine TT_iload_n dX10_mayThin_0 rfl ?_
  refine TT_callSZ (M' := m_X10_isThing) (as := [vI x1]) (rest := []) dX10_mayThin_1 mo_X10_isThing ml_X10_79 sm_X10_isThing (Nat.le_of_ble_eq_true rfl) (Nat.le_of_ble_eq_true rfl) ⟨rfl, rfl, rfl⟩ rfl rfl (Nat.le_of_ble_eq_true rfl) h (fun s2 h => ?_) (fun s3 h => ?_)
  · refine TT_if_ne (tgt := 12) dX10_mayThin_4 rfl (by decide) (fun c4 => ?_) (fun c4 => absurd c4 (by decide))
    refine TT_iload_n dX10_mayThin_12 rfl ?_
    obtain ⟨o5, h⟩ := h
    refine TT_i2l dX10_mayThin_13 o5 ?_
    refine TT_lconst dX10_mayThin_14 (x := 0) rfl ?_
    refine TT_ldc2 dX10_mayThin_15 kl_X10_87 (x := 99) rfl ?_
    refine TT_callSZ (M' := m_X10_in) (as := [vL x2, vL 0, vL 99]) (rest := []) dX10_mayThin_18 mo_X10_in ml_X10_73 sm_X10_in (Nat.le_of_ble_eq_true rfl) (Nat.le_of_ble_eq_true rfl) ⟨rfl, rfl, rfl⟩ rfl rfl (Nat.le_of_ble_eq_true rfl) h (fun s7 h => ?_) (fun s8 h => ?_)
    · refine TT_if_eq (tgt := 28) dX10_mayThin_21 rfl (by decide) (fun c9 => absurd c9 (by decide)) (fun c9 => ?_)
      refine TT_iconst dX10_mayThin_24 ?_
      refine TT_goto (tgt := 30) dX10_mayThin_25 rfl ?_
      exact TT_iret dX10_mayThin_30 rfl rfl h
    · refine TT_if_eq (tgt := 28) dX10_mayThin_21 rfl (by decide) (fun c10 => ?_) (fun c10 => absurd c10 (by decide))
      refine TT_ldc dX10_mayThin_28 kc_X10_89 (x := (-900002)) rfl ?_
      exact TT_iret dX10_mayThin_30 rfl rfl h
  · refine TT_if_ne (tgt := 12) dX10_mayThin_4 rfl (by decide) (fun c11 => absurd c11 (by decide)) (fun c11 => ?_)
    refine TT_ldc dX10_mayThin_7 kc_X10_83 (x := (-900001)) rfl ?_
    refine TT_goto (tgt := 30) dX10_mayThin_9 rfl ?_
    exact TT_iret dX10_mayThin_30 rfl rfl h
theorem e_X10_mayThin (x1 : Int) (x2 : Int) {σ : Mem} {K : Int → Mem → Prop} (h : CC m_X10_isThing [vI x1] σ (PZ (fun s2 => R32 x2 ∧ CC m_X10_in [vL x2, vL 0, vL 99] s2 (PZ (fun s7 => K 0 s7) (fun s8 => K (-900002) s8))) (fun s3 => K (-900001) s3))) : CC m_X10_mayThin [vR 80, vI x1, vI x2] σ (PI K) := CC_of (by decide) rfl rfl rfl (Nat.le_of_ble_eq_true rfl) (w_X10_mayThin_0 x1 x2 h)
set_option maxRecDepth 4000 in
theorem w_X10_thin_0 (x1 : Int) (x2 : Int) {σ : Mem} {K : Int → Mem → Prop} (h : CC m_X10_mayThin [vR 80, vI x1, vI x2] σ (PI (fun y1 s2 => R32 y1 ∧ ((0 ≤ y1 → CC m_X10_layThin [vR 80, vI x1, vI x2] s2 (PI (fun y5 s6 => K y5 s6))) ∧ (¬ 0 ≤ y1 → K y1 s2))))) : TT m_X10_thin 0 [vR 80, vI x1, vI x2, vU] [] σ (PI K) := by
  refine TT_aload_n dX10_thin_0 rfl ?_
  refine TT_iload_n dX10_thin_1 rfl ?_
  refine TT_iload_n dX10_thin_2 rfl ?_
  refine TT_callVI (M' := m_X10_mayThin) (as := [vI x1, vI x2]) (rest := []) dX10_thin_3 mo_X10_mayThin ml_X10_261 im_X10_mayThin se_X10_mayThin (Nat.le_of_ble_eq_true rfl) (Nat.le_of_ble_eq_true rfl) ⟨rfl, rfl, rfl⟩ rfl rfl (Nat.le_of_ble_eq_true rfl) (by decide) rfl rfl (by decide) h (fun y1 s2 h => ?_)
  refine TT_istore_n dX10_thin_6 (Nat.le_of_ble_eq_true rfl) rfl rfl ?_
  refine TT_iload_n dX10_thin_7 rfl ?_
  obtain ⟨o3, h⟩ := h
  refine TT_if_ge (tgt := 15) dX10_thin_8 rfl o3 (fun c4 => ?_) (fun c4 => ?_)
  · replace h := h.1 c4
    refine TT_aload_n dX10_thin_15 rfl ?_
    refine TT_iload_n dX10_thin_16 rfl ?_
    refine TT_iload_n dX10_thin_17 rfl ?_
    refine TT_callVI (M' := m_X10_layThin) (as := [vI x1, vI x2]) (rest := []) dX10_thin_18 mo_X10_layThin ml_X10_264 im_X10_layThin se_X10_layThin (Nat.le_of_ble_eq_true rfl) (Nat.le_of_ble_eq_true rfl) ⟨rfl, rfl, rfl⟩ rfl rfl (Nat.le_of_ble_eq_true rfl) (by decide) rfl rfl (by decide) h (fun y5 s6 h => ?_)
    exact TT_iret dX10_thin_21 rfl rfl h
  · replace h := h.2 c4
    refine TT_iload_n dX10_thin_11 rfl ?_
    refine TT_goto (tgt := 21) dX10_thin_12 rfl ?_
    exact TT_iret dX10_thin_21 rfl rfl h
theorem e_X10_thin (x1 : Int) (x2 : Int) {σ : Mem} {K : Int → Mem → Prop} (h : CC m_X10_mayThin [vR 80, vI x1, vI x2] σ (PI (fun y1 s2 => R32 y1 ∧ ((0 ≤ y1 → CC m_X10_layThin [vR 80, vI x1, vI x2] s2 (PI (fun y5 s6 => K y5 s6))) ∧ (¬ 0 ≤ y1 → K y1 s2))))) : CC m_X10_thin [vR 80, vI x1, vI x2] σ (PI K) := CC_of (by decide) rfl rfl rfl (Nat.le_of_ble_eq_true rfl) (w_X10_thin_0 x1 x2 h)
set_option maxRecDepth 4000 in
theorem w_X10_kept_0 (x1 : Int) (x2 : Int) (x3 : Int) {σ : Mem} {K : Int → Mem → Prop} (h : CC m_X10_mayThin [vR 80, vI x1, vI x2] σ (PI (fun y1 s2 => R32 y1 ∧ ((0 ≤ y1 → CC m_X10_layThin [vR 80, vI x1, vI x2] s2 (PI (fun y5 s6 => R32 x3 ∧ R32 (y5 - 1) ∧ CC m_X10_in [vL x3, vL 0, vL (y5 - 1)] s6 (PZ (fun s10 => (0 ≤ x3 ∧ x3 < 24) ∧ K (s10 99 (x3).toNat) s10) (fun s11 => K (-900009) s11))))) ∧ (¬ 0 ≤ y1 → K y1 s2))))) : TT m_X10_kept 0 [vR 80, vI x1, vI x2, vI x3, vU, vU] [] σ (PI K) := by
  refine TT_aload_n dX10_kept_0 rfl ?_
  refine TT_iload_n dX10_kept_1 rfl ?_
  refine TT_iload_n dX10_kept_2 rfl ?_
  refine TT_callVI (M' := m_X10_mayThin) (as := [vI x1, vI x2]) (rest := []) dX10_kept_3 mo_X10_mayThin ml_X10_261 im_X10_mayThin se_X10_mayThin (Nat.le_of_ble_eq_true rfl) (Nat.le_of_ble_eq_true rfl) ⟨rfl, rfl, rfl⟩ rfl rfl (Nat.le_of_ble_eq_true rfl) (by decide) rfl rfl (by decide) h (fun y1 s2 h => ?_)
  refine TT_istore dX10_kept_6 (Nat.le_of_ble_eq_true rfl) rfl rfl ?_
  refine TT_iload dX10_kept_8 rfl ?_
  obtain ⟨o3, h⟩ := h
  refine TT_if_ge (tgt := 16) dX10_kept_10 rfl o3 (fun c4 => ?_) (fun c4 => ?_)
  · replace h := h.1 c4
    refine TT_aload_n dX10_kept_16 rfl ?_
    refine TT_iload_n dX10_kept_17 rfl ?_
    refine TT_iload_n dX10_kept_18 rfl ?_
    refine TT_callVI (M' := m_X10_layThin) (as := [vI x1, vI x2]) (rest := []) dX10_kept_19 mo_X10_layThin ml_X10_264 im_X10_layThin se_X10_layThin (Nat.le_of_ble_eq_true rfl) (Nat.le_of_ble_eq_true rfl) ⟨rfl, rfl, rfl⟩ rfl rfl (Nat.le_of_ble_eq_true rfl) (by decide) rfl rfl (by decide) h (fun y5 s6 h => ?_)
    refine TT_istore dX10_kept_22 (Nat.le_of_ble_eq_true rfl) rfl rfl ?_
    refine TT_iload_n dX10_kept_24 rfl ?_
    obtain ⟨o7, h⟩ := h
    refine TT_i2l dX10_kept_25 o7 ?_
    refine TT_lconst dX10_kept_26 (x := 0) rfl ?_
    refine TT_iload dX10_kept_27 rfl ?_
    refine TT_iconst dX10_kept_29 ?_
    refine TT_isub dX10_kept_30 ?_
    obtain ⟨o8, h⟩ := h
    refine TT_i2l dX10_kept_31 o8 ?_
    refine TT_callSZ (M' := m_X10_in) (as := [vL x3, vL 0, vL (y5 - 1)]) (rest := []) dX10_kept_32 mo_X10_in ml_X10_73 sm_X10_in (Nat.le_of_ble_eq_true rfl) (Nat.le_of_ble_eq_true rfl) ⟨rfl, rfl, rfl⟩ rfl rfl (Nat.le_of_ble_eq_true rfl) h (fun s10 h => ?_) (fun s11 h => ?_)
    · refine TT_if_eq (tgt := 47) dX10_kept_35 rfl (by decide) (fun c12 => absurd c12 (by decide)) (fun c12 => ?_)
      refine TT_aload_n dX10_kept_38 rfl ?_
      refine TT_getR (r := 99) dX10_kept_39 fd_X10_65 (by decide) rfl (by decide) rfl rfl ?_
      refine TT_iload_n dX10_kept_42 rfl ?_
      obtain ⟨o13, h⟩ := h
      refine TT_iald dX10_kept_43 (by decide) rfl (by decide) o13 ?_
      refine TT_goto (tgt := 49) dX10_kept_44 rfl ?_
      exact TT_iret dX10_kept_49 rfl rfl h
    · refine TT_if_eq (tgt := 47) dX10_kept_35 rfl (by decide) (fun c14 => ?_) (fun c14 => absurd c14 (by decide))
      refine TT_ldc dX10_kept_47 kc_X10_149 (x := (-900009)) rfl ?_
      exact TT_iret dX10_kept_49 rfl rfl h
  · replace h := h.2 c4
    refine TT_iload dX10_kept_13 rfl ?_
    exact TT_iret dX10_kept_15 rfl rfl h
theorem e_X10_kept (x1 : Int) (x2 : Int) (x3 : Int) {σ : Mem} {K : Int → Mem → Prop} (h : CC m_X10_mayThin [vR 80, vI x1, vI x2] σ (PI (fun y1 s2 => R32 y1 ∧ ((0 ≤ y1 → CC m_X10_layThin [vR 80, vI x1, vI x2] s2 (PI (fun y5 s6 => R32 x3 ∧ R32 (y5 - 1) ∧ CC m_X10_in [vL x3, vL 0, vL (y5 - 1)] s6 (PZ (fun s10 => (0 ≤ x3 ∧ x3 < 24) ∧ K (s10 99 (x3).toNat) s10) (fun s11 => K (-900009) s11))))) ∧ (¬ 0 ≤ y1 → K y1 s2))))) : CC m_X10_kept [vR 80, vI x1, vI x2, vI x3] σ (PI K) := CC_of (by decide) rfl rfl rfl (Nat.le_of_ble_eq_true rfl) (w_X10_kept_0 x1 x2 x3 h)
set_option maxRecDepth 4000 in
theorem w_X10_thinned_0 (x1 : Int) (x2 : Int) {σ : Mem} {K : Int → Mem → Prop} (h : CC m_X10_mayThin [vR 80, vI x1, vI x2] σ (PI (fun y1 s2 => R32 y1 ∧ ((0 ≤ y1 → (0 ≤ x1 ∧ x1 < 10) ∧ CC m_X10_layThin [vR 80, vI x1, vI x2] s2 (PI (fun y6 s7 => TT m_X10_thinned 32 [vR 80, vI x1, vU, vU, vI (s2 81 (x1).toNat), vI y6, vI 0] [] s7 (PI K)))) ∧ (¬ 0 ≤ y1 → K y1 s2))))) : TT m_X10_thinned 0 [vR 80, vI x1, vI x2, vU, vU, vU, vU] [] σ (PI K) := by
  refine TT_aload_n dX10_thinned_0 rfl ?_
  refine TT_iload_n dX10_thinned_1 rfl ?_
  refine TT_iload_n dX10_thinned_2 rfl ?_
  refine TT_callVI (M' := m_X10_mayThin) (as := [vI x1, vI x2]) (rest := []) dX10_thinned_3 mo_X10_mayThin ml_X10_261 im_X10_mayThin se_X10_mayThin (Nat.le_of_ble_eq_true rfl) (Nat.le_of_ble_eq_true rfl) ⟨rfl, rfl, rfl⟩ rfl rfl (Nat.le_of_ble_eq_true rfl) (by decide) rfl rfl (by decide) h (fun y1 s2 h => ?_)
  refine TT_istore_n dX10_thinned_6 (Nat.le_of_ble_eq_true rfl) rfl rfl ?_
  refine TT_iload_n dX10_thinned_7 rfl ?_
  obtain ⟨o3, h⟩ := h
  refine TT_if_ge (tgt := 13) dX10_thinned_8 rfl o3 (fun c4 => ?_) (fun c4 => ?_)
  · replace h := h.1 c4
    refine TT_aload_n dX10_thinned_13 rfl ?_
    refine TT_getR (r := 81) dX10_thinned_14 fd_X10_7 (by decide) rfl (by decide) rfl rfl ?_
    refine TT_iload_n dX10_thinned_17 rfl ?_
    obtain ⟨o5, h⟩ := h
    refine TT_iald dX10_thinned_18 (by decide) rfl (by decide) o5 ?_
    refine TT_istore dX10_thinned_19 (Nat.le_of_ble_eq_true rfl) rfl rfl ?_
    refine TT_aload_n dX10_thinned_21 rfl ?_
    refine TT_iload_n dX10_thinned_22 rfl ?_
    refine TT_iload_n dX10_thinned_23 rfl ?_
    refine TT_callVI (M' := m_X10_layThin) (as := [vI x1, vI x2]) (rest := []) dX10_thinned_24 mo_X10_layThin ml_X10_264 im_X10_layThin se_X10_layThin (Nat.le_of_ble_eq_true rfl) (Nat.le_of_ble_eq_true rfl) ⟨rfl, rfl, rfl⟩ rfl rfl (Nat.le_of_ble_eq_true rfl) (by decide) rfl rfl (by decide) h (fun y6 s7 h => ?_)
    refine TT_istore dX10_thinned_27 (Nat.le_of_ble_eq_true rfl) rfl rfl ?_
    refine TT_iconst dX10_thinned_29 ?_
    refine TT_istore dX10_thinned_30 (Nat.le_of_ble_eq_true rfl) rfl rfl ?_
    refine TT_kill 2 rfl ?_
    refine TT_kill 3 rfl ?_
    exact h
  · replace h := h.2 c4
    refine TT_iload_n dX10_thinned_11 rfl ?_
    exact TT_iret dX10_thinned_12 rfl rfl h
theorem e_X10_thinned (x1 : Int) (x2 : Int) {σ : Mem} {K : Int → Mem → Prop} (h : CC m_X10_mayThin [vR 80, vI x1, vI x2] σ (PI (fun y1 s2 => R32 y1 ∧ ((0 ≤ y1 → (0 ≤ x1 ∧ x1 < 10) ∧ CC m_X10_layThin [vR 80, vI x1, vI x2] s2 (PI (fun y6 s7 => TT m_X10_thinned 32 [vR 80, vI x1, vU, vU, vI (s2 81 (x1).toNat), vI y6, vI 0] [] s7 (PI K)))) ∧ (¬ 0 ≤ y1 → K y1 s2))))) : CC m_X10_thinned [vR 80, vI x1, vI x2] σ (PI K) := CC_of (by decide) rfl rfl rfl (Nat.le_of_ble_eq_true rfl) (w_X10_thinned_0 x1 x2 h)
set_option maxRecDepth 4000 in
theorem w_X10_thinned_32 (x1 : Int) (x4 : Int) (x5 : Int) (x6 : Int) {σ : Mem} {K : Int → Mem → Prop} (h : R32 x6 ∧ R32 x5 ∧ ((x5 ≤ x6 → (0 ≤ x1 ∧ x1 < 10) ∧ (∀ s12 : Mem, s12 = up σ 81 (x1).toNat x5 → K (x4 - x5) s12)) ∧ (¬ x5 ≤ x6 → (0 ≤ x6 ∧ x6 < 24) ∧ CC m_X10_move [vR 80, vI x1, vI (σ 99 (x6).toNat), vI x6] σ (PN (fun s16 => TT m_X10_thinned 32 [vR 80, vI x1, vU, vU, vI x4, vI x5, vI (x6 + 1)] [] s16 (PI K)))))) : TT m_X10_thinned 32 [vR 80, vI x1, vU, vU, vI x4, vI x5, vI x6] [] σ (PI K) := by
  refine TT_iload dX10_thinned_32 rfl ?_
  refine TT_iload dX10_thinned_34 rfl ?_
  obtain ⟨o8, h⟩ := h
  obtain ⟨o9, h⟩ := h
  refine TT_icmp_ge (tgt := 59) dX10_thinned_36 rfl o8 o9 (fun c10 => ?_) (fun c10 => ?_)
  · replace h := h.1 c10
    refine TT_aload_n dX10_thinned_59 rfl ?_
    refine TT_getR (r := 81) dX10_thinned_60 fd_X10_7 (by decide) rfl (by decide) rfl rfl ?_
    refine TT_iload_n dX10_thinned_63 rfl ?_
    refine TT_iload dX10_thinned_64 rfl ?_
    obtain ⟨o11, h⟩ := h
    refine TT_iast dX10_thinned_66 (by decide) rfl (by decide) o11 ?_
    refine TT_nmM (fun s12 e13 => ?_)
    replace h := h s12 e13
    refine TT_iload dX10_thinned_67 rfl ?_
    refine TT_iload dX10_thinned_69 rfl ?_
    refine TT_isub dX10_thinned_71 ?_
    exact TT_iret dX10_thinned_72 rfl rfl h
  · replace h := h.2 c10
    refine TT_aload_n dX10_thinned_39 rfl ?_
    refine TT_iload_n dX10_thinned_40 rfl ?_
    refine TT_aload_n dX10_thinned_41 rfl ?_
    refine TT_getR (r := 99) dX10_thinned_42 fd_X10_65 (by decide) rfl (by decide) rfl rfl ?_
    refine TT_iload dX10_thinned_45 rfl ?_
    obtain ⟨o14, h⟩ := h
    refine TT_iald dX10_thinned_47 (by decide) rfl (by decide) o14 ?_
    refine TT_iload dX10_thinned_48 rfl ?_
    refine TT_callVN (M' := m_X10_move) (as := [vI x1, vI (σ 99 (x6).toNat), vI x6]) (rest := []) dX10_thinned_50 mo_X10_move ml_X10_91 im_X10_move se_X10_move (Nat.le_of_ble_eq_true rfl) (Nat.le_of_ble_eq_true rfl) ⟨rfl, rfl, rfl⟩ rfl rfl (Nat.le_of_ble_eq_true rfl) (by decide) rfl rfl (by decide) h (fun s16 h => ?_)
    refine TT_iinc dX10_thinned_53 (Nat.le_of_ble_eq_true rfl) rfl rfl rfl ?_
    refine TT_goto (tgt := 32) dX10_thinned_56 rfl ?_
    exact h
set_option maxRecDepth 4000 in
theorem w_X10_pass_0 (x1 : Int) {σ : Mem} {K : Int → Mem → Prop} (h : R32 x1 ∧ CC m_X10_in [vL x1, vL 1, vL 100] σ (PZ (fun s3 => R32 ((s3 80 29) + x1) ∧ ((((s3 80 29) + x1) < 200 → (∀ s8 : Mem, s8 = up s3 80 29 ((s3 80 29) + x1) → K (s8 80 29) s8)) ∧ (¬ ((s3 80 29) + x1) < 200 → K (-900004) s3))) (fun s4 => K (-900002) s4))) : TT m_X10_pass 0 [vR 80, vI x1] [] σ (PI K) := by
  refine TT_iload_n dX10_pass_0 rfl ?_
  obtain ⟨o1, h⟩ := h
  refine TT_i2l dX10_pass_1 o1 ?_
  refine TT_lconst dX10_pass_2 (x := 1) rfl ?_
  refine TT_ldc2 dX10_pass_3 kl_X10_267 (x := 100) rfl ?_
  refine TT_callSZ (M' := m_X10_in) (as := [vL x1, vL 1, vL 100]) (rest := []) dX10_pass_6 mo_X10_in ml_X10_73 sm_X10_in (Nat.le_of_ble_eq_true rfl) (Nat.le_of_ble_eq_true rfl) ⟨rfl, rfl, rfl⟩ rfl rfl (Nat.le_of_ble_eq_true rfl) h (fun s3 h => ?_) (fun s4 h => ?_)
  · refine TT_if_ne (tgt := 15) dX10_pass_9 rfl (by decide) (fun c5 => ?_) (fun c5 => absurd c5 (by decide))
    refine TT_aload_n dX10_pass_15 rfl ?_
    refine TT_getI dX10_pass_16 fd_X10_269 (by decide) (Or.inl rfl) (by decide) rfl ?_
    refine TT_iload_n dX10_pass_19 rfl ?_
    refine TT_iadd dX10_pass_20 ?_
    refine TT_sipush dX10_pass_21 (by decide) ?_
    obtain ⟨o6, h⟩ := h
    refine TT_icmp_lt (tgt := 30) dX10_pass_24 rfl o6 (by decide) (fun c7 => ?_) (fun c7 => ?_)
    · replace h := h.1 c7
      refine TT_aload_n dX10_pass_30 rfl ?_
      refine TT_dup dX10_pass_31 rfl ?_
      refine TT_getI dX10_pass_32 fd_X10_269 (by decide) (Or.inl rfl) (by decide) rfl ?_
      refine TT_iload_n dX10_pass_35 rfl ?_
      refine TT_iadd dX10_pass_36 ?_
      refine TT_putI dX10_pass_37 fd_X10_269 (by decide) rfl (by decide) rfl ?_
      refine TT_nmM (fun s8 e9 => ?_)
      replace h := h s8 e9
      refine TT_aload_n dX10_pass_40 rfl ?_
      refine TT_getI dX10_pass_41 fd_X10_269 (by decide) (Or.inl rfl) (by decide) rfl ?_
      exact TT_iret dX10_pass_44 rfl rfl h
    · replace h := h.2 c7
      refine TT_ldc dX10_pass_27 kc_X10_90 (x := (-900004)) rfl ?_
      exact TT_iret dX10_pass_29 rfl rfl h
  · refine TT_if_ne (tgt := 15) dX10_pass_9 rfl (by decide) (fun c10 => absurd c10 (by decide)) (fun c10 => ?_)
    refine TT_ldc dX10_pass_12 kc_X10_89 (x := (-900002)) rfl ?_
    exact TT_iret dX10_pass_14 rfl rfl h
theorem e_X10_pass (x1 : Int) {σ : Mem} {K : Int → Mem → Prop} (h : R32 x1 ∧ CC m_X10_in [vL x1, vL 1, vL 100] σ (PZ (fun s3 => R32 ((s3 80 29) + x1) ∧ ((((s3 80 29) + x1) < 200 → (∀ s8 : Mem, s8 = up s3 80 29 ((s3 80 29) + x1) → K (s8 80 29) s8)) ∧ (¬ ((s3 80 29) + x1) < 200 → K (-900004) s3))) (fun s4 => K (-900002) s4))) : CC m_X10_pass [vR 80, vI x1] σ (PI K) := CC_of (by decide) rfl rfl rfl (Nat.le_of_ble_eq_true rfl) (w_X10_pass_0 x1 h)
set_option maxRecDepth 4000 in
theorem w_X10_stand__0 (x1 : Int) (x2 : Int) (x3 : Int) (x4 : Int) {σ : Mem} {K : Int → Mem → Prop} (h : CC m_X10_isSpan [vI x1, vI x2] σ (PZ (fun s2 => CC m_X10_isSpan [vI x3, vI x4] s2 (PZ (fun s6 => R32 (s6 80 30) ∧ ((¬ (s6 80 30) = 6 → (0 ≤ (4 * (s6 80 30)) ∧ (4 * (s6 80 30)) < 24) ∧ (∀ s12 : Mem, s12 = up s6 100 (4 * (s6 80 30)).toNat x1 → (0 ≤ ((4 * (s12 80 30)) + 1) ∧ ((4 * (s12 80 30)) + 1) < 24) ∧ (∀ s15 : Mem, s15 = up s12 100 ((4 * (s12 80 30)) + 1).toNat x2 → (0 ≤ ((4 * (s15 80 30)) + 2) ∧ ((4 * (s15 80 30)) + 2) < 24) ∧ (∀ s18 : Mem, s18 = up s15 100 ((4 * (s15 80 30)) + 2).toNat x3 → (0 ≤ ((4 * (s18 80 30)) + 3) ∧ ((4 * (s18 80 30)) + 3) < 24) ∧ (∀ s21 : Mem, s21 = up s18 100 ((4 * (s18 80 30)) + 3).toNat x4 → (∀ s23 : Mem, s23 = up s21 80 30 ((s21 80 30) + 1) → K ((s23 80 30) - 1) s23)))))) ∧ ((s6 80 30) = 6 → K (-900004) s6))) (fun s7 => K (-900002) s7))) (fun s3 => K (-900002) s3))) : TT m_X10_stand_ 0 [vR 80, vI x1, vI x2, vI x3, vI x4] [] σ (PI K) := by
  refine TT_iload_n dX10_stand__0 rfl ?_
  refine TT_iload_n dX10_stand__1 rfl ?_
  refine TT_callSZ (M' := m_X10_isSpan) (as := [vI x1, vI x2]) (rest := []) dX10_stand__2 mo_X10_isSpan ml_X10_142 sm_X10_isSpan (Nat.le_of_ble_eq_true rfl) (Nat.le_of_ble_eq_true rfl) ⟨rfl, rfl, rfl⟩ rfl rfl (Nat.le_of_ble_eq_true rfl) h (fun s2 h => ?_) (fun s3 h => ?_)
  · refine TT_if_eq (tgt := 17) dX10_stand__5 rfl (by decide) (fun c4 => absurd c4 (by decide)) (fun c4 => ?_)
    refine TT_iload_n dX10_stand__8 rfl ?_
    refine TT_iload dX10_stand__9 rfl ?_
    refine TT_callSZ (M' := m_X10_isSpan) (as := [vI x3, vI x4]) (rest := []) dX10_stand__11 mo_X10_isSpan ml_X10_142 sm_X10_isSpan (Nat.le_of_ble_eq_true rfl) (Nat.le_of_ble_eq_true rfl) ⟨rfl, rfl, rfl⟩ rfl rfl (Nat.le_of_ble_eq_true rfl) h (fun s6 h => ?_) (fun s7 h => ?_)
    · refine TT_if_ne (tgt := 20) dX10_stand__14 rfl (by decide) (fun c8 => ?_) (fun c8 => absurd c8 (by decide))
      refine TT_aload_n dX10_stand__20 rfl ?_
      refine TT_getI dX10_stand__21 fd_X10_272 (by decide) (Or.inl rfl) (by decide) rfl ?_
      refine TT_bipush dX10_stand__24 (by decide) ?_
      obtain ⟨o9, h⟩ := h
      refine TT_icmp_ne (tgt := 32) dX10_stand__26 rfl o9 (by decide) (fun c10 => ?_) (fun c10 => ?_)
      · replace h := h.1 c10
        refine TT_aload_n dX10_stand__32 rfl ?_
        refine TT_getR (r := 100) dX10_stand__33 fd_X10_68 (by decide) rfl (by decide) rfl rfl ?_
        refine TT_iconst dX10_stand__36 ?_
        refine TT_aload_n dX10_stand__37 rfl ?_
        refine TT_getI dX10_stand__38 fd_X10_272 (by decide) (Or.inl rfl) (by decide) rfl ?_
        refine TT_imul dX10_stand__41 ?_
        refine TT_iload_n dX10_stand__42 rfl ?_
        obtain ⟨o11, h⟩ := h
        refine TT_iast dX10_stand__43 (by decide) rfl (by decide) o11 ?_
        refine TT_nmM (fun s12 e13 => ?_)
        replace h := h s12 e13
        refine TT_aload_n dX10_stand__44 rfl ?_
        refine TT_getR (r := 100) dX10_stand__45 fd_X10_68 (by decide) rfl (by decide) rfl rfl ?_
        refine TT_iconst dX10_stand__48 ?_
        refine TT_aload_n dX10_stand__49 rfl ?_
        refine TT_getI dX10_stand__50 fd_X10_272 (by decide) (Or.inl rfl) (by decide) rfl ?_
        refine TT_imul dX10_stand__53 ?_
        refine TT_iconst dX10_stand__54 ?_
        refine TT_iadd dX10_stand__55 ?_
        refine TT_iload_n dX10_stand__56 rfl ?_
        obtain ⟨o14, h⟩ := h
        refine TT_iast dX10_stand__57 (by decide) rfl (by decide) o14 ?_
        refine TT_nmM (fun s15 e16 => ?_)
        replace h := h s15 e16
        refine TT_aload_n dX10_stand__58 rfl ?_
        refine TT_getR (r := 100) dX10_stand__59 fd_X10_68 (by decide) rfl (by decide) rfl rfl ?_
        refine TT_iconst dX10_stand__62 ?_
        refine TT_aload_n dX10_stand__63 rfl ?_
        refine TT_getI dX10_stand__64 fd_X10_272 (by decide) (Or.inl rfl) (by decide) rfl ?_
        refine TT_imul dX10_stand__67 ?_
        refine TT_iconst dX10_stand__68 ?_
        refine TT_iadd dX10_stand__69 ?_
        refine TT_iload_n dX10_stand__70 rfl ?_
        obtain ⟨o17, h⟩ := h
        refine TT_iast dX10_stand__71 (by decide) rfl (by decide) o17 ?_
        refine TT_nmM (fun s18 e19 => ?_)
        replace h := h s18 e19
        refine TT_aload_n dX10_stand__72 rfl ?_
        refine TT_getR (r := 100) dX10_stand__73 fd_X10_68 (by decide) rfl (by decide) rfl rfl ?_
        refine TT_iconst dX10_stand__76 ?_
        refine TT_aload_n dX10_stand__77 rfl ?_
        refine TT_getI dX10_stand__78 fd_X10_272 (by decide) (Or.inl rfl) (by decide) rfl ?_
        refine TT_imul dX10_stand__81 ?_
        refine TT_iconst dX10_stand__82 ?_
        refine TT_iadd dX10_stand__83 ?_
        refine TT_iload dX10_stand__84 rfl ?_
        obtain ⟨o20, h⟩ := h
        refine TT_iast dX10_stand__86 (by decide) rfl (by decide) o20 ?_
        refine TT_nmM (fun s21 e22 => ?_)
        replace h := h s21 e22
        refine TT_aload_n dX10_stand__87 rfl ?_
        refine TT_dup dX10_stand__88 rfl ?_
        refine TT_getI dX10_stand__89 fd_X10_272 (by decide) (Or.inl rfl) (by decide) rfl ?_
        refine TT_iconst dX10_stand__92 ?_
        refine TT_iadd dX10_stand__93 ?_
        refine TT_putI dX10_stand__94 fd_X10_272 (by decide) rfl (by decide) rfl ?_
        refine TT_nmM (fun s23 e24 => ?_)
        replace h := h s23 e24
        refine TT_aload_n dX10_stand__97 rfl ?_
        refine TT_getI dX10_stand__98 fd_X10_272 (by decide) (Or.inl rfl) (by decide) rfl ?_
        refine TT_iconst dX10_stand__101 ?_
        refine TT_isub dX10_stand__102 ?_
        exact TT_iret dX10_stand__103 rfl rfl h
      · replace h := h.2 c10
        refine TT_ldc dX10_stand__29 kc_X10_90 (x := (-900004)) rfl ?_
        exact TT_iret dX10_stand__31 rfl rfl h
    · refine TT_if_ne (tgt := 20) dX10_stand__14 rfl (by decide) (fun c25 => absurd c25 (by decide)) (fun c25 => ?_)
      refine TT_ldc dX10_stand__17 kc_X10_89 (x := (-900002)) rfl ?_
      exact TT_iret dX10_stand__19 rfl rfl h
  · refine TT_if_eq (tgt := 17) dX10_stand__5 rfl (by decide) (fun c26 => ?_) (fun c26 => absurd c26 (by decide))
    refine TT_ldc dX10_stand__17 kc_X10_89 (x := (-900002)) rfl ?_
    exact TT_iret dX10_stand__19 rfl rfl h
theorem e_X10_stand_ (x1 : Int) (x2 : Int) (x3 : Int) (x4 : Int) {σ : Mem} {K : Int → Mem → Prop} (h : CC m_X10_isSpan [vI x1, vI x2] σ (PZ (fun s2 => CC m_X10_isSpan [vI x3, vI x4] s2 (PZ (fun s6 => R32 (s6 80 30) ∧ ((¬ (s6 80 30) = 6 → (0 ≤ (4 * (s6 80 30)) ∧ (4 * (s6 80 30)) < 24) ∧ (∀ s12 : Mem, s12 = up s6 100 (4 * (s6 80 30)).toNat x1 → (0 ≤ ((4 * (s12 80 30)) + 1) ∧ ((4 * (s12 80 30)) + 1) < 24) ∧ (∀ s15 : Mem, s15 = up s12 100 ((4 * (s12 80 30)) + 1).toNat x2 → (0 ≤ ((4 * (s15 80 30)) + 2) ∧ ((4 * (s15 80 30)) + 2) < 24) ∧ (∀ s18 : Mem, s18 = up s15 100 ((4 * (s15 80 30)) + 2).toNat x3 → (0 ≤ ((4 * (s18 80 30)) + 3) ∧ ((4 * (s18 80 30)) + 3) < 24) ∧ (∀ s21 : Mem, s21 = up s18 100 ((4 * (s18 80 30)) + 3).toNat x4 → (∀ s23 : Mem, s23 = up s21 80 30 ((s21 80 30) + 1) → K ((s23 80 30) - 1) s23)))))) ∧ ((s6 80 30) = 6 → K (-900004) s6))) (fun s7 => K (-900002) s7))) (fun s3 => K (-900002) s3))) : CC m_X10_stand_ [vR 80, vI x1, vI x2, vI x3, vI x4] σ (PI K) := CC_of (by decide) rfl rfl rfl (Nat.le_of_ble_eq_true rfl) (w_X10_stand__0 x1 x2 x3 x4 h)
set_option maxRecDepth 4000 in
theorem w_X10_isInStand_0 (x1 : Int) (x2 : Int) (x3 : Int) {σ : Mem} {A B : Mem → Prop} (h : R32 x3 ∧ ((x3 < 0 → B σ) ∧ (¬ x3 < 0 → (0 ≤ (4 * x1) ∧ (4 * x1) < 24) ∧ (0 ≤ ((4 * x1) + 1) ∧ ((4 * x1) + 1) < 24) ∧ (0 ≤ ((4 * x1) + 2) ∧ ((4 * x1) + 2) < 24) ∧ (0 ≤ ((4 * x1) + 3) ∧ ((4 * x1) + 3) < 24) ∧ CC m_X10_isIn [vR 80, vI x2, vI x3, vI (σ 100 (4 * x1).toNat), vI (σ 100 ((4 * x1) + 1).toNat), vI (σ 100 ((4 * x1) + 2).toNat), vI (σ 100 ((4 * x1) + 3).toNat)] σ (PZ (fun s8 => A s8) (fun s9 => B s9))))) : TT m_X10_isInStand 0 [vR 80, vI x1, vI x2, vI x3] [] σ (PZ A B) := by
  refine TT_iload_n dX10_isInStand_0 rfl ?_
  obtain ⟨o1, h⟩ := h
  refine TT_if_lt (tgt := 55) dX10_isInStand_1 rfl o1 (fun c2 => ?_) (fun c2 => ?_)
  · replace h := h.1 c2
    refine TT_iconst dX10_isInStand_55 ?_
    exact TT_z0 dX10_isInStand_56 rfl rfl h
  · replace h := h.2 c2
    refine TT_aload_n dX10_isInStand_4 rfl ?_
    refine TT_iload_n dX10_isInStand_5 rfl ?_
    refine TT_iload_n dX10_isInStand_6 rfl ?_
    refine TT_aload_n dX10_isInStand_7 rfl ?_
    refine TT_getR (r := 100) dX10_isInStand_8 fd_X10_68 (by decide) rfl (by decide) rfl rfl ?_
    refine TT_iconst dX10_isInStand_11 ?_
    refine TT_iload_n dX10_isInStand_12 rfl ?_
    refine TT_imul dX10_isInStand_13 ?_
    obtain ⟨o3, h⟩ := h
    refine TT_iald dX10_isInStand_14 (by decide) rfl (by decide) o3 ?_
    refine TT_aload_n dX10_isInStand_15 rfl ?_
    refine TT_getR (r := 100) dX10_isInStand_16 fd_X10_68 (by decide) rfl (by decide) rfl rfl ?_
    refine TT_iconst dX10_isInStand_19 ?_
    refine TT_iload_n dX10_isInStand_20 rfl ?_
    refine TT_imul dX10_isInStand_21 ?_
    refine TT_iconst dX10_isInStand_22 ?_
    refine TT_iadd dX10_isInStand_23 ?_
    obtain ⟨o4, h⟩ := h
    refine TT_iald dX10_isInStand_24 (by decide) rfl (by decide) o4 ?_
    refine TT_aload_n dX10_isInStand_25 rfl ?_
    refine TT_getR (r := 100) dX10_isInStand_26 fd_X10_68 (by decide) rfl (by decide) rfl rfl ?_
    refine TT_iconst dX10_isInStand_29 ?_
    refine TT_iload_n dX10_isInStand_30 rfl ?_
    refine TT_imul dX10_isInStand_31 ?_
    refine TT_iconst dX10_isInStand_32 ?_
    refine TT_iadd dX10_isInStand_33 ?_
    obtain ⟨o5, h⟩ := h
    refine TT_iald dX10_isInStand_34 (by decide) rfl (by decide) o5 ?_
    refine TT_aload_n dX10_isInStand_35 rfl ?_
    refine TT_getR (r := 100) dX10_isInStand_36 fd_X10_68 (by decide) rfl (by decide) rfl rfl ?_
    refine TT_iconst dX10_isInStand_39 ?_
    refine TT_iload_n dX10_isInStand_40 rfl ?_
    refine TT_imul dX10_isInStand_41 ?_
    refine TT_iconst dX10_isInStand_42 ?_
    refine TT_iadd dX10_isInStand_43 ?_
    obtain ⟨o6, h⟩ := h
    refine TT_iald dX10_isInStand_44 (by decide) rfl (by decide) o6 ?_
    refine TT_callVZ (M' := m_X10_isIn) (as := [vI x2, vI x3, vI (σ 100 (4 * x1).toNat), vI (σ 100 ((4 * x1) + 1).toNat), vI (σ 100 ((4 * x1) + 2).toNat), vI (σ 100 ((4 * x1) + 3).toNat)]) (rest := []) dX10_isInStand_45 mo_X10_isIn ml_X10_145 im_X10_isIn se_X10_isIn (Nat.le_of_ble_eq_true rfl) (Nat.le_of_ble_eq_true rfl) ⟨rfl, rfl, rfl⟩ rfl rfl (Nat.le_of_ble_eq_true rfl) (by decide) rfl rfl (by decide) h (fun s8 h => ?_) (fun s9 h => ?_)
    · refine TT_if_eq (tgt := 55) dX10_isInStand_48 rfl (by decide) (fun c10 => absurd c10 (by decide)) (fun c10 => ?_)
      refine TT_iconst dX10_isInStand_51 ?_
      refine TT_goto (tgt := 56) dX10_isInStand_52 rfl ?_
      exact TT_z1 dX10_isInStand_56 rfl rfl h
    · refine TT_if_eq (tgt := 55) dX10_isInStand_48 rfl (by decide) (fun c11 => ?_) (fun c11 => absurd c11 (by decide))
      refine TT_iconst dX10_isInStand_55 ?_
      exact TT_z0 dX10_isInStand_56 rfl rfl h
theorem e_X10_isInStand (x1 : Int) (x2 : Int) (x3 : Int) {σ : Mem} {A B : Mem → Prop} (h : R32 x3 ∧ ((x3 < 0 → B σ) ∧ (¬ x3 < 0 → (0 ≤ (4 * x1) ∧ (4 * x1) < 24) ∧ (0 ≤ ((4 * x1) + 1) ∧ ((4 * x1) + 1) < 24) ∧ (0 ≤ ((4 * x1) + 2) ∧ ((4 * x1) + 2) < 24) ∧ (0 ≤ ((4 * x1) + 3) ∧ ((4 * x1) + 3) < 24) ∧ CC m_X10_isIn [vR 80, vI x2, vI x3, vI (σ 100 (4 * x1).toNat), vI (σ 100 ((4 * x1) + 1).toNat), vI (σ 100 ((4 * x1) + 2).toNat), vI (σ 100 ((4 * x1) + 3).toNat)] σ (PZ (fun s8 => A s8) (fun s9 => B s9))))) : CC m_X10_isInStand [vR 80, vI x1, vI x2, vI x3] σ (PZ A B) := CC_of (by decide) rfl rfl rfl (Nat.le_of_ble_eq_true rfl) (w_X10_isInStand_0 x1 x2 x3 h)
set_option maxRecDepth 4000 in
theorem w_X10_mayChange_0 (x1 : Int) (x2 : Int) {σ : Mem} {K : Int → Mem → Prop} (h : R32 x1 ∧ R32 ((σ 80 30) - 1) ∧ CC m_X10_in [vL x1, vL 0, vL ((σ 80 30) - 1)] σ (PZ (fun s4 => CC m_X10_isMinute [vI x2] s4 (PZ (fun s8 => K 0 s8) (fun s9 => K (-900002) s9))) (fun s5 => K (-900001) s5))) : TT m_X10_mayChange 0 [vR 80, vI x1, vI x2] [] σ (PI K) := by
  refine TT_iload_n dX10_mayChange_0 rfl ?_
  obtain ⟨o1, h⟩ := h
  refine TT_i2l dX10_mayChange_1 o1 ?_
  refine TT_lconst dX10_mayChange_2 (x := 0) rfl ?_
  refine TT_aload_n dX10_mayChange_3 rfl ?_
  refine TT_getI dX10_mayChange_4 fd_X10_272 (by decide) (Or.inl rfl) (by decide) rfl ?_
  refine TT_iconst dX10_mayChange_7 ?_
  refine TT_isub dX10_mayChange_8 ?_
  obtain ⟨o2, h⟩ := h
  refine TT_i2l dX10_mayChange_9 o2 ?_
  refine TT_callSZ (M' := m_X10_in) (as := [vL x1, vL 0, vL ((σ 80 30) - 1)]) (rest := []) dX10_mayChange_10 mo_X10_in ml_X10_73 sm_X10_in (Nat.le_of_ble_eq_true rfl) (Nat.le_of_ble_eq_true rfl) ⟨rfl, rfl, rfl⟩ rfl rfl (Nat.le_of_ble_eq_true rfl) h (fun s4 h => ?_) (fun s5 h => ?_)
  · refine TT_if_ne (tgt := 21) dX10_mayChange_13 rfl (by decide) (fun c6 => ?_) (fun c6 => absurd c6 (by decide))
    refine TT_iload_n dX10_mayChange_21 rfl ?_
    refine TT_callSZ (M' := m_X10_isMinute) (as := [vI x2]) (rest := []) dX10_mayChange_22 mo_X10_isMinute ml_X10_84 sm_X10_isMinute (Nat.le_of_ble_eq_true rfl) (Nat.le_of_ble_eq_true rfl) ⟨rfl, rfl, rfl⟩ rfl rfl (Nat.le_of_ble_eq_true rfl) h (fun s8 h => ?_) (fun s9 h => ?_)
    · refine TT_if_eq (tgt := 32) dX10_mayChange_25 rfl (by decide) (fun c10 => absurd c10 (by decide)) (fun c10 => ?_)
      refine TT_iconst dX10_mayChange_28 ?_
      refine TT_goto (tgt := 34) dX10_mayChange_29 rfl ?_
      exact TT_iret dX10_mayChange_34 rfl rfl h
    · refine TT_if_eq (tgt := 32) dX10_mayChange_25 rfl (by decide) (fun c11 => ?_) (fun c11 => absurd c11 (by decide))
      refine TT_ldc dX10_mayChange_32 kc_X10_89 (x := (-900002)) rfl ?_
      exact TT_iret dX10_mayChange_34 rfl rfl h
  · refine TT_if_ne (tgt := 21) dX10_mayChange_13 rfl (by decide) (fun c12 => absurd c12 (by decide)) (fun c12 => ?_)
    refine TT_ldc dX10_mayChange_16 kc_X10_83 (x := (-900001)) rfl ?_
    refine TT_goto (tgt := 34) dX10_mayChange_18 rfl ?_
    exact TT_iret dX10_mayChange_34 rfl rfl h
theorem e_X10_mayChange (x1 : Int) (x2 : Int) {σ : Mem} {K : Int → Mem → Prop} (h : R32 x1 ∧ R32 ((σ 80 30) - 1) ∧ CC m_X10_in [vL x1, vL 0, vL ((σ 80 30) - 1)] σ (PZ (fun s4 => CC m_X10_isMinute [vI x2] s4 (PZ (fun s8 => K 0 s8) (fun s9 => K (-900002) s9))) (fun s5 => K (-900001) s5))) : CC m_X10_mayChange [vR 80, vI x1, vI x2] σ (PI K) := CC_of (by decide) rfl rfl rfl (Nat.le_of_ble_eq_true rfl) (w_X10_mayChange_0 x1 x2 h)
set_option maxRecDepth 4000 in
theorem w_X10_changes_0 (x1 : Int) (x2 : Int) {σ : Mem} {K : Int → Mem → Prop} (h : CC m_X10_mayChange [vR 80, vI x1, vI x2] σ (PI (fun y1 s2 => R32 y1 ∧ ((0 ≤ y1 → TT m_X10_changes 19 [vR 80, vI x1, vI x2, vU, vI 0, vI 0] [] s2 (PI K)) ∧ (¬ 0 ≤ y1 → K y1 s2))))) : TT m_X10_changes 0 [vR 80, vI x1, vI x2, vU, vU, vU] [] σ (PI K) := by
  refine TT_aload_n dX10_changes_0 rfl ?_
  refine TT_iload_n dX10_changes_1 rfl ?_
  refine TT_iload_n dX10_changes_2 rfl ?_
  refine TT_callVI (M' := m_X10_mayChange) (as := [vI x1, vI x2]) (rest := []) dX10_changes_3 mo_X10_mayChange ml_X10_275 im_X10_mayChange se_X10_mayChange (Nat.le_of_ble_eq_true rfl) (Nat.le_of_ble_eq_true rfl) ⟨rfl, rfl, rfl⟩ rfl rfl (Nat.le_of_ble_eq_true rfl) (by decide) rfl rfl (by decide) h (fun y1 s2 h => ?_)
  refine TT_istore_n dX10_changes_6 (Nat.le_of_ble_eq_true rfl) rfl rfl ?_
  refine TT_iload_n dX10_changes_7 rfl ?_
  obtain ⟨o3, h⟩ := h
  refine TT_if_ge (tgt := 13) dX10_changes_8 rfl o3 (fun c4 => ?_) (fun c4 => ?_)
  · replace h := h.1 c4
    refine TT_iconst dX10_changes_13 ?_
    refine TT_istore dX10_changes_14 (Nat.le_of_ble_eq_true rfl) rfl rfl ?_
    refine TT_iconst dX10_changes_16 ?_
    refine TT_istore dX10_changes_17 (Nat.le_of_ble_eq_true rfl) rfl rfl ?_
    refine TT_kill 3 rfl ?_
    exact h
  · replace h := h.2 c4
    refine TT_iload_n dX10_changes_11 rfl ?_
    exact TT_iret dX10_changes_12 rfl rfl h
theorem e_X10_changes (x1 : Int) (x2 : Int) {σ : Mem} {K : Int → Mem → Prop} (h : CC m_X10_mayChange [vR 80, vI x1, vI x2] σ (PI (fun y1 s2 => R32 y1 ∧ ((0 ≤ y1 → TT m_X10_changes 19 [vR 80, vI x1, vI x2, vU, vI 0, vI 0] [] s2 (PI K)) ∧ (¬ 0 ≤ y1 → K y1 s2))))) : CC m_X10_changes [vR 80, vI x1, vI x2] σ (PI K) := CC_of (by decide) rfl rfl rfl (Nat.le_of_ble_eq_true rfl) (w_X10_changes_0 x1 x2 h)
set_option maxRecDepth 4000 in
theorem w_X10_changes_19 (x1 : Int) (x2 : Int) (x4 : Int) (x5 : Int) {σ : Mem} {K : Int → Mem → Prop} (h : R32 x5 ∧ ((10 ≤ x5 → K x4 σ) ∧ (¬ 10 ≤ x5 → CC m_X10_isInStand [vR 80, vI x1, vI x5, vI x2] σ (PZ (fun s8 => CC m_X10_isInStand [vR 80, vI x1, vI x5, vI (x2 - 1)] s8 (PZ (fun s11 => TT m_X10_changes 19 [vR 80, vI x1, vI x2, vU, vI (x4 + 0), vI (x5 + 1)] [] s11 (PI K)) (fun s12 => TT m_X10_changes 19 [vR 80, vI x1, vI x2, vU, vI (x4 + 1), vI (x5 + 1)] [] s12 (PI K)))) (fun s9 => CC m_X10_isInStand [vR 80, vI x1, vI x5, vI (x2 - 1)] s9 (PZ (fun s16 => TT m_X10_changes 19 [vR 80, vI x1, vI x2, vU, vI (x4 + 1), vI (x5 + 1)] [] s16 (PI K)) (fun s17 => TT m_X10_changes 19 [vR 80, vI x1, vI x2, vU, vI (x4 + 0), vI (x5 + 1)] [] s17 (PI K)))))))) : TT m_X10_changes 19 [vR 80, vI x1, vI x2, vU, vI x4, vI x5] [] σ (PI K) := by
  refine TT_iload dX10_changes_19 rfl ?_
  refine TT_bipush dX10_changes_21 (by decide) ?_
  obtain ⟨o5, h⟩ := h
  refine TT_icmp_ge (tgt := 63) dX10_changes_23 rfl o5 (by decide) (fun c6 => ?_) (fun c6 => ?_)
  · replace h := h.1 c6
    refine TT_iload dX10_changes_63 rfl ?_
    exact TT_iret dX10_changes_65 rfl rfl h
  · replace h := h.2 c6
    refine TT_iload dX10_changes_26 rfl ?_
    refine TT_aload_n dX10_changes_28 rfl ?_
    refine TT_iload_n dX10_changes_29 rfl ?_
    refine TT_iload dX10_changes_30 rfl ?_
    refine TT_iload_n dX10_changes_32 rfl ?_
    refine TT_callVZ (M' := m_X10_isInStand) (as := [vI x1, vI x5, vI x2]) (rest := [vI x4]) dX10_changes_33 mo_X10_isInStand ml_X10_278 im_X10_isInStand se_X10_isInStand (Nat.le_of_ble_eq_true rfl) (Nat.le_of_ble_eq_true rfl) ⟨rfl, rfl, rfl⟩ rfl rfl (Nat.le_of_ble_eq_true rfl) (by decide) rfl rfl (by decide) h (fun s8 h => ?_) (fun s9 h => ?_)
    · refine TT_aload_n dX10_changes_36 rfl ?_
      refine TT_iload_n dX10_changes_37 rfl ?_
      refine TT_iload dX10_changes_38 rfl ?_
      refine TT_iload_n dX10_changes_40 rfl ?_
      refine TT_iconst dX10_changes_41 ?_
      refine TT_isub dX10_changes_42 ?_
      refine TT_callVZ (M' := m_X10_isInStand) (as := [vI x1, vI x5, vI (x2 - 1)]) (rest := [vI 1, vI x4]) dX10_changes_43 mo_X10_isInStand ml_X10_278 im_X10_isInStand se_X10_isInStand (Nat.le_of_ble_eq_true rfl) (Nat.le_of_ble_eq_true rfl) ⟨rfl, rfl, rfl⟩ rfl rfl (Nat.le_of_ble_eq_true rfl) (by decide) rfl rfl (by decide) h (fun s11 h => ?_) (fun s12 h => ?_)
      · refine TT_icmp_eq (tgt := 53) dX10_changes_46 rfl (by decide) (by decide) (fun c13 => ?_) (fun c13 => absurd c13 (by decide))
        refine TT_iconst dX10_changes_53 ?_
        refine TT_iadd dX10_changes_54 ?_
        refine TT_istore dX10_changes_55 (Nat.le_of_ble_eq_true rfl) rfl rfl ?_
        refine TT_iinc dX10_changes_57 (Nat.le_of_ble_eq_true rfl) rfl rfl rfl ?_
        refine TT_goto (tgt := 19) dX10_changes_60 rfl ?_
        exact h
      · refine TT_icmp_eq (tgt := 53) dX10_changes_46 rfl (by decide) (by decide) (fun c14 => absurd c14 (by decide)) (fun c14 => ?_)
        refine TT_iconst dX10_changes_49 ?_
        refine TT_goto (tgt := 54) dX10_changes_50 rfl ?_
        refine TT_iadd dX10_changes_54 ?_
        refine TT_istore dX10_changes_55 (Nat.le_of_ble_eq_true rfl) rfl rfl ?_
        refine TT_iinc dX10_changes_57 (Nat.le_of_ble_eq_true rfl) rfl rfl rfl ?_
        refine TT_goto (tgt := 19) dX10_changes_60 rfl ?_
        exact h
    · refine TT_aload_n dX10_changes_36 rfl ?_
      refine TT_iload_n dX10_changes_37 rfl ?_
      refine TT_iload dX10_changes_38 rfl ?_
      refine TT_iload_n dX10_changes_40 rfl ?_
      refine TT_iconst dX10_changes_41 ?_
      refine TT_isub dX10_changes_42 ?_
      refine TT_callVZ (M' := m_X10_isInStand) (as := [vI x1, vI x5, vI (x2 - 1)]) (rest := [vI 0, vI x4]) dX10_changes_43 mo_X10_isInStand ml_X10_278 im_X10_isInStand se_X10_isInStand (Nat.le_of_ble_eq_true rfl) (Nat.le_of_ble_eq_true rfl) ⟨rfl, rfl, rfl⟩ rfl rfl (Nat.le_of_ble_eq_true rfl) (by decide) rfl rfl (by decide) h (fun s16 h => ?_) (fun s17 h => ?_)
      · refine TT_icmp_eq (tgt := 53) dX10_changes_46 rfl (by decide) (by decide) (fun c18 => absurd c18 (by decide)) (fun c18 => ?_)
        refine TT_iconst dX10_changes_49 ?_
        refine TT_goto (tgt := 54) dX10_changes_50 rfl ?_
        refine TT_iadd dX10_changes_54 ?_
        refine TT_istore dX10_changes_55 (Nat.le_of_ble_eq_true rfl) rfl rfl ?_
        refine TT_iinc dX10_changes_57 (Nat.le_of_ble_eq_true rfl) rfl rfl rfl ?_
        refine TT_goto (tgt := 19) dX10_changes_60 rfl ?_
        exact h
      · refine TT_icmp_eq (tgt := 53) dX10_changes_46 rfl (by decide) (by decide) (fun c19 => ?_) (fun c19 => absurd c19 (by decide))
        refine TT_iconst dX10_changes_53 ?_
        refine TT_iadd dX10_changes_54 ?_
        refine TT_istore dX10_changes_55 (Nat.le_of_ble_eq_true rfl) rfl rfl ?_
        refine TT_iinc dX10_changes_57 (Nat.le_of_ble_eq_true rfl) rfl rfl rfl ?_
        refine TT_goto (tgt := 19) dX10_changes_60 rfl ?_
        exact h
set_option maxRecDepth 4000 in
theorem w_X10_change_0 (x1 : Int) (x2 : Int) (x3 : Int) {σ : Mem} {K : Int → Mem → Prop} (h : CC m_X10_mayChange [vR 80, vI x1, vI x2] σ (PI (fun y1 s2 => R32 y1 ∧ ((0 ≤ y1 → TT m_X10_change 22 [vR 80, vI x1, vI x2, vI x3, vU, vI 0, vI 0, vU] [] s2 (PI K)) ∧ (¬ 0 ≤ y1 → K y1 s2))))) : TT m_X10_change 0 [vR 80, vI x1, vI x2, vI x3, vU, vU, vU, vU] [] σ (PI K) := by
  refine TT_aload_n dX10_change_0 rfl ?_
  refine TT_iload_n dX10_change_1 rfl ?_
  refine TT_iload_n dX10_change_2 rfl ?_
  refine TT_callVI (M' := m_X10_mayChange) (as := [vI x1, vI x2]) (rest := []) dX10_change_3 mo_X10_mayChange ml_X10_275 im_X10_mayChange se_X10_mayChange (Nat.le_of_ble_eq_true rfl) (Nat.le_of_ble_eq_true rfl) ⟨rfl, rfl, rfl⟩ rfl rfl (Nat.le_of_ble_eq_true rfl) (by decide) rfl rfl (by decide) h (fun y1 s2 h => ?_)
  refine TT_istore dX10_change_6 (Nat.le_of_ble_eq_true rfl) rfl rfl ?_
  refine TT_iload dX10_change_8 rfl ?_
  obtain ⟨o3, h⟩ := h
  refine TT_if_ge (tgt := 16) dX10_change_10 rfl o3 (fun c4 => ?_) (fun c4 => ?_)
  · replace h := h.1 c4
    refine TT_iconst dX10_change_16 ?_
    refine TT_istore dX10_change_17 (Nat.le_of_ble_eq_true rfl) rfl rfl ?_
    refine TT_iconst dX10_change_19 ?_
    refine TT_istore dX10_change_20 (Nat.le_of_ble_eq_true rfl) rfl rfl ?_
    refine TT_kill 4 rfl ?_
    exact h
  · replace h := h.2 c4
    refine TT_iload dX10_change_13 rfl ?_
    exact TT_iret dX10_change_15 rfl rfl h
theorem e_X10_change (x1 : Int) (x2 : Int) (x3 : Int) {σ : Mem} {K : Int → Mem → Prop} (h : CC m_X10_mayChange [vR 80, vI x1, vI x2] σ (PI (fun y1 s2 => R32 y1 ∧ ((0 ≤ y1 → TT m_X10_change 22 [vR 80, vI x1, vI x2, vI x3, vU, vI 0, vI 0, vU] [] s2 (PI K)) ∧ (¬ 0 ≤ y1 → K y1 s2))))) : CC m_X10_change [vR 80, vI x1, vI x2, vI x3] σ (PI K) := CC_of (by decide) rfl rfl rfl (Nat.le_of_ble_eq_true rfl) (w_X10_change_0 x1 x2 x3 h)
set_option maxRecDepth 4000 in
theorem w_X10_change_22 (x1 : Int) (x2 : Int) (x3 : Int) (x5 : Int) (x6 : Int) {σ : Mem} {K : Int → Mem → Prop} (h : R32 x6 ∧ ((10 ≤ x6 → K (-900009) σ) ∧ (¬ 10 ≤ x6 → CC m_X10_isInStand [vR 80, vI x1, vI x6, vI x2] σ (PZ (fun s8 => CC m_X10_isInStand [vR 80, vI x1, vI x6, vI (x2 - 1)] s8 (PZ (fun s11 => TT m_X10_change 22 [vR 80, vI x1, vI x2, vI x3, vU, vI x5, vI (x6 + 1), vU] [] s11 (PI K)) (fun s12 => R32 x5 ∧ R32 x3 ∧ ((¬ x5 = x3 → TT m_X10_change 22 [vR 80, vI x1, vI x2, vI x3, vU, vI (x5 + 1), vI (x6 + 1), vU] [] s12 (PI K)) ∧ (x5 = x3 → K (100 + x6) s12))))) (fun s9 => CC m_X10_isInStand [vR 80, vI x1, vI x6, vI (x2 - 1)] s9 (PZ (fun s20 => R32 x5 ∧ R32 x3 ∧ ((¬ x5 = x3 → TT m_X10_change 22 [vR 80, vI x1, vI x2, vI x3, vU, vI (x5 + 1), vI (x6 + 1), vU] [] s20 (PI K)) ∧ (x5 = x3 → K x6 s20))) (fun s21 => TT m_X10_change 22 [vR 80, vI x1, vI x2, vI x3, vU, vI x5, vI (x6 + 1), vU] [] s21 (PI K)))))))) : TT m_X10_change 22 [vR 80, vI x1, vI x2, vI x3, vU, vI x5, vI x6, vU] [] σ (PI K) := by
  refine TT_iload dX10_change_22 rfl ?_
  refine TT_bipush dX10_change_24 (by decide) ?_
  obtain ⟨o5, h⟩ := h
  refine TT_icmp_ge (tgt := 85) dX10_change_26 rfl o5 (by decide) (fun c6 => ?_) (fun c6 => ?_)
  · replace h := h.1 c6
    refine TT_ldc dX10_change_85 kc_X10_149 (x := (-900009)) rfl ?_
    exact TT_iret dX10_change_87 rfl rfl h
  · replace h := h.2 c6
    refine TT_aload_n dX10_change_29 rfl ?_
    refine TT_iload_n dX10_change_30 rfl ?_
    refine TT_iload dX10_change_31 rfl ?_
    refine TT_iload_n dX10_change_33 rfl ?_
    refine TT_callVZ (M' := m_X10_isInStand) (as := [vI x1, vI x6, vI x2]) (rest := []) dX10_change_34 mo_X10_isInStand ml_X10_278 im_X10_isInStand se_X10_isInStand (Nat.le_of_ble_eq_true rfl) (Nat.le_of_ble_eq_true rfl) ⟨rfl, rfl, rfl⟩ rfl rfl (Nat.le_of_ble_eq_true rfl) (by decide) rfl rfl (by decide) h (fun s8 h => ?_) (fun s9 h => ?_)
    · refine TT_istore dX10_change_37 (Nat.le_of_ble_eq_true rfl) rfl rfl ?_
      refine TT_iload dX10_change_39 rfl ?_
      refine TT_aload_n dX10_change_41 rfl ?_
      refine TT_iload_n dX10_change_42 rfl ?_
      refine TT_iload dX10_change_43 rfl ?_
      refine TT_iload_n dX10_change_45 rfl ?_
      refine TT_iconst dX10_change_46 ?_
      refine TT_isub dX10_change_47 ?_
      refine TT_callVZ (M' := m_X10_isInStand) (as := [vI x1, vI x6, vI (x2 - 1)]) (rest := [vI 1]) dX10_change_48 mo_X10_isInStand ml_X10_278 im_X10_isInStand se_X10_isInStand (Nat.le_of_ble_eq_true rfl) (Nat.le_of_ble_eq_true rfl) ⟨rfl, rfl, rfl⟩ rfl rfl (Nat.le_of_ble_eq_true rfl) (by decide) rfl rfl (by decide) h (fun s11 h => ?_) (fun s12 h => ?_)
      · refine TT_icmp_eq (tgt := 79) dX10_change_51 rfl (by decide) (by decide) (fun c13 => ?_) (fun c13 => absurd c13 (by decide))
        refine TT_iinc dX10_change_79 (Nat.le_of_ble_eq_true rfl) rfl rfl rfl ?_
        refine TT_goto (tgt := 22) dX10_change_82 rfl ?_
        refine TT_kill 7 rfl ?_
        exact h
      · refine TT_icmp_eq (tgt := 79) dX10_change_51 rfl (by decide) (by decide) (fun c14 => absurd c14 (by decide)) (fun c14 => ?_)
        refine TT_iload dX10_change_54 rfl ?_
        refine TT_iload_n dX10_change_56 rfl ?_
        obtain ⟨o15, h⟩ := h
        obtain ⟨o16, h⟩ := h
        refine TT_icmp_ne (tgt := 76) dX10_change_57 rfl o15 o16 (fun c17 => ?_) (fun c17 => ?_)
        · replace h := h.1 c17
          refine TT_iinc dX10_change_76 (Nat.le_of_ble_eq_true rfl) rfl rfl rfl ?_
          refine TT_iinc dX10_change_79 (Nat.le_of_ble_eq_true rfl) rfl rfl rfl ?_
          refine TT_goto (tgt := 22) dX10_change_82 rfl ?_
          refine TT_kill 7 rfl ?_
          exact h
        · replace h := h.2 c17
          refine TT_iload dX10_change_60 rfl ?_
          refine TT_if_eq (tgt := 73) dX10_change_62 rfl (by decide) (fun c18 => absurd c18 (by decide)) (fun c18 => ?_)
          refine TT_bipush dX10_change_65 (by decide) ?_
          refine TT_iload dX10_change_67 rfl ?_
          refine TT_iadd dX10_change_69 ?_
          refine TT_goto (tgt := 75) dX10_change_70 rfl ?_
          exact TT_iret dX10_change_75 rfl rfl h
    · refine TT_istore dX10_change_37 (Nat.le_of_ble_eq_true rfl) rfl rfl ?_
      refine TT_iload dX10_change_39 rfl ?_
      refine TT_aload_n dX10_change_41 rfl ?_
      refine TT_iload_n dX10_change_42 rfl ?_
      refine TT_iload dX10_change_43 rfl ?_
      refine TT_iload_n dX10_change_45 rfl ?_
      refine TT_iconst dX10_change_46 ?_
      refine TT_isub dX10_change_47 ?_
      refine TT_callVZ (M' := m_X10_isInStand) (as := [vI x1, vI x6, vI (x2 - 1)]) (rest := [vI 0]) dX10_change_48 mo_X10_isInStand ml_X10_278 im_X10_isInStand se_X10_isInStand (Nat.le_of_ble_eq_true rfl) (Nat.le_of_ble_eq_true rfl) ⟨rfl, rfl, rfl⟩ rfl rfl (Nat.le_of_ble_eq_true rfl) (by decide) rfl rfl (by decide) h (fun s20 h => ?_) (fun s21 h => ?_)
      · refine TT_icmp_eq (tgt := 79) dX10_change_51 rfl (by decide) (by decide) (fun c22 => absurd c22 (by decide)) (fun c22 => ?_)
        refine TT_iload dX10_change_54 rfl ?_
        refine TT_iload_n dX10_change_56 rfl ?_
        obtain ⟨o23, h⟩ := h
        obtain ⟨o24, h⟩ := h
        refine TT_icmp_ne (tgt := 76) dX10_change_57 rfl o23 o24 (fun c25 => ?_) (fun c25 => ?_)
        · replace h := h.1 c25
          refine TT_iinc dX10_change_76 (Nat.le_of_ble_eq_true rfl) rfl rfl rfl ?_
          refine TT_iinc dX10_change_79 (Nat.le_of_ble_eq_true rfl) rfl rfl rfl ?_
          refine TT_goto (tgt := 22) dX10_change_82 rfl ?_
          refine TT_kill 7 rfl ?_
          exact h
        · replace h := h.2 c25
          refine TT_iload dX10_change_60 rfl ?_
          refine TT_if_eq (tgt := 73) dX10_change_62 rfl (by decide) (fun c26 => ?_) (fun c26 => absurd c26 (by decide))
          refine TT_iload dX10_change_73 rfl ?_
          exact TT_iret dX10_change_75 rfl rfl h
      · refine TT_icmp_eq (tgt := 79) dX10_change_51 rfl (by decide) (by decide) (fun c27 => ?_) (fun c27 => absurd c27 (by decide))
        refine TT_iinc dX10_change_79 (Nat.le_of_ble_eq_true rfl) rfl rfl rfl ?_
        refine TT_goto (tgt := 22) dX10_change_82 rfl ?_
        refine TT_kill 7 rfl ?_
        exact h
set_option maxRecDepth 4000 in
theorem w_X10_still_0 (x1 : Int) (x2 : Int) {σ : Mem} {K : Int → Mem → Prop} (h : R32 x1 ∧ R32 ((σ 80 30) - 1) ∧ CC m_X10_in [vL x1, vL 0, vL ((σ 80 30) - 1)] σ (PZ (fun s4 => CC m_X10_isThing [vI x2] s4 (PZ (fun s8 => CC m_X10_isInStand [vR 80, vI x1, vI x2, vI (s8 80 29)] s8 (PZ (fun s12 => TT m_X10_still 45 [vR 80, vI x1, vI x2, vI 1, vI ((s12 80 29) + 1)] [] s12 (PI K)) (fun s13 => TT m_X10_still 45 [vR 80, vI x1, vI x2, vI 0, vI ((s13 80 29) + 1)] [] s13 (PI K)))) (fun s9 => K (-900001) s9))) (fun s5 => K (-900001) s5))) : TT m_X10_still 0 [vR 80, vI x1, vI x2, vU, vU] [] σ (PI K) := by
  refine TT_iload_n dX10_still_0 rfl ?_
  obtain ⟨o1, h⟩ := h
  refine TT_i2l dX10_still_1 o1 ?_
  refine TT_lconst dX10_still_2 (x := 0) rfl ?_
  refine TT_aload_n dX10_still_3 rfl ?_
  refine TT_getI dX10_still_4 fd_X10_272 (by decide) (Or.inl rfl) (by decide) rfl ?_
  refine TT_iconst dX10_still_7 ?_
  refine TT_isub dX10_still_8 ?_
  obtain ⟨o2, h⟩ := h
  refine TT_i2l dX10_still_9 o2 ?_
  refine TT_callSZ (M' := m_X10_in) (as := [vL x1, vL 0, vL ((σ 80 30) - 1)]) (rest := []) dX10_still_10 mo_X10_in ml_X10_73 sm_X10_in (Nat.le_of_ble_eq_true rfl) (Nat.le_of_ble_eq_true rfl) ⟨rfl, rfl, rfl⟩ rfl rfl (Nat.le_of_ble_eq_true rfl) h (fun s4 h => ?_) (fun s5 h => ?_)
  · refine TT_if_eq (tgt := 23) dX10_still_13 rfl (by decide) (fun c6 => absurd c6 (by decide)) (fun c6 => ?_)
    refine TT_iload_n dX10_still_16 rfl ?_
    refine TT_callSZ (M' := m_X10_isThing) (as := [vI x2]) (rest := []) dX10_still_17 mo_X10_isThing ml_X10_79 sm_X10_isThing (Nat.le_of_ble_eq_true rfl) (Nat.le_of_ble_eq_true rfl) ⟨rfl, rfl, rfl⟩ rfl rfl (Nat.le_of_ble_eq_true rfl) h (fun s8 h => ?_) (fun s9 h => ?_)
    · refine TT_if_ne (tgt := 26) dX10_still_20 rfl (by decide) (fun c10 => ?_) (fun c10 => absurd c10 (by decide))
      refine TT_aload_n dX10_still_26 rfl ?_
      refine TT_iload_n dX10_still_27 rfl ?_
      refine TT_iload_n dX10_still_28 rfl ?_
      refine TT_aload_n dX10_still_29 rfl ?_
      refine TT_getI dX10_still_30 fd_X10_269 (by decide) (Or.inl rfl) (by decide) rfl ?_
      refine TT_callVZ (M' := m_X10_isInStand) (as := [vI x1, vI x2, vI (s8 80 29)]) (rest := []) dX10_still_33 mo_X10_isInStand ml_X10_278 im_X10_isInStand se_X10_isInStand (Nat.le_of_ble_eq_true rfl) (Nat.le_of_ble_eq_true rfl) ⟨rfl, rfl, rfl⟩ rfl rfl (Nat.le_of_ble_eq_true rfl) (by decide) rfl rfl (by decide) h (fun s12 h => ?_) (fun s13 h => ?_)
      · refine TT_istore_n dX10_still_36 (Nat.le_of_ble_eq_true rfl) rfl rfl ?_
        refine TT_aload_n dX10_still_37 rfl ?_
        refine TT_getI dX10_still_38 fd_X10_269 (by decide) (Or.inl rfl) (by decide) rfl ?_
        refine TT_iconst dX10_still_41 ?_
        refine TT_iadd dX10_still_42 ?_
        refine TT_istore dX10_still_43 (Nat.le_of_ble_eq_true rfl) rfl rfl ?_
        exact h
      · refine TT_istore_n dX10_still_36 (Nat.le_of_ble_eq_true rfl) rfl rfl ?_
        refine TT_aload_n dX10_still_37 rfl ?_
        refine TT_getI dX10_still_38 fd_X10_269 (by decide) (Or.inl rfl) (by decide) rfl ?_
        refine TT_iconst dX10_still_41 ?_
        refine TT_iadd dX10_still_42 ?_
        refine TT_istore dX10_still_43 (Nat.le_of_ble_eq_true rfl) rfl rfl ?_
        exact h
    · refine TT_if_ne (tgt := 26) dX10_still_20 rfl (by decide) (fun c14 => absurd c14 (by decide)) (fun c14 => ?_)
      refine TT_ldc dX10_still_23 kc_X10_83 (x := (-900001)) rfl ?_
      exact TT_iret dX10_still_25 rfl rfl h
  · refine TT_if_eq (tgt := 23) dX10_still_13 rfl (by decide) (fun c15 => ?_) (fun c15 => absurd c15 (by decide))
    refine TT_ldc dX10_still_23 kc_X10_83 (x := (-900001)) rfl ?_
    exact TT_iret dX10_still_25 rfl rfl h
theorem e_X10_still (x1 : Int) (x2 : Int) {σ : Mem} {K : Int → Mem → Prop} (h : R32 x1 ∧ R32 ((σ 80 30) - 1) ∧ CC m_X10_in [vL x1, vL 0, vL ((σ 80 30) - 1)] σ (PZ (fun s4 => CC m_X10_isThing [vI x2] s4 (PZ (fun s8 => CC m_X10_isInStand [vR 80, vI x1, vI x2, vI (s8 80 29)] s8 (PZ (fun s12 => TT m_X10_still 45 [vR 80, vI x1, vI x2, vI 1, vI ((s12 80 29) + 1)] [] s12 (PI K)) (fun s13 => TT m_X10_still 45 [vR 80, vI x1, vI x2, vI 0, vI ((s13 80 29) + 1)] [] s13 (PI K)))) (fun s9 => K (-900001) s9))) (fun s5 => K (-900001) s5))) : CC m_X10_still [vR 80, vI x1, vI x2] σ (PI K) := CC_of (by decide) rfl rfl rfl (Nat.le_of_ble_eq_true rfl) (w_X10_still_0 x1 x2 h)
set_option maxRecDepth 4000 in
theorem w_X10_still_45 (x1 : Int) (x2 : Int) (x3 : Int) (x4 : Int) {σ : Mem} {K : Int → Mem → Prop} (h : R32 x4 ∧ ((200 ≤ x4 → K ((x4 - 1) - (σ 80 29)) σ) ∧ (¬ 200 ≤ x4 → CC m_X10_isInStand [vR 80, vI x1, vI x2, vI x4] σ (PZ (fun s19 => R32 x3 ∧ ((¬ 1 = x3 → K ((x4 - 1) - (s19 80 29)) s19) ∧ (1 = x3 → TT m_X10_still 45 [vR 80, vI x1, vI x2, vI x3, vI (x4 + 1)] [] s19 (PI K)))) (fun s20 => R32 x3 ∧ ((¬ 0 = x3 → K ((x4 - 1) - (s20 80 29)) s20) ∧ (0 = x3 → TT m_X10_still 45 [vR 80, vI x1, vI x2, vI x3, vI (x4 + 1)] [] s20 (PI K)))))))) : TT m_X10_still 45 [vR 80, vI x1, vI x2, vI x3, vI x4] [] σ (PI K) := by
  refine TT_iload dX10_still_45 rfl ?_
  refine TT_sipush dX10_still_47 (by decide) ?_
  obtain ⟨o16, h⟩ := h
  refine TT_icmp_ge (tgt := 71) dX10_still_50 rfl o16 (by decide) (fun c17 => ?_) (fun c17 => ?_)
  · replace h := h.1 c17
    refine TT_iload dX10_still_71 rfl ?_
    refine TT_iconst dX10_still_73 ?_
    refine TT_isub dX10_still_74 ?_
    refine TT_aload_n dX10_still_75 rfl ?_
    refine TT_getI dX10_still_76 fd_X10_269 (by decide) (Or.inl rfl) (by decide) rfl ?_
    refine TT_isub dX10_still_79 ?_
    exact TT_iret dX10_still_80 rfl rfl h
  · replace h := h.2 c17
    refine TT_aload_n dX10_still_53 rfl ?_
    refine TT_iload_n dX10_still_54 rfl ?_
    refine TT_iload_n dX10_still_55 rfl ?_
    refine TT_iload dX10_still_56 rfl ?_
    refine TT_callVZ (M' := m_X10_isInStand) (as := [vI x1, vI x2, vI x4]) (rest := []) dX10_still_58 mo_X10_isInStand ml_X10_278 im_X10_isInStand se_X10_isInStand (Nat.le_of_ble_eq_true rfl) (Nat.le_of_ble_eq_true rfl) ⟨rfl, rfl, rfl⟩ rfl rfl (Nat.le_of_ble_eq_true rfl) (by decide) rfl rfl (by decide) h (fun s19 h => ?_) (fun s20 h => ?_)
    · refine TT_iload_n dX10_still_61 rfl ?_
      obtain ⟨o21, h⟩ := h
      refine TT_icmp_ne (tgt := 71) dX10_still_62 rfl (by decide) o21 (fun c22 => ?_) (fun c22 => ?_)
      · replace h := h.1 c22
        refine TT_iload dX10_still_71 rfl ?_
        refine TT_iconst dX10_still_73 ?_
        refine TT_isub dX10_still_74 ?_
        refine TT_aload_n dX10_still_75 rfl ?_
        refine TT_getI dX10_still_76 fd_X10_269 (by decide) (Or.inl rfl) (by decide) rfl ?_
        refine TT_isub dX10_still_79 ?_
        exact TT_iret dX10_still_80 rfl rfl h
      · replace h := h.2 c22
        refine TT_iinc dX10_still_65 (Nat.le_of_ble_eq_true rfl) rfl rfl rfl ?_
        refine TT_goto (tgt := 45) dX10_still_68 rfl ?_
        exact h
    · refine TT_iload_n dX10_still_61 rfl ?_
      obtain ⟨o23, h⟩ := h
      refine TT_icmp_ne (tgt := 71) dX10_still_62 rfl (by decide) o23 (fun c24 => ?_) (fun c24 => ?_)
      · replace h := h.1 c24
        refine TT_iload dX10_still_71 rfl ?_
        refine TT_iconst dX10_still_73 ?_
        refine TT_isub dX10_still_74 ?_
        refine TT_aload_n dX10_still_75 rfl ?_
        refine TT_getI dX10_still_76 fd_X10_269 (by decide) (Or.inl rfl) (by decide) rfl ?_
        refine TT_isub dX10_still_79 ?_
        exact TT_iret dX10_still_80 rfl rfl h
      · replace h := h.2 c24
        refine TT_iinc dX10_still_65 (Nat.le_of_ble_eq_true rfl) rfl rfl rfl ?_
        refine TT_goto (tgt := 45) dX10_still_68 rfl ?_
        exact h
set_option maxRecDepth 4000 in
theorem w_X10_loadOf_0 (x1 : Int) {σ : Mem} {K : Int → Mem → Prop} (h : TT m_X10_loadOf 4 [vR 80, vI x1, vI 0, vI 0, vU] [] σ (PI K)) : TT m_X10_loadOf 0 [vR 80, vI x1, vU, vU, vU] [] σ (PI K) := by
  refine TT_iconst dX10_loadOf_0 ?_
  refine TT_istore_n dX10_loadOf_1 (Nat.le_of_ble_eq_true rfl) rfl rfl ?_
  refine TT_iconst dX10_loadOf_2 ?_
  refine TT_istore_n dX10_loadOf_3 (Nat.le_of_ble_eq_true rfl) rfl rfl ?_
  exact h
theorem e_X10_loadOf (x1 : Int) {σ : Mem} {K : Int → Mem → Prop} (h : TT m_X10_loadOf 4 [vR 80, vI x1, vI 0, vI 0, vU] [] σ (PI K)) : CC m_X10_loadOf [vR 80, vI x1] σ (PI K) := CC_of (by decide) rfl rfl rfl (Nat.le_of_ble_eq_true rfl) (w_X10_loadOf_0 x1 h)
set_option maxRecDepth 4000 in
theorem w_X10_loadOf_4 (x1 : Int) (x2 : Int) (x3 : Int) {σ : Mem} {K : Int → Mem → Prop} (h : R32 x3 ∧ ((10 ≤ x3 → K x2 σ) ∧ (¬ 10 ≤ x3 → TT m_X10_loadOf 13 [vR 80, vI x1, vI x2, vI x3, vI 0] [] σ (PI K)))) : TT m_X10_loadOf 4 [vR 80, vI x1, vI x2, vI x3, vU] [] σ (PI K) := by
  refine TT_iload_n dX10_loadOf_4 rfl ?_
  refine TT_bipush dX10_loadOf_5 (by decide) ?_
  obtain ⟨o1, h⟩ := h
  refine TT_icmp_ge (tgt := 63) dX10_loadOf_7 rfl o1 (by decide) (fun c2 => ?_) (fun c2 => ?_)
  · replace h := h.1 c2
    refine TT_iload_n dX10_loadOf_63 rfl ?_
    exact TT_iret dX10_loadOf_64 rfl rfl h
  · replace h := h.2 c2
    refine TT_iconst dX10_loadOf_10 ?_
    refine TT_istore dX10_loadOf_11 (Nat.le_of_ble_eq_true rfl) rfl rfl ?_
    exact h
set_option maxRecDepth 4000 in
theorem w_X10_loadOf_13 (x1 : Int) (x2 : Int) (x3 : Int) (x4 : Int) {σ : Mem} {K : Int → Mem → Prop} (h : (0 ≤ x3 ∧ x3 < 10) ∧ R32 x4 ∧ R32 (σ 81 (x3).toNat) ∧ (((σ 81 (x3).toNat) ≤ x4 → TT m_X10_loadOf 4 [vR 80, vI x1, vI x2, vI (x3 + 1), vU] [] σ (PI K)) ∧ (¬ (σ 81 (x3).toNat) ≤ x4 → (0 ≤ ((24 * x3) + x4) ∧ ((24 * x3) + x4) < 240) ∧ R32 (σ 83 ((24 * x3) + x4).toNat) ∧ R32 (Int.tdiv (σ 83 ((24 * x3) + x4).toNat) 10) ∧ R32 x1 ∧ (∀ v13 : Int, v13 = (x2 + (if ¬ (Int.tdiv (σ 83 ((24 * x3) + x4).toNat) 10) = x1 then 0 else 1 : Int)) → TT m_X10_loadOf 13 [vR 80, vI x1, vI v13, vI x3, vI (x4 + 1)] [] σ (PI K))))) : TT m_X10_loadOf 13 [vR 80, vI x1, vI x2, vI x3, vI x4] [] σ (PI K) := by
  refine TT_iload dX10_loadOf_13 rfl ?_
  refine TT_aload_n dX10_loadOf_15 rfl ?_
  refine TT_getR (r := 81) dX10_loadOf_16 fd_X10_7 (by decide) rfl (by decide) rfl rfl ?_
  refine TT_iload_n dX10_loadOf_19 rfl ?_
  obtain ⟨o3, h⟩ := h
  refine TT_iald dX10_loadOf_20 (by decide) rfl (by decide) o3 ?_
  obtain ⟨o4, h⟩ := h
  obtain ⟨o5, h⟩ := h
  refine TT_icmp_ge (tgt := 57) dX10_loadOf_21 rfl o4 o5 (fun c6 => ?_) (fun c6 => ?_)
  · replace h := h.1 c6
    refine TT_iinc dX10_loadOf_57 (Nat.le_of_ble_eq_true rfl) rfl rfl rfl ?_
    refine TT_goto (tgt := 4) dX10_loadOf_60 rfl ?_
    refine TT_kill 4 rfl ?_
    exact h
  · replace h := h.2 c6
    refine TT_iload_n dX10_loadOf_24 rfl ?_
    refine TT_aload_n dX10_loadOf_25 rfl ?_
    refine TT_getR (r := 83) dX10_loadOf_26 fd_X10_16 (by decide) rfl (by decide) rfl rfl ?_
    refine TT_bipush dX10_loadOf_29 (by decide) ?_
    refine TT_iload_n dX10_loadOf_31 rfl ?_
    refine TT_imul dX10_loadOf_32 ?_
    refine TT_iload dX10_loadOf_33 rfl ?_
    refine TT_iadd dX10_loadOf_35 ?_
    obtain ⟨o7, h⟩ := h
    refine TT_iald dX10_loadOf_36 (by decide) rfl (by decide) o7 ?_
    refine TT_bipush dX10_loadOf_37 (by decide) ?_
    obtain ⟨o8, h⟩ := h
    refine TT_idiv dX10_loadOf_39 o8 (by decide) (by decide) ?_
    refine TT_iload_n dX10_loadOf_40 rfl ?_
    obtain ⟨o9, h⟩ := h
    obtain ⟨o10, h⟩ := h
    have j12 : TT m_X10_loadOf 49 [vR 80, vI x1, vI x2, vI x3, vI x4] [vI (if ¬ (Int.tdiv (σ 83 ((24 * x3) + x4).toNat) 10) = x1 then 0 else 1 : Int), vI x2] σ (PI K) := by
      refine TT_iadd dX10_loadOf_49 ?_
      refine TT_nmI (fun v13 e14 => ?_)
      replace h := h v13 e14
      refine TT_istore_n dX10_loadOf_50 (Nat.le_of_ble_eq_true rfl) rfl rfl ?_
      refine TT_iinc dX10_loadOf_51 (Nat.le_of_ble_eq_true rfl) rfl rfl rfl ?_
      refine TT_goto (tgt := 13) dX10_loadOf_54 rfl ?_
      exact h
    refine TT_icmp_ne (tgt := 48) dX10_loadOf_41 rfl o9 o10 (fun c11 => ?_) (fun c11 => ?_)
    · refine TT_iconst dX10_loadOf_48 ?_
      exact TT.cast j12 (by first | rfl | (simp only [if_pos c11] <;> rfl)) (by first | rfl | (simp only [if_pos c11] <;> rfl))
    · refine TT_iconst dX10_loadOf_44 ?_
      refine TT_goto (tgt := 49) dX10_loadOf_45 rfl ?_
      exact TT.cast j12 (by first | rfl | (simp only [if_neg (not_not_intro c11)] <;> rfl)) (by first | rfl | (simp only [if_neg (not_not_intro c11)] <;> rfl))
set_option maxRecDepth 4000 in
theorem w_X10_load_0 (x1 : Int) {σ : Mem} {K : Int → Mem → Prop} (h : R32 x1 ∧ CC m_X10_in [vL x1, vL 0, vL 9] σ (PZ (fun s3 => CC m_X10_loadOf [vR 80, vI x1] s3 (PI (fun y6 s7 => K y6 s7))) (fun s4 => K (-900002) s4))) : TT m_X10_load 0 [vR 80, vI x1] [] σ (PI K) := by
  refine TT_iload_n dX10_load_0 rfl ?_
  obtain ⟨o1, h⟩ := h
  refine TT_i2l dX10_load_1 o1 ?_
  refine TT_lconst dX10_load_2 (x := 0) rfl ?_
  refine TT_ldc2 dX10_load_3 kl_X10_71 (x := 9) rfl ?_
  refine TT_callSZ (M' := m_X10_in) (as := [vL x1, vL 0, vL 9]) (rest := []) dX10_load_6 mo_X10_in ml_X10_73 sm_X10_in (Nat.le_of_ble_eq_true rfl) (Nat.le_of_ble_eq_true rfl) ⟨rfl, rfl, rfl⟩ rfl rfl (Nat.le_of_ble_eq_true rfl) h (fun s3 h => ?_) (fun s4 h => ?_)
  · refine TT_if_eq (tgt := 20) dX10_load_9 rfl (by decide) (fun c5 => absurd c5 (by decide)) (fun c5 => ?_)
    refine TT_aload_n dX10_load_12 rfl ?_
    refine TT_iload_n dX10_load_13 rfl ?_
    refine TT_callVI (M' := m_X10_loadOf) (as := [vI x1]) (rest := []) dX10_load_14 mo_X10_loadOf ml_X10_281 im_X10_loadOf se_X10_loadOf (Nat.le_of_ble_eq_true rfl) (Nat.le_of_ble_eq_true rfl) ⟨rfl, rfl, rfl⟩ rfl rfl (Nat.le_of_ble_eq_true rfl) (by decide) rfl rfl (by decide) h (fun y6 s7 h => ?_)
    refine TT_goto (tgt := 22) dX10_load_17 rfl ?_
    exact TT_iret dX10_load_22 rfl rfl h
  · refine TT_if_eq (tgt := 20) dX10_load_9 rfl (by decide) (fun c8 => ?_) (fun c8 => absurd c8 (by decide))
    refine TT_ldc dX10_load_20 kc_X10_89 (x := (-900002)) rfl ?_
    exact TT_iret dX10_load_22 rfl rfl h
theorem e_X10_load (x1 : Int) {σ : Mem} {K : Int → Mem → Prop} (h : R32 x1 ∧ CC m_X10_in [vL x1, vL 0, vL 9] σ (PZ (fun s3 => CC m_X10_loadOf [vR 80, vI x1] s3 (PI (fun y6 s7 => K y6 s7))) (fun s4 => K (-900002) s4))) : CC m_X10_load [vR 80, vI x1] σ (PI K) := CC_of (by decide) rfl rfl rfl (Nat.le_of_ble_eq_true rfl) (w_X10_load_0 x1 h)
set_option maxRecDepth 4000 in
theorem w_X10_machinesFor_0 (x1 : Int) (x2 : Int) {σ : Mem} {K : Int → Mem → Prop} (h : TT m_X10_machinesFor 8 [vR 80, vI x1, vI x2, vI 0, vI 0, vI x1, vU] [] σ (PI K)) : TT m_X10_machinesFor 0 [vR 80, vI x1, vI x2, vU, vU, vU, vU] [] σ (PI K) := by
  refine TT_iconst dX10_machinesFor_0 ?_
  refine TT_istore_n dX10_machinesFor_1 (Nat.le_of_ble_eq_true rfl) rfl rfl ?_
  refine TT_iconst dX10_machinesFor_2 ?_
  refine TT_istore dX10_machinesFor_3 (Nat.le_of_ble_eq_true rfl) rfl rfl ?_
  refine TT_iload_n dX10_machinesFor_5 rfl ?_
  refine TT_istore dX10_machinesFor_6 (Nat.le_of_ble_eq_true rfl) rfl rfl ?_
  exact h
theorem e_X10_machinesFor (x1 : Int) (x2 : Int) {σ : Mem} {K : Int → Mem → Prop} (h : TT m_X10_machinesFor 8 [vR 80, vI x1, vI x2, vI 0, vI 0, vI x1, vU] [] σ (PI K)) : CC m_X10_machinesFor [vR 80, vI x1, vI x2] σ (PI K) := CC_of (by decide) rfl rfl rfl (Nat.le_of_ble_eq_true rfl) (w_X10_machinesFor_0 x1 x2 h)
set_option maxRecDepth 4000 in
theorem w_X10_machinesFor_8 (x1 : Int) (x2 : Int) (x3 : Int) (x4 : Int) (x5 : Int) {σ : Mem} {K : Int → Mem → Prop} (h : R32 x5 ∧ ((10 ≤ x5 → K x3 σ) ∧ (¬ 10 ≤ x5 → CC m_X10_loadOf [vR 80, vI x5] σ (PI (fun y3 s4 => R32 y3 ∧ R32 x2 ∧ ((y3 ≤ x2 → R32 x3 ∧ (¬ x3 = 0 → R32 x4) ∧ (∀ v14 : Int, v14 = (x3 + (if x3 = 0 then 1 else (if y3 ≤ x4 then 0 else 1 : Int) : Int)) → R32 v14 ∧ (¬ v14 = 1 → R32 x4) ∧ (v14 = 1 → R32 x1 ∧ (¬ x5 = x1 → R32 x4)) ∧ (∀ v29 : Int, v29 = (if ¬ v14 = 1 then (if y3 ≤ x4 then (x4 - y3) else (x2 - y3) : Int) else (if x5 = x1 then (x2 - y3) else (if y3 ≤ x4 then (x4 - y3) else (x2 - y3) : Int) : Int) : Int) → TT m_X10_machinesFor 8 [vR 80, vI x1, vI x2, vI v14, vI v29, vI (x5 + 1), vU] [] s4 (PI K)))) ∧ (¬ y3 ≤ x2 → K 100000000 s4))))))) : TT m_X10_machinesFor 8 [vR 80, vI x1, vI x2, vI x3, vI x4, vI x5, vU] [] σ (PI K) := by
  refine TT_iload dX10_machinesFor_8 rfl ?_
  refine TT_bipush dX10_machinesFor_10 (by decide) ?_
  obtain ⟨o1, h⟩ := h
  refine TT_icmp_ge (tgt := 89) dX10_machinesFor_12 rfl o1 (by decide) (fun c2 => ?_) (fun c2 => ?_)
  · replace h := h.1 c2
    refine TT_iload_n dX10_machinesFor_89 rfl ?_
    exact TT_iret dX10_machinesFor_90 rfl rfl h
  · replace h := h.2 c2
    refine TT_aload_n dX10_machinesFor_15 rfl ?_
    refine TT_iload dX10_machinesFor_16 rfl ?_
    refine TT_callVI (M' := m_X10_loadOf) (as := [vI x5]) (rest := []) dX10_machinesFor_18 mo_X10_loadOf ml_X10_281 im_X10_loadOf se_X10_loadOf (Nat.le_of_ble_eq_true rfl) (Nat.le_of_ble_eq_true rfl) ⟨rfl, rfl, rfl⟩ rfl rfl (Nat.le_of_ble_eq_true rfl) (by decide) rfl rfl (by decide) h (fun y3 s4 h => ?_)
    refine TT_istore dX10_machinesFor_21 (Nat.le_of_ble_eq_true rfl) rfl rfl ?_
    refine TT_iload dX10_machinesFor_23 rfl ?_
    refine TT_iload_n dX10_machinesFor_25 rfl ?_
    obtain ⟨o5, h⟩ := h
    obtain ⟨o6, h⟩ := h
    refine TT_icmp_le (tgt := 32) dX10_machinesFor_26 rfl o5 o6 (fun c7 => ?_) (fun c7 => ?_)
    · replace h := h.1 c7
      refine TT_iload_n dX10_machinesFor_32 rfl ?_
      refine TT_iload_n dX10_machinesFor_33 rfl ?_
      obtain ⟨o8, h⟩ := h
      obtain ⟨o33, h⟩ := h
      have j13 : TT m_X10_machinesFor 49 [vR 80, vI x1, vI x2, vI x3, vI x4, vI x5, vI y3] [vI (if x3 = 0 then 1 else (if y3 ≤ x4 then 0 else 1 : Int) : Int), vI x3] s4 (PI K) := by
        refine TT_iadd dX10_machinesFor_49 ?_
        refine TT_nmI (fun v14 e15 => ?_)
        replace h := h v14 e15
        refine TT_istore_n dX10_machinesFor_50 (Nat.le_of_ble_eq_true rfl) rfl rfl ?_
        refine TT_iload_n dX10_machinesFor_51 rfl ?_
        refine TT_iconst dX10_machinesFor_52 ?_
        obtain ⟨o16, h⟩ := h
        obtain ⟨o31, h⟩ := h
        obtain ⟨o32, h⟩ := h
        have j28 : TT m_X10_machinesFor 81 [vR 80, vI x1, vI x2, vI v14, vI x4, vI x5, vI y3] [vI (if ¬ v14 = 1 then (if y3 ≤ x4 then (x4 - y3) else (x2 - y3) : Int) else (if x5 = x1 then (x2 - y3) else (if y3 ≤ x4 then (x4 - y3) else (x2 - y3) : Int) : Int) : Int)] s4 (PI K) := by
          refine TT_nmI (fun v29 e30 => ?_)
          replace h := h v29 e30
          refine TT_istore dX10_machinesFor_81 (Nat.le_of_ble_eq_true rfl) rfl rfl ?_
          refine TT_iinc dX10_machinesFor_83 (Nat.le_of_ble_eq_true rfl) rfl rfl rfl ?_
          refine TT_goto (tgt := 8) dX10_machinesFor_86 rfl ?_
          refine TT_kill 6 rfl ?_
          exact h
        refine TT_icmp_ne (tgt := 62) dX10_machinesFor_53 rfl o16 (by decide) (fun c17 => ?_) (fun c17 => ?_)
        · have h := o31 c17
          refine TT_iload dX10_machinesFor_62 rfl ?_
          refine TT_iload dX10_machinesFor_64 rfl ?_
          have o18 := h
          have j20 : TT m_X10_machinesFor 81 [vR 80, vI x1, vI x2, vI v14, vI x4, vI x5, vI y3] [vI (if y3 ≤ x4 then (x4 - y3) else (x2 - y3) : Int)] s4 (PI K) := by
            exact TT.cast j28 (by first | rfl | (simp only [if_pos c17] <;> rfl)) (by first | rfl | (simp only [if_pos c17] <;> rfl))
          refine TT_icmp_le (tgt := 76) dX10_machinesFor_66 rfl o5 o18 (fun c19 => ?_) (fun c19 => ?_)
          · refine TT_iload dX10_machinesFor_76 rfl ?_
            refine TT_iload dX10_machinesFor_78 rfl ?_
            refine TT_isub dX10_machinesFor_80 ?_
            exact TT.cast j20 (by first | rfl | (simp only [if_pos c19] <;> rfl)) (by first | rfl | (simp only [if_pos c19] <;> rfl))
          · refine TT_iload_n dX10_machinesFor_69 rfl ?_
            refine TT_iload dX10_machinesFor_70 rfl ?_
            refine TT_isub dX10_machinesFor_72 ?_
            refine TT_goto (tgt := 81) dX10_machinesFor_73 rfl ?_
            exact TT.cast j20 (by first | rfl | (simp only [if_neg c19] <;> rfl)) (by first | rfl | (simp only [if_neg c19] <;> rfl))
        · have h := o32 c17
          refine TT_iload dX10_machinesFor_56 rfl ?_
          refine TT_iload_n dX10_machinesFor_58 rfl ?_
          obtain ⟨o21, h⟩ := h
          have o27 := h
          have j26 : TT m_X10_machinesFor 81 [vR 80, vI x1, vI x2, vI v14, vI x4, vI x5, vI y3] [vI (if x5 = x1 then (x2 - y3) else (if y3 ≤ x4 then (x4 - y3) else (x2 - y3) : Int) : Int)] s4 (PI K) := by
            exact TT.cast j28 (by first | rfl | (simp only [if_neg (not_not_intro c17)] <;> rfl)) (by first | rfl | (simp only [if_neg (not_not_intro c17)] <;> rfl))
          refine TT_icmp_eq (tgt := 69) dX10_machinesFor_59 rfl o1 o21 (fun c22 => ?_) (fun c22 => ?_)
          · refine TT_iload_n dX10_machinesFor_69 rfl ?_
            refine TT_iload dX10_machinesFor_70 rfl ?_
            refine TT_isub dX10_machinesFor_72 ?_
            refine TT_goto (tgt := 81) dX10_machinesFor_73 rfl ?_
            exact TT.cast j26 (by first | rfl | (simp only [if_pos c22] <;> rfl)) (by first | rfl | (simp only [if_pos c22] <;> rfl))
          · have h := o27 c22
            refine TT_iload dX10_machinesFor_62 rfl ?_
            refine TT_iload dX10_machinesFor_64 rfl ?_
            have o23 := h
            have j25 : TT m_X10_machinesFor 81 [vR 80, vI x1, vI x2, vI v14, vI x4, vI x5, vI y3] [vI (if y3 ≤ x4 then (x4 - y3) else (x2 - y3) : Int)] s4 (PI K) := by
              exact TT.cast j26 (by first | rfl | (simp only [if_neg c22] <;> rfl)) (by first | rfl | (simp only [if_neg c22] <;> rfl))
            refine TT_icmp_le (tgt := 76) dX10_machinesFor_66 rfl o5 o23 (fun c24 => ?_) (fun c24 => ?_)
            · refine TT_iload dX10_machinesFor_76 rfl ?_
              refine TT_iload dX10_machinesFor_78 rfl ?_
              refine TT_isub dX10_machinesFor_80 ?_
              exact TT.cast j25 (by first | rfl | (simp only [if_pos c24] <;> rfl)) (by first | rfl | (simp only [if_pos c24] <;> rfl))
            · refine TT_iload_n dX10_machinesFor_69 rfl ?_
              refine TT_iload dX10_machinesFor_70 rfl ?_
              refine TT_isub dX10_machinesFor_72 ?_
              refine TT_goto (tgt := 81) dX10_machinesFor_73 rfl ?_
              exact TT.cast j25 (by first | rfl | (simp only [if_neg c24] <;> rfl)) (by first | rfl | (simp only [if_neg c24] <;> rfl))
      refine TT_if_eq (tgt := 44) dX10_machinesFor_34 rfl o8 (fun c9 => ?_) (fun c9 => ?_)
      · refine TT_iconst dX10_machinesFor_44 ?_
        refine TT_goto (tgt := 49) dX10_machinesFor_45 rfl ?_
        exact TT.cast j13 (by first | rfl | (simp only [if_pos c9] <;> rfl)) (by first | rfl | (simp only [if_pos c9] <;> rfl))
      · have h := o33 c9
        refine TT_iload dX10_machinesFor_37 rfl ?_
        refine TT_iload dX10_machinesFor_39 rfl ?_
        have o10 := h
        have j12 : TT m_X10_machinesFor 49 [vR 80, vI x1, vI x2, vI x3, vI x4, vI x5, vI y3] [vI (if y3 ≤ x4 then 0 else 1 : Int), vI x3] s4 (PI K) := by
          exact TT.cast j13 (by first | rfl | (simp only [if_neg c9] <;> rfl)) (by first | rfl | (simp only [if_neg c9] <;> rfl))
        refine TT_icmp_le (tgt := 48) dX10_machinesFor_41 rfl o5 o10 (fun c11 => ?_) (fun c11 => ?_)
        · refine TT_iconst dX10_machinesFor_48 ?_
          exact TT.cast j12 (by first | rfl | (simp only [if_pos c11] <;> rfl)) (by first | rfl | (simp only [if_pos c11] <;> rfl))
        · refine TT_iconst dX10_machinesFor_44 ?_
          refine TT_goto (tgt := 49) dX10_machinesFor_45 rfl ?_
          exact TT.cast j12 (by first | rfl | (simp only [if_neg c11] <;> rfl)) (by first | rfl | (simp only [if_neg c11] <;> rfl))
    · replace h := h.2 c7
      refine TT_ldc dX10_machinesFor_29 kc_X10_224 (x := 100000000) rfl ?_
      exact TT_iret dX10_machinesFor_31 rfl rfl h
set_option maxRecDepth 4000 in
theorem w_X10_bestLoad_0 (x1 : Int) {σ : Mem} {K : Int → Mem → Prop} (h : TT m_X10_bestLoad 2 [vR 80, vI x1, vI 0] [] σ (PI K)) : TT m_X10_bestLoad 0 [vR 80, vI x1, vU] [] σ (PI K) := by
  refine TT_iconst dX10_bestLoad_0 ?_
  refine TT_istore_n dX10_bestLoad_1 (Nat.le_of_ble_eq_true rfl) rfl rfl ?_
  exact h
theorem e_X10_bestLoad (x1 : Int) {σ : Mem} {K : Int → Mem → Prop} (h : TT m_X10_bestLoad 2 [vR 80, vI x1, vI 0] [] σ (PI K)) : CC m_X10_bestLoad [vR 80, vI x1] σ (PI K) := CC_of (by decide) rfl rfl rfl (Nat.le_of_ble_eq_true rfl) (w_X10_bestLoad_0 x1 h)
set_option maxRecDepth 4000 in
theorem w_X10_bestLoad_2 (x1 : Int) (x2 : Int) {σ : Mem} {K : Int → Mem → Prop} (h : CC m_X10_machinesFor [vR 80, vI 0, vI x2] σ (PI (fun y1 s2 => R32 y1 ∧ R32 x1 ∧ ((y1 ≤ x1 → K x2 s2) ∧ (¬ y1 ≤ x1 → TT m_X10_bestLoad 2 [vR 80, vI x1, vI (x2 + 1)] [] s2 (PI K)))))) : TT m_X10_bestLoad 2 [vR 80, vI x1, vI x2] [] σ (PI K) := by
  refine TT_aload_n dX10_bestLoad_2 rfl ?_
  refine TT_iconst dX10_bestLoad_3 ?_
  refine TT_iload_n dX10_bestLoad_4 rfl ?_
  refine TT_callVI (M' := m_X10_machinesFor) (as := [vI 0, vI x2]) (rest := []) dX10_bestLoad_5 mo_X10_machinesFor ml_X10_284 im_X10_machinesFor se_X10_machinesFor (Nat.le_of_ble_eq_true rfl) (Nat.le_of_ble_eq_true rfl) ⟨rfl, rfl, rfl⟩ rfl rfl (Nat.le_of_ble_eq_true rfl) (by decide) rfl rfl (by decide) h (fun y1 s2 h => ?_)
  refine TT_iload_n dX10_bestLoad_8 rfl ?_
  obtain ⟨o3, h⟩ := h
  obtain ⟨o4, h⟩ := h
  refine TT_icmp_le (tgt := 18) dX10_bestLoad_9 rfl o3 o4 (fun c5 => ?_) (fun c5 => ?_)
  · replace h := h.1 c5
    refine TT_iload_n dX10_bestLoad_18 rfl ?_
    exact TT_iret dX10_bestLoad_19 rfl rfl h
  · replace h := h.2 c5
    refine TT_iinc dX10_bestLoad_12 (Nat.le_of_ble_eq_true rfl) rfl rfl rfl ?_
    refine TT_goto (tgt := 2) dX10_bestLoad_15 rfl ?_
    exact h
set_option maxRecDepth 4000 in
theorem w_X10_share_0 (x1 : Int) {σ : Mem} {K : Int → Mem → Prop} (h : R32 x1 ∧ CC m_X10_in [vL x1, vL 1, vL 5] σ (PZ (fun s3 => CC m_X10_bestLoad [vR 80, vI x1] s3 (PI (fun y6 s7 => K y6 s7))) (fun s4 => K (-900002) s4))) : TT m_X10_share 0 [vR 80, vI x1] [] σ (PI K) := by
  refine TT_iload_n dX10_share_0 rfl ?_
  obtain ⟨o1, h⟩ := h
  refine TT_i2l dX10_share_1 o1 ?_
  refine TT_lconst dX10_share_2 (x := 1) rfl ?_
  refine TT_ldc2 dX10_share_3 kl_X10_287 (x := 5) rfl ?_
  refine TT_callSZ (M' := m_X10_in) (as := [vL x1, vL 1, vL 5]) (rest := []) dX10_share_6 mo_X10_in ml_X10_73 sm_X10_in (Nat.le_of_ble_eq_true rfl) (Nat.le_of_ble_eq_true rfl) ⟨rfl, rfl, rfl⟩ rfl rfl (Nat.le_of_ble_eq_true rfl) h (fun s3 h => ?_) (fun s4 h => ?_)
  · refine TT_if_eq (tgt := 20) dX10_share_9 rfl (by decide) (fun c5 => absurd c5 (by decide)) (fun c5 => ?_)
    refine TT_aload_n dX10_share_12 rfl ?_
    refine TT_iload_n dX10_share_13 rfl ?_
    refine TT_callVI (M' := m_X10_bestLoad) (as := [vI x1]) (rest := []) dX10_share_14 mo_X10_bestLoad ml_X10_289 im_X10_bestLoad se_X10_bestLoad (Nat.le_of_ble_eq_true rfl) (Nat.le_of_ble_eq_true rfl) ⟨rfl, rfl, rfl⟩ rfl rfl (Nat.le_of_ble_eq_true rfl) (by decide) rfl rfl (by decide) h (fun y6 s7 h => ?_)
    refine TT_goto (tgt := 22) dX10_share_17 rfl ?_
    exact TT_iret dX10_share_22 rfl rfl h
  · refine TT_if_eq (tgt := 20) dX10_share_9 rfl (by decide) (fun c8 => ?_) (fun c8 => absurd c8 (by decide))
    refine TT_ldc dX10_share_20 kc_X10_89 (x := (-900002)) rfl ?_
    exact TT_iret dX10_share_22 rfl rfl h
theorem e_X10_share (x1 : Int) {σ : Mem} {K : Int → Mem → Prop} (h : R32 x1 ∧ CC m_X10_in [vL x1, vL 1, vL 5] σ (PZ (fun s3 => CC m_X10_bestLoad [vR 80, vI x1] s3 (PI (fun y6 s7 => K y6 s7))) (fun s4 => K (-900002) s4))) : CC m_X10_share [vR 80, vI x1] σ (PI K) := CC_of (by decide) rfl rfl rfl (Nat.le_of_ble_eq_true rfl) (w_X10_share_0 x1 h)
set_option maxRecDepth 4000 in
theorem w_X10_gets_0 (x1 : Int) (x2 : Int) {σ : Mem} {K : Int → Mem → Prop} (h : R32 x1 ∧ CC m_X10_in [vL x1, vL 1, vL 5] σ (PZ (fun s3 => R32 x2 ∧ R32 (x1 - 1) ∧ CC m_X10_in [vL x2, vL 0, vL (x1 - 1)] s3 (PZ (fun s9 => CC m_X10_bestLoad [vR 80, vI x1] s9 (PI (fun y12 s13 => TT m_X10_gets 43 [vR 80, vI x1, vI x2, vI y12, vI 0, vI 0, vI 0] [] s13 (PI K)))) (fun s10 => K (-900002) s10))) (fun s4 => K (-900002) s4))) : TT m_X10_gets 0 [vR 80, vI x1, vI x2, vU, vU, vU, vU] [] σ (PI K) := by
  refine TT_iload_n dX10_gets_0 rfl ?_
  obtain ⟨o1, h⟩ := h
  refine TT_i2l dX10_gets_1 o1 ?_
  refine TT_lconst dX10_gets_2 (x := 1) rfl ?_
  refine TT_ldc2 dX10_gets_3 kl_X10_287 (x := 5) rfl ?_
  refine TT_callSZ (M' := m_X10_in) (as := [vL x1, vL 1, vL 5]) (rest := []) dX10_gets_6 mo_X10_in ml_X10_73 sm_X10_in (Nat.le_of_ble_eq_true rfl) (Nat.le_of_ble_eq_true rfl) ⟨rfl, rfl, rfl⟩ rfl rfl (Nat.le_of_ble_eq_true rfl) h (fun s3 h => ?_) (fun s4 h => ?_)
  · refine TT_if_eq (tgt := 25) dX10_gets_9 rfl (by decide) (fun c5 => absurd c5 (by decide)) (fun c5 => ?_)
    refine TT_iload_n dX10_gets_12 rfl ?_
    obtain ⟨o6, h⟩ := h
    refine TT_i2l dX10_gets_13 o6 ?_
    refine TT_lconst dX10_gets_14 (x := 0) rfl ?_
    refine TT_iload_n dX10_gets_15 rfl ?_
    refine TT_iconst dX10_gets_16 ?_
    refine TT_isub dX10_gets_17 ?_
    obtain ⟨o7, h⟩ := h
    refine TT_i2l dX10_gets_18 o7 ?_
    refine TT_callSZ (M' := m_X10_in) (as := [vL x2, vL 0, vL (x1 - 1)]) (rest := []) dX10_gets_19 mo_X10_in ml_X10_73 sm_X10_in (Nat.le_of_ble_eq_true rfl) (Nat.le_of_ble_eq_true rfl) ⟨rfl, rfl, rfl⟩ rfl rfl (Nat.le_of_ble_eq_true rfl) h (fun s9 h => ?_) (fun s10 h => ?_)
    · refine TT_if_ne (tgt := 28) dX10_gets_22 rfl (by decide) (fun c11 => ?_) (fun c11 => absurd c11 (by decide))
      refine TT_aload_n dX10_gets_28 rfl ?_
      refine TT_iload_n dX10_gets_29 rfl ?_
      refine TT_callVI (M' := m_X10_bestLoad) (as := [vI x1]) (rest := []) dX10_gets_30 mo_X10_bestLoad ml_X10_289 im_X10_bestLoad se_X10_bestLoad (Nat.le_of_ble_eq_true rfl) (Nat.le_of_ble_eq_true rfl) ⟨rfl, rfl, rfl⟩ rfl rfl (Nat.le_of_ble_eq_true rfl) (by decide) rfl rfl (by decide) h (fun y12 s13 h => ?_)
      refine TT_istore_n dX10_gets_33 (Nat.le_of_ble_eq_true rfl) rfl rfl ?_
      refine TT_iconst dX10_gets_34 ?_
      refine TT_istore dX10_gets_35 (Nat.le_of_ble_eq_true rfl) rfl rfl ?_
      refine TT_iconst dX10_gets_37 ?_
      refine TT_istore dX10_gets_38 (Nat.le_of_ble_eq_true rfl) rfl rfl ?_
      refine TT_iconst dX10_gets_40 ?_
      refine TT_istore dX10_gets_41 (Nat.le_of_ble_eq_true rfl) rfl rfl ?_
      exact h
    · refine TT_if_ne (tgt := 28) dX10_gets_22 rfl (by decide) (fun c14 => absurd c14 (by decide)) (fun c14 => ?_)
      refine TT_ldc dX10_gets_25 kc_X10_89 (x := (-900002)) rfl ?_
      exact TT_iret dX10_gets_27 rfl rfl h
  · refine TT_if_eq (tgt := 25) dX10_gets_9 rfl (by decide) (fun c15 => ?_) (fun c15 => absurd c15 (by decide))
    refine TT_ldc dX10_gets_25 kc_X10_89 (x := (-900002)) rfl ?_
    exact TT_iret dX10_gets_27 rfl rfl h
theorem e_X10_gets (x1 : Int) (x2 : Int) {σ : Mem} {K : Int → Mem → Prop} (h : R32 x1 ∧ CC m_X10_in [vL x1, vL 1, vL 5] σ (PZ (fun s3 => R32 x2 ∧ R32 (x1 - 1) ∧ CC m_X10_in [vL x2, vL 0, vL (x1 - 1)] s3 (PZ (fun s9 => CC m_X10_bestLoad [vR 80, vI x1] s9 (PI (fun y12 s13 => TT m_X10_gets 43 [vR 80, vI x1, vI x2, vI y12, vI 0, vI 0, vI 0] [] s13 (PI K)))) (fun s10 => K (-900002) s10))) (fun s4 => K (-900002) s4))) : CC m_X10_gets [vR 80, vI x1, vI x2] σ (PI K) := CC_of (by decide) rfl rfl rfl (Nat.le_of_ble_eq_true rfl) (w_X10_gets_0 x1 x2 h)
set_option maxRecDepth 4000 in
theorem w_X10_gets_43 (x1 : Int) (x2 : Int) (x3 : Int) (x4 : Int) (x5 : Int) (x6 : Int) {σ : Mem} {K : Int → Mem → Prop} (h : R32 x6 ∧ R32 x2 ∧ ((x2 < x6 → K x5 σ) ∧ (¬ x2 < x6 → TT m_X10_gets 52 [vR 80, vI x1, vI x2, vI x3, vI x4, vI 0, vI x6] [] σ (PI K)))) : TT m_X10_gets 43 [vR 80, vI x1, vI x2, vI x3, vI x4, vI x5, vI x6] [] σ (PI K) := by
  refine TT_iload dX10_gets_43 rfl ?_
  refine TT_iload_n dX10_gets_45 rfl ?_
  obtain ⟨o16, h⟩ := h
  obtain ⟨o17, h⟩ := h
  refine TT_icmp_gt (tgt := 90) dX10_gets_46 rfl o16 o17 (fun c18 => ?_) (fun c18 => ?_)
  · replace h := h.1 c18
    refine TT_iload dX10_gets_90 rfl ?_
    exact TT_iret dX10_gets_92 rfl rfl h
  · replace h := h.2 c18
    refine TT_iconst dX10_gets_49 ?_
    refine TT_istore dX10_gets_50 (Nat.le_of_ble_eq_true rfl) rfl rfl ?_
    exact h
set_option maxRecDepth 4000 in
theorem w_X10_gets_52 (x1 : Int) (x2 : Int) (x3 : Int) (x4 : Int) (x5 : Int) (x6 : Int) {σ : Mem} {K : Int → Mem → Prop} (h : CC m_X10_machinesFor [vR 80, vI (x4 + x5), vI x3] σ (PI (fun y19 s20 => R32 y19 ∧ R32 ((x1 - 1) - x6) ∧ ((y19 ≤ ((x1 - 1) - x6) → TT m_X10_gets 43 [vR 80, vI x1, vI x2, vI x3, vI (x4 + x5), vI x5, vI (x6 + 1)] [] s20 (PI K)) ∧ (¬ y19 ≤ ((x1 - 1) - x6) → TT m_X10_gets 52 [vR 80, vI x1, vI x2, vI x3, vI x4, vI (x5 + 1), vI x6] [] s20 (PI K)))))) : TT m_X10_gets 52 [vR 80, vI x1, vI x2, vI x3, vI x4, vI x5, vI x6] [] σ (PI K) := by
  refine TT_aload_n dX10_gets_52 rfl ?_
  refine TT_iload dX10_gets_53 rfl ?_
  refine TT_iload dX10_gets_55 rfl ?_
  refine TT_iadd dX10_gets_57 ?_
  refine TT_iload_n dX10_gets_58 rfl ?_
  refine TT_callVI (M' := m_X10_machinesFor) (as := [vI (x4 + x5), vI x3]) (rest := []) dX10_gets_59 mo_X10_machinesFor ml_X10_284 im_X10_machinesFor se_X10_machinesFor (Nat.le_of_ble_eq_true rfl) (Nat.le_of_ble_eq_true rfl) ⟨rfl, rfl, rfl⟩ rfl rfl (Nat.le_of_ble_eq_true rfl) (by decide) rfl rfl (by decide) h (fun y19 s20 h => ?_)
  refine TT_iload_n dX10_gets_62 rfl ?_
  refine TT_iconst dX10_gets_63 ?_
  refine TT_isub dX10_gets_64 ?_
  refine TT_iload dX10_gets_65 rfl ?_
  refine TT_isub dX10_gets_67 ?_
  obtain ⟨o21, h⟩ := h
  obtain ⟨o22, h⟩ := h
  refine TT_icmp_le (tgt := 77) dX10_gets_68 rfl o21 o22 (fun c23 => ?_) (fun c23 => ?_)
  · replace h := h.1 c23
    refine TT_iload dX10_gets_77 rfl ?_
    refine TT_iload dX10_gets_79 rfl ?_
    refine TT_iadd dX10_gets_81 ?_
    refine TT_istore dX10_gets_82 (Nat.le_of_ble_eq_true rfl) rfl rfl ?_
    refine TT_iinc dX10_gets_84 (Nat.le_of_ble_eq_true rfl) rfl rfl rfl ?_
    refine TT_goto (tgt := 43) dX10_gets_87 rfl ?_
    exact h
  · replace h := h.2 c23
    refine TT_iinc dX10_gets_71 (Nat.le_of_ble_eq_true rfl) rfl rfl rfl ?_
    refine TT_goto (tgt := 52) dX10_gets_74 rfl ?_
    exact h
set_option maxRecDepth 4000 in
theorem w_X10_isBlur_0 (x0 : Int) (x1 : Int) {σ : Mem} {A B : Mem → Prop} (h : R32 x0 ∧ CC m_X10_in [vL x0, vL 1, vL 20] σ (PZ (fun s3 => R32 x1 ∧ R32 (x0 - 1) ∧ CC m_X10_in [vL x1, vL 0, vL (x0 - 1)] s3 (PZ (fun s9 => A s9) (fun s10 => B s10))) (fun s4 => B s4))) : TT m_X10_isBlur 0 [vI x0, vI x1] [] σ (PZ A B) := by
  refine TT_iload_n dX10_isBlur_0 rfl ?_
  obtain ⟨o1, h⟩ := h
  refine TT_i2l dX10_isBlur_1 o1 ?_
  refine TT_lconst dX10_isBlur_2 (x := 1) rfl ?_
  refine TT_ldc2 dX10_isBlur_3 kl_X10_292 (x := 20) rfl ?_
  refine TT_callSZ (M' := m_X10_in) (as := [vL x0, vL 1, vL 20]) (rest := []) dX10_isBlur_6 mo_X10_in ml_X10_73 sm_X10_in (Nat.le_of_ble_eq_true rfl) (Nat.le_of_ble_eq_true rfl) ⟨rfl, rfl, rfl⟩ rfl rfl (Nat.le_of_ble_eq_true rfl) h (fun s3 h => ?_) (fun s4 h => ?_)
  · refine TT_if_eq (tgt := 29) dX10_isBlur_9 rfl (by decide) (fun c5 => absurd c5 (by decide)) (fun c5 => ?_)
    refine TT_iload_n dX10_isBlur_12 rfl ?_
    obtain ⟨o6, h⟩ := h
    refine TT_i2l dX10_isBlur_13 o6 ?_
    refine TT_lconst dX10_isBlur_14 (x := 0) rfl ?_
    refine TT_iload_n dX10_isBlur_15 rfl ?_
    refine TT_iconst dX10_isBlur_16 ?_
    refine TT_isub dX10_isBlur_17 ?_
    obtain ⟨o7, h⟩ := h
    refine TT_i2l dX10_isBlur_18 o7 ?_
    refine TT_callSZ (M' := m_X10_in) (as := [vL x1, vL 0, vL (x0 - 1)]) (rest := []) dX10_isBlur_19 mo_X10_in ml_X10_73 sm_X10_in (Nat.le_of_ble_eq_true rfl) (Nat.le_of_ble_eq_true rfl) ⟨rfl, rfl, rfl⟩ rfl rfl (Nat.le_of_ble_eq_true rfl) h (fun s9 h => ?_) (fun s10 h => ?_)
    · refine TT_if_eq (tgt := 29) dX10_isBlur_22 rfl (by decide) (fun c11 => absurd c11 (by decide)) (fun c11 => ?_)
      refine TT_iconst dX10_isBlur_25 ?_
      refine TT_goto (tgt := 30) dX10_isBlur_26 rfl ?_
      exact TT_z1 dX10_isBlur_30 rfl rfl h
    · refine TT_if_eq (tgt := 29) dX10_isBlur_22 rfl (by decide) (fun c12 => ?_) (fun c12 => absurd c12 (by decide))
      refine TT_iconst dX10_isBlur_29 ?_
      exact TT_z0 dX10_isBlur_30 rfl rfl h
  · refine TT_if_eq (tgt := 29) dX10_isBlur_9 rfl (by decide) (fun c13 => ?_) (fun c13 => absurd c13 (by decide))
    refine TT_iconst dX10_isBlur_29 ?_
    exact TT_z0 dX10_isBlur_30 rfl rfl h
theorem e_X10_isBlur (x0 : Int) (x1 : Int) {σ : Mem} {A B : Mem → Prop} (h : R32 x0 ∧ CC m_X10_in [vL x0, vL 1, vL 20] σ (PZ (fun s3 => R32 x1 ∧ R32 (x0 - 1) ∧ CC m_X10_in [vL x1, vL 0, vL (x0 - 1)] s3 (PZ (fun s9 => A s9) (fun s10 => B s10))) (fun s4 => B s4))) : CC m_X10_isBlur [vI x0, vI x1] σ (PZ A B) := CC_of (by decide) rfl rfl rfl (Nat.le_of_ble_eq_true rfl) (w_X10_isBlur_0 x0 x1 h)
set_option maxRecDepth 4000 in
theorem w_X10_blur_0 (x1 : Int) (x2 : Int) (x3 : Int) (x4 : Int) (x5 : Int) {σ : Mem} {K : Int → Mem → Prop} (h : CC m_X10_isRow [vR 80, vI x1, vI x2] σ (PZ (fun s2 => CC m_X10_isBlur [vI x3, vI x4] s2 (PZ (fun s6 => R32 x5 ∧ (x5 = 0 → (0 ≤ ((24 * x1) + x2) ∧ ((24 * x1) + x2) < 240)) ∧ (¬ x5 = 0 → (0 ≤ ((24 * x1) + x2) ∧ ((24 * x1) + x2) < 240)) ∧ R32 ((if x5 = 0 then (s6 83 ((24 * x1) + x2).toNat) else (s6 84 ((24 * x1) + x2).toNat) : Int) + x4) ∧ R32 x3 ∧ x3 ≠ 0 ∧ K (Int.tdiv ((if x5 = 0 then (s6 83 ((24 * x1) + x2).toNat) else (s6 84 ((24 * x1) + x2).toNat) : Int) + x4) x3) s6) (fun s7 => K (-900002) s7))) (fun s3 => K (-900001) s3))) : TT m_X10_blur 0 [vR 80, vI x1, vI x2, vI x3, vI x4, vI x5] [] σ (PI K) := by
  refine TT_aload_n dX10_blur_0 rfl ?_
  refine TT_iload_n dX10_blur_1 rfl ?_
  refine TT_iload_n dX10_blur_2 rfl ?_
  refine TT_callVZ (M' := m_X10_isRow) (as := [vI x1, vI x2]) (rest := []) dX10_blur_3 mo_X10_isRow ml_X10_99 im_X10_isRow se_X10_isRow (Nat.le_of_ble_eq_true rfl) (Nat.le_of_ble_eq_true rfl) ⟨rfl, rfl, rfl⟩ rfl rfl (Nat.le_of_ble_eq_true rfl) (by decide) rfl rfl (by decide) h (fun s2 h => ?_) (fun s3 h => ?_)
  · refine TT_if_ne (tgt := 12) dX10_blur_6 rfl (by decide) (fun c4 => ?_) (fun c4 => absurd c4 (by decide))
    refine TT_iload_n dX10_blur_12 rfl ?_
    refine TT_iload dX10_blur_13 rfl ?_
    refine TT_callSZ (M' := m_X10_isBlur) (as := [vI x3, vI x4]) (rest := []) dX10_blur_15 mo_X10_isBlur ml_X10_294 sm_X10_isBlur (Nat.le_of_ble_eq_true rfl) (Nat.le_of_ble_eq_true rfl) ⟨rfl, rfl, rfl⟩ rfl rfl (Nat.le_of_ble_eq_true rfl) h (fun s6 h => ?_) (fun s7 h => ?_)
    · refine TT_if_eq (tgt := 59) dX10_blur_18 rfl (by decide) (fun c8 => absurd c8 (by decide)) (fun c8 => ?_)
      refine TT_iload dX10_blur_21 rfl ?_
      obtain ⟨o9, h⟩ := h
      obtain ⟨o17, h⟩ := h
      obtain ⟨o18, h⟩ := h
      have j13 : TT m_X10_blur 51 [vR 80, vI x1, vI x2, vI x3, vI x4, vI x5] [vI (if x5 = 0 then (s6 83 ((24 * x1) + x2).toNat) else (s6 84 ((24 * x1) + x2).toNat) : Int)] s6 (PI K) := by
        refine TT_iload dX10_blur_51 rfl ?_
        refine TT_iadd dX10_blur_53 ?_
        refine TT_iload_n dX10_blur_54 rfl ?_
        obtain ⟨o14, h⟩ := h
        obtain ⟨o15, h⟩ := h
        obtain ⟨o16, h⟩ := h
        refine TT_idiv dX10_blur_55 o14 o15 o16 ?_
        refine TT_goto (tgt := 61) dX10_blur_56 rfl ?_
        exact TT_iret dX10_blur_61 rfl rfl h
      refine TT_if_eq (tgt := 40) dX10_blur_23 rfl o9 (fun c10 => ?_) (fun c10 => ?_)
      · have h := o17 c10
        refine TT_aload_n dX10_blur_40 rfl ?_
        refine TT_getR (r := 83) dX10_blur_41 fd_X10_16 (by decide) rfl (by decide) rfl rfl ?_
        refine TT_bipush dX10_blur_44 (by decide) ?_
        refine TT_iload_n dX10_blur_46 rfl ?_
        refine TT_imul dX10_blur_47 ?_
        refine TT_iload_n dX10_blur_48 rfl ?_
        refine TT_iadd dX10_blur_49 ?_
        have o11 := h
        refine TT_iald dX10_blur_50 (by decide) rfl (by decide) o11 ?_
        exact TT.cast j13 (by first | rfl | (simp only [if_pos c10] <;> rfl)) (by first | rfl | (simp only [if_pos c10] <;> rfl))
      · have h := o18 c10
        refine TT_aload_n dX10_blur_26 rfl ?_
        refine TT_getR (r := 84) dX10_blur_27 fd_X10_19 (by decide) rfl (by decide) rfl rfl ?_
        refine TT_bipush dX10_blur_30 (by decide) ?_
        refine TT_iload_n dX10_blur_32 rfl ?_
        refine TT_imul dX10_blur_33 ?_
        refine TT_iload_n dX10_blur_34 rfl ?_
        refine TT_iadd dX10_blur_35 ?_
        have o12 := h
        refine TT_iald dX10_blur_36 (by decide) rfl (by decide) o12 ?_
        refine TT_goto (tgt := 51) dX10_blur_37 rfl ?_
        exact TT.cast j13 (by first | rfl | (simp only [if_neg c10] <;> rfl)) (by first | rfl | (simp only [if_neg c10] <;> rfl))
    · refine TT_if_eq (tgt := 59) dX10_blur_18 rfl (by decide) (fun c19 => ?_) (fun c19 => absurd c19 (by decide))
      refine TT_ldc dX10_blur_59 kc_X10_89 (x := (-900002)) rfl ?_
      exact TT_iret dX10_blur_61 rfl rfl h
  · refine TT_if_ne (tgt := 12) dX10_blur_6 rfl (by decide) (fun c20 => absurd c20 (by decide)) (fun c20 => ?_)
    refine TT_ldc dX10_blur_9 kc_X10_83 (x := (-900001)) rfl ?_
    exact TT_iret dX10_blur_11 rfl rfl h
theorem e_X10_blur (x1 : Int) (x2 : Int) (x3 : Int) (x4 : Int) (x5 : Int) {σ : Mem} {K : Int → Mem → Prop} (h : CC m_X10_isRow [vR 80, vI x1, vI x2] σ (PZ (fun s2 => CC m_X10_isBlur [vI x3, vI x4] s2 (PZ (fun s6 => R32 x5 ∧ (x5 = 0 → (0 ≤ ((24 * x1) + x2) ∧ ((24 * x1) + x2) < 240)) ∧ (¬ x5 = 0 → (0 ≤ ((24 * x1) + x2) ∧ ((24 * x1) + x2) < 240)) ∧ R32 ((if x5 = 0 then (s6 83 ((24 * x1) + x2).toNat) else (s6 84 ((24 * x1) + x2).toNat) : Int) + x4) ∧ R32 x3 ∧ x3 ≠ 0 ∧ K (Int.tdiv ((if x5 = 0 then (s6 83 ((24 * x1) + x2).toNat) else (s6 84 ((24 * x1) + x2).toNat) : Int) + x4) x3) s6) (fun s7 => K (-900002) s7))) (fun s3 => K (-900001) s3))) : CC m_X10_blur [vR 80, vI x1, vI x2, vI x3, vI x4, vI x5] σ (PI K) := CC_of (by decide) rfl rfl rfl (Nat.le_of_ble_eq_true rfl) (w_X10_blur_0 x1 x2 x3 x4 x5 h)
set_option maxRecDepth 4000 in
theorem w_X10_agreeing_0 (x0 : Int) (x1 : Int) (x2 : Int) (x3 : Int) (x4 : Int) {σ : Mem} {K : Int → Mem → Prop} (h : TT m_X10_agreeing 6 [vI x0, vI x1, vI x2, vI x3, vI x4, vI 0, vI 0] [] σ (PI K)) : TT m_X10_agreeing 0 [vI x0, vI x1, vI x2, vI x3, vI x4, vU, vU] [] σ (PI K) := by
  refine TT_iconst dX10_agreeing_0 ?_
  refine TT_istore dX10_agreeing_1 (Nat.le_of_ble_eq_true rfl) rfl rfl ?_
  refine TT_iconst dX10_agreeing_3 ?_
  refine TT_istore dX10_agreeing_4 (Nat.le_of_ble_eq_true rfl) rfl rfl ?_
  exact h
theorem e_X10_agreeing (x0 : Int) (x1 : Int) (x2 : Int) (x3 : Int) (x4 : Int) {σ : Mem} {K : Int → Mem → Prop} (h : TT m_X10_agreeing 6 [vI x0, vI x1, vI x2, vI x3, vI x4, vI 0, vI 0] [] σ (PI K)) : CC m_X10_agreeing [vI x0, vI x1, vI x2, vI x3, vI x4] σ (PI K) := CC_of (by decide) rfl rfl rfl (Nat.le_of_ble_eq_true rfl) (w_X10_agreeing_0 x0 x1 x2 x3 x4 h)
set_option maxRecDepth 4000 in
theorem w_X10_agreeing_6 (x0 : Int) (x1 : Int) (x2 : Int) (x3 : Int) (x4 : Int) (x5 : Int) (x6 : Int) {σ : Mem} {K : Int → Mem → Prop} (h : R32 x6 ∧ ((100 ≤ x6 → K x5 σ) ∧ (¬ 100 ≤ x6 → R32 (x6 + x2) ∧ R32 x1 ∧ x1 ≠ 0 ∧ R32 (x0 + x2) ∧ R32 (Int.tdiv (x6 + x2) x1) ∧ R32 (Int.tdiv (x0 + x2) x1) ∧ ((Int.tdiv (x6 + x2) x1) = (Int.tdiv (x0 + x2) x1) → R32 (x6 + x4) ∧ R32 x3 ∧ x3 ≠ 0 ∧ R32 (x0 + x4) ∧ R32 (Int.tdiv (x6 + x4) x3) ∧ R32 (Int.tdiv (x0 + x4) x3)) ∧ (∀ v19 : Int, v19 = (x5 + (if ¬ (Int.tdiv (x6 + x2) x1) = (Int.tdiv (x0 + x2) x1) then 0 else (if ¬ (Int.tdiv (x6 + x4) x3) = (Int.tdiv (x0 + x4) x3) then 0 else 1 : Int) : Int)) → TT m_X10_agreeing 6 [vI x0, vI x1, vI x2, vI x3, vI x4, vI v19, vI (x6 + 1)] [] σ (PI K))))) : TT m_X10_agreeing 6 [vI x0, vI x1, vI x2, vI x3, vI x4, vI x5, vI x6] [] σ (PI K) := by
  refine TT_iload dX10_agreeing_6 rfl ?_
  refine TT_bipush dX10_agreeing_8 (by decide) ?_
  obtain ⟨o1, h⟩ := h
  refine TT_icmp_ge (tgt := 59) dX10_agreeing_10 rfl o1 (by decide) (fun c2 => ?_) (fun c2 => ?_)
  · replace h := h.1 c2
    refine TT_iload dX10_agreeing_59 rfl ?_
    exact TT_iret dX10_agreeing_61 rfl rfl h
  · replace h := h.2 c2
    refine TT_iload dX10_agreeing_13 rfl ?_
    refine TT_iload dX10_agreeing_15 rfl ?_
    refine TT_iload_n dX10_agreeing_17 rfl ?_
    refine TT_iadd dX10_agreeing_18 ?_
    refine TT_iload_n dX10_agreeing_19 rfl ?_
    obtain ⟨o3, h⟩ := h
    obtain ⟨o4, h⟩ := h
    obtain ⟨o5, h⟩ := h
    refine TT_idiv dX10_agreeing_20 o3 o4 o5 ?_
    refine TT_iload_n dX10_agreeing_21 rfl ?_
    refine TT_iload_n dX10_agreeing_22 rfl ?_
    refine TT_iadd dX10_agreeing_23 ?_
    refine TT_iload_n dX10_agreeing_24 rfl ?_
    obtain ⟨o6, h⟩ := h
    refine TT_idiv dX10_agreeing_25 o6 o4 o5 ?_
    obtain ⟨o7, h⟩ := h
    obtain ⟨o8, h⟩ := h
    obtain ⟨o21, h⟩ := h
    have j18 : TT m_X10_agreeing 50 [vI x0, vI x1, vI x2, vI x3, vI x4, vI x5, vI x6] [vI (if ¬ (Int.tdiv (x6 + x2) x1) = (Int.tdiv (x0 + x2) x1) then 0 else (if ¬ (Int.tdiv (x6 + x4) x3) = (Int.tdiv (x0 + x4) x3) then 0 else 1 : Int) : Int), vI x5] σ (PI K) := by
      refine TT_iadd dX10_agreeing_50 ?_
      refine TT_nmI (fun v19 e20 => ?_)
      replace h := h v19 e20
      refine TT_istore dX10_agreeing_51 (Nat.le_of_ble_eq_true rfl) rfl rfl ?_
      refine TT_iinc dX10_agreeing_53 (Nat.le_of_ble_eq_true rfl) rfl rfl rfl ?_
      refine TT_goto (tgt := 6) dX10_agreeing_56 rfl ?_
      exact h
    refine TT_icmp_ne (tgt := 49) dX10_agreeing_26 rfl o7 o8 (fun c9 => ?_) (fun c9 => ?_)
    · refine TT_iconst dX10_agreeing_49 ?_
      exact TT.cast j18 (by first | rfl | (simp only [if_pos c9] <;> rfl)) (by first | rfl | (simp only [if_pos c9] <;> rfl))
    · have h := o21 c9
      refine TT_iload dX10_agreeing_29 rfl ?_
      refine TT_iload dX10_agreeing_31 rfl ?_
      refine TT_iadd dX10_agreeing_33 ?_
      refine TT_iload_n dX10_agreeing_34 rfl ?_
      obtain ⟨o10, h⟩ := h
      obtain ⟨o11, h⟩ := h
      obtain ⟨o12, h⟩ := h
      refine TT_idiv dX10_agreeing_35 o10 o11 o12 ?_
      refine TT_iload_n dX10_agreeing_36 rfl ?_
      refine TT_iload dX10_agreeing_37 rfl ?_
      refine TT_iadd dX10_agreeing_39 ?_
      refine TT_iload_n dX10_agreeing_40 rfl ?_
      obtain ⟨o13, h⟩ := h
      refine TT_idiv dX10_agreeing_41 o13 o11 o12 ?_
      obtain ⟨o14, h⟩ := h
      have o15 := h
      have j17 : TT m_X10_agreeing 50 [vI x0, vI x1, vI x2, vI x3, vI x4, vI x5, vI x6] [vI (if ¬ (Int.tdiv (x6 + x4) x3) = (Int.tdiv (x0 + x4) x3) then 0 else 1 : Int), vI x5] σ (PI K) := by
        exact TT.cast j18 (by first | rfl | (simp only [if_neg (not_not_intro c9)] <;> rfl)) (by first | rfl | (simp only [if_neg (not_not_intro c9)] <;> rfl))
      refine TT_icmp_ne (tgt := 49) dX10_agreeing_42 rfl o14 o15 (fun c16 => ?_) (fun c16 => ?_)
      · refine TT_iconst dX10_agreeing_49 ?_
        exact TT.cast j17 (by first | rfl | (simp only [if_pos c16] <;> rfl)) (by first | rfl | (simp only [if_pos c16] <;> rfl))
      · refine TT_iconst dX10_agreeing_45 ?_
        refine TT_goto (tgt := 50) dX10_agreeing_46 rfl ?_
        exact TT.cast j17 (by first | rfl | (simp only [if_neg (not_not_intro c16)] <;> rfl)) (by first | rfl | (simp only [if_neg (not_not_intro c16)] <;> rfl))
set_option maxRecDepth 4000 in
theorem w_X10_together_0 (x1 : Int) (x2 : Int) (x3 : Int) (x4 : Int) (x5 : Int) (x6 : Int) {σ : Mem} {K : Int → Mem → Prop} (h : CC m_X10_isRow [vR 80, vI x1, vI x2] σ (PZ (fun s2 => CC m_X10_isBlur [vI x3, vI x4] s2 (PZ (fun s6 => CC m_X10_isBlur [vI x5, vI x6] s6 (PZ (fun s10 => (0 ≤ ((24 * x1) + x2) ∧ ((24 * x1) + x2) < 240) ∧ CC m_X10_agreeing [vI (s10 83 ((24 * x1) + x2).toNat), vI x3, vI x4, vI x5, vI x6] s10 (PI (fun y14 s15 => CC m_X10_agreeing [vI (s15 84 ((24 * x1) + x2).toNat), vI x3, vI x4, vI x5, vI x6] s15 (PI (fun y16 s17 => K (y14 * y16) s17))))) (fun s11 => K (-900002) s11))) (fun s7 => K (-900002) s7))) (fun s3 => K (-900001) s3))) : TT m_X10_together 0 [vR 80, vI x1, vI x2, vI x3, vI x4, vI x5, vI x6] [] σ (PI K) := by
  refine TT_aload_n dX10_together_0 rfl ?_
  refine TT_iload_n dX10_together_1 rfl ?_
  refine TT_iload_n dX10_together_2 rfl ?_
  refine TT_callVZ (M' := m_X10_isRow) (as := [vI x1, vI x2]) (rest := []) dX10_together_3 mo_X10_isRow ml_X10_99 im_X10_isRow se_X10_isRow (Nat.le_of_ble_eq_true rfl) (Nat.le_of_ble_eq_true rfl) ⟨rfl, rfl, rfl⟩ rfl rfl (Nat.le_of_ble_eq_true rfl) (by decide) rfl rfl (by decide) h (fun s2 h => ?_) (fun s3 h => ?_)
  · refine TT_if_ne (tgt := 12) dX10_together_6 rfl (by decide) (fun c4 => ?_) (fun c4 => absurd c4 (by decide))
    refine TT_iload_n dX10_together_12 rfl ?_
    refine TT_iload dX10_together_13 rfl ?_
    refine TT_callSZ (M' := m_X10_isBlur) (as := [vI x3, vI x4]) (rest := []) dX10_together_15 mo_X10_isBlur ml_X10_294 sm_X10_isBlur (Nat.le_of_ble_eq_true rfl) (Nat.le_of_ble_eq_true rfl) ⟨rfl, rfl, rfl⟩ rfl rfl (Nat.le_of_ble_eq_true rfl) h (fun s6 h => ?_) (fun s7 h => ?_)
    · refine TT_if_eq (tgt := 31) dX10_together_18 rfl (by decide) (fun c8 => absurd c8 (by decide)) (fun c8 => ?_)
      refine TT_iload dX10_together_21 rfl ?_
      refine TT_iload dX10_together_23 rfl ?_
      refine TT_callSZ (M' := m_X10_isBlur) (as := [vI x5, vI x6]) (rest := []) dX10_together_25 mo_X10_isBlur ml_X10_294 sm_X10_isBlur (Nat.le_of_ble_eq_true rfl) (Nat.le_of_ble_eq_true rfl) ⟨rfl, rfl, rfl⟩ rfl rfl (Nat.le_of_ble_eq_true rfl) h (fun s10 h => ?_) (fun s11 h => ?_)
      · refine TT_if_ne (tgt := 34) dX10_together_28 rfl (by decide) (fun c12 => ?_) (fun c12 => absurd c12 (by decide))
        refine TT_aload_n dX10_together_34 rfl ?_
        refine TT_getR (r := 83) dX10_together_35 fd_X10_16 (by decide) rfl (by decide) rfl rfl ?_
        refine TT_bipush dX10_together_38 (by decide) ?_
        refine TT_iload_n dX10_together_40 rfl ?_
        refine TT_imul dX10_together_41 ?_
        refine TT_iload_n dX10_together_42 rfl ?_
        refine TT_iadd dX10_together_43 ?_
        obtain ⟨o13, h⟩ := h
        refine TT_iald dX10_together_44 (by decide) rfl (by decide) o13 ?_
        refine TT_iload_n dX10_together_45 rfl ?_
        refine TT_iload dX10_together_46 rfl ?_
        refine TT_iload dX10_together_48 rfl ?_
        refine TT_iload dX10_together_50 rfl ?_
        refine TT_callSI (M' := m_X10_agreeing) (as := [vI (s10 83 ((24 * x1) + x2).toNat), vI x3, vI x4, vI x5, vI x6]) (rest := []) dX10_together_52 mo_X10_agreeing ml_X10_297 sm_X10_agreeing (Nat.le_of_ble_eq_true rfl) (Nat.le_of_ble_eq_true rfl) ⟨rfl, rfl, rfl⟩ rfl rfl (Nat.le_of_ble_eq_true rfl) h (fun y14 s15 h => ?_)
        refine TT_aload_n dX10_together_55 rfl ?_
        refine TT_getR (r := 84) dX10_together_56 fd_X10_19 (by decide) rfl (by decide) rfl rfl ?_
        refine TT_bipush dX10_together_59 (by decide) ?_
        refine TT_iload_n dX10_together_61 rfl ?_
        refine TT_imul dX10_together_62 ?_
        refine TT_iload_n dX10_together_63 rfl ?_
        refine TT_iadd dX10_together_64 ?_
        refine TT_iald dX10_together_65 (by decide) rfl (by decide) o13 ?_
        refine TT_iload_n dX10_together_66 rfl ?_
        refine TT_iload dX10_together_67 rfl ?_
        refine TT_iload dX10_together_69 rfl ?_
        refine TT_iload dX10_together_71 rfl ?_
        refine TT_callSI (M' := m_X10_agreeing) (as := [vI (s15 84 ((24 * x1) + x2).toNat), vI x3, vI x4, vI x5, vI x6]) (rest := [vI y14]) dX10_together_73 mo_X10_agreeing ml_X10_297 sm_X10_agreeing (Nat.le_of_ble_eq_true rfl) (Nat.le_of_ble_eq_true rfl) ⟨rfl, rfl, rfl⟩ rfl rfl (Nat.le_of_ble_eq_true rfl) h (fun y16 s17 h => ?_)
        refine TT_imul dX10_together_76 ?_
        exact TT_iret dX10_together_77 rfl rfl h
      · refine TT_if_ne (tgt := 34) dX10_together_28 rfl (by decide) (fun c18 => absurd c18 (by decide)) (fun c18 => ?_)
        refine TT_ldc dX10_together_31 kc_X10_89 (x := (-900002)) rfl ?_
        exact TT_iret dX10_together_33 rfl rfl h
    · refine TT_if_eq (tgt := 31) dX10_together_18 rfl (by decide) (fun c19 => ?_) (fun c19 => absurd c19 (by decide))
      refine TT_ldc dX10_together_31 kc_X10_89 (x := (-900002)) rfl ?_
      exact TT_iret dX10_together_33 rfl rfl h
  · refine TT_if_ne (tgt := 12) dX10_together_6 rfl (by decide) (fun c20 => absurd c20 (by decide)) (fun c20 => ?_)
    refine TT_ldc dX10_together_9 kc_X10_83 (x := (-900001)) rfl ?_
    exact TT_iret dX10_together_11 rfl rfl h
theorem e_X10_together (x1 : Int) (x2 : Int) (x3 : Int) (x4 : Int) (x5 : Int) (x6 : Int) {σ : Mem} {K : Int → Mem → Prop} (h : CC m_X10_isRow [vR 80, vI x1, vI x2] σ (PZ (fun s2 => CC m_X10_isBlur [vI x3, vI x4] s2 (PZ (fun s6 => CC m_X10_isBlur [vI x5, vI x6] s6 (PZ (fun s10 => (0 ≤ ((24 * x1) + x2) ∧ ((24 * x1) + x2) < 240) ∧ CC m_X10_agreeing [vI (s10 83 ((24 * x1) + x2).toNat), vI x3, vI x4, vI x5, vI x6] s10 (PI (fun y14 s15 => CC m_X10_agreeing [vI (s15 84 ((24 * x1) + x2).toNat), vI x3, vI x4, vI x5, vI x6] s15 (PI (fun y16 s17 => K (y14 * y16) s17))))) (fun s11 => K (-900002) s11))) (fun s7 => K (-900002) s7))) (fun s3 => K (-900001) s3))) : CC m_X10_together [vR 80, vI x1, vI x2, vI x3, vI x4, vI x5, vI x6] σ (PI K) := CC_of (by decide) rfl rfl rfl (Nat.le_of_ble_eq_true rfl) (w_X10_together_0 x1 x2 x3 x4 x5 x6 h)
set_option maxRecDepth 4000 in
theorem w_X10_count_0 (x1 : Int) {σ : Mem} {K : Int → Mem → Prop} (h : TT m_X10_count 10 [vR 80, vI x1, vI 0, vI 0, vI 0, vI 0] [] σ (PI K)) : TT m_X10_count 0 [vR 80, vI x1, vU, vU, vU, vU] [] σ (PI K) := by
  refine TT_iconst dX10_count_0 ?_
  refine TT_istore_n dX10_count_1 (Nat.le_of_ble_eq_true rfl) rfl rfl ?_
  refine TT_iconst dX10_count_2 ?_
  refine TT_istore_n dX10_count_3 (Nat.le_of_ble_eq_true rfl) rfl rfl ?_
  refine TT_iconst dX10_count_4 ?_
  refine TT_istore dX10_count_5 (Nat.le_of_ble_eq_true rfl) rfl rfl ?_
  refine TT_iconst dX10_count_7 ?_
  refine TT_istore dX10_count_8 (Nat.le_of_ble_eq_true rfl) rfl rfl ?_
  exact h
theorem e_X10_count (x1 : Int) {σ : Mem} {K : Int → Mem → Prop} (h : TT m_X10_count 10 [vR 80, vI x1, vI 0, vI 0, vI 0, vI 0] [] σ (PI K)) : CC m_X10_count [vR 80, vI x1] σ (PI K) := CC_of (by decide) rfl rfl rfl (Nat.le_of_ble_eq_true rfl) (w_X10_count_0 x1 h)
set_option maxRecDepth 4000 in
theorem w_X10_count_10 (x1 : Int) (x2 : Int) (x3 : Int) (x4 : Int) (x5 : Int) {σ : Mem} {K : Int → Mem → Prop} (h : R32 x5 ∧ ((10 ≤ x5 → R32 x1 ∧ (x1 = 0 → K x2 σ) ∧ (x1 = 1 → K x3 σ) ∧ (x1 = 2 → K x4 σ) ∧ (x1 = 3 → K (σ 80 30) σ) ∧ (x1 = 4 → K (σ 80 29) σ) ∧ (x1 < 0 ∨ 4 < x1 → K (-900002) σ)) ∧ (¬ 10 ≤ x5 → (0 ≤ x5 ∧ x5 < 10) ∧ R32 (σ 81 (x5).toNat) ∧ (∀ v14 : Int, v14 = (x3 + (if (σ 81 (x5).toNat) ≤ 0 then 0 else 1 : Int)) → CC m_X10_find [vR 80, vI x5, vI (σ 80 29)] σ (PZ (fun s17 => TT m_X10_count 10 [vR 80, vI x1, vI (x2 + (σ 81 (x5).toNat)), vI v14, vI (x4 + 1), vI (x5 + 1)] [] s17 (PI K)) (fun s18 => TT m_X10_count 10 [vR 80, vI x1, vI (x2 + (σ 81 (x5).toNat)), vI v14, vI (x4 + 0), vI (x5 + 1)] [] s18 (PI K))))))) : TT m_X10_count 10 [vR 80, vI x1, vI x2, vI x3, vI x4, vI x5] [] σ (PI K) := by
  refine TT_iload dX10_count_10 rfl ?_
  refine TT_bipush dX10_count_12 (by decide) ?_
  obtain ⟨o1, h⟩ := h
  refine TT_icmp_ge (tgt := 74) dX10_count_14 rfl o1 (by decide) (fun c2 => ?_) (fun c2 => ?_)
  · replace h := h.1 c2
    refine TT_iload_n dX10_count_74 rfl ?_
    obtain ⟨o3, h⟩ := h
    by_cases c4 : x1 = 0
    · replace h := h.1 c4
      refine TT_tableIn (x := x1) (tgt := 108) (off := 33) dX10_count_75 o3 (by rw [c4]; decide) (by rw [c4]; decide) (by rw [c4]; rfl) rfl ?_
      refine TT_iload_n dX10_count_108 rfl ?_
      exact TT_iret dX10_count_109 rfl rfl h
    by_cases c5 : x1 = 1
    · replace h := h.2.1 c5
      refine TT_tableIn (x := x1) (tgt := 110) (off := 35) dX10_count_75 o3 (by rw [c5]; decide) (by rw [c5]; decide) (by rw [c5]; rfl) rfl ?_
      refine TT_iload_n dX10_count_110 rfl ?_
      exact TT_iret dX10_count_111 rfl rfl h
    by_cases c6 : x1 = 2
    · replace h := h.2.2.1 c6
      refine TT_tableIn (x := x1) (tgt := 112) (off := 37) dX10_count_75 o3 (by rw [c6]; decide) (by rw [c6]; decide) (by rw [c6]; rfl) rfl ?_
      refine TT_iload dX10_count_112 rfl ?_
      exact TT_iret dX10_count_114 rfl rfl h
    by_cases c7 : x1 = 3
    · replace h := h.2.2.2.1 c7
      refine TT_tableIn (x := x1) (tgt := 115) (off := 40) dX10_count_75 o3 (by rw [c7]; decide) (by rw [c7]; decide) (by rw [c7]; rfl) rfl ?_
      refine TT_aload_n dX10_count_115 rfl ?_
      refine TT_getI dX10_count_116 fd_X10_272 (by decide) (Or.inl rfl) (by decide) rfl ?_
      exact TT_iret dX10_count_119 rfl rfl h
    by_cases c8 : x1 = 4
    · replace h := h.2.2.2.2.1 c8
      refine TT_tableIn (x := x1) (tgt := 120) (off := 45) dX10_count_75 o3 (by rw [c8]; decide) (by rw [c8]; decide) (by rw [c8]; rfl) rfl ?_
      refine TT_aload_n dX10_count_120 rfl ?_
      refine TT_getI dX10_count_121 fd_X10_269 (by decide) (Or.inl rfl) (by decide) rfl ?_
      exact TT_iret dX10_count_124 rfl rfl h
    have c9 : x1 < 0 ∨ 4 < x1 := by omega
    replace h := h.2.2.2.2.2 c9
    refine TT_tableOut (x := x1) (tgt := 125) dX10_count_75 o3 c9 rfl ?_
    refine TT_ldc dX10_count_125 kc_X10_89 (x := (-900002)) rfl ?_
    exact TT_iret dX10_count_127 rfl rfl h
  · replace h := h.2 c2
    refine TT_iload_n dX10_count_17 rfl ?_
    refine TT_aload_n dX10_count_18 rfl ?_
    refine TT_getR (r := 81) dX10_count_19 fd_X10_7 (by decide) rfl (by decide) rfl rfl ?_
    refine TT_iload dX10_count_22 rfl ?_
    obtain ⟨o10, h⟩ := h
    refine TT_iald dX10_count_24 (by decide) rfl (by decide) o10 ?_
    refine TT_iadd dX10_count_25 ?_
    refine TT_istore_n dX10_count_26 (Nat.le_of_ble_eq_true rfl) rfl rfl ?_
    refine TT_iload_n dX10_count_27 rfl ?_
    refine TT_aload_n dX10_count_28 rfl ?_
    refine TT_getR (r := 81) dX10_count_29 fd_X10_7 (by decide) rfl (by decide) rfl rfl ?_
    refine TT_iload dX10_count_32 rfl ?_
    refine TT_iald dX10_count_34 (by decide) rfl (by decide) o10 ?_
    obtain ⟨o11, h⟩ := h
    have j13 : TT m_X10_count 43 [vR 80, vI x1, vI (x2 + (σ 81 (x5).toNat)), vI x3, vI x4, vI x5] [vI (if (σ 81 (x5).toNat) ≤ 0 then 0 else 1 : Int), vI x3] σ (PI K) := by
      refine TT_iadd dX10_count_43 ?_
      refine TT_nmI (fun v14 e15 => ?_)
      replace h := h v14 e15
      refine TT_istore_n dX10_count_44 (Nat.le_of_ble_eq_true rfl) rfl rfl ?_
      refine TT_iload dX10_count_45 rfl ?_
      refine TT_aload_n dX10_count_47 rfl ?_
      refine TT_iload dX10_count_48 rfl ?_
      refine TT_aload_n dX10_count_50 rfl ?_
      refine TT_getI dX10_count_51 fd_X10_269 (by decide) (Or.inl rfl) (by decide) rfl ?_
      refine TT_callVZ (M' := m_X10_find) (as := [vI x5, vI (σ 80 29)]) (rest := [vI x4]) dX10_count_54 mo_X10_find ml_X10_130 im_X10_find se_X10_find (Nat.le_of_ble_eq_true rfl) (Nat.le_of_ble_eq_true rfl) ⟨rfl, rfl, rfl⟩ rfl rfl (Nat.le_of_ble_eq_true rfl) (by decide) rfl rfl (by decide) h (fun s17 h => ?_) (fun s18 h => ?_)
      · refine TT_if_eq (tgt := 64) dX10_count_57 rfl (by decide) (fun c19 => absurd c19 (by decide)) (fun c19 => ?_)
        refine TT_iconst dX10_count_60 ?_
        refine TT_goto (tgt := 65) dX10_count_61 rfl ?_
        refine TT_iadd dX10_count_65 ?_
        refine TT_istore dX10_count_66 (Nat.le_of_ble_eq_true rfl) rfl rfl ?_
        refine TT_iinc dX10_count_68 (Nat.le_of_ble_eq_true rfl) rfl rfl rfl ?_
        refine TT_goto (tgt := 10) dX10_count_71 rfl ?_
        exact h
      · refine TT_if_eq (tgt := 64) dX10_count_57 rfl (by decide) (fun c20 => ?_) (fun c20 => absurd c20 (by decide))
        refine TT_iconst dX10_count_64 ?_
        refine TT_iadd dX10_count_65 ?_
        refine TT_istore dX10_count_66 (Nat.le_of_ble_eq_true rfl) rfl rfl ?_
        refine TT_iinc dX10_count_68 (Nat.le_of_ble_eq_true rfl) rfl rfl rfl ?_
        refine TT_goto (tgt := 10) dX10_count_71 rfl ?_
        exact h
    refine TT_if_le (tgt := 42) dX10_count_35 rfl o11 (fun c12 => ?_) (fun c12 => ?_)
    · refine TT_iconst dX10_count_42 ?_
      exact TT.cast j13 (by first | rfl | (simp only [if_pos c12] <;> rfl)) (by first | rfl | (simp only [if_pos c12] <;> rfl))
    · refine TT_iconst dX10_count_38 ?_
      refine TT_goto (tgt := 43) dX10_count_39 rfl ?_
      exact TT.cast j13 (by first | rfl | (simp only [if_neg c12] <;> rfl)) (by first | rfl | (simp only [if_neg c12] <;> rfl))
