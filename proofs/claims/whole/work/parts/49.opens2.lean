section OPENO
variable {σ : Mem} {T : Nat → TV} {K : Int → Int → Mem → Prop}
theorem c_ask {K : Mem → Prop} {P : BX} {f t : Int} {w : Bx} (hw9 : w = wbx P f t) (hT : oks T) (hTr : TrC σ T) (hpl : plc σ 3 P) (hw : ∀ j, j < 6 → R32 (w j)) (hK : ∀ σ', σ' 13 13 = ct (opB (bld (FL T) (FN T)) w) (gm (bld (FL T) (FN T))) → σ' 13 14 = tO (FL T) (bld (FL T) (FN T)) w (gm (bld (FL T) (FN T))) → (∀ b, b ≠ 13 → b ≠ 22 → b ≠ 28 → σ' b = σ b) → (∀ i, i ≠ 13 → i ≠ 14 → σ' 13 i = σ 13 i) → K σ') : CC m_X2_ask [vR 13, vR 3, vI f, vI t] σ (PN K) := by
  have n16 := n16
  have n27 := n27
  have hfn := FN_bd hT
  have hfl := FL_ok hT
  have wf := bld_wf hfl hfn (FN T) (Nat.le_refl _)
  have h1 := wf.1.1.1
  have rn := root_n wf
  obtain ⟨t1, t2, t3⟩ := hTr
  generalize bld (FL T) (FN T) = G at *
  refine e_X2_ask _ _ ?_
  rw [hpl.1, hpl.2.1]
  refine c_setAxis (q0 := 0) (ax := 0) (by decide) b27 (by omega) fun s2 p2 q2 f2 => ?_
  rw [f2 3 _ (fun e => absurd e (by decide)), f2 3 _ (fun e => absurd e (by decide)), hpl.2.2.1, hpl.2.2.2]
  refine c_setAxis (q0 := 0) (ax := 1) (by decide) b27 (by omega) fun s4 p4 q4 f4 => ?_
  refine c_setAxis (q0 := 0) (ax := 2) (by decide) b27 (by omega) fun s6 p6 q6 f6 s7 e7 s9 e9 => ?_
  have o6 : ∀ b, b ≠ 28 → s6 b = σ b := fun b hb => funext fun i => by rw [f6 b i (fun e => absurd e hb), f4 b i (fun e => absurd e hb), f2 b i (fun e => absurd e hb)]
  have b6 : bc s6 28 0 w := by
    intro j hj
    rw [hw9]
    have : j = 0 ∨ j = 1 ∨ j = 2 ∨ j = 3 ∨ j = 4 ∨ j = 5 := by omega
    rcases this with e | e | e | e | e | e <;> subst e
    · rw [f6 28 _ (fun _ => by omega), f4 28 _ (fun _ => by omega)]; exact p2
    · rw [f6 28 _ (fun _ => by omega), f4 28 _ (fun _ => by omega)]; exact q2
    · rw [f6 28 _ (fun _ => by omega)]; exact p4
    · rw [f6 28 _ (fun _ => by omega)]; exact q4
    · exact p6
    · exact q6
  have o9 : ∀ b, b ≠ 13 → s9 b = s6 b := fun b hb => by rw [e9, up_cell hb, e7, up_cell hb]
  have i9 : ∀ i, i ≠ 13 → i ≠ 14 → s9 13 i = σ 13 i := fun i a b => by rw [e9, up_o2 b, e7, up_o2 a, o6 13 (by decide)]
  have v11 : s9 13 11 = (FN T : Int) := by rw [i9 11 (by decide) (by decide)]; exact t1
  have hG9 : PgC s9 G := t3.same (i9 12 (by decide) (by decide)) (by rw [o9 17 (by decide), o6 17 (by decide)]) (by rw [o9 18 (by decide), o6 18 (by decide)]) (by rw [o9 19 (by decide), o6 19 (by decide)]) (by rw [o9 20 (by decide), o6 20 (by decide)])
  have hL9 : LgC s9 (FL T) (FN T) := t2.same (by rw [o9 15 (by decide), o6 15 (by decide)])
  have b9 : bc s9 28 0 w := fun j hj => by rw [o9 28 (by decide)]; exact b6 j hj
  have start : ∀ (s : Mem) (v : Int), s = up s9 22 0 v → v = b2i (opB G w 0) → TT m_X2_ask 92 [vR 13, vU, vU, vU, vI 0, vU] [] s (PN K) := by
    intro s v e ev
    have os : ∀ b, b ≠ 22 → s b = s9 b := fun b hb => by rw [e, up_cell hb]
    refine c_ask92 (σ := s9) (w := w) wf hfn hfl hw hG9 hL9 b9 (fun σ' a b c d => hK σ' a b (fun q q1 q2 q3 => by rw [c q q1 q2, o9 q q1, o6 q q3]) (fun i q1 q2 => by rw [d i q1 q2, i9 i q1 q2])) (gm G) 0 s (by omega) ?_ ?_ (fun b _ b2 => os b b2) (fun i _ _ => by rw [os 13 (by decide)]) ⟨by rw [e, up_at, ev], fun q hq => absurd hq (by omega)⟩
    · rw [os 13 (by decide), e9, up_o2 (by decide), e7, up_at]; rfl
    · rw [os 13 (by decide), e9, up_at]; rfl
  rw [v11]
  refine ⟨by omega, fun z s13 e13 => start s13 0 e13 ?_, fun z => ?_⟩
  · unfold opB
    rw [decide_eq_false (show ¬ 0 < gc G 0 by omega)]
    rfl
  · have g0 : 0 < gc G 0 := rn.mpr (by omega)
    have eo : opB G w 0 = tcB (gb G 0) w := by unfold opB; rw [decide_eq_true g0, Bool.true_and]
    refine c_touch (q0 := 0) (q2 := 0) b16 b27 (by omega) (by omega) (bok_R (wf.2.2.1.1 0 (by omega) g0)) hw ((hG9.2 0 (by omega)).2.2 g0) b9 (fun hv s19 e19 => start s19 1 e19 ?_) (fun hv s22 e22 => start s22 0 e22 ?_)
    · rw [eo, hv]; rfl
    · rw [eo, hv]; rfl
theorem op_opens {a b c d f t u : Int} (ha : R32 a) (hb : R32 b) (hc : R32 c) (hd : R32 d) (hf : R32 f) (ht : R32 t) (hu : R32 u) (hT : oks T) (hC : CA σ T) (hM : MA σ T) (hP : σ 0 10 = 1 ∨ (σ 0 10 = 0 ∧ TrC σ T)) (hK : ∀ v σ', R32 v → pq σ σ' → σ' 0 10 = 0 → TrC σ' T → K v v σ') (hK0 : ∀ v, R32 v → K v v σ) :
    CC m_X9_opens [vR 0, vI a, vI b, vI c, vI d, vI f, vI t, vI u] σ (PI fun v s' => CC m_X10_opens [vR 80, vI a, vI b, vI c, vI d, vI f, vI t, vI u] s' (PI fun v2 s2 => K v v2 s2)) := by
  have hfn := FN_bd hT
  have hfl := FL_ok hT
  have wf := bld_wf hfl hfn (FN T) (Nat.le_refl _)
  have hm := WF_bd wf hfn
  have no : ¬ ((spanOK a b ∧ spanOK c d) ∧ (0 ≤ f ∧ f < 200) ∧ (0 ≤ t ∧ t < 200) ∧ f ≤ t) → CC m_X10_opens [vR 80, vI a, vI b, vI c, vI d, vI f, vI t, vI u] σ (PI fun v2 s2 => K (-900002) v2 s2) := by
    intro z
    exact e_X10_opens _ _ _ _ _ _ _ (d_isSpan ha hb (fun q1 => d_isSpan hc hd (fun q2 => d_isMinute hf (fun q3 => ⟨ht, hf, d_in (r64 ht) (r64 hf) (by decide) (fun q4 => absurd ⟨⟨q1, q2⟩, q3, by omega, by omega⟩ z) (fun _ => hK0 _ (by decide))⟩) (fun _ => hK0 _ (by decide))) (fun _ => hK0 _ (by decide))) (fun _ => hK0 _ (by decide)))
  refine e_X9_opens _ _ _ _ _ _ _ (c_isPlace ha hb hc hd (fun q => c_isMinute hf (fun q2 => c_isMinute ht (fun q3 => ⟨ht, hf, fun q4 => ?_, fun z => no fun w => z w.2.2.2⟩) (fun z => no fun w => z w.2.2.1)) (fun z => no fun w => z w.2.1)) (fun z => no fun w => z w.1))
  have br := bx_rng (P := (a, b, c, d)) q
  obtain ⟨w, hw9⟩ : ∃ w : Bx, w = wbx (a, b, c, d) f t := ⟨_, rfl⟩
  have hw : ∀ j, j < 6 → R32 (w j) := by
    intro j hj
    rw [hw9]
    have : j = 0 ∨ j = 1 ∨ j = 2 ∨ j = 3 ∨ j = 4 ∨ j = 5 := by omega
    rcases this with e | e | e | e | e | e <;> subst e
    · exact ha
    · exact hb
    · exact hc
    · exact hd
    · exact hf
    · exact ht
  have cb := ct_bd (opB (bld (FL T) (FN T)) w) (gm (bld (FL T) (FN T)))
  have tb := tO_bd (w := w) wf _ (Nat.le_refl _)
  refine c_refresh hT hC hP fun s17 hTr h10 hf17 hi17 => ?_
  refine c_set (P := (a, b, c, d)) (Or.inl rfl) fun s19 hpl hf19 => ?_
  have hTr19 : TrC s19 T := hTr.same (by rw [hf19 13 (by decide)]) (by rw [hf19 13 (by decide)]) fun b hb => hf19 b (by omega)
  refine c_ask (w := w) hw9 hT hTr19 hpl hw fun s21 e13 e14 hf21 hi21 => ⟨hu, ?_⟩
  rw [e13, e14]
  have al : ∀ b, b ≠ 3 → b ≠ 13 → b ≠ 22 → b ≠ 28 → s21 b = s17 b := fun b b1 b2 b3 b4 => by rw [hf21 b b2 b3 b4, hf19 b b1]
  have hTr21 : TrC s21 T := hTr.same (by rw [hi21 11 (by decide) (by decide), hf19 13 (by decide)]) (by rw [hi21 12 (by decide) (by decide), hf19 13 (by decide)]) fun b hb => al b (by omega) (by omega) (by omega) (by omega)
  have h10s : s21 0 10 = 0 := by rw [al 0 (by decide) (by decide) (by decide) (by decide)]; exact h10
  have pqs : pq σ s21 := ⟨fun b hb => by rw [al b (by omega) (by omega) (by omega) (by omega), hf17 b (by omega) (by omega)], fun i hi => by rw [al 0 (by decide) (by decide) (by decide) (by decide), hi17 i hi], by rw [al 80 (by decide) (by decide) (by decide) (by decide), hf17 80 (by decide) (by omega)], by rw [al 80 (by decide) (by decide) (by decide) (by decide), hf17 80 (by decide) (by omega)], by rw [al 80 (by decide) (by decide) (by decide) (by decide), hf17 80 (by decide) (by omega)]⟩
  have hMs : MA s21 T := fun t ht => (hM t ht).same (pqs.1 _ (by omega)) (pqs.1 _ (by omega)) (pqs.1 _ (by omega)) (pqs.1 _ (by omega)) (pqs.1 _ (by omega))
  refine e_X10_opens _ _ _ _ _ _ _ (d_isSpan ha hb (fun _ => d_isSpan hc hd (fun _ => d_isMinute hf (fun _ => ⟨ht, hf, d_in (r64 ht) (r64 hf) (by decide) (fun _ => ?_) (fun z => absurd (by omega) z)⟩) (fun z => absurd q2 z)) (fun z => absurd q.2 z)) (fun z => absurd q.1 z))
  refine d_layPages hT hMs fun s20 hTm hmt z21 g21 z23 g23 z25 g25 z27 g27 z29 g29 z31 g31 => ?_
  have o31 : ∀ b, b ≠ 97 → z31 b = s20 b := fun b hb => by rw [g31, up_cell hb, g29, up_cell hb, g27, up_cell hb, g25, up_cell hb, g23, up_cell hb, g21, up_cell hb]
  have hW : ∀ j, j < 6 → z31 97 j = w j := by
    intro j hj
    rw [hw9]
    have : j = 0 ∨ j = 1 ∨ j = 2 ∨ j = 3 ∨ j = 4 ∨ j = 5 := by omega
    rcases this with e | e | e | e | e | e <;> subst e
    · rw [g31, up_o2 (by decide), g29, up_o2 (by decide), g27, up_o2 (by decide), g25, up_o2 (by decide), g23, up_o2 (by decide), g21, up_at]; rfl
    · rw [g31, up_o2 (by decide), g29, up_o2 (by decide), g27, up_o2 (by decide), g25, up_o2 (by decide), g23, up_at]; rfl
    · rw [g31, up_o2 (by decide), g29, up_o2 (by decide), g27, up_o2 (by decide), g25, up_at]; rfl
    · rw [g31, up_o2 (by decide), g29, up_o2 (by decide), g27, up_at]; rfl
    · rw [g31, up_o2 (by decide), g29, up_at]; rfl
    · rw [g31, up_at]; rfl
  have hGm : PgM z31 (bld (FL T) (FN T)) := by
    refine ⟨by rw [o31 80 (by decide)]; exact hTm.2.2.1, fun p hp => ?_⟩
    unfold bc
    rw [o31 91 (by decide), o31 93 (by decide), o31 90 (by decide), o31 92 (by decide), o31 94 (by decide), o31 89 (by decide)]
    exact hTm.2.2.2 p hp
  refine d_opens101 (w := w) wf hfn hu hfl hw hGm (hTm.2.1.same (o31 88 (by decide))) hW ?_
  have bb : ∀ b, (b < 80 ∨ (81 ≤ b ∧ b ≤ 87) ∨ 98 ≤ b) → z31 b = s21 b := fun b hb => by rw [o31 b (by omega), hmt.1 b (by omega)]
  have b80 : ∀ i, i ≠ 15 → i ≠ 17 → z31 80 i = s21 80 i := fun i i1 i2 => by rw [o31 80 (by decide), hmt.2 i i1 i2]
  exact hK _ z31 (by split <;> omega) ⟨fun b hb => by rw [bb b (by omega)]; exact pqs.1 b hb, fun i hi => by rw [bb 0 (by omega)]; exact pqs.2.1 i hi, by rw [b80 5 (by decide) (by decide)]; exact pqs.2.2.1, by rw [b80 29 (by decide) (by decide)]; exact pqs.2.2.2.1, by rw [b80 30 (by decide) (by decide)]; exact pqs.2.2.2.2⟩ (by rw [bb 0 (by omega)]; exact h10s) (hTr21.same (by rw [bb 13 (by omega)]) (by rw [bb 13 (by omega)]) fun b hb => bb b (by omega))
end OPENO
