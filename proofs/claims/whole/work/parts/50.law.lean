/-! what holds of the class and the reference between calls -/
def IV0 (σ : Mem) (m : Int) : Prop := SPP σ ∧ NOW σ ∧ (σ 0 12 = σ 80 5 ∧ 0 ≤ σ 0 12 ∧ σ 0 12 ≤ m)
def IV (σ : Mem) (m : Int) : Prop := IV0 σ m ∧ ∃ T, oks T ∧ CA σ T ∧ MA σ T ∧ (σ 0 10 = 1 ∨ (σ 0 10 = 0 ∧ TrC σ T))
section IVS
variable {σ σ' : Mem} {m : Int} {T T' : Nat → TV}
theorem iv_le (h : IV σ m) : IV σ (m + 8) := ⟨⟨h.1.1, h.1.2.1, h.1.2.2.1, h.1.2.2.2.1, by have := h.1.2.2.2.2; omega⟩, h.2⟩
theorem iv_qm (h : IV σ m) (hq : qm σ σ') : IV σ' (m + 8) := by
  obtain ⟨⟨h1, h2, h3⟩, T, hT, hC, hM, hP⟩ := h
  have e0 : σ' 0 = σ 0 := hq.1 0 (by unfold cs; omega) (by omega)
  refine ⟨⟨h1.qm hq, h2.qm hq, ?_⟩, T, hT, fun t ht => ?_, fun t ht => ?_, ?_⟩
  · rw [e0, hq.2.1]; omega
  · have := hC t ht
    rw [trkN] at this ⊢
    exact this.same (hq.1 _ (by unfold cs; omega) (by omega)) (hq.1 _ (by unfold cs; omega) (by omega)) (hq.1 _ (by unfold cs; omega) (by omega)) (hq.1 _ (by unfold cs; omega) (by omega))
  · exact (hM t ht).same (hq.1 _ (by unfold cs; omega) (by omega)) (hq.1 _ (by unfold cs; omega) (by omega)) (hq.1 _ (by unfold cs; omega) (by omega)) (hq.1 _ (by unfold cs; omega) (by omega)) (hq.1 _ (by unfold cs; omega) (by omega))
  · rw [e0]
    rcases hP with z | z
    · exact Or.inl z
    · exact Or.inr ⟨z.1, z.2.same (by rw [hq.1 13 (by unfold cs; omega) (by omega)]) (by rw [hq.1 13 (by unfold cs; omega) (by omega)]) fun b hb => hq.1 b (by unfold cs; omega) (by omega)⟩
theorem iv_row {d : Int} (h : IV σ m) (hT : oks T') (hC : CA σ' T') (hM : MA σ' T') (hq : wq σ σ') (h10 : σ' 0 10 = 1) (hd : d = 0 ∨ d = 1) (h12 : σ' 0 12 = σ 0 12 + d) (h5 : σ' 80 5 = σ 80 5 + d) : IV σ' (m + 8) := by
  obtain ⟨⟨h1, h2, h3⟩, -⟩ := h
  exact ⟨⟨h1.wq hq, h2.wq hq, by rw [h12, h5]; omega⟩, T', hT, hC, hM, Or.inl h10⟩
theorem lgR_same {V W : TV} (h1 : tm W = tm V) (h2 : tx W = tx V) (h3 : ty W = ty V) (s : LGS) : ∀ r, lgR W s r = lgR V s r
  | 0 => rfl
  | r + 1 => by
    have e : lbox W r = lbox V r := by unfold lbox; rw [h1, h2, h3]
    simp only [lgR]
    rw [lgR_same h1 h2 h3 s r, e, h1]
theorem lgT_same (h : same3 T T') : ∀ t, lgT T' t = lgT T t
  | 0 => rfl
  | t + 1 => by
    obtain ⟨a, b, c, d⟩ := h t
    simp only [lgT]
    rw [lgT_same h t, lgR_same b c d, a]
theorem iv_kind (h : IV0 σ m) (hP : σ 0 10 = 1 ∨ (σ 0 10 = 0 ∧ TrC σ T)) (hT : oks T') (hC : CA σ' T') (hM : MA σ' T') (hq : kq σ σ') (hs : same3 T T') : IV σ' (m + 8) := by
  obtain ⟨h1, h2, h3⟩ := h
  have e0 : σ' 0 = σ 0 := hq 0 (by omega) (by decide)
  refine ⟨⟨h1.kq hq, h2.kq hq, ?_⟩, T', hT, hC, hM, ?_⟩
  · rw [e0, hq 80 (by omega) (by decide)]; omega
  · rw [e0]
    rcases hP with z | z
    · exact Or.inl z
    · refine Or.inr ⟨z.1, ?_⟩
      have e : lgT T' 10 = lgT T 10 := lgT_same hs 10
      have := z.2.same (σ' := σ') (by rw [hq 13 (by omega) (by decide)]) (by rw [hq 13 (by omega) (by decide)]) fun b hb => hq b (by omega) (by omega)
      unfold TrC FN FL at this ⊢
      rw [e]
      exact this
theorem iv_pq (h : IV0 σ m) (hT : oks T) (hC : CA σ T) (hM : MA σ T) (hq : pq σ σ') (h10 : σ' 0 10 = 0) (hTr : TrC σ' T) : IV σ' (m + 8) := by
  obtain ⟨h1, h2, h3⟩ := h
  obtain ⟨q1, q2, q3, q4, q5⟩ := hq
  refine ⟨⟨h1.sam (q2 11 (by decide)) q5 fun b hb => q1 b (by omega), ?_, ?_⟩, T, hT, fun t ht => ?_, fun t ht => ?_, Or.inr ⟨h10, hTr⟩⟩
  · unfold NOW; rw [q2 13 (by decide), q4]; exact h2
  · rw [q2 12 (by decide), q3]; omega
  · have := hC t ht
    rw [trkN] at this ⊢
    exact this.same (q1 _ (by omega)) (q1 _ (by omega)) (q1 _ (by omega)) (q1 _ (by omega))
  · exact (hM t ht).same (q1 _ (by omega)) (q1 _ (by omega)) (q1 _ (by omega)) (q1 _ (by omega)) (q1 _ (by omega))
theorem iv_pass {w : Int} (h : IV σ m) (hw : 0 ≤ w ∧ w < 200) (e : σ' = up (up σ 0 13 w) 80 29 w) : IV σ' (m + 8) := by
  obtain ⟨⟨h1, h2, h3⟩, T, hT, hC, hM, hP⟩ := h
  have o : ∀ b, b ≠ 0 → b ≠ 80 → σ' b = σ b := fun b b1 b2 => by rw [e, up_cell b2, up_cell b1]
  have o0 : ∀ i, i ≠ 13 → σ' 0 i = σ 0 i := fun i hi => by rw [e, up_o1 (by decide), up_o2 hi]
  have o8 : ∀ i, i ≠ 29 → σ' 80 i = σ 80 i := fun i hi => by rw [e, up_o2 hi, up_o1 (by decide)]
  refine ⟨⟨h1.sam (o0 11 (by decide)) (o8 30 (by decide)) fun b hb => o b (by omega) (by omega), ⟨?_, ?_⟩, ?_⟩, T, hT, fun t ht => ?_, fun t ht => ?_, ?_⟩
  · rw [e, up_o1 (by decide), up_at]; exact hw
  · rw [e, up_at, up_o1 (by decide), up_at]
  · rw [o0 12 (by decide), o8 5 (by decide)]; omega
  · have := hC t ht
    rw [trkN] at this ⊢
    exact this.same (o _ (by omega) (by omega)) (o _ (by omega) (by omega)) (o _ (by omega) (by omega)) (o _ (by omega) (by omega))
  · exact (hM t ht).same (o _ (by omega) (by omega)) (o _ (by omega) (by omega)) (o _ (by omega) (by omega)) (o _ (by omega) (by omega)) (o _ (by omega) (by omega))
  · rw [o0 10 (by decide)]
    rcases hP with z | z
    · exact Or.inl z
    · exact Or.inr ⟨z.1, z.2.same (by rw [o 13 (by decide) (by decide)]) (by rw [o 13 (by decide) (by decide)]) fun b hb => o b (by omega) (by omega)⟩
theorem iv_stand (h : IV σ m) (hS : SPP σ') (hq : sq9 σ σ') : IV σ' (m + 8) := by
  obtain ⟨⟨h1, h2, h3⟩, T, hT, hC, hM, hP⟩ := h
  obtain ⟨q1, q2, q3⟩ := hq
  refine ⟨⟨hS, ?_, ?_⟩, T, hT, fun t ht => ?_, fun t ht => ?_, ?_⟩
  · unfold NOW; rw [q2 13 (by decide), q3 29 (by decide)]; exact h2
  · rw [q2 12 (by decide), q3 5 (by decide)]; omega
  · have := hC t ht
    rw [trkN] at this ⊢
    exact this.same (q1 _ (by omega) (by omega) (by omega) (by omega)) (q1 _ (by omega) (by omega) (by omega) (by omega)) (q1 _ (by omega) (by omega) (by omega) (by omega)) (q1 _ (by omega) (by omega) (by omega) (by omega))
  · exact (hM t ht).same (q1 _ (by omega) (by omega) (by omega) (by omega)) (q1 _ (by omega) (by omega) (by omega) (by omega)) (q1 _ (by omega) (by omega) (by omega) (by omega)) (q1 _ (by omega) (by omega) (by omega) (by omega)) (q1 _ (by omega) (by omega) (by omega) (by omega))
  · rw [q2 10 (by decide)]
    rcases hP with z | z
    · exact Or.inl z
    · exact Or.inr ⟨z.1, z.2.same (by rw [q1 13 (by decide) (by decide) (by decide) (by omega)]) (by rw [q1 13 (by decide) (by decide) (by decide) (by omega)]) fun b hb => q1 b (by omega) (by omega) (by omega) (by omega)⟩
end IVS
theorem b01 (x : Int) : R32 (if x = 0 then 0 else 1 : Int) := by split <;> decide
set_option maxRecDepth 8000 in
theorem law_loop {L : Nat} {xs : Nat → Int} {K : Int → Mem → Prop} (hL : L ≤ 4096) (hx : ∀ j, R32 (xs j)) (hK : ∀ σ, K 1 σ) : ∀ (d : Nat) (x3 : Int) (σ : Mem), 0 ≤ x3 → x3 ≤ 4096 + 8 → (L : Int) < x3 + d → IV σ x3 → TT (mLaw L xs) 18 [vS, vR 0, vR 80, vI x3] [] σ (PI K) := by
  intro d
  induction d with
  | zero =>
    intro x3 σ h0 h1 hd hI
    exact w_L_law_18 (by omega) _ ⟨by omega, by omega, fun _ => hK σ, fun z => absurd (by omega) z⟩
  | succ d ih =>
    intro x3 σ h0 h1 hd hI
    refine w_L_law_18 (by omega) _ ⟨by omega, by omega, fun _ => hK σ, fun z => ?_⟩
    have nx : ∀ σ', IV σ' (x3 + 8) → TT (mLaw L xs) 18 [vS, vR 0, vR 80, vI (x3 + 8)] [] σ' (PI K) := fun σ' h => ih (x3 + 8) σ' (by omega) (by omega) (by omega) h
    have fin : ∀ (v : Int) (σ' : Mem), R32 v → IV σ' (x3 + 8) → (R32 v ∧ R32 v ∧ ((v = v → TT (mLaw L xs) 18 [vS, vR 0, vR 80, vI (x3 + 8)] [] σ' (PI K)) ∧ (¬ v = v → K 0 σ'))) := fun v σ' hv h => ⟨hv, hv, fun _ => nx σ' h, fun w => absurd rfl w⟩
    have fin64 : ∀ (v : Int) (σ' : Mem), R64 v → IV σ' (x3 + 8) → (R64 v ∧ R64 v ∧ ((v = v → TT (mLaw L xs) 18 [vS, vR 0, vR 80, vI (x3 + 8)] [] σ' (PI K)) ∧ (¬ v = v → K 0 σ'))) := fun v σ' hv h => ⟨hv, hv, fun _ => nx σ' h, fun w => absurd rfl w⟩
    have hI0 := hI.1
    obtain ⟨hS, hN, hm1, hm2, hm3⟩ := hI.1
    obtain ⟨T, hT, hC, hM, hP⟩ := hI.2
    have hI1 := hP
    refine ⟨by omega, hx _, by omega, fun _ => ⟨by omega, by omega, by omega, by omega, op_say (hx _) (hx _) (hx _) (hx _) hT hC hM (fun v σ' hv hq => fin v σ' hv (iv_qm hI hq)) (fun v σ' T' d hv a1 a2 a3 a4 a5 a6 a7 a8 => fin v σ' hv (iv_row hI a1 a2 a3 a4 a5 a6 a7 a8))⟩,
      fun _ => ⟨by omega, by omega, op_forget (hx _) (hx _) hT hC hM (fun v σ' hv hq => fin v σ' hv (iv_qm hI hq)) (fun v σ' T' hv a1 a2 a3 a4 a5 a6 a7 => fin v σ' hv (iv_row (d := 0) hI a1 a2 a3 a4 a5 (Or.inl rfl) (by rw [a6, Int.add_zero]) (by rw [a7, Int.add_zero])))⟩,
      fun _ => ⟨by omega, by omega, op_kind (hx _) (hx _) hT hC hM (fun v σ' hv hq => fin v σ' hv (iv_qm hI hq)) (fun v σ' T' hv a1 a2 a3 a4 a5 => fin v σ' hv (iv_kind hI0 hI1 a1 a2 a3 a4 a5))⟩,
      fun _ => ⟨by omega, by omega, by omega, op_row (hx _) (hx _) (hx _) hT hC hM (fun v σ' hv hq => fin v σ' hv (iv_qm hI hq))⟩,
      fun _ => ⟨by omega, by omega, by omega, hx _, by omega, hx _, op_at (hx _) (hx _) (b01 _) (b01 _) hT hC hM (fun v σ' hv hq => fin v σ' hv (iv_qm hI hq))⟩,
      fun _ => ⟨by omega, by omega, op_there (hx _) (hx _) hT hC hM (fun v σ' hv hq => fin v σ' hv (iv_qm hI hq))⟩,
      fun _ => op_mended (by omega) hm1 (fun v σ' hv hq => fin v σ' hv (iv_qm hI hq)),
      fun _ => ⟨by omega, by omega, by omega, by omega, by omega, op_inside (hx _) (hx _) (hx _) (hx _) (hx _) hT hC hM (fun v σ' hv hq => fin v σ' hv (iv_qm hI hq))⟩,
      fun _ => ⟨by omega, by omega, by omega, by omega, by omega, by omega, op_who (hx _) (hx _) (hx _) (hx _) (hx _) (hx _) hT hC hM (fun v σ' hv hq => fin v σ' hv (iv_qm hI hq))⟩,
      fun _ => ⟨by omega, by omega, by omega, by omega, by omega, op_visits (hx _) (hx _) (hx _) (hx _) (hx _) hT hC hM (fun v σ' hv hq => fin v σ' hv (iv_qm hI hq))⟩,
      fun _ => ⟨by omega, by omega, by omega, by omega, by omega, by omega, by omega, hx _, op_visit (hx _) (hx _) (hx _) (hx _) (hx _) (hx _) (b01 _) hT hC hM (fun v σ' hv hq => fin v σ' hv (iv_qm hI hq))⟩,
      fun _ => ⟨by omega, by omega, by omega, by omega, hx _, op_far (hx _) (hx _) (hx _) (b01 _) hT hC hM (fun v σ' hv hq => fin64 v σ' hv (iv_qm hI hq))⟩,
      fun _ => ⟨by omega, by omega, by omega, op_nearest (hx _) (hx _) (hx _) hT hC hM (fun v σ' hv hq => fin v σ' hv (iv_qm hI hq))⟩,
      fun _ => ⟨by omega, by omega, by omega, op_meetings (hx _) (hx _) (hx _) hT hC hM (fun v σ' hv hq => fin v σ' hv (iv_qm hI hq))⟩,
      fun _ => ⟨by omega, by omega, by omega, by omega, hx _, op_longest (hx _) (hx _) (hx _) (b01 _) hT hC hM (fun v σ' hv hq => fin v σ' hv (iv_qm hI hq))⟩,
      fun _ => ⟨by omega, op_pages (hx _) hT hC hM hP (fun v σ' hv a1 a2 a3 => fin v σ' hv (iv_pq hI0 hT hC hM a1 a2 a3))⟩,
      fun _ => op_size hT hC hM hP (fun v σ' hv a1 a2 a3 => fin64 v σ' hv (iv_pq hI0 hT hC hM a1 a2 a3)),
      fun _ => ⟨by omega, by omega, by omega, by omega, by omega, by omega, by omega, hx _, op_opens (hx _) (hx _) (hx _) (hx _) (hx _) (hx _) (b01 _) hT hC hM hP (fun v σ' hv a1 a2 a3 => fin v σ' hv (iv_pq hI0 hT hC hM a1 a2 a3)) (fun v hv => fin v σ hv (iv_le hI))⟩,
      fun _ => ⟨by omega, by omega, op_thin (hx _) (hx _) hT hC hM (fun v σ' hv hq => fin v σ' hv (iv_qm hI hq))⟩,
      fun _ => ⟨by omega, by omega, by omega, op_kept (hx _) (hx _) (hx _) hT hC hM (fun v σ' hv hq => fin v σ' hv (iv_qm hI hq))⟩,
      fun _ => ⟨by omega, by omega, op_thinned (hx _) (hx _) hT hC hM (fun v σ' hv hq => fin v σ' hv (iv_qm hI hq)) (fun v σ' T' hv a1 a2 a3 a4 a5 a6 a7 => fin v σ' hv (iv_row (d := 0) hI a1 a2 a3 a4 a5 (Or.inl rfl) (by rw [a6, Int.add_zero]) (by rw [a7, Int.add_zero])))⟩,
      fun _ => ⟨by omega, op_pass (hx _) hN (fun v σ' hv hq => fin v σ' hv (iv_qm hI hq)) (fun v w σ' hv a1 a2 => fin v σ' hv (iv_pass hI a1 a2))⟩,
      fun _ => ⟨by omega, by omega, by omega, by omega, op_stand (hx _) (hx _) (hx _) (hx _) hS (fun v σ' hv hq => fin v σ' hv (iv_qm hI hq)) (fun v σ' hv a1 a2 => fin v σ' hv (iv_stand hI a1 a2))⟩,
      fun _ => ⟨by omega, by omega, op_changes (hx _) (hx _) hT hC hM hS (fun v σ' hv hq => fin v σ' hv (iv_qm hI hq))⟩,
      fun _ => ⟨by omega, by omega, by omega, op_change (hx _) (hx _) (hx _) hT hC hM hS (fun v σ' hv hq => fin v σ' hv (iv_qm hI hq))⟩,
      fun _ => ⟨by omega, by omega, op_still (hx _) (hx _) hT hC hM hS hN (fun v σ' hv hq => fin v σ' hv (iv_qm hI hq))⟩,
      fun _ => ⟨by omega, op_load (hx _) hT hC hM (fun v σ' hv hq => fin v σ' hv (iv_qm hI hq))⟩,
      fun _ => ⟨by omega, op_share (hx _) hT hC hM (fun v σ' hv hq => fin v σ' hv (iv_qm hI hq))⟩,
      fun _ => ⟨by omega, by omega, op_gets (hx _) (hx _) hT hC hM (fun v σ' hv hq => fin v σ' hv (iv_qm hI hq))⟩,
      fun _ => ⟨by omega, by omega, by omega, by omega, by omega, hx _, op_blur (hx _) (hx _) (hx _) (hx _) (b01 _) hT hC hM (fun v σ' hv hq => fin v σ' hv (iv_qm hI hq))⟩,
      fun _ => ⟨by omega, by omega, by omega, by omega, by omega, by omega, op_together (hx _) (hx _) (hx _) (hx _) (hx _) (hx _) hT hC hM (fun v σ' hv hq => fin v σ' hv (iv_qm hI hq))⟩,
      fun _ => ⟨by omega, op_count (hx _) hT hC hM hS hN (fun v σ' hv hq => fin v σ' hv (iv_qm hI hq))⟩, fun w => absurd w (by omega)⟩
