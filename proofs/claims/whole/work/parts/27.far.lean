/-! how far, meetings -/
def far2 (p q : Int × Int × Int) : Int × Int := ((p.1 * q.2.2 - q.1 * p.2.2) * (p.1 * q.2.2 - q.1 * p.2.2) + (p.2.1 * q.2.2 - q.2.1 * p.2.2) * (p.2.1 * q.2.2 - q.2.1 * p.2.2), p.2.2 * q.2.2 * p.2.2 * q.2.2)
def farV (T : Nat → TV) (a b : Nat) (m : Int) : Option (Int × Int) := match pos (T a) m, pos (T b) m with
  | some p, some q => some (far2 p q)
  | _, _ => none
theorem sq_bd {u U : Int} (h : -U ≤ u ∧ u ≤ U) : 0 ≤ u * u ∧ u * u ≤ U * U := ⟨by
  rcases Int.le_total 0 u with z | z
  · exact Int.mul_nonneg z z
  · exact Int.mul_nonneg_of_nonpos_of_nonpos z z, (mul_bd h h).2⟩
theorem far2_bd {X1 Y1 b1 X2 Y2 b2 : Int} (h1 : (1 ≤ b1 ∧ b1 ≤ 16) ∧ (-5000 ≤ X1 ∧ X1 ≤ 5000) ∧ (-5000 ≤ Y1 ∧ Y1 ≤ 5000)) (h2 : (1 ≤ b2 ∧ b2 ≤ 16) ∧ (-5000 ≤ X2 ∧ X2 ≤ 5000) ∧ (-5000 ≤ Y2 ∧ Y2 ≤ 5000)) : (0 ≤ (far2 (X1, Y1, b1) (X2, Y2, b2)).1 ∧ (far2 (X1, Y1, b1) (X2, Y2, b2)).1 ≤ 51200000000) ∧ (1 ≤ (far2 (X1, Y1, b1) (X2, Y2, b2)).2 ∧ (far2 (X1, Y1, b1) (X2, Y2, b2)).2 ≤ 65536) := by
  have a1 := mul_bd (u := X1) (v := b2) (U := 5000) (W := 16) (by omega) (by omega)
  have a2 := mul_bd (u := X2) (v := b1) (U := 5000) (W := 16) (by omega) (by omega)
  have a3 := mul_bd (u := Y1) (v := b2) (U := 5000) (W := 16) (by omega) (by omega)
  have a4 := mul_bd (u := Y2) (v := b1) (U := 5000) (W := 16) (by omega) (by omega)
  have c1 := sq_bd (u := X1 * b2 - X2 * b1) (U := 160000) (by omega)
  have c2 := sq_bd (u := Y1 * b2 - Y2 * b1) (U := 160000) (by omega)
  have d1 := mul_bd (u := b1) (v := b2) (U := 16) (W := 16) (by omega) (by omega)
  have d2 := mul_bd (u := b1 * b2) (v := b1) (U := 256) (W := 16) (by omega) (by omega)
  have d3 := mul_bd (u := b1 * b2 * b1) (v := b2) (U := 4096) (W := 16) (by omega) (by omega)
  have p1 : 1 ≤ b1 * b2 := by have := Int.mul_pos (show 0 < b1 by omega) (show 0 < b2 by omega); omega
  have p2 : 1 ≤ b1 * b2 * b1 := by have := Int.mul_pos (show 0 < b1 * b2 by omega) (show 0 < b1 by omega); omega
  have p3 : 1 ≤ b1 * b2 * b1 * b2 := by have := Int.mul_pos (show 0 < b1 * b2 * b1 by omega) (show 0 < b2 by omega); omega
  simp only [far2]
  omega
theorem farV_bd {T : Nat → TV} {a b : Nat} {m fa fb : Int} (ha : tok (T a)) (hb : tok (T b)) (h : farV T a b m = some (fa, fb)) : (0 ≤ fa ∧ fa ≤ 51200000000) ∧ (1 ≤ fb ∧ fb ≤ 65536) := by
  unfold farV at h
  cases h1 : pos (T a) m with
  | none => rw [h1] at h; cases h
  | some p =>
    cases h2 : pos (T b) m with
    | none => rw [h1, h2] at h; cases h
    | some q =>
      rw [h1, h2] at h
      have h : some (far2 p q) = some (fa, fb) := h
      obtain ⟨X1, Y1, b1⟩ := p
      obtain ⟨X2, Y2, b2⟩ := q
      have := far2_bd (pos_bd ha h1) (pos_bd hb h2)
      rw [Option.some.inj h] at this
      exact this
section FAR
variable {σ : Mem} {T : Nat → TV}
theorem cq45 {σ σ' : Mem} (h : ∀ c, c ≠ 4 → c ≠ 5 → σ' c = σ c) : cq σ σ' := fun b hb => h b (fun e => hb (by subst e; unfold cs; omega)) (fun e => hb (by subst e; unfold cs; omega))
/-- both spots hold: what the class reckons of them is the reference's pair, times one square -/
def farS (σ : Mem) (fa fb : Int) : Prop := ∃ Q : Int, 1 ≤ Q ∧ (0 ≤ fa * Q ∧ fa * Q ≤ 13200000000000) ∧ (1 ≤ fb * Q ∧ fb * Q ≤ 65536) ∧ (∀ K : Int → Mem → Prop, K (fa * Q) σ → CC m_X9_farAbove [vR 4, vR 5] σ (PJ K)) ∧ ∀ K : Int → Mem → Prop, K (fb * Q) σ → CC m_X9_farBelow [vR 4, vR 5] σ (PJ K)
theorem farS_of {X1 Y1 b1 X2 Y2 b2 : Int} (h4 : spotAt σ 4 X1 Y1 b1) (h5 : spotAt σ 5 X2 Y2 b2) (h1 : (1 ≤ b1 ∧ b1 ≤ 16) ∧ (-5000 ≤ X1 ∧ X1 ≤ 5000) ∧ (-5000 ≤ Y1 ∧ Y1 ≤ 5000)) (h2 : (1 ≤ b2 ∧ b2 ≤ 16) ∧ (-5000 ≤ X2 ∧ X2 ≤ 5000) ∧ (-5000 ≤ Y2 ∧ Y2 ≤ 5000)) : farS σ (far2 (X1, Y1, b1) (X2, Y2, b2)).1 (far2 (X1, Y1, b1) (X2, Y2, b2)).2 := by
  obtain ⟨k, hk, k0, k1, k2⟩ := h4
  obtain ⟨l, hl, l0, l1, l2⟩ := h5
  have hkb : 1 ≤ k ∧ k ≤ 16 := by
    have : 1 * k ≤ b1 * k := Int.mul_le_mul_of_nonneg_right (by omega) (by omega)
    omega
  have hlb : 1 ≤ l ∧ l ≤ 16 := by
    have : 1 * l ≤ b2 * l := Int.mul_le_mul_of_nonneg_right (by omega) (by omega)
    omega
  have B1 := mul_bd (u := X1) (v := k) (U := 5000) (W := 16) (by omega) (by omega)
  have B2 := mul_bd (u := Y1) (v := k) (U := 5000) (W := 16) (by omega) (by omega)
  have B3 := mul_bd (u := X2) (v := l) (U := 5000) (W := 16) (by omega) (by omega)
  have B4 := mul_bd (u := Y2) (v := l) (U := 5000) (W := 16) (by omega) (by omega)
  have C1 := mul_bd (u := X1 * k) (v := b2 * l) (U := 80000) (W := 16) (by omega) (by omega)
  have C2 := mul_bd (u := X2 * l) (v := b1 * k) (U := 80000) (W := 16) (by omega) (by omega)
  have C3 := mul_bd (u := Y1 * k) (v := b2 * l) (U := 80000) (W := 16) (by omega) (by omega)
  have C4 := mul_bd (u := Y2 * l) (v := b1 * k) (U := 80000) (W := 16) (by omega) (by omega)
  have D1 := sq_bd (u := X1 * k * (b2 * l) - X2 * l * (b1 * k)) (U := 2560000) (by omega)
  have D2 := sq_bd (u := Y1 * k * (b2 * l) - Y2 * l * (b1 * k)) (U := 2560000) (by omega)
  have G1 := mul_bd (u := b1 * k) (v := b2 * l) (U := 16) (W := 16) (by omega) (by omega)
  have G2 := sq_bd (u := b1 * k * (b2 * l)) (U := 256) (by omega)
  have P1 : 1 ≤ b1 * k * (b2 * l) := by have := Int.mul_pos (show 0 < b1 * k by omega) (show 0 < b2 * l by omega); omega
  have P2 : 1 ≤ b1 * k * (b2 * l) * (b1 * k * (b2 * l)) := by have := Int.mul_pos (show 0 < b1 * k * (b2 * l) by omega) (show 0 < b1 * k * (b2 * l) by omega); omega
  have PQ : 1 ≤ k * l := by have := Int.mul_pos (show 0 < k by omega) (show 0 < l by omega); omega
  have PQ2 : 1 ≤ k * l * (k * l) := by have := Int.mul_pos (show 0 < k * l by omega) (show 0 < k * l by omega); omega
  have ea : (far2 (X1, Y1, b1) (X2, Y2, b2)).1 * (k * l * (k * l)) = (X1 * k * (b2 * l) - X2 * l * (b1 * k)) * (X1 * k * (b2 * l) - X2 * l * (b1 * k)) + (Y1 * k * (b2 * l) - Y2 * l * (b1 * k)) * (Y1 * k * (b2 * l) - Y2 * l * (b1 * k)) := by
    simp only [far2]
    grind
  have eb : (far2 (X1, Y1, b1) (X2, Y2, b2)).2 * (k * l * (k * l)) = b1 * k * (b2 * l) * (b1 * k * (b2 * l)) := by
    simp only [far2]
    grind
  refine ⟨k * l * (k * l), PQ2, by rw [ea]; omega, by rw [eb]; omega, fun K hK => ?_, fun K hK => ?_⟩
  · refine e_X9_farAbove ?_
    rw [k0, k1, k2, l0, l1, l2]
    refine ⟨by omega, by omega, by omega, by omega, fun v5 e5 => ⟨by omega, by omega, fun v9 e9 => ?_⟩⟩
    rw [ea] at hK
    rw [e5, e9]
    exact hK
  · refine e_X9_farBelow ?_
    rw [k2, l2]
    rw [eb] at hK
    exact ⟨by omega, by omega, hK⟩
theorem c_locateBoth {A B : Mem → Prop} {a b : Nat} {m : Int} (ha : a < 10) (hb : b < 10) (hm : 0 ≤ m ∧ m < 200) (hT : oks T) (hC : CA σ T) (h1 : ∀ σ' fa fb, farV T a b m = some (fa, fb) → farS σ' fa fb → (∀ c, c ≠ 4 → c ≠ 5 → σ' c = σ c) → A σ') (h0 : ∀ σ', farV T a b m = none → (∀ c, c ≠ 4 → c ≠ 5 → σ' c = σ c) → B σ') : CC m_X9_locateBoth [vR 0, vI (a : Int), vI (b : Int), vI m] σ (PZ A B) := by
  refine e_X9_locateBoth _ _ _ ⟨by omega, c_locate (isT_trk (by omega)) (Or.inl rfl) (hC a ha) (hT a ha) hm (fun s4 X Y b1 hp hs hf => ⟨by omega, ?_⟩) (fun s5 hp hf => h0 s5 (by unfold farV; rw [hp]) fun c c4 _ => hf c c4)⟩
  refine c_locate (isT_trk (by omega)) (Or.inr rfl) ((hC.cq (cq4 hf)) b hb) (hT b hb) hm (fun s10 X2 Y2 b2 hp2 hs2 hf2 => ?_) (fun s11 hp2 hf2 => h0 s11 (by unfold farV; rw [hp, hp2]) fun c c4 c5 => (hf2 c c5).trans (hf c c4))
  refine h1 s10 _ _ (by unfold farV; rw [hp, hp2]) (farS_of ?_ hs2 (pos_bd (hT a ha) hp) (pos_bd (hT b hb) hp2)) fun c c4 c5 => (hf2 c c5).trans (hf c c4)
  unfold spotAt
  rw [hf2 4 (by decide)]
  exact hs
/-- what finding and laying a way may write -/
def mff (σ σ' : Mem) : Prop := (∀ b, b ≠ 80 → σ' b = σ b) ∧ ∀ i, i ≠ 6 → i ≠ 7 → i ≠ 8 → i ≠ 13 → i ≠ 14 → σ' 80 i = σ 80 i
theorem mff.mq {σ σ' : Mem} (h : mff σ σ') : mq σ σ' := ⟨fun b hb => h.1 b (by omega), h.2 _ (by decide) (by decide) (by decide) (by decide) (by decide), h.2 _ (by decide) (by decide) (by decide) (by decide) (by decide), h.2 _ (by decide) (by decide) (by decide) (by decide) (by decide)⟩
theorem d_layFar {A B : Mem → Prop} {a b : Nat} {m : Int} (ha : a < 10) (hb : b < 10) (hm : 0 ≤ m ∧ m < 200) (hT : oks T) (hM : MA σ T) (h1 : ∀ σ' fa fb, farV T a b m = some (fa, fb) → σ' 80 13 = fa → σ' 80 14 = fb → mff σ σ' → A σ') (h0 : ∀ σ', farV T a b m = none → (∀ b, b ≠ 80 → σ' b = σ b) → (∀ i, i ≠ 6 → i ≠ 7 → i ≠ 8 → σ' 80 i = σ 80 i) → B σ') : CC m_X10_layFar [vR 80, vI (a : Int), vI (b : Int), vI m] σ (PZ A B) := by
  refine e_X10_layFar _ _ _ (d_find ha (hM a ha) (hT a ha) hm (fun s2 X Y b1 hp f6 f7 f8 hf => ?_) (fun hp => h0 σ (by unfold farV; rw [hp]) (fun _ _ => rfl) (fun _ _ _ _ => rfl)))
  refine d_find hb ((hM.mq hf.mq) b hb) (hT b hb) hm (fun s6 X2 Y2 b2 hp2 g6 g7 g8 hf2 => ?_) (fun hp2 => h0 s2 (by unfold farV; rw [hp, hp2]) hf.1 hf.2)
  rw [f6, f7, f8, g6, g7, g8]
  intro v9 e9 v11 e11 s13 e13 s15 e15
  have a8 : s13 80 8 = b2 := by rw [e13, up_o2 (by decide)]; exact g8
  rw [a8] at e15
  refine h1 s15 _ _ (by unfold farV; rw [hp, hp2]) ?_ ?_ ⟨fun c hc => ?_, fun i i6 i7 i8 i13 i14 => ?_⟩
  · rw [e15, up_o2 (by decide), e13, up_at, e9, e11]; rfl
  · rw [e15, up_at]; rfl
  · rw [e15, up_cell hc, e13, up_cell hc, hf2.1 c hc, hf.1 c hc]
  · rw [e15, up_o2 i14, e13, up_o2 i13, hf2.2 i i6 i7 i8, hf.2 i i6 i7 i8]
theorem op_far {K : Int → Int → Mem → Prop} {a b m u : Int} (ha : R32 a) (hb : R32 b) (hm : R32 m) (hu : R32 u) (hT : oks T) (hC : CA σ T) (hM : MA σ T) (hK : ∀ v σ', R64 v → qm σ σ' → K v v σ') :
    CC m_X9_far [vR 0, vI a, vI b, vI m, vI u] σ (PJ fun v s => CC m_X10_far [vR 80, vI a, vI b, vI m, vI u] s (PJ fun v2 s2 => K v v2 s2)) := by
  refine e_X9_far _ _ _ _ (c_isThing ha (fun qa => c_isThing hb (fun qb => c_isMinute hm (fun qm9 => ?_) (fun qm9 => ?_)) (fun qb => ?_)) (fun qa => ?_))
  · obtain ⟨i, rfl, hi⟩ := nat_of qa
    obtain ⟨j, rfl, hj⟩ := nat_of qb
    have hi : i < 10 := by omega
    have hj : j < 10 := by omega
    refine c_locateBoth hi hj qm9 hT hC (fun s14 fa fb hv hs hf => ?_) (fun s15 hv hf => ?_)
    · have bd := farV_bd (hT i hi) (hT j hj) hv
      obtain ⟨Q, q1, q2, q3, q4, q5⟩ := hs
      refine q4 _ (q5 _ (c_leastTerm (by omega) (by omega) (by omega) (by omega) hu ?_))
      rw [lt3_mul (by omega) (by omega)]
      refine e_X10_far _ _ _ _ (d_isThing ha (fun _ => d_isThing hb (fun _ => d_isMinute hm (fun _ => ?_) (fun z => absurd qm9 z)) (fun z => absurd qb z)) (fun z => absurd qa z))
      refine d_layFar hi hj qm9 hT (hM.cq (cq45 hf)) (fun s fa2 fb2 hv2 e13 e14 hf2 => ?_) (fun s hv2 _ _ => by rw [hv] at hv2; cases hv2)
      rw [hv] at hv2
      cases hv2
      rw [e13, e14]
      have bl := lt3_bd (X := fa) (b := fb) (u := u) (M := 51200000000) (by omega) (by omega) (by omega)
      exact d_told (by omega) (by omega) (by omega) (by omega) hu (hK _ _ (by omega) (qm_of (cq45 hf) hf2.mq))
    · refine e_X10_far _ _ _ _ (d_isThing ha (fun _ => d_isThing hb (fun _ => d_isMinute hm (fun _ => ?_) (fun z => absurd qm9 z)) (fun z => absurd qb z)) (fun z => absurd qa z))
      exact d_layFar hi hj qm9 hT (hM.cq (cq45 hf)) (fun s fa2 fb2 hv2 e13 e14 hf2 => by rw [hv] at hv2; cases hv2) (fun s hv2 g1 g2 => hK _ _ (by decide) (qm_of (cq45 hf) (mf.mq ⟨g1, g2⟩)))
  · exact e_X10_far _ _ _ _ (d_isThing ha (fun _ => d_isThing hb (fun _ => d_isMinute hm (fun z => absurd z qm9) (fun _ => hK _ _ (by decide) (qm_of cq.rf mq.rf))) (fun z => absurd qb z)) (fun z => absurd qa z))
  · exact e_X10_far _ _ _ _ (d_isThing ha (fun _ => d_isThing hb (fun z => absurd z qb) (fun _ => hK _ _ (by decide) (qm_of cq.rf mq.rf))) (fun z => absurd qa z))
  · exact e_X10_far _ _ _ _ (d_isThing ha (fun z => absurd z qa) (fun _ => hK _ _ (by decide) (qm_of cq.rf mq.rf)))
end FAR
/-! meetings -/
def fM (T : Nat → TV) (a b : Nat) (r : Int) : Nat → Bool := fun m => match farV T a b (m : Int) with
  | none => false
  | some p => decide (p.1 ≤ r * r * p.2)
section MEET
variable {T : Nat → TV} {a b : Nat} {r : Int}
theorem c_isMeeting {σ : Mem} {A B : Mem → Prop} {m : Nat} (ha : a < 10) (hb : b < 10) (hr : 0 ≤ r ∧ r ≤ 200) (hm : m < 200) (hT : oks T) (hC : CA σ T) (h1 : fM T a b r m = true → ∀ σ', (∀ c, c ≠ 4 → c ≠ 5 → σ' c = σ c) → A σ') (h0 : fM T a b r m = false → ∀ σ', (∀ c, c ≠ 4 → c ≠ 5 → σ' c = σ c) → B σ') : CC m_X9_isMeeting [vR 0, vI (a : Int), vI (b : Int), vI r, vI (m : Int)] σ (PZ A B) := by
  refine e_X9_isMeeting _ _ _ _ (c_locateBoth ha hb (by omega) hT hC (fun s2 fa fb hv hs hf => ?_) (fun s3 hv hf => h0 (by unfold fM; rw [hv]) s3 hf))
  have bd := farV_bd (hT a ha) (hT b hb) hv
  obtain ⟨Q, q1, q2, q3, q4, q5⟩ := hs
  have sr := sq_bd (u := r) (U := 200) (by omega)
  have sb := mul_bd (u := r * r) (v := fb * Q) (U := 40000) (W := 65536) (by omega) (by omega)
  have hvv : fM T a b r m = decide (fa ≤ r * r * fb) := by unfold fM; rw [hv]
  refine q4 _ ⟨by omega, q5 _ ⟨by omega, by omega, fun z => ?_, fun z => ?_⟩⟩
  · rw [← Int.mul_assoc, Int.mul_lt_mul_right (by omega)] at z
    exact h0 (by rw [hvv]; exact decide_eq_false (by omega)) s2 hf
  · rw [← Int.mul_assoc, Int.mul_lt_mul_right (by omega)] at z
    exact h1 (by rw [hvv]; exact decide_eq_true (by omega)) s2 hf
theorem c_gatherM10 {K : Mem → Prop} (ha : a < 10) (hb : b < 10) (hr : 0 ≤ r ∧ r ≤ 200) (hT : oks T) : ∀ (k m : Nat) (σ : Mem), m + k = 200 → CA σ T → spC σ (RU (fM T a b r) m) → (∀ σ', cq σ σ' → spC σ' (RU (fM T a b r) 200) → K σ') → TT m_X9_gatherMeetings 10 [vR 0, vI (a : Int), vI (b : Int), vI r, vI (m : Int)] [] σ (PN K) := by
  intro k
  induction k with
  | zero =>
    intro m σ hk hC hs hK
    have : m = 200 := by omega
    subst this
    exact w_X9_gatherMeetings_10 _ _ _ _ ⟨by omega, fun _ => hK σ cq.rf hs, fun q => absurd q (by omega)⟩
  | succ k ih =>
    intro m σ hk hC hs hK
    refine w_X9_gatherMeetings_10 _ _ _ _ ⟨by omega, fun q => absurd q (by omega), fun q => ?_⟩
    refine c_isMeeting ha hb hr (by omega) hT hC (fun hv σ' hf => ?_) (fun hv σ' hf => ?_)
    · have hs' : spC σ' (RU (fM T a b r) m) := by
        unfold spC
        rw [hf 6 (by decide) (by decide), hf 7 (by decide) (by decide), hf 8 (by decide) (by decide)]
        exact hs
      refine c_add (f := fM T a b r) (by omega) hv hs' fun σ2 hs2 hf2 => ?_
      exact ih (m + 1) σ2 (by omega) ((hC.cq (cq45 hf)).cq hf2.cq) hs2 fun σ3 h3 => hK σ3 (((cq45 hf).tr hf2.cq).tr h3)
    · have hs' : spC σ' (RU (fM T a b r) (m + 1)) := by
        rw [RU_no hv]
        unfold spC
        rw [hf 6 (by decide) (by decide), hf 7 (by decide) (by decide), hf 8 (by decide) (by decide)]
        exact hs
      exact ih (m + 1) σ' (by omega) (hC.cq (cq45 hf)) hs' fun σ3 h3 => hK σ3 ((cq45 hf).tr h3)
theorem c_gatherM {σ : Mem} {K : Mem → Prop} (ha : a < 10) (hb : b < 10) (hr : 0 ≤ r ∧ r ≤ 200) (hT : oks T) (hC : CA σ T) (hK : ∀ σ', cq σ σ' → spC σ' (RU (fM T a b r) 200) → K σ') : CC m_X9_gatherMeetings [vR 0, vI (a : Int), vI (b : Int), vI r] σ (PN K) :=
  e_X9_gatherMeetings _ _ _ (c_clear (f := fM T a b r) fun s2 hs2 hf2 => c_gatherM10 ha hb hr hT 200 0 s2 rfl (hC.cq hf2.cq) hs2 fun σ' h1 h2 => hK σ' (hf2.cq.tr h1) h2)
theorem inR.mff {σ σ' : Mem} {f : Nat → Bool} {m : Nat} (h : inR σ f m) (e : σ' 80 10 = σ 80 10) : inR σ' f m := by
  unfold inR
  rw [e]
  exact h
theorem spM.mff {σ σ' : Mem} {R : RT3} (h : spM σ R) (e : σ' 80 9 = σ 80 9) (e2 : σ' 86 = σ 86) (e3 : σ' 87 = σ 87) : spM σ' R := by
  unfold spM
  rw [e, e2, e3]
  exact h
theorem d_layM7 {K : Mem → Prop} (ha : a < 10) (hb : b < 10) (hr : 0 ≤ r ∧ r ≤ 200) (hT : oks T) : ∀ (k m : Nat) (σ : Mem), m + k = 200 → MA σ T → spM σ (RU (fM T a b r) m) → inR σ (fM T a b r) m → (∀ σ', mq σ σ' → spM σ' (RU (fM T a b r) 200) → K σ') → TT m_X10_layMeetings 7 [vR 80, vI (a : Int), vI (b : Int), vI r, vI (m : Int), vU] [] σ (PN K) := by
  intro k
  induction k with
  | zero =>
    intro m σ hk hM hs hi hK
    have : m = 200 := by omega
    subst this
    exact w_X10_layMeetings_7 _ _ _ _ ⟨by omega, fun _ => hK σ mq.rf hs, fun q => absurd q (by omega)⟩
  | succ k ih =>
    intro m σ hk hM hs hi hK
    refine w_X10_layMeetings_7 _ _ _ _ ⟨by omega, fun q => absurd q (by omega), fun q => ?_⟩
    refine d_layFar ha hb (by omega) hT hM (fun s6 fa fb hv e13 e14 hf => ?_) (fun s7 hv g1 g2 => ?_)
    · have bd := farV_bd (hT a ha) (hT b hb) hv
      have sr := sq_bd (u := r) (U := 200) (by omega)
      have sb := mul_bd (u := r * r) (v := fb) (U := 40000) (W := 65536) (by omega) (by omega)
      have hvv : fM T a b r m = decide (fa ≤ r * r * fb) := by unfold fM; rw [hv]
      rw [e13, e14]
      refine ⟨by omega, by omega, by omega, ?_⟩
      refine d_meet (f := fM T a b r) (by omega) ?_ (hs.mff (hf.2 9 (by decide) (by decide) (by decide) (by decide) (by decide)) (hf.1 _ (by decide)) (hf.1 _ (by decide))) (hi.mff (hf.2 10 (by decide) (by decide) (by decide) (by decide) (by decide))) fun σ2 hs2 hi2 hf2 => ?_
      · rw [hvv]
        by_cases z : r * r * fb < fa
        · rw [if_pos z, decide_eq_false (by omega)]; rfl
        · rw [if_neg z, decide_eq_true (by omega)]; rfl
      · exact ih (m + 1) σ2 (by omega) ((hM.mq hf.mq).mq hf2.mq) hs2 hi2 fun σ3 h3 => hK σ3 ((hf.mq.tr hf2.mq).tr h3)
    · have hvv : fM T a b r m = false := by unfold fM; rw [hv]
      have hf : mf σ s7 := ⟨g1, g2⟩
      refine d_meet (f := fM T a b r) (by omega) (by rw [hvv]; rfl) (hs.mf hf) (hi.mf hf) fun σ2 hs2 hi2 hf2 => ?_
      exact ih (m + 1) σ2 (by omega) ((hM.mq hf.mq).mq hf2.mq) hs2 hi2 fun σ3 h3 => hK σ3 ((hf.mq.tr hf2.mq).tr h3)
theorem d_layM {σ : Mem} {K : Mem → Prop} (ha : a < 10) (hb : b < 10) (hr : 0 ≤ r ∧ r ≤ 200) (hT : oks T) (hM : MA σ T) (hK : ∀ σ', mq σ σ' → spM σ' (RU (fM T a b r) 200) → K σ') : CC m_X10_layMeetings [vR 80, vI (a : Int), vI (b : Int), vI r] σ (PN K) :=
  e_X10_layMeetings _ _ _ (d_begin (f := fM T a b r) fun s2 hs2 hi2 hf2 => d_layM7 ha hb hr hT 200 0 s2 rfl (hM.mq hf2.mq) hs2 hi2 fun σ' h1 h2 => hK σ' (hf2.mq.tr h1) h2)
end MEET
theorem d_mayMeet {σ : Mem} {K : Int → Mem → Prop} {a b r : Int} (ha : R32 a) (hb : R32 b) (hr : R32 r) (h1 : (0 ≤ a ∧ a < 10) → (0 ≤ b ∧ b < 10) → (0 ≤ r ∧ r ≤ 200) → a ≠ b → K 0 σ) (h2 : ¬ ((0 ≤ a ∧ a < 10) ∧ (0 ≤ b ∧ b < 10)) → K (-900001) σ) (h3 : (0 ≤ a ∧ a < 10) → (0 ≤ b ∧ b < 10) → ¬ (0 ≤ r ∧ r ≤ 200) → K (-900002) σ) (h4 : (0 ≤ a ∧ a < 10) → (0 ≤ b ∧ b < 10) → (0 ≤ r ∧ r ≤ 200) → a = b → K (-900003) σ) : CC m_X10_mayMeet [vR 80, vI a, vI b, vI r] σ (PI K) :=
  e_X10_mayMeet a b r (d_isThing ha (fun q => d_isThing hb (fun q2 => ⟨hr, d_in (r64 hr) (by decide) (by decide) (fun q3 => ⟨ha, hb, by
    by_cases e : a = b
    · rw [if_neg (not_not_intro e)]; exact h4 q q2 q3 e
    · rw [if_pos e]; exact h1 q q2 q3 e⟩) (fun q3 => h3 q q2 q3)⟩) (fun q2 => h2 fun z => q2 z.2)) (fun q => h2 fun z => q z.1))
/-! the longest -/
def rlen (R : RT3) (i : Nat) : Int := R.2.2 i - R.2.1 i + 1
def LB (R : RT3) : Nat → Int
  | 0 => -1
  | k + 1 => if LB R k < 0 ∨ rlen R (LB R k).toNat < rlen R k then (k : Int) else LB R k
theorem LB_bd (R : RT3) : ∀ k : Nat, -1 ≤ LB R k ∧ LB R k < k
  | 0 => by simp [LB]
  | k + 1 => by
    have := LB_bd R k
    simp only [LB]
    split <;> omega
section LONG
variable {σ : Mem} {f : Nat → Bool}
theorem c_longest {K : Int → Mem → Prop} (hs : spC σ (RU f 200)) (h : K (LB (RU f 200) (RU f 200).1) σ) : CC m_X5_longestOne [vR 6] σ (PI K) := by
  obtain ⟨-, -, g3, g4⟩ := RU_spec f 200
  have len : ∀ (x : Int) (i : Nat) (K2 : Int → Mem → Prop), x = (i : Int) → i < (RU f 200).1 → K2 (rlen (RU f 200) i) σ → CC m_X5_lengthOf [vR 6, vI x] σ (PI K2) := by
    intro x i K2 hx hi hK
    subst hx
    have e : (i : Int).toNat = i := by omega
    refine e_X5_lengthOf _ ?_
    rw [e, (hs.2 i hi).1, (hs.2 i hi).2]
    exact ⟨by omega, hK⟩
  have loop : ∀ (k i : Nat), i + k = (RU f 200).1 → TT m_X5_longestOne 4 [vR 6, vI (LB (RU f 200) i), vI (i : Int)] [] σ (PI K) := by
    intro k
    induction k with
    | zero =>
      intro i hk
      have hk : i = (RU f 200).1 := by omega
      subst hk
      refine w_X5_longestOne_4 _ _ ?_
      rw [hs.1]
      exact ⟨by omega, by omega, fun _ => h, fun q => absurd q (by omega)⟩
    | succ k ih =>
      intro i hk
      have b := LB_bd (RU f 200) i
      have e : LB (RU f 200) (i + 1) = if LB (RU f 200) i < 0 ∨ rlen (RU f 200) (LB (RU f 200) i).toNat < rlen (RU f 200) i then (i : Int) else LB (RU f 200) i := rfl
      refine w_X5_longestOne_4 _ _ ?_
      rw [hs.1]
      refine ⟨by omega, by omega, fun q => absurd q (by omega), fun _ => ⟨by omega, fun q => ?_, fun q => ?_⟩⟩
      · have := ih (i + 1) (by omega)
        rw [e, if_pos (Or.inl q)] at this
        exact this
      · refine len _ i _ rfl (by omega) (len _ (LB (RU f 200) i).toNat _ (by omega) (by omega) ?_)
        have b1 := g4 i (by omega)
        have b2 := g4 (LB (RU f 200) i).toNat (by omega)
        refine ⟨by unfold rlen; omega, by unfold rlen; omega, ?_⟩
        have := ih (i + 1) (by omega)
        rw [e] at this
        by_cases z : rlen (RU f 200) i ≤ rlen (RU f 200) (LB (RU f 200) i).toNat
        · rw [if_pos z]
          rw [if_neg (by omega)] at this
          exact this
        · rw [if_neg z]
          rw [if_pos (by omega)] at this
          exact this
  exact e_X5_longestOne (loop (RU f 200).1 0 (by omega))
theorem d_longest34 {K : Int → Mem → Prop} {u : Int} (hu : R32 u) (hs : spM σ (RU f 200)) (h : K (if LB (RU f 200) (RU f 200).1 < 0 then -900009 else if u = 0 then (RU f 200).2.1 (LB (RU f 200) (RU f 200).1).toNat else rlen (RU f 200) (LB (RU f 200) (RU f 200).1).toNat) σ) : TT m_X10_longest 34 [vR 80, vU, vU, vU, vI u, vU, vI (-900009), vI 0, vI 0, vU] [] σ (PI K) := by
  obtain ⟨-, -, g3, g4⟩ := RU_spec f 200
  have loop : ∀ (k i : Nat) (x6 x7 : Int), i + k = (RU f 200).1 → x6 = (if LB (RU f 200) i < 0 then -900009 else LB (RU f 200) i) → x7 = (if LB (RU f 200) i < 0 then 0 else rlen (RU f 200) (LB (RU f 200) i).toNat) → TT m_X10_longest 34 [vR 80, vU, vU, vU, vI u, vU, vI x6, vI x7, vI (i : Int), vU] [] σ (PI K) := by
    intro k
    induction k with
    | zero =>
      intro i x6 x7 hk e6 e7
      have hk : i = (RU f 200).1 := by omega
      subst hk
      have b := LB_bd (RU f 200) (RU f 200).1
      refine w_X10_longest_34 _ _ _ _ ?_
      rw [hs.1]
      have h6 : R32 x6 ∧ (¬ x6 = -900009 → 0 ≤ x6 ∧ x6 < 200) := by
        rw [e6]
        split
        · exact ⟨by decide, fun q => absurd rfl q⟩
        · exact ⟨by omega, fun _ => by omega⟩
      refine ⟨by omega, by omega, fun _ => ⟨h6.1, fun q => ⟨hu, fun _ => h6.2 q⟩, ?_⟩, fun q => absurd q (by omega)⟩
      by_cases z : LB (RU f 200) (RU f 200).1 < 0
      · rw [if_pos z] at h e6
        rw [if_neg (not_not_intro e6)]
        exact h
      · rw [if_neg z] at h e6 e7
        rw [if_pos (by omega), e6, e7]
        rw [(hs.2 (LB (RU f 200) (RU f 200).1).toNat (by omega)).1]
        exact h
    | succ k ih =>
      intro i x6 x7 hk e6 e7
      have b := LB_bd (RU f 200) i
      have e : LB (RU f 200) (i + 1) = if LB (RU f 200) i < 0 ∨ rlen (RU f 200) (LB (RU f 200) i).toNat < rlen (RU f 200) i then (i : Int) else LB (RU f 200) i := rfl
      have ei : (i : Int).toNat = i := by omega
      have b1 := g4 i (by omega)
      refine w_X10_longest_34 _ _ _ _ ?_
      rw [hs.1, ei, (hs.2 i (by omega)).1, (hs.2 i (by omega)).2]
      have h7 : R32 x7 := by
        rw [e7]
        split
        · decide
        · have b2 := g4 (LB (RU f 200) i).toNat (by omega)
          unfold rlen; omega
      refine ⟨by omega, by omega, fun q => absurd q (by omega), fun _ => ⟨by omega, fun v20 e20 => ⟨by omega, h7, fun v26 e26 v30 e30 => ?_⟩⟩⟩
      have e20 : v20 = rlen (RU f 200) i := e20
      have p20 : 1 ≤ v20 := by rw [e20]; unfold rlen; omega
      refine ih (i + 1) v26 v30 (by omega) ?_ ?_
      · rw [e26, e]
        by_cases z : LB (RU f 200) i < 0
        · rw [if_pos z] at e7
          rw [if_neg (by omega), if_pos (Or.inl z), if_neg (by omega)]
        · rw [if_neg z] at e7 e6
          by_cases z2 : rlen (RU f 200) (LB (RU f 200) i).toNat < rlen (RU f 200) i
          · rw [if_neg (by omega), if_pos (Or.inr z2), if_neg (by omega)]
          · have hd : ¬ (LB (RU f 200) i < 0 ∨ rlen (RU f 200) (LB (RU f 200) i).toNat < rlen (RU f 200) i) := by omega
            rw [if_pos (by omega), if_neg hd, if_neg z, e6]
      · rw [e30, e]
        by_cases z : LB (RU f 200) i < 0
        · rw [if_pos z] at e7
          rw [if_neg (by omega), if_pos (Or.inl z), if_neg (by omega), ei, e20]
        · rw [if_neg z] at e7 e6
          by_cases z2 : rlen (RU f 200) (LB (RU f 200) i).toNat < rlen (RU f 200) i
          · rw [if_neg (by omega), if_pos (Or.inr z2), if_neg (by omega), ei, e20]
          · have hd : ¬ (LB (RU f 200) i < 0 ∨ rlen (RU f 200) (LB (RU f 200) i).toNat < rlen (RU f 200) i) := by omega
            rw [if_pos (by omega), if_neg hd, if_neg z, e7]
  exact loop (RU f 200).1 0 _ _ (by omega) rfl rfl
end LONG
section OPM
variable {σ : Mem} {T : Nat → TV} {K : Int → Int → Mem → Prop}
theorem op_meetings {a b r : Int} (ha : R32 a) (hb : R32 b) (hr : R32 r) (hT : oks T) (hC : CA σ T) (hM : MA σ T) (hK : ∀ v σ', R32 v → qm σ σ' → K v v σ') :
    CC m_X9_meetings [vR 0, vI a, vI b, vI r] σ (PI fun v s => CC m_X10_meetings [vR 80, vI a, vI b, vI r] s (PI fun v2 s2 => K v v2 s2)) := by
  have neg : ∀ c : Int, (c = -900001 ∨ c = -900002 ∨ c = -900003) → R32 c ∧ ((0 ≤ c → CC m_X10_layMeetings [vR 80, vI a, vI b, vI r] σ (PN fun s6 => K c (s6 80 9) s6)) ∧ (¬ 0 ≤ c → K c c σ)) := fun c hc => ⟨by omega, fun z => absurd z (by omega), fun _ => hK _ _ (by omega) (qm_of cq.rf mq.rf)⟩
  refine e_X9_meetings _ _ _ (c_refuseMeeting ha hb hr (fun qa qb qr qn => ⟨by decide, fun _ => ?_, fun z => absurd rfl z⟩) (fun q => ⟨by decide, fun z => absurd z (by decide), fun _ => ?_⟩) (fun qa qb qr => ⟨by decide, fun z => absurd z (by decide), fun _ => ?_⟩) (fun qa qb qr qn => ⟨by decide, fun z => absurd z (by decide), fun _ => ?_⟩))
  · obtain ⟨i, rfl, hi⟩ := nat_of qa
    obtain ⟨j, rfl, hj⟩ := nat_of qb
    have hi : i < 10 := by omega
    have hj : j < 10 := by omega
    refine c_gatherM hi hj qr hT hC fun s6 hq hs => ?_
    have g := (RU_spec (fM T i j r) 200).2.2.1
    rw [hs.1]
    refine e_X10_meetings _ _ _ (d_mayMeet ha hb hr (fun _ _ _ _ => ⟨by decide, fun _ => ?_, fun z => absurd (by decide) z⟩) (fun z => absurd ⟨qa, qb⟩ z) (fun _ _ z => absurd qr z) (fun _ _ _ z => absurd z qn))
    refine d_layM hi hj qr hT (hM.cq hq) fun s14 hm14 hs14 => ?_
    rw [hs14.1]
    exact hK _ _ (by omega) (qm_of hq hm14)
  · exact e_X10_meetings _ _ _ (d_mayMeet ha hb hr (fun z1 z2 _ _ => absurd ⟨z1, z2⟩ q) (fun _ => neg _ (Or.inl rfl)) (fun z1 z2 _ => absurd ⟨z1, z2⟩ q) (fun z1 z2 _ _ => absurd ⟨z1, z2⟩ q))
  · exact e_X10_meetings _ _ _ (d_mayMeet ha hb hr (fun _ _ z _ => absurd z qr) (fun z => absurd ⟨qa, qb⟩ z) (fun _ _ _ => neg _ (Or.inr (Or.inl rfl))) (fun _ _ z _ => absurd z qr))
  · exact e_X10_meetings _ _ _ (d_mayMeet ha hb hr (fun _ _ _ z => absurd qn z) (fun z => absurd ⟨qa, qb⟩ z) (fun _ _ z => absurd qr z) (fun _ _ _ _ => neg _ (Or.inr (Or.inr rfl))))
theorem op_longest {a b r u : Int} (ha : R32 a) (hb : R32 b) (hr : R32 r) (hu : R32 u) (hT : oks T) (hC : CA σ T) (hM : MA σ T) (hK : ∀ v σ', R32 v → qm σ σ' → K v v σ') :
    CC m_X9_longest [vR 0, vI a, vI b, vI r, vI u] σ (PI fun v s => CC m_X10_longest [vR 80, vI a, vI b, vI r, vI u] s (PI fun v2 s2 => K v v2 s2)) := by
  have neg : ∀ c : Int, (c = -900001 ∨ c = -900002 ∨ c = -900003) → R32 c ∧ ((0 ≤ c → CC m_X10_layMeetings [vR 80, vI a, vI b, vI r] σ (PN fun s6 => TT m_X10_longest 34 [vR 80, vU, vU, vU, vI u, vU, vI (-900009), vI 0, vI 0, vU] [] s6 (PI fun v2 s2 => K c v2 s2))) ∧ (¬ 0 ≤ c → K c c σ)) := fun c hc => ⟨by omega, fun z => absurd z (by omega), fun _ => hK _ _ (by omega) (qm_of cq.rf mq.rf)⟩
  refine e_X9_longest _ _ _ _ (c_refuseMeeting ha hb hr (fun qa qb qr qn => ⟨by decide, fun _ => ?_, fun z => absurd rfl z⟩) (fun q => ⟨by decide, fun z => absurd z (by decide), fun _ => ?_⟩) (fun qa qb qr => ⟨by decide, fun z => absurd z (by decide), fun _ => ?_⟩) (fun qa qb qr qn => ⟨by decide, fun z => absurd z (by decide), fun _ => ?_⟩))
  · obtain ⟨i, rfl, hi⟩ := nat_of qa
    obtain ⟨j, rfl, hj⟩ := nat_of qb
    have hi : i < 10 := by omega
    have hj : j < 10 := by omega
    refine c_gatherM hi hj qr hT hC fun s6 hq hs => ?_
    obtain ⟨-, -, g3, g4⟩ := RU_spec (fM T i j r) 200
    have lb := LB_bd (RU (fM T i j r) 200) (RU (fM T i j r) 200).1
    have fin : ∀ v : Int, R32 v → v = (if LB (RU (fM T i j r) 200) (RU (fM T i j r) 200).1 < 0 then -900009 else if u = 0 then (RU (fM T i j r) 200).2.1 (LB (RU (fM T i j r) 200) (RU (fM T i j r) 200).1).toNat else rlen (RU (fM T i j r) 200) (LB (RU (fM T i j r) 200) (RU (fM T i j r) 200).1).toNat) → CC m_X10_longest [vR 80, vI (i : Int), vI (j : Int), vI r, vI u] s6 (PI fun v2 s2 => K v v2 s2) := by
      intro v hv ev
      refine e_X10_longest _ _ _ _ (d_mayMeet ha hb hr (fun _ _ _ _ => ⟨by decide, fun _ => ?_, fun z => absurd (by decide) z⟩) (fun z => absurd ⟨qa, qb⟩ z) (fun _ _ z => absurd qr z) (fun _ _ _ z => absurd z qn))
      refine d_layM hi hj qr hT (hM.cq hq) fun s14 hm14 hs14 => ?_
      refine d_longest34 hu hs14 ?_
      rw [← ev]
      exact hK _ _ hv (qm_of hq hm14)
    refine c_longest hs ⟨by omega, fun z => ⟨hu, fun zu => ?_, fun zu => ?_⟩, fun z => fin _ (by decide) (by rw [if_pos (by omega)])⟩
    · have b4 := g4 (LB (RU (fM T i j r) 200) (RU (fM T i j r) 200).1).toNat (by omega)
      rw [(hs.2 (LB (RU (fM T i j r) 200) (RU (fM T i j r) 200).1).toNat (by omega)).1]
      exact ⟨by omega, fin _ (by omega) (by rw [if_neg (by omega), if_pos zu])⟩
    · have b4 := g4 (LB (RU (fM T i j r) 200) (RU (fM T i j r) 200).1).toNat (by omega)
      refine e_X5_lengthOf _ ?_
      rw [(hs.2 (LB (RU (fM T i j r) 200) (RU (fM T i j r) 200).1).toNat (by omega)).1, (hs.2 (LB (RU (fM T i j r) 200) (RU (fM T i j r) 200).1).toNat (by omega)).2]
      exact ⟨by omega, fin _ (by omega) (by rw [if_neg (by omega), if_neg zu]; rfl)⟩
  · exact e_X10_longest _ _ _ _ (d_mayMeet ha hb hr (fun z1 z2 _ _ => absurd ⟨z1, z2⟩ q) (fun _ => neg _ (Or.inl rfl)) (fun z1 z2 _ => absurd ⟨z1, z2⟩ q) (fun z1 z2 _ _ => absurd ⟨z1, z2⟩ q))
  · exact e_X10_longest _ _ _ _ (d_mayMeet ha hb hr (fun _ _ z _ => absurd z qr) (fun z => absurd ⟨qa, qb⟩ z) (fun _ _ _ => neg _ (Or.inr (Or.inl rfl))) (fun _ _ z _ => absurd z qr))
  · exact e_X10_longest _ _ _ _ (d_mayMeet ha hb hr (fun _ _ _ z => absurd qn z) (fun z => absurd ⟨qa, qb⟩ z) (fun _ _ z => absurd qr z) (fun _ _ _ _ => neg _ (Or.inr (Or.inr rfl))))
end OPM
