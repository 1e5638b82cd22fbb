/-! all things; who is in a place -/
def CA (σ : Mem) (T : Nat → TV) : Prop := ∀ t : Nat, t < 10 → CT σ (trk (t : Int)) (T t)
def MA (σ : Mem) (T : Nat → TV) : Prop := ∀ t : Nat, t < 10 → MT σ t (T t)
def oks (T : Nat → TV) : Prop := ∀ t : Nat, t < 10 → tok (T t)
theorem CA.cq {σ σ' : Mem} {T : Nat → TV} (h : CA σ T) (hq : cq σ σ') : CA σ' T := fun t ht => (h t ht).cq hq (isT_trk (by omega))
theorem MA.mq {σ σ' : Mem} {T : Nat → TV} (h : MA σ T) (hq : mq σ σ') : MA σ' T := fun t ht => (h t ht).mq hq
theorem MA.cq {σ σ' : Mem} {T : Nat → TV} (h : MA σ T) (hq : cq σ σ') : MA σ' T := fun t ht => (h t ht).same (hq _ (by unfold cs; omega)) (hq _ (by unfold cs; omega)) (hq _ (by unfold cs; omega)) (hq _ (by unfold cs; omega)) (hq _ (by unfold cs; omega))
theorem CA.mq {σ σ' : Mem} {T : Nat → TV} (h : CA σ T) (hq : mq σ σ') : CA σ' T := fun t ht => by
  have e : trk (t : Int) = 34 + 4 * t := by unfold trk; omega
  exact (h t ht).same (hq.1 _ (by omega)) (hq.1 _ (by omega)) (hq.1 _ (by omega)) (hq.1 _ (by omega))
/-- what a pair of asking calls may write -/
def qm (σ σ' : Mem) : Prop := (∀ b, ¬ cs b → (b < 80 ∨ (81 ≤ b ∧ b ≤ 85) ∨ b = 100) → σ' b = σ b) ∧ σ' 80 5 = σ 80 5 ∧ σ' 80 29 = σ 80 29 ∧ σ' 80 30 = σ 80 30
theorem qm_of {σ s s2 : Mem} (h : cq σ s) (h2 : mq s s2) : qm σ s2 := by
  have e : s 80 = σ 80 := h 80 (by unfold cs; omega)
  exact ⟨fun b hb hb2 => (h2.1 b hb2).trans (h b hb), by rw [h2.2.1, e], by rw [h2.2.2.1, e], by rw [h2.2.2.2, e]⟩
theorem cq4 {σ σ' : Mem} (h : ∀ c, c ≠ 4 → σ' c = σ c) : cq σ σ' := fun b hb => h b fun e => hb (by subst e; unfold cs; omega)
theorem cq5 {σ σ' : Mem} (h : ∀ c, c ≠ 5 → σ' c = σ c) : cq σ σ' := fun b hb => h b fun e => hb (by subst e; unfold cs; omega)
theorem nat_of {x : Int} {n : Int} (h : 0 ≤ x ∧ x < n) : ∃ t : Nat, x = (t : Int) ∧ (t : Int) < n := ⟨x.toNat, by omega, by omega⟩
theorem lt3_bd {X b u M : Int} (hb : 0 < b) (hb2 : b ≤ M) (hX : -M ≤ X ∧ X ≤ M) : -M ≤ lt3 X b u ∧ lt3 X b u ≤ M := by
  have hg := gcd_le9 (X := X) hb
  have key : ∀ a : Int, (Int.gcd X b : Int) ∣ a → (-M ≤ a ∧ a ≤ M) → -M ≤ Int.tdiv a (Int.gcd X b) ∧ Int.tdiv a (Int.gcd X b) ≤ M := by
    intro a hd ha
    generalize (Int.gcd X b : Int) = g at hg hd ⊢
    obtain ⟨k, rfl⟩ := hd
    rw [Int.mul_tdiv_cancel_left k (by omega)]
    rcases Int.le_total 0 k with z | z
    · have : 1 * k ≤ g * k := Int.mul_le_mul_of_nonneg_right (by omega) z
      omega
    · have : 1 * (-k) ≤ g * (-k) := Int.mul_le_mul_of_nonneg_right (by omega) (by omega)
      rw [Int.mul_neg, Int.mul_neg, Int.one_mul] at this
      omega
  unfold lt3
  split
  · exact key b (Int.gcd_dvd_right X b) (by omega)
  · exact key X (Int.gcd_dvd_left X b) hX
section OPS1
variable {σ : Mem} {T : Nat → TV} {K : Int → Int → Mem → Prop}
theorem op_at {t m y u : Int} (ht : R32 t) (hm : R32 m) (hy : R32 y) (hu : R32 u) (hT : oks T) (hC : CA σ T) (hM : MA σ T) (hK : ∀ v σ', R32 v → qm σ σ' → K v v σ') :
    CC m_X9_at [vR 0, vI t, vI m, vI y, vI u] σ (PI fun v s => CC m_X10_at [vR 80, vI t, vI m, vI y, vI u] s (PI fun v2 s2 => K v v2 s2)) := by
  refine e_X9_at _ _ _ _ (c_refuseMoment ht hm (fun q q2 => ⟨by decide, fun _ => ⟨q, ?_⟩, fun z => absurd rfl z⟩) (fun q => ⟨by decide, fun z => absurd z (by decide), fun _ => ?_⟩) (fun q q2 => ⟨by decide, fun z => absurd z (by decide), fun _ => ?_⟩))
  · obtain ⟨i, rfl, hi⟩ := nat_of q
    have hi : i < 10 := by omega
    refine c_locate (isT_trk q) (Or.inl rfl) (hC i hi) (hT i hi) q2 (fun s8 X Y b hp hs hf => ?_) (fun s9 hp hf => ?_)
    · have bd := pos_bd (hT i hi) hp
      obtain ⟨k, hk, e0, e1, e2⟩ := hs
      rw [e0, e1, e2]
      have hkb : 1 ≤ k ∧ k ≤ 16 := by
        have : 1 * k ≤ b * k := Int.mul_le_mul_of_nonneg_right (by omega) (by omega)
        omega
      have B1 := mul_bd (u := X) (v := k) (U := 5000) (W := 16) (by omega) (by omega)
      have B2 := mul_bd (u := Y) (v := k) (U := 5000) (W := 16) (by omega) (by omega)
      refine ⟨hy, fun v14 e14 => ?_⟩
      have ev : v14 = (if y = 0 then X else Y) * k := by rw [e14]; split <;> rfl
      have Bv : -80000 ≤ v14 ∧ v14 ≤ 80000 := by rw [e14]; split <;> omega
      refine ⟨by omega, by omega, c_leastTerm (by omega) (by omega) (by omega) (by omega) hu ?_⟩
      rw [ev, lt3_mul (by omega) (by omega)]
      have bl := lt3_bd (X := if y = 0 then X else Y) (b := b) (u := u) (M := 5000) (by omega) (by omega) (by split <;> omega)
      refine e_X10_at _ _ _ _ (d_isThing ht (fun _ => d_isMinute hm (fun _ => ?_) (fun z => absurd q2 z)) (fun z => absurd q z))
      refine d_find hi ((hM.cq (cq4 hf)) i hi) (hT i hi) q2 (fun s10 X2 Y2 b2 hp2 f6 f7 f8 hmf => ?_) (fun hp2 => by rw [hp] at hp2; cases hp2)
      rw [hp] at hp2
      cases hp2
      rw [f6, f7, f8]
      refine ⟨hy, d_told (by split <;> omega) (by split <;> omega) (by omega) (by omega) hu ?_⟩
      exact hK _ _ (by omega) (qm_of (cq4 hf) hmf.mq)
    · refine e_X10_at _ _ _ _ (d_isThing ht (fun _ => d_isMinute hm (fun _ => ?_) (fun z => absurd q2 z)) (fun z => absurd q z))
      refine d_find hi ((hM.cq (cq4 hf)) i hi) (hT i hi) q2 (fun s10 X2 Y2 b2 hp2 f6 f7 f8 hmf => by rw [hp] at hp2; cases hp2) (fun hp2 => ?_)
      exact hK _ _ (by decide) (qm_of (cq4 hf) mq.rf)
  · exact e_X10_at _ _ _ _ (d_isThing ht (fun z => absurd z q) (fun _ => hK _ _ (by decide) (qm_of cq.rf mq.rf)))
  · exact e_X10_at _ _ _ _ (d_isThing ht (fun _ => d_isMinute hm (fun z => absurd z q2) (fun _ => hK _ _ (by decide) (qm_of cq.rf mq.rf))) (fun z => absurd q z))
theorem op_there {t m : Int} (ht : R32 t) (hm : R32 m) (hT : oks T) (hC : CA σ T) (hM : MA σ T) (hK : ∀ v σ', R32 v → qm σ σ' → K v v σ') :
    CC m_X9_there [vR 0, vI t, vI m] σ (PI fun v s => CC m_X10_there [vR 80, vI t, vI m] s (PI fun v2 s2 => K v v2 s2)) := by
  refine e_X9_there _ _ (c_refuseMoment ht hm (fun q q2 => ⟨by decide, fun _ => ⟨q, ?_⟩, fun z => absurd rfl z⟩) (fun q => ⟨by decide, fun z => absurd z (by decide), fun _ => ?_⟩) (fun q q2 => ⟨by decide, fun z => absurd z (by decide), fun _ => ?_⟩))
  · obtain ⟨i, rfl, hi⟩ := nat_of q
    have hi : i < 10 := by omega
    refine c_locate (isT_trk q) (Or.inl rfl) (hC i hi) (hT i hi) q2 (fun s8 X Y b hp hs hf => ?_) (fun s9 hp hf => ?_)
    · refine e_X10_there _ _ (d_isThing ht (fun _ => d_isMinute hm (fun _ => ?_) (fun z => absurd q2 z)) (fun z => absurd q z))
      exact d_find hi ((hM.cq (cq4 hf)) i hi) (hT i hi) q2 (fun s10 X2 Y2 b2 hp2 f6 f7 f8 hmf => hK _ _ (by decide) (qm_of (cq4 hf) hmf.mq)) (fun hp2 => by rw [hp] at hp2; cases hp2)
    · refine e_X10_there _ _ (d_isThing ht (fun _ => d_isMinute hm (fun _ => ?_) (fun z => absurd q2 z)) (fun z => absurd q z))
      exact d_find hi ((hM.cq (cq4 hf)) i hi) (hT i hi) q2 (fun s10 X2 Y2 b2 hp2 f6 f7 f8 hmf => by rw [hp] at hp2; cases hp2) (fun hp2 => hK _ _ (by decide) (qm_of (cq4 hf) mq.rf))
  · exact e_X10_there _ _ (d_isThing ht (fun z => absurd z q) (fun _ => hK _ _ (by decide) (qm_of cq.rf mq.rf)))
  · exact e_X10_there _ _ (d_isThing ht (fun _ => d_isMinute hm (fun z => absurd z q2) (fun _ => hK _ _ (by decide) (qm_of cq.rf mq.rf))) (fun z => absurd q z))
end OPS1
/-! in a place -/
abbrev BX : Type := Int × Int × Int × Int
def bxOK (P : BX) : Prop := spanOK P.1 P.2.1 ∧ spanOK P.2.2.1 P.2.2.2
def inb (V : TV) (P : BX) (m : Int) : Bool := match pos V m with
  | none => false
  | some p => decide (P.1 * p.2.2 ≤ p.1 ∧ p.1 ≤ P.2.1 * p.2.2 ∧ P.2.2.1 * p.2.2 ≤ p.2.1 ∧ p.2.1 ≤ P.2.2.2 * p.2.2)
def plc (σ : Mem) (p : Nat) (P : BX) : Prop := σ p 0 = P.1 ∧ σ p 1 = P.2.1 ∧ σ p 2 = P.2.2.1 ∧ σ p 3 = P.2.2.2
section INP
variable {σ : Mem} {T : Nat → TV} {A B : Mem → Prop} {P : BX}
theorem bx_rng (hP : bxOK P) : (-2000 ≤ P.1 ∧ P.1 ≤ 2000) ∧ (-2000 ≤ P.2.1 ∧ P.2.1 ≤ 2000) ∧ (-2000 ≤ P.2.2.1 ∧ P.2.2.1 ≤ 2000) ∧ (-2000 ≤ P.2.2.2 ∧ P.2.2.2 ≤ 2000) := by
  obtain ⟨⟨a1, a2, a3⟩, b1, b2, b3⟩ := hP
  omega
theorem c_isIn {p : Nat} {t : Nat} {m : Int} (hp : isP p) (ht : t < 10) (hm : 0 ≤ m ∧ m < 200) (hT : oks T) (hC : CA σ T) (hP : bxOK P) (hpl : plc σ p P) (h1 : inb (T t) P m = true → ∀ σ', (∀ c, c ≠ 4 → σ' c = σ c) → A σ') (h0 : inb (T t) P m = false → ∀ σ', (∀ c, c ≠ 4 → σ' c = σ c) → B σ') : CC m_X9_isIn [vR 0, vR p, vI (t : Int), vI m] σ (PZ A B) := by
  have hp4 : p ≠ 4 := by rcases hp with rfl | ⟨k, hk, rfl⟩ <;> omega
  have br := bx_rng hP
  refine e_X9_isIn p hp _ _ ⟨by omega, c_locate (isT_trk (by omega)) (Or.inl rfl) (hC t ht) (hT t ht) hm (fun s4 X Y b hq hs hf => ?_) (fun s5 hq hf => h0 (by unfold inb; rw [hq]) s5 hf)⟩
  have bd := pos_bd (hT t ht) hq
  obtain ⟨k, hk, e0, e1, e2⟩ := hs
  have hkb : 1 ≤ k ∧ k ≤ 16 := by
    have : 1 * k ≤ b * k := Int.mul_le_mul_of_nonneg_right (by omega) (by omega)
    omega
  have hv : inb (T t) P m = decide (P.1 * b ≤ X ∧ X ≤ P.2.1 * b ∧ P.2.2.1 * b ≤ Y ∧ Y ≤ P.2.2.2 * b) := by unfold inb; rw [hq]
  have B1 := mul_bd (u := X) (v := k) (U := 5000) (W := 16) (by omega) (by omega)
  have B2 := mul_bd (u := Y) (v := k) (U := 5000) (W := 16) (by omega) (by omega)
  have C1 := mul_bd (u := P.1) (v := b * k) (U := 2000) (W := 16) (by omega) (by omega)
  have C2 := mul_bd (u := P.2.1) (v := b * k) (U := 2000) (W := 16) (by omega) (by omega)
  have C3 := mul_bd (u := P.2.2.1) (v := b * k) (U := 2000) (W := 16) (by omega) (by omega)
  have C4 := mul_bd (u := P.2.2.2) (v := b * k) (U := 2000) (W := 16) (by omega) (by omega)
  have hk0 : 0 < k := by omega
  have le : ∀ c d : Int, c * (b * k) ≤ d * k ↔ c * b ≤ d := fun c d => by rw [← Int.mul_assoc]; exact Int.mul_le_mul_right hk0
  have lt : ∀ c d : Int, d * k < c * (b * k) ↔ d < c * b := fun c d => by rw [← Int.mul_assoc]; exact Int.mul_lt_mul_right hk0
  have gt : ∀ c d : Int, c * (b * k) < d * k ↔ c * b < d := fun c d => by rw [← Int.mul_assoc]; exact Int.mul_lt_mul_right hk0
  obtain ⟨p0, p1, p2, p3⟩ := hpl
  refine e_X3_holds p hp 4 (Or.inl rfl) ?_
  rw [hf p hp4, e0, e1, e2, p0, p1, p2, p3, lt, gt, lt, gt]
  have no : ¬ (P.1 * b ≤ X ∧ X ≤ P.2.1 * b ∧ P.2.2.1 * b ≤ Y ∧ Y ≤ P.2.2.2 * b) → B s4 := fun z => h0 (by rw [hv]; exact decide_eq_false z) s4 hf
  refine ⟨by omega, by omega, fun z => no (by omega), fun z1 => ⟨by omega, fun z => no (by omega), fun z2 => ⟨by omega, by omega, fun z => no (by omega), fun z3 => ⟨by omega, fun z => no (by omega), fun z4 => ?_⟩⟩⟩⟩
  exact h1 (by rw [hv]; exact decide_eq_true (by omega)) s4 hf
theorem d_isIn {t : Nat} {m : Int} (ht : t < 10) (hm : 0 ≤ m ∧ m < 200) (hT : oks T) (hM : MA σ T) (hP : bxOK P) (h1 : inb (T t) P m = true → ∀ σ', mf σ σ' → A σ') (h0 : inb (T t) P m = false → ∀ σ', mf σ σ' → B σ') : CC m_X10_isIn [vR 80, vI (t : Int), vI m, vI P.1, vI P.2.1, vI P.2.2.1, vI P.2.2.2] σ (PZ A B) := by
  have br := bx_rng hP
  refine e_X10_isIn _ _ _ _ _ _ (d_find ht (hM t ht) (hT t ht) hm (fun s2 X Y b hq f6 f7 f8 hf => ?_) (fun hq => h0 (by unfold inb; rw [hq]) σ ⟨fun _ _ => rfl, fun _ _ _ _ => rfl⟩))
  have bd := pos_bd (hT t ht) hq
  have hv : inb (T t) P m = decide (P.1 * b ≤ X ∧ X ≤ P.2.1 * b ∧ P.2.2.1 * b ≤ Y ∧ Y ≤ P.2.2.2 * b) := by unfold inb; rw [hq]
  rw [f6, f8]
  have C1 := mul_bd (u := P.1) (v := b) (U := 2000) (W := 16) (by omega) (by omega)
  have C2 := mul_bd (u := P.2.1) (v := b) (U := 2000) (W := 16) (by omega) (by omega)
  have C3 := mul_bd (u := P.2.2.1) (v := b) (U := 2000) (W := 16) (by omega) (by omega)
  have C4 := mul_bd (u := P.2.2.2) (v := b) (U := 2000) (W := 16) (by omega) (by omega)
  have no : ¬ (P.1 * b ≤ X ∧ X ≤ P.2.1 * b ∧ P.2.2.1 * b ≤ Y ∧ Y ≤ P.2.2.2 * b) → B s2 := fun z => h0 (by rw [hv]; exact decide_eq_false z) s2 hf
  refine ⟨by omega, by omega, d_in (by omega) (by omega) (by omega) (fun z1 => ⟨by omega, by omega, ?_⟩) (fun z1 => no (by omega))⟩
  rw [f7, f8]
  exact d_in (by omega) (by omega) (by omega) (fun z2 => h1 (by rw [hv]; exact decide_eq_true (by omega)) s2 hf) (fun z2 => no (by omega))
theorem c_set {K : Mem → Prop} {p : Nat} (hp : isP p) (h : ∀ σ', plc σ' p P → (∀ c, c ≠ p → σ' c = σ c) → K σ') : CC m_X3_set [vR p, vI P.1, vI P.2.1, vI P.2.2.1, vI P.2.2.2] σ (PN K) := by
  refine e_X3_set p hp _ _ _ _ fun s1 e1 s3 e3 s5 e5 s7 e7 => h s7 ⟨?_, ?_, ?_, ?_⟩ fun c hc => ?_
  · rw [e7, up_o2 (by decide), e5, up_o2 (by decide), e3, up_o2 (by decide), e1, up_at]
  · rw [e7, up_o2 (by decide), e5, up_o2 (by decide), e3, up_at]
  · rw [e7, up_o2 (by decide), e5, up_at]
  · rw [e7, up_at]
  · rw [e7, up_cell hc, e5, up_cell hc, e3, up_cell hc, e1, up_cell hc]
end INP
/-! counting things -/
def ct (f : Nat → Bool) : Nat → Int
  | 0 => 0
  | n + 1 => ct f n + (if f n = true then 1 else 0)
theorem ct_bd (f : Nat → Bool) : ∀ n : Nat, 0 ≤ ct f n ∧ ct f n ≤ n
  | 0 => by simp [ct]
  | n + 1 => by
    have := ct_bd f n
    simp only [ct]
    split <;> omega
/-- the i-th of those that f says yes to, from t on, c being counted -/
def whoF (f : Nat → Bool) (g : Nat → Int) (i : Int) : Nat → Nat → Int → Int
  | 0, _, _ => -900009
  | k + 1, t, c => if f t = true then (if c = i then g t else whoF f g i k (t + 1) (c + 1)) else whoF f g i k (t + 1) c
section OPS2
variable {σ : Mem} {T : Nat → TV} {P : BX} {K : Int → Mem → Prop} {m : Int}
theorem c_inside40 (hm : 0 ≤ m ∧ m < 200) (hT : oks T) (hP : bxOK P) : ∀ (k t : Nat) (σ : Mem), t + k = 10 → CA σ T → plc σ 3 P → (∀ σ', cq σ σ' → K (ct (fun t => inb (T t) P m) 10) σ') → TT m_X9_inside 40 [vR 0, vU, vU, vU, vU, vI m, vI (ct (fun t => inb (T t) P m) t), vI (t : Int)] [] σ (PI K) := by
  intro k
  induction k with
  | zero =>
    intro t σ hk hC hpl hK
    have : t = 10 := by omega
    subst this
    exact w_X9_inside_40 _ _ _ ⟨by omega, fun _ => hK σ cq.rf, fun q => absurd q (by omega)⟩
  | succ k ih =>
    intro t σ hk hC hpl hK
    have e : ct (fun t => inb (T t) P m) (t + 1) = ct (fun t => inb (T t) P m) t + (if inb (T t) P m = true then 1 else 0) := rfl
    refine w_X9_inside_40 _ _ _ ⟨by omega, fun q => absurd q (by omega), fun q => ?_⟩
    refine c_isIn (Or.inl rfl) (by omega) hm hT hC hP hpl (fun hv σ' hf => ?_) (fun hv σ' hf => ?_)
    · have := ih (t + 1) σ' (by omega) (hC.cq (cq4 hf)) (by unfold plc; rw [hf 3 (by decide)]; exact hpl) (fun σ2 h2 => hK σ2 ((cq4 hf).tr h2))
      rw [e, if_pos hv] at this
      exact this
    · have := ih (t + 1) σ' (by omega) (hC.cq (cq4 hf)) (by unfold plc; rw [hf 3 (by decide)]; exact hpl) (fun σ2 h2 => hK σ2 ((cq4 hf).tr h2))
      rw [e, if_neg (by rw [hv]; decide), Int.add_zero] at this
      exact this
theorem d_inside34 (hm : 0 ≤ m ∧ m < 200) (hT : oks T) (hP : bxOK P) : ∀ (k t : Nat) (σ : Mem), t + k = 10 → MA σ T → (∀ σ', mq σ σ' → K (ct (fun t => inb (T t) P m) 10) σ') → TT m_X10_inside 34 [vR 80, vI P.1, vI P.2.1, vI P.2.2.1, vI P.2.2.2, vI m, vI (ct (fun t => inb (T t) P m) t), vI (t : Int)] [] σ (PI K) := by
  intro k
  induction k with
  | zero =>
    intro t σ hk hM hK
    have : t = 10 := by omega
    subst this
    exact w_X10_inside_34 _ _ _ _ _ _ _ ⟨by omega, fun _ => hK σ mq.rf, fun q => absurd q (by omega)⟩
  | succ k ih =>
    intro t σ hk hM hK
    have e : ct (fun t => inb (T t) P m) (t + 1) = ct (fun t => inb (T t) P m) t + (if inb (T t) P m = true then 1 else 0) := rfl
    refine w_X10_inside_34 _ _ _ _ _ _ _ ⟨by omega, fun q => absurd q (by omega), fun q => ?_⟩
    refine d_isIn (by omega) hm hT hM hP (fun hv σ' hf => ?_) (fun hv σ' hf => ?_)
    · have := ih (t + 1) σ' (by omega) (hM.mq hf.mq) (fun σ2 h2 => hK σ2 (hf.mq.tr h2))
      rw [e, if_pos hv] at this
      exact this
    · have := ih (t + 1) σ' (by omega) (hM.mq hf.mq) (fun σ2 h2 => hK σ2 (hf.mq.tr h2))
      rw [e, if_neg (by rw [hv]; decide)] at this
      exact this
theorem c_who40 {i : Int} (hi : R32 i) (hm : 0 ≤ m ∧ m < 200) (hT : oks T) (hP : bxOK P) : ∀ (k t : Nat) (c : Int) (σ : Mem), t + k = 10 → 0 ≤ c ∧ c ≤ t → CA σ T → plc σ 3 P → (∀ σ', cq σ σ' → K (whoF (fun t => inb (T t) P m) (fun t => (t : Int)) i k t c) σ') → TT m_X9_who 40 [vR 0, vU, vU, vU, vU, vI m, vI i, vI c, vI (t : Int)] [] σ (PI K) := by
  intro k
  induction k with
  | zero =>
    intro t c σ hk hc hC hpl hK
    exact w_X9_who_40 _ _ _ _ ⟨by omega, fun _ => hK σ cq.rf, fun q => absurd q (by omega)⟩
  | succ k ih =>
    intro t c σ hk hc hC hpl hK
    refine w_X9_who_40 _ _ _ _ ⟨by omega, fun q => absurd q (by omega), fun q => ?_⟩
    refine c_isIn (Or.inl rfl) (by omega) hm hT hC hP hpl (fun hv σ' hf => ⟨by omega, hi, fun z => ?_, fun z => ?_⟩) (fun hv σ' hf => ?_)
    · exact ih (t + 1) (c + 1) σ' (by omega) (by omega) (hC.cq (cq4 hf)) (by unfold plc; rw [hf 3 (by decide)]; exact hpl) (fun σ2 h2 => by
        have := hK σ2 ((cq4 hf).tr h2)
        simp only [whoF] at this
        rw [if_pos hv, if_neg z] at this
        exact this)
    · have := hK σ' (cq4 hf)
      simp only [whoF] at this
      rw [if_pos hv, if_pos z] at this
      exact this
    · exact ih (t + 1) c σ' (by omega) (by omega) (hC.cq (cq4 hf)) (by unfold plc; rw [hf 3 (by decide)]; exact hpl) (fun σ2 h2 => by
        have := hK σ2 ((cq4 hf).tr h2)
        simp only [whoF] at this
        rw [if_neg (by rw [hv]; decide)] at this
        exact this)
theorem d_who34 {i : Int} (hi : R32 i) (hm : 0 ≤ m ∧ m < 200) (hT : oks T) (hP : bxOK P) : ∀ (k t : Nat) (c : Int) (σ : Mem), t + k = 10 → 0 ≤ c ∧ c ≤ t → MA σ T → (∀ σ', mq σ σ' → K (whoF (fun t => inb (T t) P m) (fun t => (t : Int)) i k t c) σ') → TT m_X10_who 34 [vR 80, vI P.1, vI P.2.1, vI P.2.2.1, vI P.2.2.2, vI m, vI i, vI c, vI (t : Int)] [] σ (PI K) := by
  intro k
  induction k with
  | zero =>
    intro t c σ hk hc hM hK
    exact w_X10_who_34 _ _ _ _ _ _ _ _ ⟨by omega, fun _ => hK σ mq.rf, fun q => absurd q (by omega)⟩
  | succ k ih =>
    intro t c σ hk hc hM hK
    refine w_X10_who_34 _ _ _ _ _ _ _ _ ⟨by omega, fun q => absurd q (by omega), fun q => ?_⟩
    refine d_isIn (by omega) hm hT hM hP (fun hv σ' hf => ⟨by omega, hi, fun z => ?_, fun z => ?_⟩) (fun hv σ' hf => ?_)
    · exact ih (t + 1) (c + 1) σ' (by omega) (by omega) (hM.mq hf.mq) (fun σ2 h2 => by
        have := hK σ2 (hf.mq.tr h2)
        simp only [whoF] at this
        rw [if_pos hv, if_neg z] at this
        exact this)
    · have := hK σ' hf.mq
      simp only [whoF] at this
      rw [if_pos hv, if_pos z] at this
      exact this
    · exact ih (t + 1) c σ' (by omega) (by omega) (hM.mq hf.mq) (fun σ2 h2 => by
        have := hK σ2 (hf.mq.tr h2)
        simp only [whoF] at this
        rw [if_neg (by rw [hv]; decide)] at this
        exact this)
theorem whoF_bd {f : Nat → Bool} {g : Nat → Int} (hg : ∀ t, t < 10 → R32 (g t)) {i : Int} : ∀ (k t : Nat) (c : Int), t + k ≤ 10 → R32 (whoF f g i k t c)
  | 0, _, _, _ => by simp only [whoF]; decide
  | k + 1, t, c, h => by
    simp only [whoF]
    split
    · split
      · exact hg t (by omega)
      · exact whoF_bd hg k (t + 1) (c + 1) (by omega)
    · exact whoF_bd hg k (t + 1) c (by omega)
end OPS2
theorem cq3 {σ σ' : Mem} (h : ∀ c, c ≠ 3 → σ' c = σ c) : cq σ σ' := fun b hb => h b fun e => hb (by subst e; unfold cs; omega)
section OPS3
variable {σ : Mem} {T : Nat → TV} {K : Int → Int → Mem → Prop}
theorem op_inside {a b c d m : Int} (ha : R32 a) (hb : R32 b) (hc : R32 c) (hd : R32 d) (hm : R32 m) (hT : oks T) (hC : CA σ T) (hM : MA σ T) (hK : ∀ v σ', R32 v → qm σ σ' → K v v σ') :
    CC m_X9_inside [vR 0, vI a, vI b, vI c, vI d, vI m] σ (PI fun v s => CC m_X10_inside [vR 80, vI a, vI b, vI c, vI d, vI m] s (PI fun v2 s2 => K v v2 s2)) := by
  have no : ∀ s, cq σ s → ¬ ((spanOK a b ∧ spanOK c d) ∧ (0 ≤ m ∧ m < 200)) → CC m_X10_inside [vR 80, vI a, vI b, vI c, vI d, vI m] s (PI fun v2 s2 => K (-900002) v2 s2) := by
    intro s hs h
    exact e_X10_inside _ _ _ _ _ (d_isSpan ha hb (fun q1 => d_isSpan hc hd (fun q2 => d_isMinute hm (fun q3 => absurd ⟨⟨q1, q2⟩, q3⟩ h) (fun _ => hK _ _ (by decide) (qm_of hs mq.rf))) (fun _ => hK _ _ (by decide) (qm_of hs mq.rf))) (fun _ => hK _ _ (by decide) (qm_of hs mq.rf)))
  refine e_X9_inside _ _ _ _ _ (c_isPlace ha hb hc hd (fun q => c_isMinute hm (fun q2 => ?_) (fun q2 => no σ cq.rf fun z => q2 z.2)) (fun q => no σ cq.rf fun z => q z.1))
  refine c_set (P := (a, b, c, d)) (Or.inl rfl) fun s10 hpl hf => ?_
  have bd := ct_bd (fun t => inb (T t) (a, b, c, d) m) 10
  refine c_inside40 (P := (a, b, c, d)) q2 hT q 10 0 s10 rfl (hC.cq (cq3 hf)) hpl fun s hs => ?_
  have hcq := (cq3 hf).tr hs
  refine e_X10_inside _ _ _ _ _ (d_isSpan ha hb (fun _ => d_isSpan hc hd (fun _ => d_isMinute hm (fun _ => ?_) (fun z => absurd q2 z)) (fun z => absurd q.2 z)) (fun z => absurd q.1 z))
  exact d_inside34 (P := (a, b, c, d)) q2 hT q 10 0 s rfl (hM.cq hcq) fun s2 hs2 => hK _ _ (by omega) (qm_of hcq hs2)
theorem op_who {a b c d m i : Int} (ha : R32 a) (hb : R32 b) (hc : R32 c) (hd : R32 d) (hm : R32 m) (hi : R32 i) (hT : oks T) (hC : CA σ T) (hM : MA σ T) (hK : ∀ v σ', R32 v → qm σ σ' → K v v σ') :
    CC m_X9_who [vR 0, vI a, vI b, vI c, vI d, vI m, vI i] σ (PI fun v s => CC m_X10_who [vR 80, vI a, vI b, vI c, vI d, vI m, vI i] s (PI fun v2 s2 => K v v2 s2)) := by
  have no : ∀ s, cq σ s → ¬ ((spanOK a b ∧ spanOK c d) ∧ (0 ≤ m ∧ m < 200)) → CC m_X10_who [vR 80, vI a, vI b, vI c, vI d, vI m, vI i] s (PI fun v2 s2 => K (-900002) v2 s2) := by
    intro s hs h
    exact e_X10_who _ _ _ _ _ _ (d_isSpan ha hb (fun q1 => d_isSpan hc hd (fun q2 => d_isMinute hm (fun q3 => absurd ⟨⟨q1, q2⟩, q3⟩ h) (fun _ => hK _ _ (by decide) (qm_of hs mq.rf))) (fun _ => hK _ _ (by decide) (qm_of hs mq.rf))) (fun _ => hK _ _ (by decide) (qm_of hs mq.rf)))
  refine e_X9_who _ _ _ _ _ _ (c_isPlace ha hb hc hd (fun q => c_isMinute hm (fun q2 => ?_) (fun q2 => no σ cq.rf fun z => q2 z.2)) (fun q => no σ cq.rf fun z => q z.1))
  refine c_set (P := (a, b, c, d)) (Or.inl rfl) fun s10 hpl hf => ?_
  have bd := whoF_bd (f := fun t => inb (T t) (a, b, c, d) m) (g := fun t => (t : Int)) (fun t ht => by omega) (i := i) 10 0 0 (by omega)
  refine c_who40 (P := (a, b, c, d)) hi q2 hT q 10 0 0 s10 rfl (by omega) (hC.cq (cq3 hf)) hpl fun s hs => ?_
  have hcq := (cq3 hf).tr hs
  refine e_X10_who _ _ _ _ _ _ (d_isSpan ha hb (fun _ => d_isSpan hc hd (fun _ => d_isMinute hm (fun _ => ?_) (fun z => absurd q2 z)) (fun z => absurd q.2 z)) (fun z => absurd q.1 z))
  exact d_who34 (P := (a, b, c, d)) hi q2 hT q 10 0 0 s rfl (by omega) (hM.cq hcq) fun s2 hs2 => hK _ _ bd (qm_of hcq hs2)
end OPS3
