/-! stands and the minute that is now -/
def bx9 (σ : Mem) (s : Nat) : BX := (σ (74 + s) 0, σ (74 + s) 1, σ (74 + s) 2, σ (74 + s) 3)
def SPP (σ : Mem) : Prop := (0 ≤ σ 0 11 ∧ σ 0 11 ≤ 6) ∧ σ 80 30 = σ 0 11 ∧ ∀ s : Nat, (s : Int) < σ 0 11 → bxOK (bx9 σ s) ∧ σ 100 (4 * s) = σ (74 + s) 0 ∧ σ 100 (4 * s + 1) = σ (74 + s) 1 ∧ σ 100 (4 * s + 2) = σ (74 + s) 2 ∧ σ 100 (4 * s + 3) = σ (74 + s) 3
def NOW (σ : Mem) : Prop := (0 ≤ σ 0 13 ∧ σ 0 13 < 200) ∧ σ 80 29 = σ 0 13
theorem SPP.sam {σ σ' : Mem} (h : SPP σ) (h0 : σ' 0 11 = σ 0 11) (h8 : σ' 80 30 = σ 80 30) (hb : ∀ b, ((74 ≤ b ∧ b < 80) ∨ b = 100) → σ' b = σ b) : SPP σ' := by
  obtain ⟨a, b, c⟩ := h
  refine ⟨by rw [h0]; exact a, by rw [h0, h8]; exact b, fun s hs => ?_⟩
  rw [h0] at hs
  unfold bx9
  rw [hb (74 + s) (by omega), hb 100 (by omega)]
  exact c s hs
theorem SPP.qm {σ σ' : Mem} (h : SPP σ) (hq : qm σ σ') : SPP σ' := h.sam (by rw [hq.1 0 (by unfold cs; omega) (by omega)]) hq.2.2.2 fun b hb => hq.1 b (by unfold cs; omega) (by omega)
theorem SPP.wq {σ σ' : Mem} (h : SPP σ) (hq : wq σ σ') : SPP σ' := h.sam hq.2.1 hq.2.2.2.2 hq.1
theorem NOW.qm {σ σ' : Mem} (h : NOW σ) (hq : qm σ σ') : NOW σ' := by
  unfold NOW
  rw [hq.1 0 (by unfold cs; omega) (by omega), hq.2.2.1]
  exact h
theorem NOW.wq {σ σ' : Mem} (h : NOW σ) (hq : wq σ σ') : NOW σ' := by
  unfold NOW
  rw [hq.2.2.1, hq.2.2.2.1]
  exact h
theorem SPP.kq {σ σ' : Mem} (h : SPP σ) (hq : kq σ σ') : SPP σ' := h.sam (by rw [hq 0 (by omega) (by decide)]) (by rw [hq 80 (by omega) (by decide)]) fun b hb => hq b (by omega) (by omega)
theorem NOW.kq {σ σ' : Mem} (h : NOW σ) (hq : kq σ σ') : NOW σ' := by
  unfold NOW
  rw [hq 0 (by omega) (by decide), hq 80 (by omega) (by decide)]
  exact h
def inP (V : TV) (P : BX) (m : Int) : Bool := if m < 0 then false else inb V P m
def chgB (V : TV) (P : BX) (m : Int) : Bool := inP V P (m - 1) != inb V P m
/-- the first minute from m on where f is not b -/
def fst9 (f : Nat → Bool) (b : Bool) : Nat → Nat → Nat
  | 0, m => m
  | k + 1, m => if f m = b then fst9 f b k (m + 1) else m
theorem fst9_bd (f : Nat → Bool) (b : Bool) : ∀ k m : Nat, m ≤ fst9 f b k m ∧ fst9 f b k m ≤ m + k
  | 0, m => ⟨Nat.le_refl _, Nat.le_refl _⟩
  | k + 1, m => by
    have := fst9_bd f b k (m + 1)
    unfold fst9
    split <;> omega
section STANDS
variable {σ : Mem} {T : Nat → TV} {P : BX} {A B : Mem → Prop} {m : Int} {p t : Nat}
theorem c_isChange (hp : isP p) (ht : t < 10) (hm : 0 ≤ m ∧ m < 200) (hT : oks T) (hC : CA σ T) (hP : bxOK P) (hpl : plc σ p P) (h1 : chgB (T t) P m = true → ∀ σ', (∀ c, c ≠ 4 → σ' c = σ c) → A σ') (h0 : chgB (T t) P m = false → ∀ σ', (∀ c, c ≠ 4 → σ' c = σ c) → B σ') : CC m_X9_isChange [vR 0, vR p, vI (t : Int), vI m] σ (PZ A B) := by
  have hp4 : p ≠ 4 := by rcases hp with rfl | ⟨k, hk, rfl⟩ <;> omega
  have second : ∀ (b : Bool) (w : Int) (s : Mem), b = inP (T t) P (m - 1) → w = (if b = true then 1 else 0) → (∀ c, c ≠ 4 → s c = σ c) → TT m_X9_isChange 21 [vR 0, vR p, vI (t : Int), vI m, vU] [vI w] s (PZ A B) := by
    intro b w s hb hw hf
    refine w_X9_isChange_21 p hp _ _ _ ?_
    have hw2 : R32 w := by rw [hw]; split <;> decide
    refine c_isIn hp ht hm hT (hC.cq (cq4 hf)) hP (by unfold plc; rw [hf p hp4]; exact hpl) (fun hv s9 f9 => ⟨hw2, fun z => ?_, fun z => ?_⟩) (fun hv s9 f9 => ⟨hw2, fun z => ?_, fun z => ?_⟩)
    all_goals (first | refine h0 ?_ s9 fun c hc => by rw [f9 c hc, hf c hc] | refine h1 ?_ s9 fun c hc => by rw [f9 c hc, hf c hc])
    all_goals (unfold chgB; rw [← hb, hv]; cases b <;> simp_all)
  refine e_X9_isChange p hp _ _ ⟨by omega, fun z => ?_, fun z => ?_⟩
  · exact second false 0 σ (by unfold inP; rw [if_pos (by omega)]) rfl fun _ _ => rfl
  · refine c_isIn hp ht (by omega) hT hC hP hpl (fun hv s f => ?_) (fun hv s f => ?_)
    · exact second true 1 s (by unfold inP; rw [if_neg (by omega), hv]) rfl f
    · exact second false 0 s (by unfold inP; rw [if_neg (by omega), hv]) rfl f
theorem d_inS {s : Nat} (hs : (s : Int) < σ 0 11) (hS : SPP σ) (ht : t < 10) (hm : -1 ≤ m ∧ m < 200) (hT : oks T) (hM : MA σ T) (h1 : inP (T t) (bx9 σ s) m = true → ∀ σ', mf σ σ' → A σ') (h0 : inP (T t) (bx9 σ s) m = false → ∀ σ', mf σ σ' → B σ') : CC m_X10_isInStand [vR 80, vI (s : Int), vI (t : Int), vI m] σ (PZ A B) := by
  obtain ⟨a, b, c⟩ := hS
  obtain ⟨c0, c1, c2, c3, c4⟩ := c s hs
  refine e_X10_isInStand _ _ _ ?_
  have e0 : (4 * (s : Int)).toNat = 4 * s := by omega
  have e1 : (4 * (s : Int) + 1).toNat = 4 * s + 1 := by omega
  have e2 : (4 * (s : Int) + 2).toNat = 4 * s + 2 := by omega
  have e3 : (4 * (s : Int) + 3).toNat = 4 * s + 3 := by omega
  rw [e0, e1, e2, e3, c1, c2, c3, c4]
  refine ⟨by omega, fun z => h0 (by unfold inP; rw [if_pos z]) σ ⟨fun _ _ => rfl, fun _ _ _ _ => rfl⟩, fun z => ⟨by omega, by omega, by omega, by omega, ?_⟩⟩
  refine d_isIn (P := bx9 σ s) ht (by omega) hT hM c0 (fun hv => h1 (by unfold inP; rw [if_neg z]; exact hv)) (fun hv => h0 (by unfold inP; rw [if_neg z]; exact hv))
/-- the same stands after the reference asked -/
theorem SPP.mf {σ σ' : Mem} (h : SPP σ) (hf : mf σ σ') : SPP σ' := h.sam (by rw [hf.1 0 (by decide)]) (hf.2 30 (by decide) (by decide) (by decide)) fun b hb => hf.1 b (by omega)
theorem bx9_mf {σ σ' : Mem} {s : Nat} (hs : s < 6) (hf : mf σ σ') : bx9 σ' s = bx9 σ s := by unfold bx9; rw [hf.1 (74 + s) (by omega)]
theorem mf.tr {σ σ' σ'' : Mem} (h : mf σ σ') (h2 : mf σ' σ'') : mf σ σ'' := ⟨fun b hb => (h2.1 b hb).trans (h.1 b hb), fun i a b c => (h2.2 i a b c).trans (h.2 i a b c)⟩
/-- the reference asks whether a thing came or went -/
theorem d_chg {s : Nat} {X Y Z : Mem → Prop} (hs : (s : Int) < σ 0 11) (hS : SPP σ) (ht : t < 10) (hm : 0 ≤ m ∧ m < 200) (hT : oks T) (hM : MA σ T) (h1 : ∀ σ', mf σ σ' → chgB (T t) (bx9 σ s) m = true → inb (T t) (bx9 σ s) m = true → X σ') (h2 : ∀ σ', mf σ σ' → chgB (T t) (bx9 σ s) m = true → inb (T t) (bx9 σ s) m = false → Y σ') (h0 : ∀ σ', mf σ σ' → chgB (T t) (bx9 σ s) m = false → Z σ') : CC m_X10_isInStand [vR 80, vI (s : Int), vI (t : Int), vI m] σ (PZ (fun s8 => CC m_X10_isInStand [vR 80, vI (s : Int), vI (t : Int), vI (m - 1)] s8 (PZ (fun s11 => Z s11) (fun s12 => X s12))) (fun s9 => CC m_X10_isInStand [vR 80, vI (s : Int), vI (t : Int), vI (m - 1)] s9 (PZ (fun s16 => Y s16) (fun s17 => Z s17)))) := by
  have h6 : s < 6 := by have := hS.1; omega
  have ei : inP (T t) (bx9 σ s) m = inb (T t) (bx9 σ s) m := by unfold inP; rw [if_neg (by omega)]
  have nxt : ∀ s8, mf σ s8 → ∀ (A' B' : Mem → Prop), (inP (T t) (bx9 σ s) (m - 1) = true → ∀ σ', mf σ σ' → A' σ') → (inP (T t) (bx9 σ s) (m - 1) = false → ∀ σ', mf σ σ' → B' σ') → CC m_X10_isInStand [vR 80, vI (s : Int), vI (t : Int), vI (m - 1)] s8 (PZ A' B') := by
    intro s8 hf A' B' ha hb
    refine d_inS (by rw [hf.1 0 (by decide)]; exact hs) (hS.mf hf) ht (by omega) hT (hM.mq hf.mq) ?_ ?_
    · rw [bx9_mf h6 hf]; exact fun z σ' f => ha z σ' (hf.tr f)
    · rw [bx9_mf h6 hf]; exact fun z σ' f => hb z σ' (hf.tr f)
  refine d_inS hs hS ht (by omega) hT hM ?_ ?_
  · rw [ei]
    intro hv s8 f8
    exact nxt s8 f8 _ _ (fun z σ' f => h0 σ' f (by unfold chgB; rw [z, hv]; rfl)) (fun z σ' f => h1 σ' f (by unfold chgB; rw [z, hv]; rfl) hv)
  · rw [ei]
    intro hv s8 f8
    exact nxt s8 f8 _ _ (fun z σ' f => h2 σ' f (by unfold chgB; rw [z, hv]; rfl) hv) (fun z σ' f => h0 σ' f (by unfold chgB; rw [z, hv]; rfl))
end STANDS
theorem stdN (s : Nat) : std (s : Int) = 74 + s := by unfold std; omega
section STANDL
variable {T : Nat → TV} {P : BX} {m : Int} {s : Nat}
theorem c_changes19 {K : Int → Mem → Prop} (h6 : s < 6) (hm : 0 ≤ m ∧ m < 200) (hT : oks T) (hP : bxOK P) : ∀ (k t : Nat) (σ : Mem), t + k = 10 → CA σ T → plc σ (74 + s) P → (∀ σ', (∀ c, c ≠ 4 → σ' c = σ c) → K (ct (fun t => chgB (T t) P m) 10) σ') → TT m_X9_changes 19 [vR 0, vI (s : Int), vI m, vU, vI (ct (fun t => chgB (T t) P m) t), vI (t : Int)] [] σ (PI K) := by
  intro k
  induction k with
  | zero =>
    intro t σ hk hC hpl hK
    have : t = 10 := by omega
    subst this
    exact w_X9_changes_19 _ _ _ _ ⟨by omega, fun _ => hK σ fun _ _ => rfl, fun q => absurd q (by omega)⟩
  | succ k ih =>
    intro t σ hk hC hpl hK
    have e : ct (fun t => chgB (T t) P m) (t + 1) = ct (fun t => chgB (T t) P m) t + (if chgB (T t) P m = true then 1 else 0) := rfl
    refine w_X9_changes_19 _ _ _ _ ⟨by omega, fun q => absurd q (by omega), fun q => ⟨by omega, ?_⟩⟩
    rw [stdN]
    refine c_isChange (Or.inr ⟨s, h6, rfl⟩) (by omega) hm hT hC hP hpl (fun hv σ' hf => ?_) (fun hv σ' hf => ?_)
    · have := ih (t + 1) σ' (by omega) (hC.cq (cq4 hf)) (by unfold plc; rw [hf (74 + s) (by omega)]; exact hpl) (fun σ2 h2 => hK σ2 fun c hc => by rw [h2 c hc, hf c hc])
      rw [e, if_pos hv] at this
      exact this
    · have := ih (t + 1) σ' (by omega) (hC.cq (cq4 hf)) (by unfold plc; rw [hf (74 + s) (by omega)]; exact hpl) (fun σ2 h2 => hK σ2 fun c hc => by rw [h2 c hc, hf c hc])
      rw [e, if_neg (by rw [hv]; decide), Int.add_zero] at this
      exact this
theorem d_changes19 {K : Int → Mem → Prop} (hm : 0 ≤ m ∧ m < 200) (hT : oks T) : ∀ (k t : Nat) (σ : Mem), t + k = 10 → (s : Int) < σ 0 11 → SPP σ → bx9 σ s = P → MA σ T → (∀ σ', mf σ σ' → K (ct (fun t => chgB (T t) P m) 10) σ') → TT m_X10_changes 19 [vR 80, vI (s : Int), vI m, vU, vI (ct (fun t => chgB (T t) P m) t), vI (t : Int)] [] σ (PI K) := by
  intro k
  induction k with
  | zero =>
    intro t σ hk hs hS hP hM hK
    have : t = 10 := by omega
    subst this
    exact w_X10_changes_19 _ _ _ _ ⟨by omega, fun _ => hK σ ⟨fun _ _ => rfl, fun _ _ _ _ => rfl⟩, fun q => absurd q (by omega)⟩
  | succ k ih =>
    intro t σ hk hs hS hP hM hK
    have h6 : s < 6 := by have := hS.1; omega
    have e : ct (fun t => chgB (T t) P m) (t + 1) = ct (fun t => chgB (T t) P m) t + (if chgB (T t) P m = true then 1 else 0) := rfl
    have nx : ∀ (b : Bool) (σ' : Mem), mf σ σ' → chgB (T t) P m = b → TT m_X10_changes 19 [vR 80, vI (s : Int), vI m, vU, vI (ct (fun t => chgB (T t) P m) t + (if b = true then 1 else 0)), vI ((t : Int) + 1)] [] σ' (PI K) := by
      intro b σ' hf hb
      have := ih (t + 1) σ' (by omega) (by rw [hf.1 0 (by decide)]; exact hs) (hS.mf hf) (by rw [bx9_mf h6 hf]; exact hP) (hM.mq hf.mq) (fun σ2 h2 => hK σ2 (hf.tr h2))
      rw [e, hb] at this
      exact this
    refine w_X10_changes_19 _ _ _ _ ⟨by omega, fun q => absurd q (by omega), fun q => ?_⟩
    refine d_chg hs hS (by omega) hm hT hM ?_ ?_ ?_
    · rw [hP]; exact fun σ' hf hc _ => nx true σ' hf hc
    · rw [hP]; exact fun σ' hf hc _ => nx true σ' hf hc
    · rw [hP]; exact fun σ' hf hc => nx false σ' hf hc
theorem c_change22 {K : Int → Mem → Prop} {i : Int} (hi : R32 i) (h6 : s < 6) (hm : 0 ≤ m ∧ m < 200) (hT : oks T) (hP : bxOK P) : ∀ (k t : Nat) (c : Int) (σ : Mem), t + k = 10 → 0 ≤ c ∧ c ≤ t → CA σ T → plc σ (74 + s) P → (∀ σ', (∀ c, c ≠ 4 → σ' c = σ c) → K (whoF (fun t => chgB (T t) P m) (fun t => if inb (T t) P m = true then (t : Int) + 100 else (t : Int)) i k t c) σ') → TT m_X9_change 22 [vR 0, vI (s : Int), vI m, vI i, vU, vI c, vI (t : Int)] [] σ (PI K) := by
  intro k
  induction k with
  | zero =>
    intro t c σ hk hc hC hpl hK
    exact w_X9_change_22 _ _ _ _ _ ⟨by omega, fun _ => hK σ fun _ _ => rfl, fun q => absurd q (by omega)⟩
  | succ k ih =>
    intro t c σ hk hc hC hpl hK
    refine w_X9_change_22 _ _ _ _ _ ⟨by omega, fun q => absurd q (by omega), fun q => ⟨by omega, ?_⟩⟩
    rw [stdN]
    have pl : ∀ σ', (∀ c, c ≠ 4 → σ' c = σ c) → plc σ' (74 + s) P := fun σ' hf => by unfold plc; rw [hf (74 + s) (by omega)]; exact hpl
    refine c_isChange (Or.inr ⟨s, h6, rfl⟩) (by omega) hm hT hC hP hpl (fun hv σ' hf => ⟨by omega, hi, fun z => ?_, fun z => ?_⟩) (fun hv σ' hf => ?_)
    · exact ih (t + 1) (c + 1) σ' (by omega) (by omega) (hC.cq (cq4 hf)) (pl σ' hf) (fun σ2 h2 => by
        have := hK σ2 fun c hc => by rw [h2 c hc, hf c hc]
        simp only [whoF] at this
        rw [if_pos hv, if_neg z] at this
        exact this)
    · refine c_isIn (Or.inr ⟨s, h6, rfl⟩) (by omega) hm hT (hC.cq (cq4 hf)) hP (pl σ' hf) (fun hv2 σ2 hf2 => ?_) (fun hv2 σ2 hf2 => ?_)
      · have := hK σ2 fun c hc => by rw [hf2 c hc, hf c hc]
        simp only [whoF] at this
        rw [if_pos hv, if_pos z, if_pos hv2] at this
        exact this
      · have := hK σ2 fun c hc => by rw [hf2 c hc, hf c hc]
        simp only [whoF] at this
        rw [if_pos hv, if_pos z, if_neg (by rw [hv2]; decide)] at this
        exact this
    · exact ih (t + 1) c σ' (by omega) (by omega) (hC.cq (cq4 hf)) (pl σ' hf) (fun σ2 h2 => by
        have := hK σ2 fun c hc => by rw [h2 c hc, hf c hc]
        simp only [whoF] at this
        rw [if_neg (by rw [hv]; decide)] at this
        exact this)
theorem d_change22 {K : Int → Mem → Prop} {i : Int} (hi : R32 i) (hm : 0 ≤ m ∧ m < 200) (hT : oks T) : ∀ (k t : Nat) (c : Int) (σ : Mem), t + k = 10 → 0 ≤ c ∧ c ≤ t → (s : Int) < σ 0 11 → SPP σ → bx9 σ s = P → MA σ T → (∀ σ', mf σ σ' → K (whoF (fun t => chgB (T t) P m) (fun t => if inb (T t) P m = true then (t : Int) + 100 else (t : Int)) i k t c) σ') → TT m_X10_change 22 [vR 80, vI (s : Int), vI m, vI i, vU, vI c, vI (t : Int), vU] [] σ (PI K) := by
  intro k
  induction k with
  | zero =>
    intro t c σ hk hc hs hS hP hM hK
    exact w_X10_change_22 _ _ _ _ _ ⟨by omega, fun _ => hK σ ⟨fun _ _ => rfl, fun _ _ _ _ => rfl⟩, fun q => absurd q (by omega)⟩
  | succ k ih =>
    intro t c σ hk hc hs hS hP hM hK
    have h6 : s < 6 := by have := hS.1; omega
    have nx : ∀ (c2 : Int) (σ' : Mem), mf σ σ' → 0 ≤ c2 ∧ c2 ≤ (t : Int) + 1 → (whoF (fun t => chgB (T t) P m) (fun t => if inb (T t) P m = true then (t : Int) + 100 else (t : Int)) i (k + 1) t c = whoF (fun t => chgB (T t) P m) (fun t => if inb (T t) P m = true then (t : Int) + 100 else (t : Int)) i k (t + 1) c2) → TT m_X10_change 22 [vR 80, vI (s : Int), vI m, vI i, vU, vI c2, vI ((t : Int) + 1), vU] [] σ' (PI K) := by
      intro c2 σ' hf hc2 he
      rw [he] at hK
      exact ih (t + 1) c2 σ' (by omega) (by omega) (by rw [hf.1 0 (by decide)]; exact hs) (hS.mf hf) (by rw [bx9_mf h6 hf]; exact hP) (hM.mq hf.mq) (fun σ2 h2 => hK σ2 (hf.tr h2))
    refine w_X10_change_22 _ _ _ _ _ ⟨by omega, fun q => absurd q (by omega), fun q => ?_⟩
    refine d_chg (X := fun s12 => R32 c ∧ R32 i ∧ ((¬ c = i → TT m_X10_change 22 [vR 80, vI (s : Int), vI m, vI i, vU, vI (c + 1), vI ((t : Int) + 1), vU] [] s12 (PI K)) ∧ (c = i → K (100 + (t : Int)) s12))) (Y := fun s20 => R32 c ∧ R32 i ∧ ((¬ c = i → TT m_X10_change 22 [vR 80, vI (s : Int), vI m, vI i, vU, vI (c + 1), vI ((t : Int) + 1), vU] [] s20 (PI K)) ∧ (c = i → K (t : Int) s20))) (Z := fun s11 => TT m_X10_change 22 [vR 80, vI (s : Int), vI m, vI i, vU, vI c, vI ((t : Int) + 1), vU] [] s11 (PI K)) hs hS (by omega) hm hT hM ?_ ?_ ?_
    · rw [hP]
      intro σ' hf hc1 hv
      refine ⟨by omega, hi, fun z => nx (c + 1) σ' hf (by omega) (by simp only [whoF]; rw [if_pos hc1, if_neg z]), fun z => ?_⟩
      have := hK σ' hf
      simp only [whoF] at this
      rw [if_pos hc1, if_pos z, if_pos hv, Int.add_comm] at this
      exact this
    · rw [hP]
      intro σ' hf hc1 hv
      refine ⟨by omega, hi, fun z => nx (c + 1) σ' hf (by omega) (by simp only [whoF]; rw [if_pos hc1, if_neg z]), fun z => ?_⟩
      have := hK σ' hf
      simp only [whoF] at this
      rw [if_pos hc1, if_pos z, if_neg (by rw [hv]; decide)] at this
      exact this
    · rw [hP]
      intro σ' hf hc1
      exact nx c σ' hf (by omega) (by simp only [whoF]; rw [if_neg (by rw [hc1]; decide)])
theorem c_still45 {K : Int → Mem → Prop} {t n : Nat} {b : Bool} {x3 : Int} (hb : x3 = if b = true then 1 else 0) (ht : t < 10) (h6 : s < 6) (hT : oks T) (hP : bxOK P) : ∀ (k m : Nat) (σ : Mem), m + k = 200 → n < m → CA σ T → plc σ (74 + s) P → (∀ σ', (∀ c, c ≠ 4 → σ' c = σ c) → K ((fst9 (fun m => inb (T t) P (m : Int)) b k m : Int) - n - 1) σ') → TT m_X9_still 45 [vR 0, vI (s : Int), vI (t : Int), vI x3, vI ((m : Int) - n - 1), vI (m : Int)] [] σ (PI K) := by
  intro k
  have h3 : R32 x3 := by rw [hb]; split <;> decide
  induction k with
  | zero =>
    intro m σ hk hn hC hpl hK
    exact w_X9_still_45 _ _ _ _ _ ⟨by omega, fun _ => hK σ fun _ _ => rfl, fun q => absurd q (by omega)⟩
  | succ k ih =>
    intro m σ hk hn hC hpl hK
    refine w_X9_still_45 _ _ _ _ _ ⟨by omega, fun q => absurd q (by omega), fun q => ⟨by omega, ?_⟩⟩
    rw [stdN]
    have go : inb (T t) P (m : Int) = b → ∀ σ', (∀ c, c ≠ 4 → σ' c = σ c) → TT m_X9_still 45 [vR 0, vI (s : Int), vI (t : Int), vI x3, vI ((m : Int) - n - 1 + 1), vI ((m : Int) + 1)] [] σ' (PI K) := by
      intro hv σ' hf
      have := ih (m + 1) σ' (by omega) (by omega) (hC.cq (cq4 hf)) (by unfold plc; rw [hf (74 + s) (by omega)]; exact hpl) (fun σ2 h2 => by
        have := hK σ2 fun c hc => by rw [h2 c hc, hf c hc]
        simp only [fst9] at this
        rw [if_pos hv] at this
        exact this)
      rw [show ((m + 1 : Nat) : Int) - n - 1 = (m : Int) - n - 1 + 1 by omega] at this
      exact this
    have stop : ¬ inb (T t) P (m : Int) = b → ∀ σ', (∀ c, c ≠ 4 → σ' c = σ c) → K ((m : Int) - n - 1) σ' := by
      intro hv σ' hf
      have := hK σ' hf
      simp only [fst9] at this
      rw [if_neg hv] at this
      exact this
    refine c_isIn (Or.inr ⟨s, h6, rfl⟩) ht (by omega) hT hC hP hpl (fun hv σ' hf => ⟨h3, fun z => go ?_ σ' hf, fun z => stop ?_ σ' hf⟩) (fun hv σ' hf => ⟨h3, fun z => go ?_ σ' hf, fun z => stop ?_ σ' hf⟩)
    all_goals (rw [hv]; rw [hb] at z; cases b <;> simp at z ⊢)
theorem d_still45 {K : Int → Mem → Prop} {t n : Nat} {b : Bool} {x3 : Int} (hb : x3 = if b = true then 1 else 0) (ht : t < 10) (hT : oks T) : ∀ (k m : Nat) (σ : Mem), m + k = 200 → n < m → σ 80 29 = (n : Int) → (s : Int) < σ 0 11 → SPP σ → bx9 σ s = P → MA σ T → (∀ σ', mf σ σ' → K ((fst9 (fun m => inb (T t) P (m : Int)) b k m : Int) - n - 1) σ') → TT m_X10_still 45 [vR 80, vI (s : Int), vI (t : Int), vI x3, vI (m : Int)] [] σ (PI K) := by
  intro k
  have h3 : R32 x3 := by rw [hb]; split <;> decide
  induction k with
  | zero =>
    intro m σ hk hn h29 hs hS hP hM hK
    have := hK σ ⟨fun _ _ => rfl, fun _ _ _ _ => rfl⟩
    refine w_X10_still_45 _ _ _ _ ⟨by omega, fun _ => ?_, fun q => absurd q (by omega)⟩
    rw [h29, show (m : Int) - 1 - n = (m : Int) - n - 1 by omega]
    exact this
  | succ k ih =>
    intro m σ hk hn h29 hs hS hP hM hK
    have h6 : s < 6 := by have := hS.1; omega
    have ei : inP (T t) P (m : Int) = inb (T t) P (m : Int) := by unfold inP; rw [if_neg (by omega)]
    refine w_X10_still_45 _ _ _ _ ⟨by omega, fun q => absurd q (by omega), fun q => ?_⟩
    have go : inb (T t) P (m : Int) = b → ∀ σ', mf σ σ' → TT m_X10_still 45 [vR 80, vI (s : Int), vI (t : Int), vI x3, vI ((m : Int) + 1)] [] σ' (PI K) := by
      intro hv σ' hf
      exact ih (m + 1) σ' (by omega) (by omega) (by rw [hf.2 29 (by decide) (by decide) (by decide)]; exact h29) (by rw [hf.1 0 (by decide)]; exact hs) (hS.mf hf) (by rw [bx9_mf h6 hf]; exact hP) (hM.mq hf.mq) (fun σ2 h2 => by
        have := hK σ2 (hf.tr h2)
        simp only [fst9] at this
        rw [if_pos hv] at this
        exact this)
    have stop : ¬ inb (T t) P (m : Int) = b → ∀ σ', mf σ σ' → K ((m : Int) - 1 - σ' 80 29) σ' := by
      intro hv σ' hf
      have := hK σ' hf
      simp only [fst9] at this
      rw [if_neg hv] at this
      rw [hf.2 29 (by decide) (by decide) (by decide), h29, show (m : Int) - 1 - n = (m : Int) - n - 1 by omega]
      exact this
    refine d_inS hs hS ht (by omega) hT hM ?_ ?_
    · rw [hP, ei]
      refine fun hv σ' hf => ⟨h3, fun z => stop ?_ σ' hf, fun z => go ?_ σ' hf⟩
      all_goals (rw [hv]; rw [hb] at z; cases b <;> simp at z ⊢)
    · rw [hP, ei]
      refine fun hv σ' hf => ⟨h3, fun z => stop ?_ σ' hf, fun z => go ?_ σ' hf⟩
      all_goals (rw [hv]; rw [hb] at z; cases b <;> simp at z ⊢)
end STANDL
section STANDO
variable {σ : Mem} {T : Nat → TV} {K : Int → Int → Mem → Prop}
theorem d_mayChange {K : Int → Mem → Prop} {s m : Int} (hs : R32 s) (hm : R32 m) (hn : R32 (σ 80 30 - 1)) (h1 : (0 ≤ s ∧ s < σ 80 30) → (0 ≤ m ∧ m < 200) → K 0 σ) (h2 : ¬ (0 ≤ s ∧ s < σ 80 30) → K (-900001) σ) (h3 : (0 ≤ s ∧ s < σ 80 30) → ¬ (0 ≤ m ∧ m < 200) → K (-900002) σ) : CC m_X10_mayChange [vR 80, vI s, vI m] σ (PI K) :=
  e_X10_mayChange s m ⟨hs, hn, d_in (r64 hs) (by decide) (r64 hn) (fun q => d_isMinute hm (fun q2 => h1 (by omega) q2) (fun q2 => h3 (by omega) q2)) (fun q => h2 (by omega))⟩
theorem op_changes {s m : Int} (hs : R32 s) (hm : R32 m) (hT : oks T) (hC : CA σ T) (hM : MA σ T) (hS : SPP σ) (hK : ∀ v σ', R32 v → qm σ σ' → K v v σ') :
    CC m_X9_changes [vR 0, vI s, vI m] σ (PI fun v s' => CC m_X10_changes [vR 80, vI s, vI m] s' (PI fun v2 s2 => K v v2 s2)) := by
  have s1 := hS.1
  have s2 := hS.2.1
  refine e_X9_changes _ _ (c_refuseChange hs hm (by omega) (fun q q2 => ⟨by decide, fun _ => ?_, fun z => absurd rfl z⟩) (fun q => ⟨by decide, fun z => absurd z (by decide), fun _ => ?_⟩) (fun q q2 => ⟨by decide, fun z => absurd z (by decide), fun _ => ?_⟩))
  · obtain ⟨i, rfl, hi⟩ := nat_of q
    have bd := ct_bd (fun t => chgB (T t) (bx9 σ i) m) 10
    refine c_changes19 (P := bx9 σ i) (by omega) q2 hT (hS.2.2 i hi).1 10 0 σ rfl hC ⟨rfl, rfl, rfl, rfl⟩ fun s' hf => ?_
    have hS' : SPP s' := hS.sam (by rw [hf 0 (by decide)]) (by rw [hf 80 (by decide)]) fun b hb => hf b (by omega)
    have h0 : s' 0 11 = σ 0 11 := by rw [hf 0 (by decide)]
    have h8 : s' 80 30 = σ 80 30 := by rw [hf 80 (by decide)]
    refine e_X10_changes _ _ (d_mayChange hs hm (by omega) (fun _ _ => ⟨by decide, fun _ => ?_, fun z => absurd (by decide) z⟩) (fun z => absurd (by omega) z) (fun _ z => absurd q2 z))
    refine d_changes19 (P := bx9 σ i) q2 hT 10 0 s' rfl (by omega) hS' (by unfold bx9; rw [hf (74 + i) (by omega)]) (hM.cq (cq4 hf)) fun s2 hf2 => hK _ _ (by omega) (qm_of (cq4 hf) hf2.mq)
  · exact e_X10_changes _ _ (d_mayChange hs hm (by omega) (fun z _ => absurd (by omega) q) (fun _ => ⟨by decide, fun z => absurd z (by decide), fun _ => hK _ _ (by decide) (qm_of cq.rf mq.rf)⟩) (fun z _ => absurd (by omega) q))
  · exact e_X10_changes _ _ (d_mayChange hs hm (by omega) (fun _ z => absurd z q2) (fun z => absurd (by omega) z) (fun _ _ => ⟨by decide, fun z => absurd z (by decide), fun _ => hK _ _ (by decide) (qm_of cq.rf mq.rf)⟩))
theorem op_change {s m i : Int} (hs : R32 s) (hm : R32 m) (hi : R32 i) (hT : oks T) (hC : CA σ T) (hM : MA σ T) (hS : SPP σ) (hK : ∀ v σ', R32 v → qm σ σ' → K v v σ') :
    CC m_X9_change [vR 0, vI s, vI m, vI i] σ (PI fun v s' => CC m_X10_change [vR 80, vI s, vI m, vI i] s' (PI fun v2 s2 => K v v2 s2)) := by
  have s1 := hS.1
  have s2 := hS.2.1
  refine e_X9_change _ _ _ (c_refuseChange hs hm (by omega) (fun q q2 => ⟨by decide, fun _ => ?_, fun z => absurd rfl z⟩) (fun q => ⟨by decide, fun z => absurd z (by decide), fun _ => ?_⟩) (fun q q2 => ⟨by decide, fun z => absurd z (by decide), fun _ => ?_⟩))
  · obtain ⟨j, rfl, hj⟩ := nat_of q
    have bd := whoF_bd (f := fun t => chgB (T t) (bx9 σ j) m) (g := fun t => if inb (T t) (bx9 σ j) m = true then (t : Int) + 100 else (t : Int)) (fun t ht => by split <;> omega) (i := i) 10 0 0 (by omega)
    refine c_change22 (P := bx9 σ j) hi (by omega) q2 hT (hS.2.2 j hj).1 10 0 0 σ rfl (by omega) hC ⟨rfl, rfl, rfl, rfl⟩ fun s' hf => ?_
    have hS' : SPP s' := hS.sam (by rw [hf 0 (by decide)]) (by rw [hf 80 (by decide)]) fun b hb => hf b (by omega)
    have h0 : s' 0 11 = σ 0 11 := by rw [hf 0 (by decide)]
    have h8 : s' 80 30 = σ 80 30 := by rw [hf 80 (by decide)]
    refine e_X10_change _ _ _ (d_mayChange hs hm (by omega) (fun _ _ => ⟨by decide, fun _ => ?_, fun z => absurd (by decide) z⟩) (fun z => absurd (by omega) z) (fun _ z => absurd q2 z))
    refine d_change22 (P := bx9 σ j) hi q2 hT 10 0 0 s' rfl (by omega) (by omega) hS' (by unfold bx9; rw [hf (74 + j) (by omega)]) (hM.cq (cq4 hf)) fun s2 hf2 => hK _ _ bd (qm_of (cq4 hf) hf2.mq)
  · exact e_X10_change _ _ _ (d_mayChange hs hm (by omega) (fun z _ => absurd (by omega) q) (fun _ => ⟨by decide, fun z => absurd z (by decide), fun _ => hK _ _ (by decide) (qm_of cq.rf mq.rf)⟩) (fun z _ => absurd (by omega) q))
  · exact e_X10_change _ _ _ (d_mayChange hs hm (by omega) (fun _ z => absurd z q2) (fun z => absurd (by omega) z) (fun _ _ => ⟨by decide, fun z => absurd z (by decide), fun _ => hK _ _ (by decide) (qm_of cq.rf mq.rf)⟩))
theorem op_still {s t : Int} (hs : R32 s) (ht : R32 t) (hT : oks T) (hC : CA σ T) (hM : MA σ T) (hS : SPP σ) (hN : NOW σ) (hK : ∀ v σ', R32 v → qm σ σ' → K v v σ') :
    CC m_X9_still [vR 0, vI s, vI t] σ (PI fun v s' => CC m_X10_still [vR 80, vI s, vI t] s' (PI fun v2 s2 => K v v2 s2)) := by
  have s1 := hS.1
  have s2 := hS.2.1
  have out : ∀ v : Int, R32 v → K v v σ := fun v hv => hK v σ hv (qm_of cq.rf mq.rf)
  refine e_X9_still _ _ (c_isStand hs (by omega) (fun q => c_isThing ht (fun q2 => ⟨by omega, ?_⟩) (fun z => ?_)) (fun z => ?_))
  · obtain ⟨j, rfl, hj⟩ := nat_of q
    obtain ⟨i, rfl, hi⟩ := nat_of q2
    have hi : i < 10 := by omega
    obtain ⟨n, hn, hn2⟩ := nat_of hN.1
    have hP := (hS.2.2 j hj).1
    have mid : ∀ (b : Bool) (x3 : Int) (s12 : Mem), x3 = (if b = true then 1 else 0) → b = inb (T i) (bx9 σ j) (n : Int) → (∀ c, c ≠ 4 → s12 c = σ c) → TT m_X9_still 45 [vR 0, vI (j : Int), vI (i : Int), vI x3, vI 0, vI ((s12 0 13) + 1)] [] s12 (PI fun v s' => CC m_X10_still [vR 80, vI (j : Int), vI (i : Int)] s' (PI fun v2 s2 => K v v2 s2)) := by
      intro b x3 s12 hx hb hf
      have fb := fst9_bd (fun m => inb (T i) (bx9 σ j) (m : Int)) b (200 - (n + 1)) (n + 1)
      have := c_still45 (K := fun v s' => CC m_X10_still [vR 80, vI (j : Int), vI (i : Int)] s' (PI fun v2 s2 => K v v2 s2)) (P := bx9 σ j) (s := j) (n := n) hx hi (by omega) hT hP (200 - (n + 1)) (n + 1) s12 (by omega) (by omega) (hC.cq (cq4 hf)) (by unfold plc; rw [hf (74 + j) (by omega)]; exact ⟨rfl, rfl, rfl, rfl⟩) (fun s' hf2 => by
        have hf' : ∀ c, c ≠ 4 → s' c = σ c := fun c hc => by rw [hf2 c hc, hf c hc]
        have hS' : SPP s' := hS.sam (by rw [hf' 0 (by decide)]) (by rw [hf' 80 (by decide)]) fun b hb => hf' b (by omega)
        have h0 : s' 0 11 = σ 0 11 := by rw [hf' 0 (by decide)]
        have h8 : s' 80 30 = σ 80 30 := by rw [hf' 80 (by decide)]
        have h9 : s' 80 29 = (n : Int) := by rw [hf' 80 (by decide), hN.2, hn]
        have hbx : bx9 s' j = bx9 σ j := by unfold bx9; rw [hf' (74 + j) (by omega)]
        refine e_X10_still _ _ ⟨hs, by omega, d_in (r64 hs) (by decide) (by omega) (fun _ => d_isThing ht (fun _ => ?_) (fun z => absurd q2 z)) (fun z => absurd (by omega) z)⟩
        rw [h9]
        have ei : inP (T i) (bx9 σ j) (n : Int) = inb (T i) (bx9 σ j) (n : Int) := by unfold inP; rw [if_neg (by omega)]
        have fin : ∀ (b2 : Bool) (x : Int) (s3 : Mem), x = (if b2 = true then 1 else 0) → b2 = inb (T i) (bx9 σ j) (n : Int) → mf s' s3 → TT m_X10_still 45 [vR 80, vI (j : Int), vI (i : Int), vI x, vI ((s3 80 29) + 1)] [] s3 (PI fun v2 s2 => K ((fst9 (fun m => inb (T i) (bx9 σ j) (m : Int)) b (200 - (n + 1)) (n + 1) : Int) - n - 1) v2 s2) := by
          intro b2 x s3 hx2 hb2 hf3
          have h93 : s3 80 29 = (n : Int) := by rw [hf3.2 29 (by decide) (by decide) (by decide)]; exact h9
          have eb : b2 = b := by rw [hb2, hb]
          subst eb
          have := d_still45 (K := fun v2 s2 => K ((fst9 (fun m => inb (T i) (bx9 σ j) (m : Int)) b2 (200 - (n + 1)) (n + 1) : Int) - n - 1) v2 s2) (P := bx9 σ j) (s := j) (n := n) hx2 hi hT (200 - (n + 1)) (n + 1) s3 (by omega) (by omega) h93 (by rw [hf3.1 0 (by decide)]; omega) (hS'.mf hf3) (by rw [bx9_mf (by omega) hf3]; exact hbx) ((hM.cq (cq4 hf')).mq hf3.mq) (fun s4 hf4 => hK _ _ (by omega) (qm_of (cq4 hf') (hf3.tr hf4).mq))
          rw [h93]
          exact this
        refine d_inS (by omega) hS' hi (by omega) hT (hM.cq (cq4 hf')) ?_ ?_
        · rw [hbx, ei]; exact fun hv s3 hf3 => fin true 1 s3 rfl hv.symm hf3
        · rw [hbx, ei]; exact fun hv s3 hf3 => fin false 0 s3 rfl hv.symm hf3)
      have h13 : s12 0 13 = (n : Int) := by rw [hf 0 (by decide)]; exact hn
      rw [show ((n + 1 : Nat) : Int) - n - 1 = 0 by omega] at this
      rw [h13]
      exact this
    rw [stdN, hn]
    exact c_isIn (P := bx9 σ j) (Or.inr ⟨j, by omega, rfl⟩) hi (by omega) hT hC hP ⟨rfl, rfl, rfl, rfl⟩ (fun hv s12 hf => mid true 1 s12 rfl hv.symm hf) (fun hv s12 hf => mid false 0 s12 rfl hv.symm hf)
  · exact e_X10_still _ _ ⟨hs, by omega, d_in (r64 hs) (by decide) (by omega) (fun _ => d_isThing ht (fun w => absurd w z) (fun _ => out _ (by decide))) (fun w => absurd (by omega) w)⟩
  · exact e_X10_still _ _ ⟨hs, by omega, d_in (r64 hs) (by decide) (by omega) (fun w => absurd (by omega) z) (fun _ => out _ (by decide))⟩
theorem op_pass {n : Int} (hn : R32 n) (hN : NOW σ) (hK : ∀ v σ', R32 v → qm σ σ' → K v v σ') (hK2 : ∀ v w σ', R32 v → (0 ≤ w ∧ w < 200) → σ' = up (up σ 0 13 w) 80 29 w → K v v σ') :
    CC m_X9_pass [vR 0, vI n] σ (PI fun v s => CC m_X10_pass [vR 80, vI n] s (PI fun v2 s2 => K v v2 s2)) := by
  obtain ⟨n1, n2⟩ := hN
  have out : ∀ v : Int, R32 v → K v v σ := fun v hv => hK v σ hv (qm_of cq.rf mq.rf)
  refine e_X9_pass _ (c_isWithin hn (by decide) (by decide) (fun q => c_isMinute (by omega) (fun q2 s9 e9 => ?_) (fun z => ?_)) (fun z => ?_))
  · have h9 : s9 80 29 = σ 80 29 := by rw [e9, up_o1 (by decide)]
    refine e_X10_pass _ ⟨hn, d_in (r64 hn) (by decide) (by decide) (fun _ => ?_) (fun w => absurd q w)⟩
    rw [h9, n2]
    refine ⟨by omega, fun _ s8 e8 => ?_, fun w => absurd q2.2 w⟩
    rw [e8, up_at, ← e8, e9, up_at]
    exact hK2 _ (σ 0 13 + n) s8 (by omega) q2 (by rw [e8, e9])
  · refine e_X10_pass _ ⟨hn, d_in (r64 hn) (by decide) (by decide) (fun _ => ?_) (fun w => absurd q w)⟩
    rw [n2]
    exact ⟨by omega, fun w => absurd (by omega) z, fun _ => out _ (by decide)⟩
  · exact e_X10_pass _ ⟨hn, d_in (r64 hn) (by decide) (by decide) (fun w => absurd w z) (fun _ => out _ (by decide))⟩
end STANDO
