/-! blurred places -/
theorem cell_iff {z x b s : Int} (hb : 1 ≤ b) (hs : 0 ≤ s) (hz : 0 ≤ z) (hx : 0 ≤ x) : Int.tdiv (z + s) b = Int.tdiv (x + s) b ↔ (Int.tdiv (x + s) b * b - s ≤ z ∧ z < Int.tdiv (x + s) b * b - s + b) := by
  rw [Int.tdiv_eq_ediv_of_nonneg (by omega), Int.tdiv_eq_ediv_of_nonneg (by omega)]
  generalize (x + s) / b = q
  have e : (q + 1) * b = q * b + b := by rw [Int.add_mul, Int.one_mul]
  constructor
  · intro h
    have a : q ≤ (z + s) / b := by omega
    have c : (z + s) / b < q + 1 := by omega
    rw [Int.le_ediv_iff_mul_le (by omega)] at a
    rw [Int.ediv_lt_iff_lt_mul (by omega), e] at c
    omega
  · rintro ⟨h1, h2⟩
    have a : q ≤ (z + s) / b := by rw [Int.le_ediv_iff_mul_le (by omega)]; omega
    have c : (z + s) / b < q + 1 := by rw [Int.ediv_lt_iff_lt_mul (by omega), e]; omega
    omega
def agr (x b s b2 s2 : Int) : Nat → Int
  | 0 => 0
  | z + 1 => agr x b s b2 s2 z + (if Int.tdiv ((z : Int) + s) b = Int.tdiv (x + s) b ∧ Int.tdiv ((z : Int) + s2) b2 = Int.tdiv (x + s2) b2 then 1 else 0)
theorem agr_eq {x b s b2 s2 : Int} (hb : blurOK b s) (hb2 : blurOK b2 s2) (hx : 0 ≤ x) : ∀ n : Nat, agr x b s b2 s2 n = max 0 (min (n : Int) (min (Int.tdiv (x + s) b * b - s + b) (Int.tdiv (x + s2) b2 * b2 - s2 + b2)) - max 0 (max (Int.tdiv (x + s) b * b - s) (Int.tdiv (x + s2) b2 * b2 - s2)))
  | 0 => by simp only [agr]; omega
  | n + 1 => by
    have ih := agr_eq hb hb2 hx n
    obtain ⟨h1, h2, h3, h4⟩ := hb
    obtain ⟨k1, k2, k3, k4⟩ := hb2
    simp only [agr]
    have c1 := cell_iff (z := (n : Int)) h1 h3 (by omega) hx
    have c2 := cell_iff (z := (n : Int)) k1 k3 (by omega) hx
    rw [ih]
    split
    · rename_i w
      have a := c1.mp w.1
      have d := c2.mp w.2
      omega
    · rename_i w
      have a : ¬ ((Int.tdiv (x + s) b * b - s ≤ (n : Int) ∧ (n : Int) < Int.tdiv (x + s) b * b - s + b) ∧ (Int.tdiv (x + s2) b2 * b2 - s2 ≤ (n : Int) ∧ (n : Int) < Int.tdiv (x + s2) b2 * b2 - s2 + b2)) := fun u => w ⟨c1.mpr u.1, c2.mpr u.2⟩
      omega
section BLUR
variable {σ : Mem} {x b s b2 s2 : Int}
theorem tq_bd (hb : blurOK b s) (hx : 0 ≤ x ∧ x < 100) : (0 ≤ Int.tdiv (x + s) b ∧ Int.tdiv (x + s) b ≤ 200) ∧ (0 ≤ Int.tdiv (x + s) b * b ∧ Int.tdiv (x + s) b * b ≤ x + s) := by
  obtain ⟨h1, h2, h3, h4⟩ := hb
  rw [Int.tdiv_eq_ediv_of_nonneg (by omega)]
  have a : 0 ≤ (x + s) / b := Int.ediv_nonneg (by omega) (by omega)
  have c : (x + s) / b * b ≤ x + s := Int.ediv_mul_le _ (by omega)
  have d : (x + s) / b * 1 ≤ (x + s) / b * b := Int.mul_le_mul_of_nonneg_left h1 a
  omega
theorem agr_bd : ∀ n : Nat, 0 ≤ agr x b s b2 s2 n ∧ agr x b s b2 s2 n ≤ n
  | 0 => by simp only [agr]; omega
  | n + 1 => by
    have := agr_bd n
    simp only [agr]
    split <;> omega
theorem c_agree {K : Int → Mem → Prop} (hb : blurOK b s) (hb2 : blurOK b2 s2) (hx : 0 ≤ x ∧ x < 100) (hK : K (agr x b s b2 s2 100) σ) : CC m_X9_agreeing [vI x, vI b, vI s, vI b2, vI s2] σ (PI K) := by
  have t1 := tq_bd hb hx
  have t2 := tq_bd hb2 hx
  have e := agr_eq hb hb2 hx.1 100
  have hb' := hb
  have hb2' := hb2
  obtain ⟨h1, h2, h3, h4⟩ := hb'
  obtain ⟨k1, k2, k3, k4⟩ := hb2'
  refine e_X9_agreeing _ _ _ _ _ ⟨by omega, fun z => absurd z (by omega), fun _ => ⟨by omega, fun _ => ⟨by omega, by omega, fun v7 e7 => ⟨by omega, by omega, fun v11 e11 => ⟨by omega, by omega, by omega, by omega, by omega, by omega, fun v19 e19 => ⟨by omega, ?_⟩⟩⟩⟩, fun z => absurd k1 z⟩⟩
  rw [e] at hK
  rw [e19, e7, e11]
  exact hK
theorem d_agree {K : Int → Mem → Prop} (hb : blurOK b s) (hb2 : blurOK b2 s2) (hx : 0 ≤ x ∧ x < 100) (hK : K (agr x b s b2 s2 100) σ) : CC m_X10_agreeing [vI x, vI b, vI s, vI b2, vI s2] σ (PI K) := by
  have t1 := tq_bd hb hx
  have t2 := tq_bd hb2 hx
  have hb' := hb
  have hb2' := hb2
  obtain ⟨h1, h2, h3, h4⟩ := hb'
  obtain ⟨k1, k2, k3, k4⟩ := hb2'
  have loop : ∀ k z : Nat, z + k = 100 → TT m_X10_agreeing 6 [vI x, vI b, vI s, vI b2, vI s2, vI (agr x b s b2 s2 z), vI (z : Int)] [] σ (PI K) := by
    intro k
    induction k with
    | zero =>
      intro z hz
      have hz : z = 100 := by omega
      subst hz
      exact w_X10_agreeing_6 _ _ _ _ _ _ _ ⟨by decide, fun _ => hK, fun w => absurd (by decide) w⟩
    | succ k ih =>
      intro z hz
      have u1 := tq_bd (x := (z : Int)) hb (by omega)
      have u2 := tq_bd (x := (z : Int)) hb2 (by omega)
      refine w_X10_agreeing_6 _ _ _ _ _ _ _ ⟨by omega, fun w => absurd w (by omega), fun _ => ⟨by omega, by omega, by omega, by omega, by omega, by omega, fun _ => ⟨by omega, by omega, by omega, by omega, by omega, by omega⟩, fun v19 e19 => ?_⟩⟩
      have := ih (z + 1) (by omega)
      simp only [agr] at this
      have ev : v19 = agr x b s b2 s2 z + (if Int.tdiv ((z : Int) + s) b = Int.tdiv (x + s) b ∧ Int.tdiv ((z : Int) + s2) b2 = Int.tdiv (x + s2) b2 then 1 else 0) := by
        rw [e19]
        by_cases w1 : Int.tdiv ((z : Int) + s) b = Int.tdiv (x + s) b
        · rw [if_neg (not_not_intro w1)]
          by_cases w2 : Int.tdiv ((z : Int) + s2) b2 = Int.tdiv (x + s2) b2
          · rw [if_neg (not_not_intro w2), if_pos ⟨w1, w2⟩]
          · rw [if_pos w2, if_neg (fun w => w2 w.2)]
        · rw [if_pos w1, if_neg (fun w => w1 w.1)]
      rw [ev]
      exact this
  exact e_X10_agreeing _ _ _ _ _ (loop 100 0 rfl)
end BLUR
section BLURO
variable {σ : Mem} {T : Nat → TV} {K : Int → Int → Mem → Prop}
theorem op_blur {t r b s y : Int} (ht : R32 t) (hr : R32 r) (hb : R32 b) (hs : R32 s) (hy : R32 y) (hT : oks T) (hC : CA σ T) (hM : MA σ T) (hK : ∀ v σ', R32 v → qm σ σ' → K v v σ') :
    CC m_X9_blur [vR 0, vI t, vI r, vI b, vI s, vI y] σ (PI fun v s' => CC m_X10_blur [vR 80, vI t, vI r, vI b, vI s, vI y] s' (PI fun v2 s2 => K v v2 s2)) := by
  have rn : ∀ q : 0 ≤ t ∧ t < 10, σ (trk t) 3 = (tn (T t.toNat) : Int) ∧ σ 81 t.toNat = (tn (T t.toNat) : Int) ∧ tn (T t.toNat) ≤ 24 := fun q => by
    obtain ⟨i, rfl, hi⟩ := nat_of q
    have hi : i < 10 := by omega
    exact ⟨(hC i hi).1, (hM i hi).1, (hT i hi).1⟩
  have out : ∀ v : Int, R32 v → K v v σ := fun v hv => hK v σ hv (qm_of cq.rf mq.rf)
  refine e_X9_blur _ _ _ _ _ (c_isRow ht hr (fun q => by have := rn q; omega) (fun q q2 => c_isBlur hb hs (fun q3 => ?_) (fun z => ?_)) (fun z => ?_))
  · have rnq := rn q
    have model : ∀ v, (R32 y ∧ (y = 0 → (0 ≤ ((24 * t) + r) ∧ ((24 * t) + r) < 240)) ∧ (¬ y = 0 → (0 ≤ ((24 * t) + r) ∧ ((24 * t) + r) < 240)) ∧ R32 ((if y = 0 then (σ 83 ((24 * t) + r).toNat) else (σ 84 ((24 * t) + r).toNat) : Int) + s) ∧ R32 b ∧ b ≠ 0 ∧ K v (Int.tdiv ((if y = 0 then (σ 83 ((24 * t) + r).toNat) else (σ 84 ((24 * t) + r).toNat) : Int) + s) b) σ) → CC m_X10_blur [vR 80, vI t, vI r, vI b, vI s, vI y] σ (PI fun v2 s2 => K v v2 s2) := fun v h => e_X10_blur _ _ _ _ _ (d_isRow ht hr (fun q => by have := rn q; omega) (fun _ _ => d_isBlur hb hs (fun _ => h) (fun z => absurd q3 z)) (fun z => absurd ⟨q, by omega⟩ z))
    obtain ⟨i, rfl, hi⟩ := nat_of q
    have hi : i < 10 := by omega
    rw [Int.toNat_natCast] at rnq
    rw [rnq.1] at q2
    obtain ⟨k, rfl, hk⟩ := nat_of q2
    have c1 := (hC i hi).2.2 k (by omega)
    have c2 := (hM i hi).2.2 k (by omega)
    have bd := (hT i hi).2.2.1 k (by omega)
    have e1 : (24 * (i : Int) + (k : Int)).toNat = 24 * i + k := by omega
    have q4 := q3
    obtain ⟨h1, h2, h3, h4⟩ := q4
    rw [Int.toNat_natCast, c1.2.1, c1.2.2]
    refine ⟨hy, fun _ => ⟨q, by omega⟩, fun _ => ⟨q, by omega⟩, fun v18 e18 => ?_⟩
    have b18 : 0 ≤ v18 ∧ v18 < 100 := by rw [e18]; split <;> omega
    have tb := tq_bd q3 b18
    refine ⟨by omega, hb, by omega, model _ ?_⟩
    rw [e1, c2.2.1, c2.2.2, ← e18]
    exact ⟨hy, fun _ => by omega, fun _ => by omega, by omega, hb, by omega, out _ (by omega)⟩
  · refine e_X10_blur _ _ _ _ _ (d_isRow ht hr (fun q => by have := rn q; omega) (fun _ _ => d_isBlur hb hs (fun w => absurd w z) (fun _ => out _ (by decide))) (fun w => absurd ⟨q, ?_⟩ w))
    have := rn q
    omega
  · refine e_X10_blur _ _ _ _ _ (d_isRow ht hr (fun q => by have := rn q; omega) (fun q q2 => absurd ⟨q, ?_⟩ z) (fun _ => out _ (by decide)))
    have := rn q
    omega
theorem op_together {t r b s b2 s2 : Int} (ht : R32 t) (hr : R32 r) (hb : R32 b) (hs : R32 s) (hb2 : R32 b2) (hs2 : R32 s2) (hT : oks T) (hC : CA σ T) (hM : MA σ T) (hK : ∀ v σ', R32 v → qm σ σ' → K v v σ') :
    CC m_X9_together [vR 0, vI t, vI r, vI b, vI s, vI b2, vI s2] σ (PI fun v s' => CC m_X10_together [vR 80, vI t, vI r, vI b, vI s, vI b2, vI s2] s' (PI fun v2 s2 => K v v2 s2)) := by
  have rn : ∀ q : 0 ≤ t ∧ t < 10, σ (trk t) 3 = (tn (T t.toNat) : Int) ∧ σ 81 t.toNat = (tn (T t.toNat) : Int) ∧ tn (T t.toNat) ≤ 24 := fun q => by
    obtain ⟨i, rfl, hi⟩ := nat_of q
    have hi : i < 10 := by omega
    exact ⟨(hC i hi).1, (hM i hi).1, (hT i hi).1⟩
  have out : ∀ v : Int, R32 v → K v v σ := fun v hv => hK v σ hv (qm_of cq.rf mq.rf)
  refine e_X9_together _ _ _ _ _ _ (c_isRow ht hr (fun q => by have := rn q; omega) (fun q q2 => c_isBlur hb hs (fun q3 => c_isBlur hb2 hs2 (fun q4 => ⟨q, ?_⟩) (fun z => ?_)) (fun z => ?_)) (fun z => ?_))
  · have rnq := rn q
    have model : ∀ v, ((0 ≤ ((24 * t) + r) ∧ ((24 * t) + r) < 240) ∧ CC m_X10_agreeing [vI (σ 83 ((24 * t) + r).toNat), vI b, vI s, vI b2, vI s2] σ (PI (fun y14 s15 => CC m_X10_agreeing [vI (s15 84 ((24 * t) + r).toNat), vI b, vI s, vI b2, vI s2] s15 (PI (fun y16 s17 => K v (y14 * y16) s17))))) → CC m_X10_together [vR 80, vI t, vI r, vI b, vI s, vI b2, vI s2] σ (PI fun v2 s2 => K v v2 s2) := fun v h => e_X10_together _ _ _ _ _ _ (d_isRow ht hr (fun q => by have := rn q; omega) (fun _ _ => d_isBlur hb hs (fun _ => d_isBlur hb2 hs2 (fun _ => h) (fun z => absurd q4 z)) (fun z => absurd q3 z)) (fun z => absurd ⟨q, by omega⟩ z))
    obtain ⟨i, rfl, hi⟩ := nat_of q
    have hi : i < 10 := by omega
    rw [Int.toNat_natCast] at rnq
    rw [rnq.1] at q2
    obtain ⟨k, rfl, hk⟩ := nat_of q2
    have c1 := (hC i hi).2.2 k (by omega)
    have c2 := (hM i hi).2.2 k (by omega)
    have bd := (hT i hi).2.2.1 k (by omega)
    have e1 : (24 * (i : Int) + (k : Int)).toNat = 24 * i + k := by omega
    rw [Int.toNat_natCast, c1.2.1]
    refine ⟨by omega, c_agree q3 q4 (by omega) ?_⟩
    rw [c1.2.2]
    refine c_agree q3 q4 (by omega) ?_
    have a1 := agr_bd (x := tx (T i) k) (b := b) (s := s) (b2 := b2) (s2 := s2) 100
    have a2 := agr_bd (x := ty (T i) k) (b := b) (s := s) (b2 := b2) (s2 := s2) 100
    have a3 := mul_bd (u := agr (tx (T i) k) b s b2 s2 100) (v := agr (ty (T i) k) b s b2 s2 100) (U := 100) (W := 100) (by omega) (by omega)
    refine model _ ?_
    rw [e1, c2.2.1]
    refine ⟨by omega, d_agree q3 q4 (by omega) ?_⟩
    rw [c2.2.2]
    exact d_agree q3 q4 (by omega) (out _ (by omega))
  · refine e_X10_together _ _ _ _ _ _ (d_isRow ht hr (fun q => by have := rn q; omega) (fun _ _ => d_isBlur hb hs (fun _ => d_isBlur hb2 hs2 (fun w => absurd w z) (fun _ => out _ (by decide))) (fun w => absurd q3 w)) (fun w => absurd ⟨q, ?_⟩ w))
    have := rn q
    omega
  · refine e_X10_together _ _ _ _ _ _ (d_isRow ht hr (fun q => by have := rn q; omega) (fun _ _ => d_isBlur hb hs (fun w => absurd w z) (fun _ => out _ (by decide))) (fun w => absurd ⟨q, ?_⟩ w))
    have := rn q
    omega
  · refine e_X10_together _ _ _ _ _ _ (d_isRow ht hr (fun q => by have := rn q; omega) (fun q q2 => absurd ⟨q, ?_⟩ z) (fun _ => out _ (by decide)))
    have := rn q
    omega
/-! counts -/
def rws (T : Nat → TV) : Nat → Int
  | 0 => 0
  | t + 1 => rws T t + tn (T t)
theorem rws_bd (hT : oks T) : ∀ t, t ≤ 10 → 0 ≤ rws T t ∧ rws T t ≤ 24 * t
  | 0, _ => by simp [rws]
  | t + 1, h => by
    have a := rws_bd hT t (by omega)
    have d := (hT t (by omega)).1
    simp only [rws]
    omega
def hasR (T : Nat → TV) : Nat → Bool := fun t => decide (0 < tn (T t))
def thr (T : Nat → TV) (m : Int) : Nat → Bool := fun t => (pos (T t) m).isSome
theorem c_allRows {K : Int → Mem → Prop} (hC : CA σ T) (h : K (rws T 10) σ) : CC m_X9_allRows [vR 0] σ (PI K) := by
  have loop : ∀ k t : Nat, t + k = 10 → TT m_X9_allRows 4 [vR 0, vI (rws T t), vI (t : Int)] [] σ (PI K) := by
    intro k
    induction k with
    | zero =>
      intro t ht
      have ht : t = 10 := by omega
      subst ht
      exact w_X9_allRows_4 _ _ ⟨by decide, fun _ => h, fun z => absurd (by decide) z⟩
    | succ k ih =>
      intro t ht
      refine w_X9_allRows_4 _ _ ⟨by omega, fun z => absurd z (by omega), fun _ => ⟨by omega, ?_⟩⟩
      rw [(hC t (by omega)).1]
      exact ih (t + 1) (by omega)
  exact e_X9_allRows (loop 10 0 rfl)
theorem c_withRows {K : Int → Mem → Prop} (hT : oks T) (hC : CA σ T) (h : K (ct (hasR T) 10) σ) : CC m_X9_thingsWithRows [vR 0] σ (PI K) := by
  have loop : ∀ k t : Nat, t + k = 10 → TT m_X9_thingsWithRows 4 [vR 0, vI (ct (hasR T) t), vI (t : Int)] [] σ (PI K) := by
    intro k
    induction k with
    | zero =>
      intro t ht
      have ht : t = 10 := by omega
      subst ht
      exact w_X9_thingsWithRows_4 _ _ ⟨by decide, fun _ => h, fun z => absurd (by decide) z⟩
    | succ k ih =>
      intro t ht
      have hn := (hT t (by omega)).1
      have := ih (t + 1) (by omega)
      simp only [ct, hasR, decide_eq_true_eq] at this
      have h3 := (hC t (by omega)).1
      refine w_X9_thingsWithRows_4 _ _ ⟨by omega, fun z => absurd z (by omega), fun _ => ⟨by omega, by omega, ?_⟩⟩
      by_cases z : 0 < tn (T t)
      · rw [if_pos z] at this
        rw [if_neg (by omega)]
        exact this
      · rw [if_neg z, Int.add_zero] at this
        rw [if_pos (by omega)]
        exact this
  exact e_X9_thingsWithRows (loop 10 0 rfl)
theorem c_there10 {K : Int → Mem → Prop} {m : Int} (hm : 0 ≤ m ∧ m < 200) (hT : oks T) : ∀ (k t : Nat) (σ : Mem), t + k = 10 → CA σ T → σ 0 13 = m → (∀ σ', (∀ c, c ≠ 4 → σ' c = σ c) → K (ct (thr T m) 10) σ') → TT m_X9_thingsThere 4 [vR 0, vI (ct (thr T m) t), vI (t : Int)] [] σ (PI K) := by
  intro k
  induction k with
  | zero =>
    intro t σ ht hC h13 h
    have ht : t = 10 := by omega
    subst ht
    exact w_X9_thingsThere_4 _ _ ⟨by decide, fun _ => h σ fun _ _ => rfl, fun z => absurd (by decide) z⟩
  | succ k ih =>
    intro t σ ht hC h13 h
    refine w_X9_thingsThere_4 _ _ ⟨by omega, fun z => absurd z (by omega), fun _ => ⟨by omega, ?_⟩⟩
    rw [h13]
    refine c_locate (isT_trk (by omega)) (Or.inl rfl) (hC t (by omega)) (hT t (by omega)) hm (fun s X Y b hp _ hf => ?_) (fun s hp hf => ?_)
    · have := ih (t + 1) s (by omega) (hC.cq (cq4 hf)) (by rw [hf 0 (by decide)]; exact h13) (fun s' h2 => h s' fun c hc => by rw [h2 c hc, hf c hc])
      simp only [ct] at this
      rw [if_pos (show thr T m t = true by unfold thr; rw [hp]; rfl)] at this
      exact this
    · have := ih (t + 1) s (by omega) (hC.cq (cq4 hf)) (by rw [hf 0 (by decide)]; exact h13) (fun s' h2 => h s' fun c hc => by rw [h2 c hc, hf c hc])
      simp only [ct] at this
      rw [if_neg (show ¬ thr T m t = true by unfold thr; rw [hp]; decide), Int.add_zero] at this
      exact this
theorem d_count10 {K : Int → Mem → Prop} {m w : Int} (hm : 0 ≤ m ∧ m < 200) (hw : R32 w) (hT : oks T) : ∀ (k t : Nat) (σ : Mem), t + k = 10 → MA σ T → σ 80 29 = m → (∀ σ', mf σ σ' → (w = 0 → K (rws T 10) σ') ∧ (w = 1 → K (ct (hasR T) 10) σ') ∧ (w = 2 → K (ct (thr T m) 10) σ') ∧ (w = 3 → K (σ' 80 30) σ') ∧ (w = 4 → K (σ' 80 29) σ') ∧ (w < 0 ∨ 4 < w → K (-900002) σ')) → TT m_X10_count 10 [vR 80, vI w, vI (rws T t), vI (ct (hasR T) t), vI (ct (thr T m) t), vI (t : Int)] [] σ (PI K) := by
  intro k
  induction k with
  | zero =>
    intro t σ ht hM h29 h
    have ht : t = 10 := by omega
    subst ht
    exact w_X10_count_10 _ _ _ _ _ ⟨by decide, fun _ => ⟨hw, h σ ⟨fun _ _ => rfl, fun _ _ _ _ => rfl⟩⟩, fun z => absurd (by decide) z⟩
  | succ k ih =>
    intro t σ ht hM h29 h
    have hn := (hT t (by omega)).1
    have h81 := (hM t (by omega)).1
    refine w_X10_count_10 _ _ _ _ _ ⟨by omega, fun z => absurd z (by omega), fun _ => ?_⟩
    rw [Int.toNat_natCast, h29, h81]
    refine ⟨by omega, by omega, fun v14 e14 => ?_⟩
    have ev : v14 = ct (hasR T) (t + 1) := by
      rw [e14]
      simp only [ct, hasR, decide_eq_true_eq]
      by_cases z : 0 < tn (T t)
      · rw [if_pos z, if_neg (by omega)]
      · rw [if_neg z, if_pos (by omega)]
    have nx : ∀ (b : Int) (σ' : Mem), mf σ σ' → ct (thr T m) (t + 1) = ct (thr T m) t + b → TT m_X10_count 10 [vR 80, vI w, vI (rws T t + (tn (T t) : Int)), vI v14, vI (ct (thr T m) t + b), vI ((t : Int) + 1)] [] σ' (PI K) := by
      intro b σ' hf he
      rw [← he, ev]
      exact ih (t + 1) σ' (by omega) (hM.mq hf.mq) (by rw [hf.2 29 (by decide) (by decide) (by decide)]; exact h29) (fun s' h2 => h s' (hf.tr h2))
    refine d_find (by omega) (hM t (by omega)) (hT t (by omega)) hm (fun s X Y b hp _ _ _ hf => nx 1 s hf ?_) (fun hp => nx 0 σ ⟨fun _ _ => rfl, fun _ _ _ _ => rfl⟩ ?_)
    · simp only [ct]
      rw [if_pos (show thr T m t = true by unfold thr; rw [hp]; rfl)]
    · simp only [ct]
      rw [if_neg (show ¬ thr T m t = true by unfold thr; rw [hp]; decide)]
theorem op_count {w : Int} (hw : R32 w) (hT : oks T) (hC : CA σ T) (hM : MA σ T) (hS : SPP σ) (hN : NOW σ) (hK : ∀ v σ', R32 v → qm σ σ' → K v v σ') :
    CC m_X9_count [vR 0, vI w] σ (PI fun v s' => CC m_X10_count [vR 80, vI w] s' (PI fun v2 s2 => K v v2 s2)) := by
  have s1 := hS.1
  have n1 := hN.1
  have r := rws_bd hT 10 (by omega)
  have c1 := ct_bd (hasR T) 10
  have c2 := ct_bd (thr T (σ 0 13)) 10
  have go : ∀ (v : Int) (s : Mem), R32 v → (∀ c, c ≠ 4 → s c = σ c) → (w = 0 → v = rws T 10) → (w = 1 → v = ct (hasR T) 10) → (w = 2 → v = ct (thr T (σ 0 13)) 10) → (w = 3 → v = σ 0 11) → (w = 4 → v = σ 0 13) → (w < 0 ∨ 4 < w → v = -900002) → CC m_X10_count [vR 80, vI w] s (PI fun v2 s2 => K v v2 s2) := by
    intro v s hv hf h0 h1 h2 h3 h4 h5
    refine e_X10_count _ (d_count10 hN.1 hw hT 10 0 s rfl (hM.cq (cq4 hf)) (by rw [hf 80 (by decide)]; exact hN.2) fun s2 hf2 => ?_)
    have fin := hK v s2 hv (qm_of (cq4 hf) hf2.mq)
    have e30 : s2 80 30 = σ 0 11 := by rw [hf2.2 30 (by decide) (by decide) (by decide), hf 80 (by decide), hS.2.1]
    have e29 : s2 80 29 = σ 0 13 := by rw [hf2.2 29 (by decide) (by decide) (by decide), hf 80 (by decide), hN.2]
    refine ⟨fun z => by rw [← h0 z]; exact fin, fun z => by rw [← h1 z]; exact fin, fun z => by rw [← h2 z]; exact fin, fun z => by rw [e30, ← h3 z]; exact fin, fun z => by rw [e29, ← h4 z]; exact fin, fun z => by rw [← h5 z]; exact fin⟩
  refine e_X9_count _ ⟨hw, fun z => c_allRows hC (go _ σ (by omega) (fun _ _ => rfl) (fun _ => rfl) ?_ ?_ ?_ ?_ ?_), fun z => c_withRows hT hC (go _ σ (by omega) (fun _ _ => rfl) ?_ (fun _ => rfl) ?_ ?_ ?_ ?_), fun z => e_X9_thingsThere (c_there10 hN.1 hT 10 0 σ rfl hC rfl fun s hf => go _ s (by omega) hf ?_ ?_ (fun _ => rfl) ?_ ?_ ?_), fun z => go _ σ (by omega) (fun _ _ => rfl) ?_ ?_ ?_ (fun _ => rfl) ?_ ?_, fun z => go _ σ (by omega) (fun _ _ => rfl) ?_ ?_ ?_ ?_ (fun _ => rfl) ?_, fun z => go _ σ (by decide) (fun _ _ => rfl) ?_ ?_ ?_ ?_ ?_ (fun _ => rfl)⟩
  all_goals (intro u; omega)
end BLURO
