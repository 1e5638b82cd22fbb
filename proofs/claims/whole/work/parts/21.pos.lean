/-! where a thing is at a minute -/
def fsr (m : Nat → Int) (t : Int) : Nat → Nat
  | 0 => 0
  | n + 1 => if fsr m t n < n then fsr m t n else if m n < t then n + 1 else n
theorem fsr_spec (m : Nat → Int) (t : Int) : ∀ n, fsr m t n ≤ n ∧ (∀ i, i < fsr m t n → m i < t) ∧ (fsr m t n < n → t ≤ m (fsr m t n))
  | 0 => ⟨Nat.le_refl 0, fun i h => absurd h (Nat.not_lt_zero i), fun h => absurd h (Nat.lt_irrefl 0)⟩
  | n + 1 => by
    obtain ⟨h1, h2, h3⟩ := fsr_spec m t n
    unfold fsr
    by_cases c : fsr m t n < n
    · rw [if_pos c]
      exact ⟨by omega, h2, fun _ => h3 c⟩
    · rw [if_neg c]
      have e : fsr m t n = n := by omega
      rw [e] at h2
      by_cases c2 : m n < t
      · rw [if_pos c2]
        refine ⟨Nat.le_refl _, fun i hi => ?_, fun h => absurd h (Nat.lt_irrefl _)⟩
        rcases Nat.lt_or_ge i n with q | q
        · exact h2 i q
        · rw [show i = n by omega]; exact c2
      · rw [if_neg c2]
        exact ⟨Nat.le_succ n, h2, fun _ => by omega⟩
def isF (V : TV) (t : Int) (p : Nat) : Prop := p ≤ tn V ∧ (∀ i, i < p → tm V i < t) ∧ (p < tn V → t ≤ tm V p)
theorem isF_one {V : TV} {t : Int} {p q : Nat} (hp : isF V t p) (hq : isF V t q) : p = q := by
  rcases Nat.lt_trichotomy p q with h | h | h
  · have a := hq.2.1 p h
    have b := hp.2.2 (by have := hq.1; omega)
    omega
  · exact h
  · have a := hp.2.1 q h
    have b := hq.2.2 (by have := hp.1; omega)
    omega
def leg3 (V : TV) (r : Nat) (t : Int) : Int × Int × Int := (tx V (r - 1) * (tm V r - tm V (r - 1)) + (tx V r - tx V (r - 1)) * (t - tm V (r - 1)), ty V (r - 1) * (tm V r - tm V (r - 1)) + (ty V r - ty V (r - 1)) * (t - tm V (r - 1)), tm V r - tm V (r - 1))
def st3 (V : TV) (r : Nat) : Int × Int × Int := (tx V r, ty V r, 1)
def posP (V : TV) (t : Int) (p : Nat) : Option (Int × Int × Int) :=
  if p < tn V then (if tm V p = t then some (st3 V p) else if 0 < p ∧ tm V p - tm V (p - 1) ≤ 16 then some (leg3 V p t) else none)
  else if p = 0 ∨ 16 < t - tm V (p - 1) then none
  else if tk V = 1 ∧ 0 < p - 1 ∧ tm V (p - 1) - tm V (p - 1 - 1) ≤ 16 then some (leg3 V (p - 1) t) else some (st3 V (p - 1))
def pos (V : TV) (t : Int) : Option (Int × Int × Int) := posP V t (fsr (tm V) t (tn V))
theorem pos_of {V : TV} {t : Int} {p : Nat} (h : isF V t p) : pos V t = posP V t p := by
  unfold pos
  rw [isF_one (fsr_spec (tm V) t (tn V)) h]
/-! bounds -/
theorem mul_bd {u v U W : Int} (hu : -U ≤ u ∧ u ≤ U) (hv : -W ≤ v ∧ v ≤ W) : -(U * W) ≤ u * v ∧ u * v ≤ U * W := by
  have hU : 0 ≤ U := by omega
  have hW : 0 ≤ W := by omega
  have key : ∀ a b : Int, -U ≤ a → a ≤ U → 0 ≤ b → b ≤ W → -(U * W) ≤ a * b ∧ a * b ≤ U * W := by
    intro a b a1 a2 b0 b1
    have e1 : a * b ≤ U * b := Int.mul_le_mul_of_nonneg_right a2 b0
    have e2 : U * b ≤ U * W := Int.mul_le_mul_of_nonneg_left b1 hU
    have e3 : -U * b ≤ a * b := Int.mul_le_mul_of_nonneg_right a1 b0
    have e4 : -U * b = -(U * b) := Int.neg_mul U b
    omega
  rcases Int.le_total 0 v with h | h
  · exact key u v hu.1 hu.2 h hv.2
  · have := key u (-v) hu.1 hu.2 (by omega) (by omega)
    rw [Int.mul_neg] at this
    omega
theorem leg_bd {V : TV} (hV : tok V) {r : Nat} {t : Int} (h0 : 0 < r) (hr : r < tn V) (hl : tm V r - tm V (r - 1) ≤ 16) (ht : tm V (r - 1) ≤ t ∧ t ≤ tm V r + 16) : (1 ≤ (leg3 V r t).2.2 ∧ (leg3 V r t).2.2 ≤ 16) ∧ (-5000 ≤ (leg3 V r t).1 ∧ (leg3 V r t).1 ≤ 5000) ∧ (-5000 ≤ (leg3 V r t).2.1 ∧ (leg3 V r t).2.1 ≤ 5000) := by
  obtain ⟨h1, h2, h3, h4⟩ := hV
  have a := h3 r hr
  have b := h3 (r - 1) (by omega)
  have c := h4 (r - 1) r (by omega) hr
  have B1 := mul_bd (u := tx V (r - 1)) (v := tm V r - tm V (r - 1)) (U := 99) (W := 16) (by omega) (by omega)
  have B2 := mul_bd (u := tx V r - tx V (r - 1)) (v := t - tm V (r - 1)) (U := 99) (W := 32) (by omega) (by omega)
  have B3 := mul_bd (u := ty V (r - 1)) (v := tm V r - tm V (r - 1)) (U := 99) (W := 16) (by omega) (by omega)
  have B4 := mul_bd (u := ty V r - ty V (r - 1)) (v := t - tm V (r - 1)) (U := 99) (W := 32) (by omega) (by omega)
  simp only [leg3]
  omega
theorem pos_bd {V : TV} (hV : tok V) {t : Int} {X Y b : Int} (h : pos V t = some (X, Y, b)) : (1 ≤ b ∧ b ≤ 16) ∧ (-5000 ≤ X ∧ X ≤ 5000) ∧ (-5000 ≤ Y ∧ Y ≤ 5000) := by
  have hF := fsr_spec (tm V) t (tn V)
  unfold pos posP at h
  generalize fsr (tm V) t (tn V) = p at h hF
  obtain ⟨f1, f2, f3⟩ := hF
  have st : ∀ r, r < tn V → some (st3 V r) = some (X, Y, b) → (1 ≤ b ∧ b ≤ 16) ∧ (-5000 ≤ X ∧ X ≤ 5000) ∧ (-5000 ≤ Y ∧ Y ≤ 5000) := by
    intro r hr e
    have a := hV.2.2.1 r hr
    simp only [st3, Option.some.injEq, Prod.mk.injEq] at e
    omega
  have lg : ∀ r, 0 < r → r < tn V → tm V r - tm V (r - 1) ≤ 16 → (tm V (r - 1) ≤ t ∧ t ≤ tm V r + 16) → some (leg3 V r t) = some (X, Y, b) → (1 ≤ b ∧ b ≤ 16) ∧ (-5000 ≤ X ∧ X ≤ 5000) ∧ (-5000 ≤ Y ∧ Y ≤ 5000) := by
    intro r h0 hr hl ht e
    have a := leg_bd hV h0 hr hl ht
    rw [Option.some.inj e] at a
    exact a
  split at h
  · rename_i hp
    split at h
    · exact st p hp h
    · split at h
      · rename_i c
        have := f2 (p - 1) (by omega)
        have := f3 hp
        exact lg p c.1 hp c.2 (by omega) h
      · cases h
  · split at h
    · cases h
    · rename_i c
      have c : p ≠ 0 ∧ t - tm V (p - 1) ≤ 16 := by omega
      split at h
      · rename_i d
        have a1 := f2 (p - 1) (by omega)
        have a2 := hV.2.2.2 (p - 1 - 1) (p - 1) (by omega) (by omega)
        exact lg (p - 1) d.2.1 (by omega) d.2.2 (by omega) h
      · exact st (p - 1) (by omega) h
/-! the reference finds -/
def mf (σ σ' : Mem) : Prop := (∀ b, b ≠ 80 → σ' b = σ b) ∧ ∀ i, i ≠ 6 → i ≠ 7 → i ≠ 8 → σ' 80 i = σ 80 i
theorem mf.mq {σ σ' : Mem} (h : mf σ σ') : mq σ σ' := ⟨fun b hb => h.1 b (by omega), h.2 5 (by omega) (by omega) (by omega), h.2 29 (by omega) (by omega) (by omega), h.2 30 (by omega) (by omega) (by omega)⟩
section FIND
variable {σ : Mem} {A B : Mem → Prop} {t : Nat} {V : TV} {mi : Int}
theorem d_stand {K : Mem → Prop} (ht : t < 10) (hM : MT σ t V) (hV : tok V) {x : Int} {r : Nat} (hx : x = (r : Int)) (hr : r < tn V) (h : ∀ σ', σ' 80 6 = tx V r → σ' 80 7 = ty V r → σ' 80 8 = 1 → mf σ σ' → K σ') : CC m_X10_stand [vR 80, vI (t : Int), vI x] σ (PN K) := by
  subst hx
  have e : (24 * (t : Int) + (r : Int)).toNat = 24 * t + r := by omega
  have hn := hV.1
  have hb := hV.2.2.1 r hr
  obtain ⟨g1, g2, g3⟩ := hM.2.2 r hr
  refine e_X10_stand _ _ ?_
  rw [e]
  refine ⟨by omega, by omega, fun s3 e3 => ?_⟩
  subst e3
  rw [up_o1 (by decide)]
  refine ⟨by omega, fun s6 e6 s8 e8 => ?_⟩
  subst e6 e8
  refine h _ ?_ ?_ ?_ ⟨fun b hb => ?_, fun i h6 h7 h8 => ?_⟩
  · rw [up_o2 (by decide), up_o2 (by decide), up_at, g2]
  · rw [up_o2 (by decide), up_at, g3]
  · rw [up_at]
  · rw [up_cell hb, up_cell hb, up_cell hb]
  · rw [up_o2 h8, up_o2 h7, up_o2 h6]
theorem d_goBy {K : Mem → Prop} (ht : t < 10) (hM : MT σ t V) (hV : tok V) {x : Int} {r : Nat} (hx : x = (r : Int)) (h0 : 0 < r) (hr : r < tn V) (hm : 0 ≤ mi ∧ mi < 200) (h : ∀ σ', σ' 80 6 = (leg3 V r mi).1 → σ' 80 7 = (leg3 V r mi).2.1 → σ' 80 8 = (leg3 V r mi).2.2 → mf σ σ' → K σ') : CC m_X10_goBy [vR 80, vI (t : Int), vI x, vI mi] σ (PN K) := by
  subst hx
  have e : (24 * (t : Int) + (r : Int)).toNat = 24 * t + r := by omega
  have e1 : (24 * (t : Int) + (r : Int) - 1).toNat = 24 * t + (r - 1) := by omega
  have hn := hV.1
  have hb := hV.2.2.1 r hr
  have hb1 := hV.2.2.1 (r - 1) (by omega)
  obtain ⟨g1, g2, g3⟩ := hM.2.2 r hr
  obtain ⟨k1, k2, k3⟩ := hM.2.2 (r - 1) (by omega)
  refine e_X10_goBy _ _ _ ?_
  rw [e, e1]
  refine ⟨by omega, by omega, fun v3 ev => ⟨by omega, by omega, fun s7 e7 => ?_⟩⟩
  subst e7
  rw [up_o1 (by decide), up_o1 (by decide), up_at]
  refine ⟨by omega, by omega, fun s11 e11 => ?_⟩
  subst e11
  rw [up_o1 (by decide), up_o1 (by decide), up_o1 (by decide), up_o1 (by decide), up_o2 (by decide), up_at]
  refine ⟨by omega, by omega, fun s15 e15 => ?_⟩
  subst e15
  refine h _ ?_ ?_ ?_ ⟨fun b hb => ?_, fun i h6 h7 h8 => ?_⟩
  · rw [up_o2 (by decide), up_at, ev, g1, g2, k1, k2]; rfl
  · rw [up_at, ev, g1, g3, k1, k3]; rfl
  · rw [up_o2 (by decide), up_o2 (by decide), up_at, g1, k1]; rfl
  · rw [up_cell hb, up_cell hb, up_cell hb]
  · rw [up_o2 h7, up_o2 h6, up_o2 h8]
theorem d_isLeg (ht : t < 10) (hM : MT σ t V) (hV : tok V) {x : Int} {r : Nat} (hx : x = (r : Int)) (hr : r < tn V) (h1 : 0 < r → tm V r - tm V (r - 1) ≤ 16 → A σ) (h0 : ¬ (0 < r ∧ tm V r - tm V (r - 1) ≤ 16) → B σ) : CC m_X10_isLeg [vR 80, vI (t : Int), vI x] σ (PZ A B) := by
  subst hx
  have hn := hV.1
  refine e_X10_isLeg _ _ ⟨by omega, fun q => h0 (by omega), fun q => ?_⟩
  have e : (24 * (t : Int) + (r : Int)).toNat = 24 * t + r := by omega
  have e1 : (24 * (t : Int) + (r : Int) - 1).toNat = 24 * t + (r - 1) := by omega
  have hb := hV.2.2.1 r hr
  have hb1 := hV.2.2.1 (r - 1) (by omega)
  obtain ⟨g1, g2, g3⟩ := hM.2.2 r hr
  obtain ⟨k1, k2, k3⟩ := hM.2.2 (r - 1) (by omega)
  rw [e, e1, g1, k1]
  exact ⟨by omega, by omega, by omega, fun q2 => h0 (by omega), fun q2 => h1 (by omega) (by omega)⟩
theorem d_find33 (ht : t < 10) (hM : MT σ t V) (hV : tok V) (hm : 0 ≤ mi ∧ mi < 200) {p : Nat} (hp : isF V mi p)
    (h1 : ∀ σ' X Y b, pos V mi = some (X, Y, b) → σ' 80 6 = X → σ' 80 7 = Y → σ' 80 8 = b → mf σ σ' → A σ') (h0 : pos V mi = none → B σ) : TT m_X10_find 33 [vR 80, vI (t : Int), vI mi, vI (p : Int)] [] σ (PZ A B) := by
  rw [pos_of hp] at h0
  have h1 : ∀ σ' X Y b, posP V mi p = some (X, Y, b) → σ' 80 6 = X → σ' 80 7 = Y → σ' 80 8 = b → mf σ σ' → A σ' := fun σ' X Y b q => h1 σ' X Y b (by rw [pos_of hp]; exact q)
  obtain ⟨f1, f2, f3⟩ := hp
  have hn := hV.1
  have e0 : (t : Int).toNat = t := by omega
  unfold posP at h0 h1
  refine w_X10_find_33 _ _ _ ?_
  rw [e0, hM.1, hM.2.1]
  refine ⟨by omega, by omega, by omega, fun q => ?_, fun q => ?_⟩
  · have hpn : ¬ p < tn V := by omega
    rw [if_neg hpn] at h0
    simp only [if_neg hpn] at h1
    refine ⟨fun z => h0 (by rw [if_pos (Or.inl (by omega))]), fun z => ?_⟩
    have e1 : (24 * (t : Int) + (p : Int) - 1).toNat = 24 * t + (p - 1) := by omega
    obtain ⟨k1, k2, k3⟩ := hM.2.2 (p - 1) (by omega)
    have hb1 := hV.2.2.1 (p - 1) (by omega)
    rw [e1, k1]
    refine ⟨by omega, by omega, fun z2 => ⟨by have := hV.2.1; omega, ?_⟩, fun z2 => h0 (by rw [if_pos (Or.inr (by omega))])⟩
    have hc : ¬ (p = 0 ∨ 16 < mi - tm V (p - 1)) := by omega
    simp only [if_neg hc] at h1
    have stand : ¬ (tk V = 1 ∧ 0 < p - 1 ∧ tm V (p - 1) - tm V (p - 1 - 1) ≤ 16) → TT m_X10_find 145 [vR 80, vI (t : Int), vU, vI (p : Int)] [] σ (PZ A B) := by
      intro hd
      simp only [if_neg hd] at h1
      refine w_X10_find_145 _ _ (d_stand ht hM hV (r := p - 1) (by omega) (by omega) fun σ' a1 a2 a3 a4 => h1 σ' _ _ _ rfl a1 a2 a3 a4)
    refine ⟨fun z3 => stand fun w => z3 w.1, fun z3 => ?_⟩
    refine d_isLeg ht hM hV (r := p - 1) (by omega) (by omega) (fun z4 z5 => ?_) (fun z4 => stand fun w => z4 w.2)
    refine d_goBy ht hM hV (r := p - 1) (by omega) z4 (by omega) hm fun σ' a1 a2 a3 a4 => ?_
    have hd : tk V = 1 ∧ 0 < p - 1 ∧ tm V (p - 1) - tm V (p - 1 - 1) ≤ 16 := ⟨z3, z4, z5⟩
    simp only [if_pos hd] at h1
    exact h1 σ' _ _ _ rfl a1 a2 a3 a4
  · have hpn : p < tn V := by omega
    rw [if_pos hpn] at h0
    simp only [if_pos hpn] at h1
    have e : (24 * (t : Int) + (p : Int)).toNat = 24 * t + p := by omega
    obtain ⟨k1, k2, k3⟩ := hM.2.2 p hpn
    have hb1 := hV.2.2.1 p hpn
    rw [e, k1]
    refine ⟨by omega, by omega, by omega, fun z => ?_, fun z => ?_⟩
    · rw [if_neg z] at h0
      simp only [if_neg z] at h1
      refine d_isLeg ht hM hV (r := p) rfl hpn (fun z4 z5 => ?_) (fun z4 => h0 (by rw [if_neg z4]))
      refine d_goBy ht hM hV (r := p) rfl z4 hpn hm fun σ' a1 a2 a3 a4 => ?_
      have hd : 0 < p ∧ tm V p - tm V (p - 1) ≤ 16 := ⟨z4, z5⟩
      simp only [if_pos hd] at h1
      exact h1 σ' _ _ _ rfl a1 a2 a3 a4
    · simp only [if_pos z] at h1
      exact d_stand ht hM hV (r := p) rfl hpn fun σ' a1 a2 a3 a4 => h1 σ' _ _ _ rfl a1 a2 a3 a4
theorem d_find (ht : t < 10) (hM : MT σ t V) (hV : tok V) (hm : 0 ≤ mi ∧ mi < 200)
    (h1 : ∀ σ' X Y b, pos V mi = some (X, Y, b) → σ' 80 6 = X → σ' 80 7 = Y → σ' 80 8 = b → mf σ σ' → A σ') (h0 : pos V mi = none → B σ) : CC m_X10_find [vR 80, vI (t : Int), vI mi] σ (PZ A B) := by
  have loop : ∀ (k i : Nat), tn V - i = k → i ≤ tn V → (∀ j, j < i → tm V j < mi) → TT m_X10_find 2 [vR 80, vI (t : Int), vI mi, vI (i : Int)] [] σ (PZ A B) := by
    intro k
    induction k with
    | zero =>
      intro i hk hi hj
      have hn := hV.1
      have e0 : (t : Int).toNat = t := by omega
      refine w_X10_find_2 _ _ _ ?_
      rw [e0, hM.1]
      refine ⟨by omega, by omega, by omega, fun q => ?_, fun q => absurd q (by omega)⟩
      exact d_find33 ht hM hV hm ⟨hi, hj, fun z => absurd z (by omega)⟩ h1 h0
    | succ k ih =>
      intro i hk hi hj
      have hn := hV.1
      have e0 : (t : Int).toNat = t := by omega
      refine w_X10_find_2 _ _ _ ?_
      rw [e0, hM.1]
      refine ⟨by omega, by omega, by omega, fun q => absurd q (by omega), fun q => ?_⟩
      have e : (24 * (t : Int) + (i : Int)).toNat = 24 * t + i := by omega
      have hil : i < tn V := by omega
      obtain ⟨k1, k2, k3⟩ := hM.2.2 i hil
      have hb1 := hV.2.2.1 i hil
      rw [e, k1]
      refine ⟨by omega, by omega, by omega, fun z => ?_, fun z => ?_⟩
      · exact d_find33 ht hM hV hm ⟨hi, hj, fun _ => z⟩ h1 h0
      · refine ih (i + 1) (by omega) (by omega) fun j hj2 => ?_
        rcases Nat.lt_or_ge j i with w | w
        · exact hj j w
        · rw [show j = i by omega]; omega
  exact e_X10_find _ _ (loop (tn V) 0 (by omega) (by omega) (fun j h => absurd h (Nat.not_lt_zero j)))
end FIND
