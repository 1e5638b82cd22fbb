/-! fractions in least terms -/
theorem gcd_step {a b : Int} : Int.gcd b (a % b) = Int.gcd a b := by
  have h := Int.emod_add_mul_ediv a b
  have e : Int.gcd (a / b * b + a % b) b = Int.gcd (a % b) b := Int.gcd_mul_right_add_left b (a % b) (a / b)
  rw [show a / b * b + a % b = a by rw [Int.mul_comm]; omega] at e
  rw [Int.gcd_comm, e]
section GCD
variable {σ : Mem} {K : Int → Mem → Prop}
/-- Euclid's steps within the class's bound: two steps halve the smaller one -/
theorem lp_common9 : ∀ (k : Nat) (x y s : Int), 0 ≤ x → R64 x → 0 ≤ y → y < 2 ^ k → y < 1000000 → 0 ≤ s → s + 2 * k + 1 ≤ 100 → K (Int.gcd x y) σ → TT m_X9_commonMeasure 9 [vU, vU, vU, vU, vL x, vU, vL y, vU, vI s, vU, vU] [] σ (PJ K) := by
  intro k
  induction k with
  | zero =>
    intro x y s hx hx2 hy hk hy2 hs hb hK
    have e : y = 0 := by
      have : (2 : Int) ^ 0 = 1 := rfl
      omega
    subst e
    rw [Int.gcd_zero_right, Int.natAbs_of_nonneg hx] at hK
    exact w_X9_commonMeasure_9 _ _ _ ⟨by omega, fun _ => hK, fun _ => ⟨by decide, fun _ => hK, fun q => absurd rfl q⟩⟩
  | succ k ih =>
    intro x y s hx hx2 hy hk hy2 hs hb hK
    have fin : ∀ x s : Int, 0 ≤ x → R32 s → K x σ → TT m_X9_commonMeasure 9 [vU, vU, vU, vU, vL x, vU, vL 0, vU, vI s, vU, vU] [] σ (PJ K) := fun x s hx hs hK => w_X9_commonMeasure_9 _ _ _ ⟨hs, fun _ => hK, fun _ => ⟨by decide, fun _ => hK, fun q => absurd rfl q⟩⟩
    have hp : (2 : Int) ^ (k + 1) = 2 * 2 ^ k := by rw [Int.pow_succ, Int.mul_comm]
    by_cases e : y = 0
    · subst e
      rw [Int.gcd_zero_right, Int.natAbs_of_nonneg hx] at hK
      exact fin x s hx (by omega) hK
    · refine w_X9_commonMeasure_9 _ _ _ ⟨by omega, fun q => absurd q (by omega), fun _ => ⟨by omega, fun q => absurd q e, fun _ => ⟨hx2, e, ?_⟩⟩⟩
      rw [Int.tmod_eq_emod_of_nonneg hx]
      rw [← gcd_step] at hK
      have r0 : 0 ≤ x % y := Int.emod_nonneg x e
      have r1 : x % y < y := Int.emod_lt_of_pos x (by omega)
      generalize x % y = r at *
      by_cases e2 : r = 0
      · subst e2
        rw [Int.gcd_zero_right, Int.natAbs_of_nonneg hy] at hK
        exact fin y (s + 1) hy (by omega) hK
      · refine w_X9_commonMeasure_9 _ _ _ ⟨by omega, fun q => absurd q (by omega), fun _ => ⟨by omega, fun q => absurd q e2, fun _ => ⟨by omega, e2, ?_⟩⟩⟩
        rw [Int.tmod_eq_emod_of_nonneg hy]
        rw [← gcd_step] at hK
        have q0 : 0 ≤ y % r := Int.emod_nonneg y e2
        have q1 : y % r < r := Int.emod_lt_of_pos y (by omega)
        have q2 : 2 * (y % r) < y := by
          have h1 := Int.emod_add_mul_ediv y r
          have h2 : 1 ≤ y / r := by
            rcases Int.lt_or_le (y / r) 1 with z | z
            · have : r * (y / r) ≤ 0 := Int.mul_nonpos_of_nonneg_of_nonpos (by omega) (by omega)
              omega
            · exact z
          have h3 : r * 1 ≤ r * (y / r) := Int.mul_le_mul_of_nonneg_left h2 (by omega)
          omega
        exact ih r (y % r) (s + 1 + 1) (by omega) (by omega) q0 (by omega) (by omega) (by omega) (by omega) hK
theorem c_common {x y : Int} (hx : 0 ≤ x) (hx2 : R64 x) (hy : 0 ≤ y) (hy2 : y < 1000000) (hK : K (Int.gcd x y) σ) : CC m_X9_commonMeasure [vL x, vL y] σ (PJ K) :=
  e_X9_commonMeasure _ _ (lp_common9 20 x y 0 hx hx2 hy (by omega) hy2 (by omega) (by omega) hK)
theorem lp_common17 : ∀ (k : Nat) (x y : Int), y.toNat ≤ k → 0 ≤ x → R64 x → 0 ≤ y → R64 y → K (Int.gcd x y) σ → TT m_X10_common 17 [vU, vU, vU, vU, vL x, vU, vL y, vU, vU, vU] [] σ (PJ K) := by
  intro k
  induction k with
  | zero =>
    intro x y hk hx hx2 hy hy2 hK
    have e : y = 0 := by omega
    subst e
    rw [Int.gcd_zero_right, Int.natAbs_of_nonneg hx] at hK
    exact w_X10_common_17 _ _ ⟨hy2, fun _ => hK, fun q => absurd rfl q⟩
  | succ k ih =>
    intro x y hk hx hx2 hy hy2 hK
    refine w_X10_common_17 _ _ ⟨hy2, fun e => ?_, fun e => ⟨hx2, e, ?_⟩⟩
    · subst e
      rw [Int.gcd_zero_right, Int.natAbs_of_nonneg hx] at hK
      exact hK
    · rw [Int.tmod_eq_emod_of_nonneg hx]
      rw [← gcd_step] at hK
      have r0 : 0 ≤ x % y := Int.emod_nonneg x e
      have r1 : x % y < y := Int.emod_lt_of_pos x (by omega)
      exact ih y (x % y) (by omega) hy hy2 r0 (by omega) hK
theorem gcd_iabs (x y : Int) : Int.gcd (iabs x) y = Int.gcd x y := by
  unfold iabs
  split
  · rfl
  · exact Int.neg_gcd
theorem iabs_nn (x : Int) : 0 ≤ iabs x := by unfold iabs; split <;> omega
/-- the term asked for -/
def lt3 (X b u : Int) : Int := if u = 0 then Int.tdiv b (Int.gcd X b) else Int.tdiv X (Int.gcd X b)
theorem gcd_le9 {X b : Int} (hb : 0 < b) : 0 < (Int.gcd X b : Int) ∧ (Int.gcd X b : Int) ≤ b := by
  have h1 : 0 < Int.gcd X b := Int.gcd_pos_of_ne_zero_right X (by omega)
  have h2 : (Int.gcd X b : Int) ∣ b := Int.gcd_dvd_right X b
  exact ⟨by omega, Int.le_of_dvd hb h2⟩
theorem d_told {X b u : Int} (hX : R64 X) (hX2 : R64 (-X)) (hb : 0 < b) (hb2 : R64 b) (hu : R32 u) (hK : K (lt3 X b u) σ) : CC m_X10_told [vL X, vL b, vI u] σ (PJ K) := by
  have hg := gcd_le9 (X := X) hb
  refine e_X10_told _ _ _ (e_X10_common _ _ ⟨hX, fun v4 e4 => ?_⟩)
  have ev : v4 = iabs X := e4
  subst ev
  refine lp_common17 _ _ _ (Nat.le_refl _) (iabs_nn X) (by unfold iabs; split <;> assumption) (by omega) hb2 ?_
  rw [gcd_iabs]
  exact ⟨hu, fun _ => ⟨hb2, by omega, by omega⟩, fun _ => ⟨hX, by omega, by omega⟩, hK⟩
/-- a fraction, above and below times q, has the same terms -/
theorem lt3_mul {X b q u : Int} (hb : 0 < b) (hq : 0 < q) : lt3 (X * q) (b * q) u = lt3 X b u := by
  have hg := gcd_le9 (X := X) hb
  have e : (Int.gcd (X * q) (b * q) : Int) = (Int.gcd X b : Int) * q := by
    rw [Int.gcd_mul_right]
    rw [Int.natCast_mul, Int.natAbs_of_nonneg (by omega)]
  unfold lt3
  rw [e]
  split
  · exact Int.mul_tdiv_mul_of_pos_left _ _ hq
  · exact Int.mul_tdiv_mul_of_pos_left _ _ hq
theorem c_leastTerm {X b u : Int} (hX : R64 X) (hX2 : R64 (-X)) (hb : 0 < b) (hb2 : b < 1000000) (hu : R32 u) (hK : K (lt3 X b u) σ) : CC m_X9_leastTerm [vL X, vL b, vI u] σ (PJ K) := by
  have hg := gcd_le9 (X := X) hb
  refine e_X9_leastTerm _ _ _ ⟨hX, c_common (iabs_nn X) (by unfold iabs; split <;> assumption) (by omega) hb2 ?_⟩
  rw [gcd_iabs]
  refine ⟨hu, fun v7 e7 => ⟨by omega, fun _ => ⟨?_, by omega⟩, ?_⟩⟩
  · rw [e7]; split
    · omega
    · exact hX
  · rw [if_neg (by omega), e7]
    unfold lt3 at hK
    split at hK
    · rename_i z; rw [if_pos z]; exact hK
    · rename_i z; rw [if_neg z]; exact hK
end GCD
