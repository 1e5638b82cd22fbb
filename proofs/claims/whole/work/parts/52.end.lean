/-! the start, and the claim -/
theorem RSL_len : ∀ k, k < 101 → (RSL.getD k []).length ≤ 32 := by decide +kernel
def ckB (k j : Nat) : Bool := (mu0 k j == muF k j) || dAll.any (fun p => Nat.beq p.1 k && Nat.beq p.2 j)
theorem ck_all : (List.range 101).all (fun k => (List.range 32).all (fun j => ckB k j)) = true := by decide +kernel
theorem dAll_ok (k : Nat) (hk : k < 101) (j : Nat) (hj : j < 32) : ((k, j) ∈ dAll ∨ mu0 k j = muF k j) := by
  have a := List.all_eq_true.mp ck_all k (List.mem_range.mpr hk)
  have b := List.all_eq_true.mp a j (List.mem_range.mpr hj)
  unfold ckB at b
  rcases Bool.or_eq_true_iff.mp b with u | u
  · exact Or.inr (eq_of_beq u)
  · obtain ⟨p, p1, p2⟩ := List.any_eq_true.mp u
    have q := Bool.and_eq_true_iff.mp p2
    have q1 := Nat.eq_of_beq_eq_true q.1
    have q2 := Nat.eq_of_beq_eq_true q.2
    obtain ⟨x, y⟩ := p
    have q1 : x = k := q1
    have q2 : y = j := q2
    subst q1
    subst q2
    exact Or.inl p1
theorem mem_end {k : Nat} (hk : k < 101) : mrg muF k = Mm dAll k := by
  funext j
  have e : mrg muF k j = muF k j := by
    unfold mrg muF
    by_cases z : rsl k j = true
    · rw [if_pos z, if_pos z]
    · rw [if_neg z, if_neg z]
  rw [e]
  unfold Mm
  by_cases z : (k, j) ∈ dAll
  · rw [if_pos z]
  · rw [if_neg z]
    rcases Nat.lt_or_ge j 32 with w | w
    · rcases dAll_ok k hk j w with u | u
      · exact absurd u z
      · exact u.symm
    · unfold mu0 muF
      by_cases u : rsl k j = true
      · rw [if_pos u, if_pos u]
        have l := RSL_len k hk
        unfold RS
        rw [List.getD_eq_getElem?_getD, List.getElem?_eq_none (by omega)]
        rfl
      · rw [if_neg u, if_neg u, if_neg (by omega)]
def T00 : Nat → TV := fun _ => (0, 0, fun _ => 0, fun _ => 0, fun _ => 0)
theorem FN00 : FN T00 = 0 := rfl
theorem iv_start : IV muF 0 := by
  have e11 : muF 0 11 = 0 := by decide
  have e13 : muF 0 13 = 0 := by decide
  have e12 : muF 0 12 = 0 := by decide
  have c30 : muF 80 30 = 0 := by decide
  have c29 : muF 80 29 = 0 := by decide
  have c5 : muF 80 5 = 0 := by decide
  have e10 : muF 0 10 = 0 := by decide
  have tt : ∀ t, t < 10 → muF (34 + 4 * t) 3 = 0 ∧ muF (34 + 4 * t) 4 = 0 := by decide
  have mm : ∀ t, t < 10 → muF 81 t = 0 ∧ muF 85 t = 0 := by decide
  have p0 : muF 13 11 = 0 ∧ muF 13 12 = 1 ∧ muF 18 0 = 0 ∧ muF 20 0 = 0 := by decide
  refine ⟨⟨⟨by omega, by omega, fun s hs => absurd hs (by omega)⟩, ⟨by omega, by omega⟩, by omega, by omega, by omega⟩, T00, fun t ht => ⟨Nat.zero_le _, Or.inl rfl, fun i hi => absurd hi (Nat.not_lt_zero i), fun i j _ hj => absurd hj (Nat.not_lt_zero j)⟩, fun t ht => ?_, fun t ht => ?_, Or.inr ⟨e10, ?_⟩⟩
  · rw [trkN]
    exact ⟨(tt t ht).1, (tt t ht).2, fun i hi => absurd hi (Nat.not_lt_zero i)⟩
  · exact ⟨(mm t ht).1, (mm t ht).2, fun i hi => absurd hi (Nat.not_lt_zero i)⟩
  · unfold TrC
    rw [FN00]
    refine ⟨p0.1, fun l hl => absurd hl (Nat.not_lt_zero l), p0.2.1, fun p hp => ?_⟩
    have hp : p < 1 := hp
    have hp : p = 0 := by omega
    subst hp
    exact ⟨⟨p0.2.2.1, p0.2.2.2⟩, fun i hi => absurd hi (Nat.not_lt_zero i), fun h0 => absurd h0 (Nat.lt_irrefl 0)⟩
theorem law_all (L : Nat) (xs : Nat → Int) (hL : L ≤ 4096) (hx : ∀ j, R32 (xs j)) : T (mLaw L xs) 0 [vS, vU, vU, vU] [] (some (600000, 7302250)) hs0 (fun r _ => r = some (vI 1)) := by
  refine T_cong (h := (0, SH, Mm [])) rfl (fun k hk => absurd hk (Nat.not_lt_zero k)) (law_make (T_drop ?_))
  refine T_cong (h := hsm muF) (h' := (101, SH, Mm dAll)) rfl (fun k hk => ⟨rfl, mem_end hk⟩) ?_
  exact law_loop (K := fun v _ => v = 1) hL hx (fun _ => rfl) (L + 1) 0 muF (by decide) (by decide) (by omega) iv_start _ (fun r σ' h => by
    obtain ⟨x, e1, e2⟩ := h
    rw [e1, e2])
