/-! the fewest rows from each on -/
def isFW (V : TV) (e : Int) (F : Nat → Int) (lo : Nat) : Prop := ∀ r, lo ≤ r → r < tn V → (1 ≤ F r ∧ F r ≤ (tn V : Int) - r) ∧ (r + 1 = tn V → F r = 1) ∧ (r + 1 < tn V → (∃ q, r < q ∧ q < tn V ∧ may V e r q ∧ F r = F q + 1) ∧ ∀ q, r < q → q < tn V → may V e r q → F r ≤ F q + 1)
theorem isFW_cong {V : TV} {e : Int} {F G : Nat → Int} {lo : Nat} (h : isFW V e F lo) (hg : ∀ i, lo ≤ i → i < tn V → G i = F i) : isFW V e G lo := by
  intro r h1 h2
  obtain ⟨a, b, c⟩ := h r h1 h2
  rw [hg r h1 h2]
  refine ⟨a, b, fun z => ?_⟩
  obtain ⟨⟨q, q1, q2, q3, q4⟩, d⟩ := c z
  refine ⟨⟨q, q1, q2, q3, ?_⟩, fun q' q1' q2' q3' => ?_⟩
  · rw [hg q (by omega) q2]; exact q4
  · rw [hg q' (by omega) q2']; exact d q' q1' q2' q3'
theorem isFW_one {V : TV} {e : Int} {F G : Nat → Int} (h : isFW V e F 0) (hg : isFW V e G 0) : ∀ (d r : Nat), tn V ≤ r + d → r < tn V → F r = G r := by
  intro d
  induction d with
  | zero => intro r h1 h2; omega
  | succ d ih =>
    intro r h1 h2
    obtain ⟨-, b, c⟩ := h r (by omega) h2
    obtain ⟨-, b', c'⟩ := hg r (by omega) h2
    by_cases z : r + 1 = tn V
    · rw [b z, b' z]
    · obtain ⟨⟨q, q1, q2, q3, q4⟩, d1⟩ := c (by omega)
      obtain ⟨⟨q', q1', q2', q3', q4'⟩, d1'⟩ := c' (by omega)
      have e1 := ih q (by omega) q2
      have e2 := ih q' (by omega) q2'
      have l1 := d1 q' q1' q2' q3'
      have l2 := d1' q q1 q2 q3
      omega
section CB
variable {σ : Mem} {K : Mem → Prop} {V : TV} {e : Int}
theorem c_back {a : Nat} (ha : isT a) (hC : CT σ a V) (hV : tok V) (he : 0 ≤ e ∧ e < 100) (hn0 : 0 < tn V) (hK : ∀ σ', isFW V e (σ' 31) 0 → (∀ c, c ≠ 31 → σ' c = σ c) → K σ') : CC m_X7_countBackwards [vR 29, vR a, vI e] σ (PN K) := by
  have hn := hV.1
  have ha31 : a ≠ 31 ∧ a + 1 ≠ 31 ∧ a + 2 ≠ 31 ∧ a + 3 ≠ 31 := by obtain ⟨k, hk, rfl⟩ := ha; omega
  have inner : ∀ (r : Nat), r + 1 < tn V → (∀ s, isFW V e (s 31) r → (∀ c, c ≠ 31 → s c = σ c) → TT m_X7_countBackwards 19 [vR 29, vR a, vI e, vI ((r : Int) - 1), vU, vU] [] s (PN K)) → ∀ s, isFW V e (s 31) (r + 1) → (∀ c, c ≠ 31 → s c = σ c) → ∀ (d j : Nat) (x4 : Int), j + d = tn V → r + 2 ≤ j → (∃ q, r < q ∧ q < j ∧ may V e r q ∧ x4 = s 31 q) → (∀ q, r < q → q < j → may V e r q → x4 ≤ s 31 q) → TT m_X7_countBackwards 38 [vR 29, vR a, vI e, vI (r : Int), vI x4, vI (j : Int)] [] s (PN K) := by
    intro r hr next s hF hf d
    have hCs : CT s a V := hC.same (hf _ ha31.1) (hf _ ha31.2.1) (hf _ ha31.2.2.1) (hf _ ha31.2.2.2)
    induction d with
    | zero =>
      intro j x4 hj hrj hex hall
      have hj : j = tn V := by omega
      subst hj
      refine w_X7_countBackwards_38 a ha _ _ _ _ ?_
      rw [hCs.1]
      refine ⟨by omega, by omega, fun _ => ⟨by omega, fun s11 e11 => ?_⟩, fun z => absurd (Int.le_refl _) z⟩
      rw [Int.toNat_natCast] at e11
      refine next s11 (fun r' h1 h2 => ?_) (fun c hc => by rw [e11, up_cell hc]; exact hf c hc)
      have oth : ∀ q, r < q → s11 31 q = s 31 q := fun q hq => by rw [e11, up_o2 (by omega)]
      by_cases z : r' = r
      · subst z
        have er : s11 31 r' = x4 + 1 := by rw [e11, up_at]
        obtain ⟨q, q1, q2, q3, q4⟩ := hex
        have g := (hF q (by omega) q2).1
        rw [er]
        refine ⟨by omega, fun z => by omega, fun _ => ⟨⟨q, q1, q2, q3, by rw [oth q q1, q4]⟩, fun q' q1' q2' q3' => ?_⟩⟩
        rw [oth q' q1']
        have := hall q' q1' q2' q3'
        omega
      · exact isFW_cong (lo := r + 1) hF (fun i i1 i2 => oth i (by omega)) r' (by omega) h2
    | succ d ih =>
      intro j x4 hj hrj hex hall
      obtain ⟨q, q1, q2, q3, q4⟩ := hex
      have g := (hF q (by omega) (by omega)).1
      have gj := (hF j (by omega) (by omega)).1
      have ej : (j : Int) + 1 = ((j + 1 : Nat) : Int) := by omega
      refine w_X7_countBackwards_38 a ha _ _ _ _ ?_
      rw [hCs.1, ej]
      simp only [Int.toNat_natCast]
      refine ⟨by omega, by omega, fun z => absurd z (by omega), fun _ => ⟨by omega, by omega, by omega, fun z => ?_, fun z => ?_⟩⟩
      · refine ih (j + 1) x4 (by omega) (by omega) ⟨q, q1, by omega, q3, q4⟩ fun q' h1 h2 h3 => ?_
        rcases Nat.lt_or_ge q' j with w | w
        · exact hall q' h1 w h3
        · rw [show q' = j by omega]; exact z
      · refine c_may ha hCs hV he (by omega) (by omega) (fun m => ?_) (fun m => ?_)
        · refine ih (j + 1) _ (by omega) (by omega) ⟨j, by omega, by omega, m, rfl⟩ fun q' h1 h2 h3 => ?_
          rcases Nat.lt_or_ge q' j with w | w
          · have := hall q' h1 w h3; omega
          · rw [show q' = j by omega]; exact Int.le_refl _
        · refine ih (j + 1) x4 (by omega) (by omega) ⟨q, q1, by omega, q3, q4⟩ fun q' h1 h2 h3 => ?_
          rcases Nat.lt_or_ge q' j with w | w
          · exact hall q' h1 w h3
          · exact absurd (by rw [show j = q' by omega]; exact h3) m
  have outer : ∀ (r : Nat), r + 1 ≤ tn V → ∀ s, isFW V e (s 31) r → (∀ c, c ≠ 31 → s c = σ c) → TT m_X7_countBackwards 19 [vR 29, vR a, vI e, vI ((r : Int) - 1), vU, vU] [] s (PN K) := by
    intro r
    induction r with
    | zero =>
      intro h s hF hf
      exact w_X7_countBackwards_19 a ha _ _ ⟨by decide, fun _ => hK s hF hf, fun z => absurd (by decide) z⟩
    | succ r ih =>
      intro h s hF hf
      have e0 : ((r + 1 : Nat) : Int) - 1 = (r : Int) := by omega
      have e1 : (r : Int) + 1 = ((r + 1 : Nat) : Int) := by omega
      have e2 : (r : Int) + 2 = ((r + 2 : Nat) : Int) := by omega
      rw [e0]
      refine w_X7_countBackwards_19 a ha _ _ ?_
      rw [e1, e2, Int.toNat_natCast]
      refine ⟨by omega, fun z => absurd z (by omega), fun _ => ⟨by omega, ?_⟩⟩
      exact inner r (by omega) (ih (by omega)) s hF hf (tn V - (r + 2)) (r + 2) _ (by omega) (by omega) ⟨r + 1, by omega, by omega, Or.inl rfl, rfl⟩ fun q h1 h2 h3 => by rw [show q = r + 1 by omega]; exact Int.le_refl _
  refine e_X7_countBackwards a ha _ ?_
  rw [hC.1]
  refine ⟨by omega, fun s2 es => ?_⟩
  have e9 : s2 a 3 = (tn V : Int) := by rw [es, up_o1 ha31.1]; exact hC.1
  rw [e9]
  have := outer (tn V - 1) (by omega) s2 (fun r h1 h2 => by
    have hr : r = tn V - 1 := by omega
    have er : s2 31 r = 1 := by rw [es, hr, show ((tn V : Int) - 1).toNat = tn V - 1 by omega, up_at]
    rw [er]
    exact ⟨by omega, fun _ => rfl, fun z => absurd z (by omega)⟩) (fun c hc => by rw [es, up_cell hc])
  rw [show ((tn V - 1 : Nat) : Int) - 1 = (tn V : Int) - 2 by omega] at this
  exact this
end CB
/-! which rows are kept -/
noncomputable def cnd (V : TV) (e : Int) (F : Nat → Int) (l r : Nat) : Bool := @decide (F r + 1 = F l ∧ may V e l r) (Classical.propDecidable _)
theorem cnd_t {V : TV} {e : Int} {F : Nat → Int} {l r : Nat} (h1 : F r + 1 = F l) (h2 : may V e l r) : cnd V e F l r = true := @decide_eq_true _ (Classical.propDecidable _) ⟨h1, h2⟩
theorem cnd_f {V : TV} {e : Int} {F : Nat → Int} {l r : Nat} (h : ¬ (F r + 1 = F l ∧ may V e l r)) : cnd V e F l r = false := @decide_eq_false _ (Classical.propDecidable _) h
def KS (c : Nat → Nat → Bool) : Nat → Nat × (Nat → Int)
  | 0 => (0, fun _ => 0)
  | r + 1 => if r = 0 ∨ c ((KS c r).2 ((KS c r).1 - 1)).toNat r = true then ((KS c r).1 + 1, sv (KS c r).2 (KS c r).1 r) else KS c r
theorem KS_y {c : Nat → Nat → Bool} {r : Nat} (h : r = 0 ∨ c ((KS c r).2 ((KS c r).1 - 1)).toNat r = true) : KS c (r + 1) = ((KS c r).1 + 1, sv (KS c r).2 (KS c r).1 r) := by rw [KS, if_pos h]
theorem KS_n {c : Nat → Nat → Bool} {r : Nat} (h0 : r ≠ 0) (h : c ((KS c r).2 ((KS c r).1 - 1)).toNat r = false) : KS c (r + 1) = KS c r := by
  rw [KS, if_neg]
  rintro (z | z)
  · exact h0 z
  · rw [h] at z; cases z
theorem KS_spec (c : Nat → Nat → Bool) : ∀ r : Nat, (KS c r).1 ≤ r ∧ (0 < r → 0 < (KS c r).1) ∧ (∀ j, j < (KS c r).1 → (j : Int) ≤ (KS c r).2 j ∧ (KS c r).2 j < (r : Int)) ∧ ∀ i j, i < j → j < (KS c r).1 → (KS c r).2 i < (KS c r).2 j
  | 0 => ⟨Nat.le_refl 0, fun h => absurd h (by omega), fun j h => absurd h (Nat.not_lt_zero j), fun i j _ h => absurd h (Nat.not_lt_zero j)⟩
  | r + 1 => by
    obtain ⟨h1, h2, h3, h4⟩ := KS_spec c r
    by_cases z : r = 0 ∨ c ((KS c r).2 ((KS c r).1 - 1)).toNat r = true
    · rw [KS_y z]
      refine ⟨by show (KS c r).1 + 1 ≤ _; omega, fun _ => by show 0 < (KS c r).1 + 1; omega, fun j hj => ?_, fun i j hij hj => ?_⟩
      · have hj : j < (KS c r).1 + 1 := hj
        show (j : Int) ≤ sv _ _ _ j ∧ sv _ _ _ j < _
        by_cases w : j = (KS c r).1
        · subst w; rw [sv_at]; omega
        · rw [sv_ne w]; have := h3 j (by omega); omega
      · have hj : j < (KS c r).1 + 1 := hj
        show sv _ _ _ i < sv _ _ _ j
        rw [sv_ne (show i ≠ (KS c r).1 by omega)]
        by_cases w : j = (KS c r).1
        · rw [w, sv_at]; exact (h3 i (by omega)).2
        · rw [sv_ne w]; exact h4 i j hij (by omega)
    · rw [KS_n (fun w => z (Or.inl w)) (by
        cases hc : c ((KS c r).2 ((KS c r).1 - 1)).toNat r with
        | false => rfl
        | true => exact absurd (Or.inr hc) z)]
      refine ⟨by omega, fun _ => h2 (by omega), fun j hj => ?_, h4⟩
      have := h3 j hj
      omega
theorem KS_cong {c d : Nat → Nat → Bool} {n : Nat} (h : ∀ l r, l < r → r < n → c l r = d l r) : ∀ r : Nat, r ≤ n → KS c r = KS d r
  | 0, _ => rfl
  | r + 1, hr => by
    have ih := KS_cong h r (by omega)
    obtain ⟨h1, h2, h3, h4⟩ := KS_spec d r
    simp only [KS]
    rw [ih]
    by_cases z : r = 0
    · rw [if_pos (Or.inl z), if_pos (Or.inl z)]
    · have g := h3 ((KS d r).1 - 1) (by have := h2 (by omega); omega)
      rw [h _ r (by omega) (by omega)]
theorem KS_FW {V : TV} {e : Int} {F G : Nat → Int} (h : isFW V e F 0) (hg : isFW V e G 0) : KS (cnd V e F) (tn V) = KS (cnd V e G) (tn V) := by
  refine KS_cong (n := tn V) (fun l r h1 h2 => ?_) (tn V) (Nat.le_refl _)
  have e1 := isFW_one h hg (tn V) l (by omega) (by omega)
  have e2 := isFW_one h hg (tn V) r (by omega) h2
  by_cases z : F r + 1 = F l ∧ may V e l r
  · rw [cnd_t z.1 z.2, cnd_t (by rw [← e1, ← e2]; exact z.1) z.2]
  · rw [cnd_f z, cnd_f (by rw [← e1, ← e2]; exact z)]
