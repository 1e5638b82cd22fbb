/-! thinning -/
def nlv (V : TV) (ax : Nat → Int) (r q k : Nat) : Int := ax k * (tm V q - tm V r) - (ax r * (tm V q - tm V r) + (ax q - ax r) * (tm V k - tm V r))
def nl (V : TV) (ax : Nat → Int) (e : Int) (r q k : Nat) : Prop := -(e * (tm V q - tm V r)) ≤ nlv V ax r q k ∧ nlv V ax r q k ≤ e * (tm V q - tm V r)
def may (V : TV) (e : Int) (r q : Nat) : Prop := q = r + 1 ∨ (tm V q - tm V r ≤ 16 ∧ ∀ k, r < k → k < q → nl V (tx V) e r q k ∧ nl V (ty V) e r q k)
section THIN
variable {σ : Mem} {A B : Mem → Prop} {V : TV} {e : Int} {r q : Nat}
theorem nlv_bd {f : Nat → Int} {k : Nat} (hV : tok V) (hf : ∀ i, i < tn V → 0 ≤ f i ∧ f i < 100) (hr : r < k) (hk : k < q) (hq : q < tn V) (hs : tm V q - tm V r ≤ 16) : (-10000 ≤ nlv V f r q k ∧ nlv V f r q k ≤ 10000) := by
  have i1 := hV.2.2.2 r k hr (by omega)
  have i2 := hV.2.2.2 k q hk hq
  have f1 := hf r (by omega)
  have f2 := hf k (by omega)
  have f3 := hf q hq
  have a1 := mul_bd (u := f k) (v := tm V q - tm V r) (U := 100) (W := 16) (by omega) (by omega)
  have a2 := mul_bd (u := f r) (v := tm V q - tm V r) (U := 100) (W := 16) (by omega) (by omega)
  have a3 := mul_bd (u := f q - f r) (v := tm V k - tm V r) (U := 100) (W := 16) (by omega) (by omega)
  unfold nlv
  omega
theorem c_nearL {c m : Nat} {f : Nat → Int} {k : Nat} (hc : c < N0 ∧ SH c = (20, 24)) (hm : m < N0 ∧ SH m = (20, 24)) (hV : tok V) (h9 : ∀ i, i < tn V → σ m i = tm V i ∧ σ c i = f i ∧ 0 ≤ f i ∧ f i < 100) (he : 0 ≤ e ∧ e < 100) (hr : r < k) (hk : k < q) (hq : q < tn V) (hs : tm V q - tm V r ≤ 16) (h1 : nl V f e r q k → A σ) (h0 : ¬ nl V f e r q k → B σ) : CC m_X7_isNearLine [vR c, vR m, vI (r : Int), vI (q : Int), vI (k : Int), vI e] σ (PZ A B) := by
  have hn := hV.1
  have bd := nlv_bd hV (fun i hi => (h9 i hi).2.2) hr hk hq hs
  have i1 := hV.2.2.2 r k hr (by omega)
  have i2 := hV.2.2.2 k q hk hq
  have b2 := mul_bd (u := e) (v := tm V q - tm V r) (U := 100) (W := 16) (by omega) (by omega)
  refine e_X7_isNearLine c hc m hm _ _ _ _ ?_
  simp only [Int.toNat_natCast]
  rw [(h9 q hq).1, (h9 r (by omega)).1, (h9 k (by omega)).1, (h9 q hq).2.1, (h9 r (by omega)).2.1, (h9 k (by omega)).2.1]
  refine ⟨by omega, by omega, fun v3 e3 => ⟨by omega, fun v6 e6 v8 e8 => ?_⟩⟩
  have ev : f k * v3 - v8 = nlv V f r q k := by rw [e8, e3, e6]; rfl
  rw [ev, e3]
  have ha : iabs (nlv V f r q k) = if 0 ≤ nlv V f r q k then nlv V f r q k else - nlv V f r q k := rfl
  have h5 : R32 (iabs (nlv V f r q k)) := by rw [ha]; split <;> omega
  refine ⟨by omega, h5, by omega, fun z => h0 fun w => ?_, fun z => h1 ?_⟩
  · unfold nl at w
    rw [ha] at z
    split at z <;> omega
  · unfold nl
    rw [ha] at z
    split at z <;> omega
theorem c_may {a : Nat} (ha : isT a) (hC : CT σ a V) (hV : tok V) (he : 0 ≤ e ∧ e < 100) (hr : r < q) (hq : q < tn V) (h1 : may V e r q → A σ) (h0 : ¬ may V e r q → B σ) : CC m_X7_mayFollow [vR a, vI (r : Int), vI (q : Int), vI e] σ (PZ A B) := by
  have hn := hV.1
  obtain ⟨-, -, hrow⟩ := hC
  have b1 := hV.2.2.1 r (by omega)
  have b2 := hV.2.2.1 q hq
  have loop : tm V q - tm V r ≤ 16 → ¬ q = r + 1 → ∀ (n k : Nat), k + n = q → r < k → (∀ j, r < j → j < k → nl V (tx V) e r q j ∧ nl V (ty V) e r q j) → TT m_X7_mayFollow 34 [vR a, vI (r : Int), vI (q : Int), vI e, vI (k : Int)] [] σ (PZ A B) := by
    intro hs hne n
    induction n with
    | zero =>
      intro k hk hrk hall
      have hk : k = q := by omega
      subst hk
      exact w_X7_mayFollow_34 a ha _ _ _ _ ⟨by omega, by omega, fun _ => h1 (Or.inr ⟨hs, hall⟩), fun z => absurd (Int.le_refl _) z⟩
    | succ n ih =>
      intro k hk hrk hall
      have no : ¬ (nl V (tx V) e r q k ∧ nl V (ty V) e r q k) → B σ := fun z => h0 fun w => by
        rcases w with w | w
        · exact hne w
        · exact z (w.2 k hrk (by omega))
      refine w_X7_mayFollow_34 a ha _ _ _ _ ⟨by omega, by omega, fun z => absurd z (by omega), fun _ => ?_⟩
      refine c_nearL ⟨ltT2 ha, shT2 ha⟩ ⟨ltT1 ha, shT1 ha⟩ hV (f := tx V) (fun i hi => ⟨(hrow i hi).1, (hrow i hi).2.1, (hV.2.2.1 i hi).2.1⟩) he hrk (by omega) hq hs (fun z1 => ?_) (fun z1 => no fun w => z1 w.1)
      refine c_nearL ⟨ltT3 ha, shT3 ha⟩ ⟨ltT1 ha, shT1 ha⟩ hV (f := ty V) (fun i hi => ⟨(hrow i hi).1, (hrow i hi).2.2, (hV.2.2.1 i hi).2.2⟩) he hrk (by omega) hq hs (fun z2 => ?_) (fun z2 => no fun w => z2 w.2)
      exact ih (k + 1) (by omega) (by omega) fun j h1 h2 => by
        rcases Nat.lt_or_ge j k with w | w
        · exact hall j h1 w
        · rw [show j = k by omega]; exact ⟨z1, z2⟩
  refine e_X7_mayFollow a ha _ _ _ ?_
  simp only [Int.toNat_natCast]
  rw [(hrow q hq).1, (hrow r (by omega)).1]
  refine ⟨by omega, by omega, fun z => ⟨by omega, by omega, by omega, fun z2 => ?_, fun z2 => h0 fun w => ?_⟩, fun z => h1 (Or.inl (by omega))⟩
  · exact loop z2 (by omega) (q - (r + 1)) (r + 1) (by omega) (by omega) fun j a b => absurd a (by omega)
  · rcases w with w | w
    · omega
    · exact z2 w.1
theorem d_may {t : Nat} (ht : t < 10) (hM : MT σ t V) (hV : tok V) (he : 0 ≤ e ∧ e < 100) (hr : r < q) (hq : q < tn V) (h1 : may V e r q → A σ) (h0 : ¬ may V e r q → B σ) : CC m_X10_mayFollow [vR 80, vI (t : Int), vI (r : Int), vI (q : Int), vI e] σ (PZ A B) := by
  have hn := hV.1
  obtain ⟨-, -, hrow⟩ := hM
  have b1 := hV.2.2.1 r (by omega)
  have b2 := hV.2.2.1 q hq
  have i0 := hV.2.2.2 r q hr hq
  have en : ∀ j : Nat, (24 * (t : Int) + (j : Int)).toNat = 24 * t + j := fun j => by omega
  have fin : ∀ x8 : Int, (x8 = 0 ∨ x8 = 1) → (x8 = 1 → may V e r q) → (x8 = 0 → ¬ may V e r q) → ((x8 = 0 ∨ x8 = 1) ∧ ((x8 = 1 → A σ) ∧ (x8 = 0 → B σ))) := fun x8 h m1 m0 => ⟨h, fun z => h1 (m1 z), fun z => h0 (m0 z)⟩
  have loop : ∀ (n k : Nat) (x8 : Int), k + n = q → r < k → (x8 = 1 ∧ (q = r + 1 ∨ (tm V q - tm V r ≤ 16 ∧ ∀ j, r < j → j < k → nl V (tx V) e r q j ∧ nl V (ty V) e r q j)) ∨ (x8 = 0 ∧ ¬ may V e r q)) → TT m_X10_mayFollow 60 [vR 80, vU, vU, vU, vI e, vI (24 * (t : Int) + (r : Int)), vI (24 * (t : Int) + (q : Int)), vI (tm V q - tm V r), vI x8, vI (24 * (t : Int) + (k : Int)), vU, vU, vU] [] σ (PZ A B) := by
    intro n
    induction n with
    | zero =>
      intro k x8 hk hrk hx
      have hk : k = q := by omega
      subst hk
      refine w_X10_mayFollow_60 _ _ _ _ _ _ ⟨by omega, by omega, fun _ => fin x8 (by omega) (fun z => ?_) (fun z => ?_), fun z => absurd (Int.le_refl _) z⟩
      · rcases hx with ⟨-, w⟩ | ⟨w, -⟩
        · exact w
        · omega
      · rcases hx with ⟨w, -⟩ | ⟨-, w⟩
        · omega
        · exact w
    | succ n ih =>
      intro k x8 hk hrk hx
      refine w_X10_mayFollow_60 _ _ _ _ _ _ ⟨by omega, by omega, fun z => absurd z (by omega), fun _ => ⟨by omega, fun z => ?_, fun z => ?_⟩⟩
      · rcases hx with ⟨w, -⟩ | ⟨-, w⟩
        · omega
        · exact fin x8 (Or.inl z) (fun w2 => by omega) (fun _ => w)
      · rcases hx with ⟨-, w⟩ | ⟨w, -⟩
        rotate_left
        · exact absurd w z
        have hne : ¬ q = r + 1 := by omega
        have w := w.resolve_left hne
        have hs := w.1
        have i1 := hV.2.2.2 r k hrk (by omega)
        have i2 := hV.2.2.2 k q (by omega) hq
        have bx := nlv_bd (f := tx V) hV (fun i hi => (hV.2.2.1 i hi).2.1) hrk (by omega) hq hs
        have by' := nlv_bd (f := ty V) hV (fun i hi => (hV.2.2.1 i hi).2.2) hrk (by omega) hq hs
        have be := mul_bd (u := e) (v := tm V q - tm V r) (U := 100) (W := 16) (by omega) (by omega)
        have ne : (-e) * (tm V q - tm V r) = -(e * (tm V q - tm V r)) := Int.neg_mul _ _
        rw [en, en, en, (hrow r (by omega)).1, (hrow k (by omega)).1, (hrow q hq).2.1, (hrow r (by omega)).2.1, (hrow k (by omega)).2.1, (hrow q hq).2.2, (hrow r (by omega)).2.2, (hrow k (by omega)).2.2, ne]
        have nxt : ∀ x : Int, (x = 1 ∧ (nl V (tx V) e r q k ∧ nl V (ty V) e r q k) ∨ x = 0 ∧ ¬ (nl V (tx V) e r q k ∧ nl V (ty V) e r q k)) → TT m_X10_mayFollow 60 [vR 80, vU, vU, vU, vI e, vI (24 * (t : Int) + (r : Int)), vI (24 * (t : Int) + (q : Int)), vI (tm V q - tm V r), vI x, vI (24 * (t : Int) + (k : Int) + 1), vU, vU, vU] [] σ (PZ A B) := by
          intro x hx
          have := ih (k + 1) x (by omega) (by omega) (by
            rcases hx with ⟨x1, x2⟩ | ⟨x1, x2⟩
            · refine Or.inl ⟨x1, Or.inr ⟨hs, fun j h1 h2 => ?_⟩⟩
              rcases Nat.lt_or_ge j k with u | u
              · exact w.2 j h1 u
              · rw [show j = k by omega]; exact x2
            · exact Or.inr ⟨x1, fun m => x2 ((m.resolve_left hne).2 k hrk (by omega))⟩)
          rw [show 24 * (t : Int) + ((k + 1 : Nat) : Int) = 24 * (t : Int) + (k : Int) + 1 by omega] at this
          exact this
        refine ⟨by omega, by omega, fun v24 e24 => ⟨by omega, fun v27 e27 v29 e29 => ?_⟩⟩
        have ex : v27 = nlv V (tx V) r q k := by rw [e27, e24]; unfold nlv; omega
        have ey : v29 = nlv V (ty V) r q k := by rw [e29, e24]; unfold nlv; omega
        rw [ex, ey]
        refine ⟨by omega, by omega, by omega, d_in (by omega) (by omega) (by omega) (fun u1 => ⟨by omega, d_in (by omega) (by omega) (by omega) (fun u2 => ?_) (fun u2 => ?_)⟩) (fun u1 => ?_)⟩
        · exact nxt 1 (Or.inl ⟨rfl, u1, u2⟩)
        · exact nxt 0 (Or.inr ⟨rfl, fun m => u2 m.2⟩)
        · exact nxt 0 (Or.inr ⟨rfl, fun m => u1 m.1⟩)
  refine e_X10_mayFollow _ _ _ _ ?_
  rw [en, en, (hrow q hq).1, (hrow r (by omega)).1]
  refine ⟨by omega, by omega, fun v3 e3 => ⟨by omega, by omega, fun _ => by omega, fun v12 e12 => ?_⟩⟩
  have := loop (q - (r + 1)) (r + 1) v12 (by omega) (by omega) (by
    rw [e12, e3]
    by_cases z : (q : Int) = (r : Int) + 1
    · rw [if_pos z]; exact Or.inl ⟨rfl, Or.inl (by omega)⟩
    · rw [if_neg z]
      by_cases z2 : 16 < tm V q - tm V r
      · rw [if_pos z2]
        exact Or.inr ⟨rfl, fun m => by
          rcases m with m | m
          · omega
          · omega⟩
      · rw [if_neg z2]
        exact Or.inl ⟨rfl, Or.inr ⟨by omega, fun j a b => absurd a (by omega)⟩⟩)
  rw [show 24 * (t : Int) + ((r + 1 : Nat) : Int) = 24 * (t : Int) + (r : Int) + 1 by omega] at this
  rw [e3] at e12 ⊢
  exact this
end THIN
