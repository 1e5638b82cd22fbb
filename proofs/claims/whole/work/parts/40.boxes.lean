/-! boxes in memory -/
def bc (σ : Mem) (c q : Nat) (a : Bx) : Prop := ∀ j, j < 6 → σ c (6 * q + j) = a j
def fx (σ σ' : Mem) (c q : Nat) : Prop := ∀ b i, (b = c → i < 6 * q ∨ 6 * q + 6 ≤ i) → σ' b i = σ b i
theorem bok_k {a : Bx} (h : bok a) {k : Nat} (hk : k < 3) : 0 ≤ a (2 * k) ∧ a (2 * k) ≤ a (2 * k + 1) ∧ a (2 * k + 1) < 200 := by
  obtain ⟨h0, h1, h2⟩ := h
  have : k = 0 ∨ k = 1 ∨ k = 2 := by omega
  rcases this with rfl | rfl | rfl
  · exact h0
  · exact h1
  · exact h2
theorem bW_ev (a b : Bx) (k : Nat) : bW a b (2 * k) = min (a (2 * k)) (b (2 * k)) := by unfold bW; rw [if_pos (by omega)]
theorem bW_od (a b : Bx) (k : Nat) : bW a b (2 * k + 1) = max (a (2 * k + 1)) (b (2 * k + 1)) := by unfold bW; rw [if_neg (by omega)]
def tcB (a w : Bx) : Bool := decide ((a 0 ≤ w 1 ∧ w 0 ≤ a 1) ∧ (a 2 ≤ w 3 ∧ w 2 ≤ a 3) ∧ (a 4 ≤ w 5 ∧ w 4 ≤ a 5))
theorem tcB_t {a w : Bx} (h : ∀ i, i < 3 → a (2 * i) ≤ w (2 * i + 1) ∧ w (2 * i) ≤ a (2 * i + 1)) : tcB a w = true := by
  unfold tcB
  exact decide_eq_true ⟨h 0 (by decide), h 1 (by decide), h 2 (by decide)⟩
theorem tcB_f {a w : Bx} {i : Nat} (hi : i < 3) (h : ¬ (a (2 * i) ≤ w (2 * i + 1) ∧ w (2 * i) ≤ a (2 * i + 1))) : tcB a w = false := by
  unfold tcB
  refine decide_eq_false fun z => h ?_
  have : i = 0 ∨ i = 1 ∨ i = 2 := by omega
  rcases this with rfl | rfl | rfl
  · exact z.1
  · exact z.2.1
  · exact z.2.2
section BOXES
variable {σ : Mem} {r0 r2 q0 q2 : Nat} {a b : Bx}
theorem c_copyB {K : Mem → Prop} (h0 : isB r0) (h2 : isB r2) (hne : r0 ≠ r2) (l0 : 6 * q0 + 6 ≤ bln r0) (l2 : 6 * q2 + 6 ≤ bln r2) (hB : bc σ (r2 + 1) q2 b) (hK : ∀ σ', bc σ' (r0 + 1) q0 b → fx σ σ' (r0 + 1) q0 → K σ') : CC m_X0_copyFrom [vR r0, vI (q0 : Int), vR r2, vI (q2 : Int)] σ (PN K) := by
  have loop : ∀ (d k : Nat) (s : Mem), k + d = 6 → (∀ j, j < k → s (r0 + 1) (6 * q0 + j) = b j) → fx σ s (r0 + 1) q0 → TT m_X0_copyFrom 3 [vR r0, vI (q0 : Int), vR r2, vI (q2 : Int), vI (k : Int)] [] s (PN K) := by
    intro d
    induction d with
    | zero =>
      intro k s hk hl hf
      have hk : k = 6 := by omega
      subst hk
      exact w_X0_copyFrom_3 _ h0 _ _ h2 _ _ ⟨by omega, fun _ => hK s hl hf, fun z => absurd (by omega) z⟩
    | succ d ih =>
      intro k s hk hl hf
      have e1 : ((q0 : Int) * 6 + (k : Int)).toNat = 6 * q0 + k := by omega
      have e2 : ((q2 : Int) * 6 + (k : Int)).toNat = 6 * q2 + k := by omega
      refine w_X0_copyFrom_3 _ h0 _ _ h2 _ _ ?_
      rw [e1, e2]
      refine ⟨by omega, fun z => absurd z (by omega), fun _ => ⟨by omega, by omega, fun s5 e5 => ?_⟩⟩
      rw [hf (r2 + 1) _ (fun e => absurd e (by omega)), hB k (by omega)] at e5
      refine ih (k + 1) s5 (by omega) (fun j hj => ?_) fun c i hi => ?_
      · rw [e5]
        by_cases z : j = k
        · subst z; rw [up_at]
        · rw [up_o2 (by omega)]; exact hl j (by omega)
      · rw [e5]
        by_cases z : c = r0 + 1
        · have := hi z
          rw [up_o2 (by omega)]; exact hf c i hi
        · rw [up_o1 z]; exact hf c i hi
  exact e_X0_copyFrom _ h0 _ _ h2 _ (loop 6 0 σ rfl (fun j h => absurd h (by omega)) fun _ _ _ => rfl)
theorem c_widen {K : Mem → Prop} (h0 : isB r0) (h2 : isB r2) (hne : r0 ≠ r2) (l0 : 6 * q0 + 6 ≤ bln r0) (l2 : 6 * q2 + 6 ≤ bln r2) (ha : bok a) (hb : bok b) (hA : bc σ (r0 + 1) q0 a) (hB : bc σ (r2 + 1) q2 b) (hK : ∀ σ', bc σ' (r0 + 1) q0 (bW a b) → fx σ σ' (r0 + 1) q0 → K σ') : CC m_X0_widen [vR r0, vI (q0 : Int), vR r2, vI (q2 : Int)] σ (PN K) := by
  have loop : ∀ (d k : Nat) (s : Mem), k + d = 3 → (∀ j, j < 2 * k → s (r0 + 1) (6 * q0 + j) = bW a b j) → (∀ j, 2 * k ≤ j → j < 6 → s (r0 + 1) (6 * q0 + j) = a j) → fx σ s (r0 + 1) q0 → TT m_X0_widen 3 [vR r0, vI (q0 : Int), vR r2, vI (q2 : Int), vI (2 * (k : Int)), vU, vU] [] s (PN K) := by
    intro d
    induction d with
    | zero =>
      intro k s hk hl hg hf
      have hk : k = 3 := by omega
      subst hk
      exact w_X0_widen_3 _ h0 _ _ h2 _ _ ⟨by omega, fun _ => hK s (fun j hj => hl j (by omega)) hf, fun z => absurd (by omega) z⟩
    | succ d ih =>
      intro k s hk hl hg hf
      have e1 : ((q0 : Int) * 6 + 2 * (k : Int)).toNat = 6 * q0 + 2 * k := by omega
      have e2 : ((q2 : Int) * 6 + 2 * (k : Int)).toNat = 6 * q2 + 2 * k := by omega
      have e3 : ((q0 : Int) * 6 + 2 * (k : Int) + 1).toNat = 6 * q0 + (2 * k + 1) := by omega
      have e4 : ((q2 : Int) * 6 + 2 * (k : Int) + 1).toNat = 6 * q2 + (2 * k + 1) := by omega
      have ba := bok_k ha (k := k) (by omega)
      have bb := bok_k hb (k := k) (by omega)
      have o2 : ∀ j, j < 6 → s (r2 + 1) (6 * q2 + j) = b j := fun j hj => by rw [hf (r2 + 1) _ (fun e => absurd e (by omega))]; exact hB j hj
      refine w_X0_widen_3 _ h0 _ _ h2 _ _ ?_
      rw [e1, e2, e3, e4, hg (2 * k) (by omega) (by omega), o2 (2 * k) (by omega)]
      refine ⟨by omega, fun z => absurd z (by omega), fun _ => ⟨by omega, by omega, by omega, by omega, fun s7 e7 => ?_⟩⟩
      have g7 : s7 (r0 + 1) (6 * q0 + (2 * k + 1)) = a (2 * k + 1) := by rw [e7, up_o2 (by omega)]; exact hg _ (by omega) (by omega)
      have g8 : s7 (r2 + 1) (6 * q2 + (2 * k + 1)) = b (2 * k + 1) := by rw [e7, up_o1 (by omega)]; exact o2 _ (by omega)
      rw [g7, g8]
      refine ⟨by omega, by omega, by omega, by omega, fun s13 e13 => ?_⟩
      have := ih (k + 1) s13 (by omega) (fun j hj => ?_) (fun j hj hj6 => ?_) fun c i hi => ?_
      · rw [show 2 * (((k + 1 : Nat)) : Int) = 2 * (k : Int) + 2 by omega] at this
        exact this
      · rw [e13]
        by_cases z : j = 2 * k + 1
        · rw [z, up_at, bW_od]
        · rw [up_o2 (by omega), e7]
          by_cases w : j = 2 * k
          · rw [w, up_at, bW_ev]
          · rw [up_o2 (by omega)]; exact hl j (by omega)
      · rw [e13, up_o2 (by omega), e7, up_o2 (by omega)]
        exact hg j (by omega) hj6
      · rw [e13]
        by_cases z : c = r0 + 1
        · have := hi z
          rw [up_o2 (by omega), e7, up_o2 (by omega)]; exact hf c i hi
        · rw [up_o1 z, e7, up_o1 z]; exact hf c i hi
  exact e_X0_widen _ h0 _ _ h2 _ (loop 3 0 σ rfl (fun j h => absurd h (by omega)) (fun j _ hj => hA j hj) fun _ _ _ => rfl)
theorem c_sizeOf {K : Int → Mem → Prop} (h0 : isB r0) (l0 : 6 * q0 + 6 ≤ bln r0) (hA : bc σ (r0 + 1) q0 a) (hK : K (bS a) σ) : CC m_X0_sizeOf [vR r0, vI (q0 : Int)] σ (PI K) := by
  have lb := lnB h0
  have stp : ∀ (k : Nat) (x2 : Int), k < 3 → TT m_X0_sizeOf 7 [vR r0, vI (q0 : Int), vI (x2 * (a (2 * k + 1) - a (2 * k) + 1)), vI ((q0 : Int) * 6 + 2 * (k : Int) + 2)] [] σ (PI K) → TT m_X0_sizeOf 7 [vR r0, vI (q0 : Int), vI x2, vI ((q0 : Int) * 6 + 2 * (k : Int))] [] σ (PI K) := by
    intro k x2 hk h
    have e1 : ((q0 : Int) * 6 + 2 * (k : Int)).toNat = 6 * q0 + 2 * k := by omega
    have e3 : ((q0 : Int) * 6 + 2 * (k : Int) + 1).toNat = 6 * q0 + (2 * k + 1) := by omega
    refine w_X0_sizeOf_7 _ h0 _ _ _ ?_
    rw [e1, e3, hA _ (by omega), hA _ (by omega)]
    refine ⟨by omega, by omega, fun z => absurd z (by omega), fun _ => ⟨by omega, by omega, fun v6 e6 => ?_⟩⟩
    rw [e6]
    exact h
  refine e_X0_sizeOf _ h0 _ ?_
  have s0 := stp 0 1 (by decide)
  have s1 := stp 1 (1 * (a 1 - a 0 + 1)) (by decide)
  have s2 := stp 2 (1 * (a 1 - a 0 + 1) * (a 3 - a 2 + 1)) (by decide)
  rw [show (q0 : Int) * 6 + 2 * ((0 : Nat) : Int) = (q0 : Int) * 6 by omega] at s0
  refine s0 ?_
  rw [show (q0 : Int) * 6 + 2 * ((1 : Nat) : Int) = (q0 : Int) * 6 + 2 by omega] at s1
  refine s1 ?_
  rw [show (q0 : Int) * 6 + 2 * ((2 : Nat) : Int) = (q0 : Int) * 6 + 2 + 2 by omega] at s2
  refine s2 ?_
  refine w_X0_sizeOf_7 _ h0 _ _ _ ⟨by omega, by omega, fun _ => ?_, fun z => absurd (by omega) z⟩
  show K (1 * (a 1 - a 0 + 1) * (a 3 - a 2 + 1) * (a 5 - a 4 + 1)) σ
  rw [Int.one_mul]
  exact hK
theorem c_growth {K : Int → Mem → Prop} (h0 : isB r0) (h2 : isB r2) (l0 : 6 * q0 + 6 ≤ bln r0) (l2 : 6 * q2 + 6 ≤ bln r2) (ha : bok a) (hb : bok b) (hA : bc σ (r0 + 1) q0 a) (hB : bc σ (r2 + 1) q2 b) (hK : K (grw a b) σ) : CC m_X0_growth [vR r0, vI (q0 : Int), vR r2, vI (q2 : Int)] σ (PI K) := by
  have stp : ∀ (k : Nat) (x4 : Int), k < 3 → TT m_X0_growth 6 [vR r0, vI (q0 : Int), vR r2, vI (q2 : Int), vI (x4 * (bW a b (2 * k + 1) - bW a b (2 * k) + 1)), vI (2 * (k : Int) + 2), vU, vU, vU, vU] [] σ (PI K) → TT m_X0_growth 6 [vR r0, vI (q0 : Int), vR r2, vI (q2 : Int), vI x4, vI (2 * (k : Int)), vU, vU, vU, vU] [] σ (PI K) := by
    intro k x4 hk h
    have e1 : ((q0 : Int) * 6 + 2 * (k : Int)).toNat = 6 * q0 + 2 * k := by omega
    have e2 : ((q2 : Int) * 6 + 2 * (k : Int)).toNat = 6 * q2 + 2 * k := by omega
    have e3 : ((q0 : Int) * 6 + 2 * (k : Int) + 1).toNat = 6 * q0 + (2 * k + 1) := by omega
    have e4 : ((q2 : Int) * 6 + 2 * (k : Int) + 1).toNat = 6 * q2 + (2 * k + 1) := by omega
    have ba := bok_k ha hk
    have bb := bok_k hb hk
    refine w_X0_growth_6 _ h0 _ _ h2 _ _ _ ?_
    rw [e1, e2, e3, e4, hA _ (by omega), hA _ (by omega), hB _ (by omega), hB _ (by omega)]
    refine ⟨by omega, fun z => absurd z (by omega), fun _ => ⟨by omega, by omega, by omega, by omega, fun v9 e9 => ⟨by omega, by omega, by omega, by omega, fun v15 e15 => ?_⟩⟩⟩
    rw [e15, e9, ← bW_ev, ← bW_od]
    exact h
  refine e_X0_growth _ h0 _ _ h2 _ ?_
  refine stp 0 1 (by decide) ?_
  refine stp 1 (1 * (bW a b 1 - bW a b 0 + 1)) (by decide) ?_
  refine stp 2 (1 * (bW a b 1 - bW a b 0 + 1) * (bW a b 3 - bW a b 2 + 1)) (by decide) ?_
  refine w_X0_growth_6 _ h0 _ _ h2 _ _ _ ⟨by omega, fun _ => ?_, fun z => absurd (by omega) z⟩
  refine c_sizeOf h0 l0 hA ?_
  show K (1 * (bW a b 1 - bW a b 0 + 1) * (bW a b 3 - bW a b 2 + 1) * (bW a b 5 - bW a b 4 + 1) - bS a) σ
  rw [Int.one_mul]
  exact hK
theorem c_touch {A B : Mem → Prop} (h0 : isB r0) (h2 : isB r2) (l0 : 6 * q0 + 6 ≤ bln r0) (l2 : 6 * q2 + 6 ≤ bln r2) (ha : ∀ j, j < 6 → R32 (a j)) (hb : ∀ j, j < 6 → R32 (b j)) (hA : bc σ (r0 + 1) q0 a) (hB : bc σ (r2 + 1) q2 b) (h1 : tcB a b = true → A σ) (h9 : tcB a b = false → B σ) : CC m_X0_touch [vR r0, vI (q0 : Int), vR r2, vI (q2 : Int)] σ (PZ A B) := by
  have loop : ∀ (d k : Nat), k + d = 3 → (∀ i, i < k → a (2 * i) ≤ b (2 * i + 1) ∧ b (2 * i) ≤ a (2 * i + 1)) → TT m_X0_touch 3 [vR r0, vI (q0 : Int), vR r2, vI (q2 : Int), vI (2 * (k : Int)), vU, vU] [] σ (PZ A B) := by
    intro d
    induction d with
    | zero =>
      intro k hk hl
      have hk : k = 3 := by omega
      subst hk
      exact w_X0_touch_3 _ h0 _ _ h2 _ _ ⟨by omega, fun _ => h1 (tcB_t hl), fun z => absurd (by omega) z⟩
    | succ d ih =>
      intro k hk hl
      have e1 : ((q0 : Int) * 6 + 2 * (k : Int)).toNat = 6 * q0 + 2 * k := by omega
      have e2 : ((q2 : Int) * 6 + 2 * (k : Int)).toNat = 6 * q2 + 2 * k := by omega
      have e3 : ((q0 : Int) * 6 + 2 * (k : Int) + 1).toNat = 6 * q0 + (2 * k + 1) := by omega
      have e4 : ((q2 : Int) * 6 + 2 * (k : Int) + 1).toNat = 6 * q2 + (2 * k + 1) := by omega
      have a1 := ha (2 * k) (by omega)
      have a2 := ha (2 * k + 1) (by omega)
      have b1 := hb (2 * k) (by omega)
      have b2 := hb (2 * k + 1) (by omega)
      refine w_X0_touch_3 _ h0 _ _ h2 _ _ ?_
      rw [e1, e2, e3, e4, hA _ (by omega), hA _ (by omega), hB _ (by omega), hB _ (by omega)]
      refine ⟨by omega, fun z => absurd z (by omega), fun _ => ⟨by omega, by omega, a1, b2, fun z => h9 (tcB_f (i := k) (by omega) (by omega)), fun z => ⟨by omega, by omega, b1, a2, fun z2 => ?_, fun z2 => h9 (tcB_f (i := k) (by omega) (by omega))⟩⟩⟩
      have := ih (k + 1) (by omega) fun i hi => by
        rcases Nat.lt_or_ge i k with w | w
        · exact hl i w
        · rw [show i = k by omega]; omega
      rw [show 2 * (((k + 1 : Nat)) : Int) = 2 * (k : Int) + 2 by omega] at this
      exact this
  exact e_X0_touch _ h0 _ _ h2 _ (loop 3 0 rfl fun i h => absurd h (by omega))
theorem c_endsSum {K : Int → Mem → Prop} {ax : Nat} (hx : ax < 3) (h0 : isB r0) (l0 : 6 * q0 + 6 ≤ bln r0) (hA : bc σ (r0 + 1) q0 a) (hK : K (a (2 * ax) + a (2 * ax + 1)) σ) : CC m_X0_endsSum [vR r0, vI (q0 : Int), vI (ax : Int)] σ (PI K) := by
  have e1 : ((q0 : Int) * 6 + 2 * (ax : Int)).toNat = 6 * q0 + 2 * ax := by omega
  have e3 : ((q0 : Int) * 6 + 2 * (ax : Int) + 1).toNat = 6 * q0 + (2 * ax + 1) := by omega
  refine e_X0_endsSum _ h0 _ _ ?_
  rw [e1, e3, hA _ (by omega), hA _ (by omega)]
  exact ⟨by omega, by omega, hK⟩
theorem c_setAxis {K : Mem → Prop} {ax : Nat} {u v : Int} (hx : ax < 3) (h0 : isB r0) (l0 : 6 * q0 + 6 ≤ bln r0) (hK : ∀ σ', σ' (r0 + 1) (6 * q0 + 2 * ax) = u → σ' (r0 + 1) (6 * q0 + (2 * ax + 1)) = v → (∀ c i, (c = r0 + 1 → i ≠ 6 * q0 + 2 * ax ∧ i ≠ 6 * q0 + (2 * ax + 1)) → σ' c i = σ c i) → K σ') : CC m_X0_setAxis [vR r0, vI (q0 : Int), vI (ax : Int), vI u, vI v] σ (PN K) := by
  have e1 : ((q0 : Int) * 6 + 2 * (ax : Int)).toNat = 6 * q0 + 2 * ax := by omega
  have e3 : ((q0 : Int) * 6 + 2 * (ax : Int) + 1).toNat = 6 * q0 + (2 * ax + 1) := by omega
  refine e_X0_setAxis _ h0 _ _ _ _ ?_
  rw [e1, e3]
  refine ⟨by omega, fun s2 g2 => ⟨by omega, fun s5 g5 => hK s5 ?_ ?_ fun c i hi => ?_⟩⟩
  · rw [g5, up_o2 (by omega), g2, up_at]
  · rw [g5, up_at]
  · rw [g5]
    by_cases z : c = r0 + 1
    · have := hi z
      rw [up_o2 this.2, g2, up_o2 this.1]
    · rw [up_o1 z, g2, up_o1 z]
end BOXES
