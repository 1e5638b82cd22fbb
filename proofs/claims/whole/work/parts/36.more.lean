/-! a new stand -/
def sq9 (σ σ' : Mem) : Prop := (∀ b, b ≠ 0 → b ≠ 80 → b ≠ 100 → ¬ (74 ≤ b ∧ b < 80) → σ' b = σ b) ∧ (∀ i, i ≠ 11 → σ' 0 i = σ 0 i) ∧ (∀ i, i ≠ 30 → σ' 80 i = σ 80 i)
theorem op_stand {σ : Mem} {K : Int → Int → Mem → Prop} {a b c d : Int} (ha : R32 a) (hb : R32 b) (hc : R32 c) (hd : R32 d) (hS : SPP σ) (hK : ∀ v σ', R32 v → qm σ σ' → K v v σ') (hK2 : ∀ v σ', R32 v → SPP σ' → sq9 σ σ' → K v v σ') :
    CC m_X9_stand [vR 0, vI a, vI b, vI c, vI d] σ (PI fun v s => CC m_X10_stand_ [vR 80, vI a, vI b, vI c, vI d] s (PI fun v2 s2 => K v v2 s2)) := by
  have out : ∀ v : Int, R32 v → K v v σ := fun v hv => hK v σ hv (qm_of cq.rf mq.rf)
  obtain ⟨s1, s2, s3⟩ := hS
  obtain ⟨n, hn, -⟩ := nat_of (x := σ 0 11) (n := 7) (by omega)
  refine e_X9_stand _ _ _ _ (c_isPlace ha hb hc hd (fun q => ?_) (fun q => ?_))
  · rw [hn]
    refine ⟨by omega, fun z => ⟨by omega, ?_⟩, fun z => ?_⟩
    · rw [stdN]
      refine c_set (P := (a, b, c, d)) (Or.inr ⟨n, by omega, rfl⟩) fun s10 hpl hf s11 e11 => ?_
      have h10 : s10 0 11 = (n : Int) := by rw [hf 0 (by omega)]; exact hn
      rw [h10] at e11
      have h11 : s11 0 11 = (n : Int) + 1 := by rw [e11, up_at]
      have h80 : s11 80 = σ 80 := by rw [e11, up_cell (by decide), hf 80 (by omega)]
      have h30 : s11 80 30 = (n : Int) := by rw [h80, s2, hn]
      rw [h11]
      refine e_X10_stand_ _ _ _ _ (d_isSpan ha hb (fun _ => d_isSpan hc hd (fun _ => ?_) (fun w => absurd q.2 w)) (fun w => absurd q.1 w))
      rw [h30]
      have e0 : (4 * (n : Int)).toNat = 4 * n := by omega
      have e1 : (4 * (n : Int) + 1).toNat = 4 * n + 1 := by omega
      have e2 : (4 * (n : Int) + 2).toNat = 4 * n + 2 := by omega
      have e3 : (4 * (n : Int) + 3).toNat = 4 * n + 3 := by omega
      refine ⟨by omega, fun _ => ⟨by omega, fun s12 g12 => ?_⟩, fun w => absurd w (by omega)⟩
      have k12 : s12 80 30 = (n : Int) := by rw [g12, up_o1 (by decide)]; exact h30
      rw [k12]
      refine ⟨by omega, fun s15 g15 => ?_⟩
      have k15 : s15 80 30 = (n : Int) := by rw [g15, up_o1 (by decide)]; exact k12
      rw [k15]
      refine ⟨by omega, fun s18 g18 => ?_⟩
      have k18 : s18 80 30 = (n : Int) := by rw [g18, up_o1 (by decide)]; exact k15
      rw [k18]
      refine ⟨by omega, fun s21 g21 s23 g23 => ?_⟩
      have k21 : s21 80 30 = (n : Int) := by rw [g21, up_o1 (by decide)]; exact k18
      rw [k21] at g23
      rw [e0] at g12
      rw [e1] at g15
      rw [e2] at g18
      rw [e3] at g21
      have k23 : s23 80 30 = (n : Int) + 1 := by rw [g23, up_at]
      rw [k23]
      have oth : ∀ b, b ≠ 80 → b ≠ 100 → s23 b = s11 b := fun b b1 b2 => by rw [g23, up_cell b1, g21, up_cell b2, g18, up_cell b2, g15, up_cell b2, g12, up_cell b2]
      have o100 : ∀ k, k ≠ 4 * n → k ≠ 4 * n + 1 → k ≠ 4 * n + 2 → k ≠ 4 * n + 3 → s23 100 k = σ 100 k := fun k k0 k1 k2 k3 => by rw [g23, up_o1 (by decide), g21, up_o2 k3, g18, up_o2 k2, g15, up_o2 k1, g12, up_o2 k0, e11, up_o1 (by decide), hf 100 (by omega)]
      refine hK2 _ s23 (by omega) ⟨?_, ?_, fun s hs => ?_⟩ ⟨fun b b0 b1 b2 b3 => ?_, fun i hi => ?_, fun i hi => ?_⟩
      · rw [oth 0 (by decide) (by decide), h11]; omega
      · rw [k23, oth 0 (by decide) (by decide), h11]
      · rw [oth 0 (by decide) (by decide), h11] at hs
        unfold bx9
        rw [oth (74 + s) (by omega) (by omega)]
        rcases Nat.lt_or_ge s n with w | w
        · have := s3 s (by omega)
          unfold bx9 at this
          rw [e11, up_cell (by omega), hf (74 + s) (by omega), o100 _ (by omega) (by omega) (by omega) (by omega), o100 _ (by omega) (by omega) (by omega) (by omega), o100 _ (by omega) (by omega) (by omega) (by omega), o100 _ (by omega) (by omega) (by omega) (by omega)]
          exact this
        · have : s = n := by omega
          subst this
          obtain ⟨p0, p1, p2, p3⟩ := hpl
          rw [e11, up_cell (by omega), p0, p1, p2, p3]
          refine ⟨q, ?_, ?_, ?_, ?_⟩
          · rw [g23, up_o1 (by decide), g21, up_o2 (by omega), g18, up_o2 (by omega), g15, up_o2 (by omega), g12, up_at]
          · rw [g23, up_o1 (by decide), g21, up_o2 (by omega), g18, up_o2 (by omega), g15, up_at]
          · rw [g23, up_o1 (by decide), g21, up_o2 (by omega), g18, up_at]
          · rw [g23, up_o1 (by decide), g21, up_at]
      · rw [oth b b1 b2, e11, up_cell b0, hf b (by omega)]
      · rw [oth 0 (by decide) (by decide), e11, up_o2 hi, hf 0 (by omega)]
      · rw [g23, up_o2 hi, g21, up_o1 (by decide), g18, up_o1 (by decide), g15, up_o1 (by decide), g12, up_o1 (by decide), h80]
    · refine e_X10_stand_ _ _ _ _ (d_isSpan ha hb (fun _ => d_isSpan hc hd (fun _ => ?_) (fun w => absurd q.2 w)) (fun w => absurd q.1 w))
      exact ⟨by omega, fun w => absurd (by omega) w, fun _ => out _ (by decide)⟩
  · exact e_X10_stand_ _ _ _ _ (d_isSpan ha hb (fun w => d_isSpan hc hd (fun w2 => absurd ⟨w, w2⟩ q) (fun _ => out _ (by decide))) (fun _ => out _ (by decide)))
/-! how many rows a column has -/
def col (T : Nat → TV) (t i : Nat) : Int := Int.tdiv (tx (T t) i) 10
def ldt (T : Nat → TV) : Nat → Nat → Int
  | 0, _ => 0
  | t + 1, c => ldt T t c + ct (fun i => decide (col T t i = (c : Int))) (tn (T t))
theorem col_bd {T : Nat → TV} (hT : oks T) {t i : Nat} (ht : t < 10) (hi : i < tn (T t)) : 0 ≤ col T t i ∧ col T t i < 10 := by
  have := (hT t ht).2.2.1 i hi
  unfold col
  rw [Int.tdiv_eq_ediv_of_nonneg (by omega)]
  omega
theorem ldt_bd {T : Nat → TV} (hT : oks T) : ∀ t, t ≤ 10 → ∀ c, 0 ≤ ldt T t c ∧ ldt T t c ≤ 24 * t
  | 0, _, c => by simp [ldt]
  | t + 1, h, c => by
    have a := ldt_bd hT t (by omega) c
    have b := ct_bd (fun i => decide (col T t i = (c : Int))) (tn (T t))
    have d := (hT t (by omega)).1
    simp only [ldt]
    omega
def sm (f : Nat → Int) : Nat → Nat → Int
  | 0, _ => 0
  | k + 1, j => f j + sm f k (j + 1)
theorem sm_add (f g : Nat → Int) : ∀ k j, sm (fun c => f c + g c) k j = sm f k j + sm g k j
  | 0, _ => rfl
  | k + 1, j => by
    simp only [sm]
    rw [sm_add f g k (j + 1)]
    omega
theorem sm_one (v : Int) : ∀ k j : Nat, sm (fun c => if v = (c : Int) then 1 else 0) k j ≤ (if v < j then 0 else 1)
  | 0, j => by simp only [sm]; split <;> decide
  | k + 1, j => by
    have := sm_one v k (j + 1)
    simp only [sm]
    by_cases z : v = (j : Int)
    · rw [if_pos z, if_neg (by omega)]
      rw [if_pos (by omega)] at this
      omega
    · rw [if_neg z]
      by_cases w : v < (j : Int)
      · rw [if_pos w]
        rw [if_pos (by omega)] at this
        omega
      · rw [if_neg w]
        rw [if_neg (by omega)] at this
        omega
theorem sm_zero : ∀ k j : Nat, sm (fun _ => 0) k j = 0
  | 0, _ => rfl
  | k + 1, j => by
    simp only [sm]
    rw [sm_zero k (j + 1)]
    rfl
theorem sm_ct (f : Nat → Int) (k j : Nat) : ∀ n : Nat, sm (fun c => ct (fun i => decide (f i = (c : Int))) n) k j ≤ n
  | 0 => by
    have := sm_zero k j
    simp only [ct]
    omega
  | n + 1 => by
    have a := sm_ct f k j n
    have b := sm_one (f n) k j
    have e : (fun c : Nat => ct (fun i => decide (f i = (c : Int))) (n + 1)) = (fun c : Nat => ct (fun i => decide (f i = (c : Int))) n + (if f n = (c : Int) then 1 else 0)) := by
      funext c
      simp only [ct, decide_eq_true_eq]
    rw [e, sm_add]
    have : (if f n < (j : Int) then (0 : Int) else 1) ≤ 1 := by split <;> decide
    omega
theorem sm_ldt {T : Nat → TV} (hT : oks T) (k j : Nat) : ∀ t, t ≤ 10 → sm (ldt T t) k j ≤ 24 * t
  | 0, _ => by
    have e : ldt T 0 = fun _ => 0 := rfl
    have := sm_zero k j
    rw [e]
    omega
  | t + 1, h => by
    have a := sm_ldt hT k j t (by omega)
    have b := sm_ct (fun i => col T t i) k j (tn (T t))
    have d := (hT t (by omega)).1
    have e : ldt T (t + 1) = fun c => ldt T t c + ct (fun i => decide (col T t i = (c : Int))) (tn (T t)) := rfl
    rw [e, sm_add]
    omega
/-! sharing out -/
def gd (L : Nat → Int) (most : Int) : Nat → Nat → Int → Int → Int
  | 0, _, c, _ => c
  | k + 1, j, c, r => if most < L j then 100000000 else if L j ≤ r then gd L most k (j + 1) c (r - L j) else gd L most k (j + 1) (c + 1) (most - L j)
theorem gd_bd (L : Nat → Int) (most : Int) : ∀ (k j : Nat) (c r : Int), c + k ≤ 100000000 → c ≤ gd L most k j c r ∧ gd L most k j c r ≤ 100000000
  | 0, _, c, _, h => by simp only [gd]; omega
  | k + 1, j, c, r, h => by
    have a := gd_bd L most k (j + 1) c (r - L j) (by omega)
    have b := gd_bd L most k (j + 1) (c + 1) (most - L j) (by omega)
    simp only [gd]
    split
    · omega
    · split <;> omega
def mf9 (L : Nat → Int) (most : Int) (j : Nat) : Int := if 10 ≤ j then 0 else gd L most (10 - j) j 1 most
theorem mf9_bd (L : Nat → Int) (most : Int) (j : Nat) : 0 ≤ mf9 L most j ∧ mf9 L most j ≤ 100000000 ∧ (j < 10 → 1 ≤ mf9 L most j) := by
  have := gd_bd L most (10 - j) j 1 most (by omega)
  unfold mf9
  split <;> omega
theorem gd_all {L : Nat → Int} {most : Int} (hL : ∀ j, 0 ≤ L j) : ∀ (k j : Nat) (r : Int), r ≤ most → sm L k j ≤ r → gd L most k j 1 r = 1
  | 0, _, _, _, _ => rfl
  | k + 1, j, r, h1, h2 => by
    have a : ∀ k j, 0 ≤ sm L k j := fun k => by
      induction k with
      | zero => intro j; exact Int.le_refl _
      | succ k ih => intro j; have := ih (j + 1); have := hL j; simp only [sm]; omega
    have b := a k (j + 1)
    have c := hL j
    simp only [sm] at h2
    simp only [gd]
    rw [if_neg (by omega), if_pos (by omega)]
    exact gd_all hL k (j + 1) (r - L j) (by omega) (by omega)
section COLS
variable {σ : Mem} {T : Nat → TV}
def f33 (σ σ' : Mem) : Prop := ∀ c, c ≠ 33 → σ' c = σ c
theorem f33.cq {σ σ' : Mem} (h : f33 σ σ') : cq σ σ' := fun b hb => h b (fun e => hb (by subst e; unfold cs; omega))
theorem c_cols {K : Mem → Prop} (hT : oks T) (hC : CA σ T) (hK : ∀ σ', f33 σ σ' → (∀ c : Nat, c < 10 → σ' 33 c = ldt T 10 c) → K σ') : CC m_X9_countColumns [vR 0] σ (PN K) := by
  have rows : ∀ (t : Nat), t < 10 → (∀ s, f33 σ s → (∀ c : Nat, c < 10 → s 33 c = ldt T (t + 1) c) → TT m_X9_countColumns 9 [vR 0, vI ((t : Int) + 1), vU, vU] [] s (PN K)) → ∀ (d i : Nat) (s : Mem), i + d = tn (T t) → f33 σ s → (∀ c : Nat, c < 10 → s 33 c = ldt T t c + ct (fun i => decide (col T t i = (c : Int))) i) → TT m_X9_countColumns 24 [vR 0, vI (t : Int), vR (34 + 4 * t), vI (i : Int)] [] s (PN K) := by
    intro t ht next d
    have hn := (hT t ht).1
    induction d with
    | zero =>
      intro i s hi hf h
      have hi : i = tn (T t) := by omega
      subst hi
      have hCs := (hC.cq hf.cq) t ht
      rw [trkN] at hCs
      refine w_X9_countColumns_24 _ _ ⟨t, ht, rfl⟩ _ ?_
      rw [hCs.1]
      exact ⟨by omega, by omega, fun _ => next s hf h, fun z => absurd (Int.le_refl _) z⟩
    | succ d ih =>
      intro i s hi hf h
      have hCs := (hC.cq hf.cq) t ht
      rw [trkN] at hCs
      have bd := (hT t ht).2.2.1 i (by omega)
      have cb := col_bd hT ht (i := i) (by omega)
      refine w_X9_countColumns_24 _ _ ⟨t, ht, rfl⟩ _ ?_
      rw [hCs.1, Int.toNat_natCast, (hCs.2.2 i (by omega)).2.1]
      refine ⟨by omega, by omega, fun z => absurd z (by omega), fun _ => ⟨by omega, by omega, ?_⟩⟩
      have ec : Int.tdiv (tx (T t) i) 10 = col T t i := rfl
      rw [ec]
      refine e_X1_add _ (c_isWithin (by omega) (by decide) (by decide) (fun _ => ⟨cb, fun s6 e6 => ?_⟩) (fun z => absurd (by omega) z))
      refine ih (i + 1) s6 (by omega) (fun c hc => by rw [e6, up_cell hc]; exact hf c hc) fun c hc => ?_
      have := h c hc
      simp only [ct, decide_eq_true_eq]
      rw [e6]
      by_cases z : col T t i = (c : Int)
      · rw [if_pos z, z, Int.toNat_natCast, up_at]
        omega
      · rw [if_neg z, up_o2 (by omega)]
        omega
  have things : ∀ (d t : Nat) (s : Mem), t + d = 10 → f33 σ s → (∀ c : Nat, c < 10 → s 33 c = ldt T t c) → TT m_X9_countColumns 9 [vR 0, vI (t : Int), vU, vU] [] s (PN K) := by
    intro d
    induction d with
    | zero =>
      intro t s ht hf h
      have ht : t = 10 := by omega
      subst ht
      exact w_X9_countColumns_9 _ ⟨by decide, fun _ => hK s hf h, fun z => absurd (by decide) z⟩
    | succ d ih =>
      intro t s ht hf h
      refine w_X9_countColumns_9 _ ⟨by omega, fun z => absurd z (by omega), fun _ => ⟨by omega, ?_⟩⟩
      rw [trkN]
      refine rows t (by omega) (fun s2 f2 h2 => ih (t + 1) s2 (by omega) f2 h2) (tn (T t)) 0 s (by omega) hf fun c hc => ?_
      rw [h c hc]
      simp only [ct]
      omega
  have clear : ∀ (d i : Nat) (s : Mem), i + d = 10 → f33 σ s → (∀ c, c < i → s 33 c = 0) → TT m_X1_clear 2 [vR 32, vI (i : Int)] [] s (PN fun s2 => TT m_X9_countColumns 9 [vR 0, vI 0, vU, vU] [] s2 (PN K)) := by
    intro d
    induction d with
    | zero =>
      intro i s hi hf h
      exact w_X1_clear_2 _ ⟨by omega, fun _ => things 10 0 s rfl hf (fun c hc => h c (by omega)), fun z => absurd z (by omega)⟩
    | succ d ih =>
      intro i s hi hf h
      refine w_X1_clear_2 _ ⟨by omega, fun z => absurd z (by omega), fun _ => ⟨by omega, fun s4 e4 => ?_⟩⟩
      rw [Int.toNat_natCast] at e4
      refine ih (i + 1) s4 (by omega) (fun c hc => by rw [e4, up_cell hc]; exact hf c hc) fun c hc => ?_
      by_cases z : c = i
      · rw [e4, z, up_at]
      · rw [e4, up_o2 z]; exact h c (by omega)
  exact e_X9_countColumns (e_X1_clear (clear 10 0 σ rfl (fun _ _ => rfl) fun c h => absurd h (by omega)))
theorem d_load {K : Int → Mem → Prop} {c : Nat} (hc : c < 10) (hT : oks T) (hM : MA σ T) (hK : K (ldt T 10 c) σ) : CC m_X10_loadOf [vR 80, vI (c : Int)] σ (PI K) := by
  have rows : ∀ (t : Nat), t < 10 → TT m_X10_loadOf 4 [vR 80, vI (c : Int), vI (ldt T (t + 1) c), vI ((t : Int) + 1), vU] [] σ (PI K) → ∀ (d i : Nat), i + d = tn (T t) → TT m_X10_loadOf 13 [vR 80, vI (c : Int), vI (ldt T t c + ct (fun i => decide (col T t i = (c : Int))) i), vI (t : Int), vI (i : Int)] [] σ (PI K) := by
    intro t ht next d
    have hn := (hT t ht).1
    have hMs := hM t ht
    induction d with
    | zero =>
      intro i hi
      have hi : i = tn (T t) := by omega
      subst hi
      refine w_X10_loadOf_13 _ _ _ _ ?_
      have h81 := hMs.1
      rw [Int.toNat_natCast]
      refine ⟨by omega, by omega, by omega, fun _ => next, fun z => absurd z (by omega)⟩
    | succ d ih =>
      intro i hi
      have bd := (hT t ht).2.2.1 i (by omega)
      have cb := col_bd hT ht (i := i) (by omega)
      refine w_X10_loadOf_13 _ _ _ _ ?_
      have en : (24 * (t : Int) + (i : Int)).toNat = 24 * t + i := by omega
      have h81 := hMs.1
      have h83 := (hMs.2.2 i (by omega)).2.1
      have ec : Int.tdiv (tx (T t) i) 10 = col T t i := rfl
      rw [Int.toNat_natCast, en]
      refine ⟨by omega, by omega, by omega, fun z => absurd z (by omega), fun _ => ⟨by omega, by omega, by rw [h83, ec]; omega, by omega, fun v13 e13 => ?_⟩⟩
      have := ih (i + 1) (by omega)
      simp only [ct, decide_eq_true_eq] at this
      rw [h83, ec] at e13
      have ev : v13 = ldt T t c + (ct (fun i => decide (col T t i = (c : Int))) i + (if col T t i = (c : Int) then 1 else 0)) := by
        rw [e13]
        by_cases z : col T t i = (c : Int)
        · rw [if_neg (not_not_intro z), if_pos z]; omega
        · rw [if_pos z, if_neg z]; omega
      rw [ev]
      exact this
  have things : ∀ (d t : Nat), t + d = 10 → TT m_X10_loadOf 4 [vR 80, vI (c : Int), vI (ldt T t c), vI (t : Int), vU] [] σ (PI K) := by
    intro d
    induction d with
    | zero =>
      intro t ht
      have ht : t = 10 := by omega
      subst ht
      exact w_X10_loadOf_4 _ _ _ ⟨by decide, fun _ => hK, fun z => absurd (by decide) z⟩
    | succ d ih =>
      intro t ht
      refine w_X10_loadOf_4 _ _ _ ⟨by omega, fun z => absurd z (by omega), fun _ => ?_⟩
      have := rows t (by omega) (ih (t + 1) (by omega)) (tn (T t)) 0 (by omega)
      simp only [ct] at this
      rw [Int.add_zero] at this
      exact this
  exact e_X10_loadOf _ (things 10 0 rfl)
theorem c_fits {A B : Mem → Prop} {j : Nat} {mc most : Int} (hj : j ≤ 10) (hmc : 0 ≤ mc ∧ mc ≤ 5) (hmo : 0 ≤ most ∧ most ≤ 240) (hT : oks T) (hL : ∀ c : Nat, c < 10 → σ 33 c = ldt T 10 c) (h1 : mf9 (ldt T 10) most j ≤ mc → A σ) (h0 : ¬ mf9 (ldt T 10) most j ≤ mc → B σ) : CC m_X1_fits [vR 32, vI (j : Int), vI mc, vI most] σ (PZ A B) := by
  have loop : ∀ (k j : Nat) (ml r c r' : Int), j + k = 10 → ((1 ≤ c ∧ c + k ≤ 20 ∧ ml = mc - c ∧ 0 ≤ ml ∧ r = r' ∧ 0 ≤ r ∧ r ≤ most) ∨ (1 ≤ mc ∧ ml = mc ∧ c = 1 ∧ r = 0 ∧ r' = most)) → (gd (ldt T 10) most k j c r' ≤ mc → A σ) → (¬ gd (ldt T 10) most k j c r' ≤ mc → B σ) → TT m_X1_fits 22 [vR 32, vU, vU, vI most, vI ml, vI r, vI (j : Int)] [] σ (PZ A B) := by
    intro k
    induction k with
    | zero =>
      intro j ml r c r' hj hs h1 h0
      simp only [gd] at h1
      exact w_X1_fits_22 _ _ _ _ ⟨by omega, fun _ => h1 (by omega), fun z => absurd z (by omega)⟩
    | succ k ih =>
      intro j ml r c r' hj hs h1 h0
      have lb := ldt_bd hT 10 (by omega) j
      have g2 := gd_bd (ldt T 10) most k (j + 1) (c + 1) (most - ldt T 10 j) (by omega)
      simp only [gd] at h1 h0
      refine w_X1_fits_22 _ _ _ _ ?_
      rw [Int.toNat_natCast, hL j (by omega)]
      refine ⟨by omega, fun z => absurd z (by omega), fun _ => ⟨by omega, by omega, by omega, fun z => ?_, fun z => ⟨by omega, fun z2 => h0 ?_, fun z2 => ⟨by omega, fun z3 => ?_, fun z3 => h0 ?_⟩⟩⟩⟩
      · refine w_X1_fits_66 _ _ _ _ ⟨by omega, ?_⟩
        rw [Int.toNat_natCast, hL j (by omega)]
        rw [if_neg (by omega), if_pos (by omega)] at h1 h0
        exact ih (j + 1) ml (r - ldt T 10 j) c (r' - ldt T 10 j) (by omega) (by omega) h1 h0
      · rw [if_pos z2]; omega
      · refine w_X1_fits_66 _ _ _ _ ⟨by omega, ?_⟩
        rw [Int.toNat_natCast, hL j (by omega)]
        rw [if_neg z2] at h1 h0
        rcases hs with hs | hs
        · rw [if_neg (by omega)] at h1 h0
          exact ih (j + 1) (ml + -1) (most - ldt T 10 j) (c + 1) (most - ldt T 10 j) (by omega) (by omega) h1 h0
        · rw [if_pos (by omega)] at h1 h0
          exact ih (j + 1) (ml + -1) (most - ldt T 10 j) c (r' - ldt T 10 j) (by omega) (by omega) h1 h0
      · rw [if_neg z2]
        rcases hs with hs | hs
        · rw [if_neg (by omega)]; omega
        · omega
  unfold mf9 at h1 h0
  refine e_X1_fits _ _ _ ⟨by omega, fun z => ?_, fun z => ⟨by omega, fun z2 => ?_, fun z2 => h0 ?_⟩⟩
  · rw [if_pos (by omega)] at h1
    exact w_X1_fits_22 _ _ _ _ ⟨by omega, fun _ => h1 (by omega), fun w => absurd z w⟩
  · rw [if_neg (by omega)] at h1 h0
    exact loop (10 - j) j mc 0 1 most (by omega) (by omega) h1 h0
  · rw [if_neg (by omega)]
    have := gd_bd (ldt T 10) most (10 - j) j 1 most (by omega)
    omega
theorem d_mach {K : Int → Mem → Prop} {j : Nat} {most : Int} (hj : j ≤ 10) (hmo : 0 ≤ most ∧ most ≤ 240) (hT : oks T) (hM : MA σ T) (hK : K (mf9 (ldt T 10) most j) σ) : CC m_X10_machinesFor [vR 80, vI (j : Int), vI most] σ (PI K) := by
  have loop : ∀ (k i : Nat) (c r : Int), i + k = 10 → j < i → 1 ≤ c → c ≤ i → (0 ≤ r ∧ r ≤ most) → K (gd (ldt T 10) most k i c r) σ → TT m_X10_machinesFor 8 [vR 80, vI (j : Int), vI most, vI c, vI r, vI (i : Int), vU] [] σ (PI K) := by
    intro k
    induction k with
    | zero =>
      intro i c r hi hji hc1 hc2 hr h
      exact w_X10_machinesFor_8 _ _ _ _ _ ⟨by omega, fun _ => h, fun z => absurd z (by omega)⟩
    | succ k ih =>
      intro i c r hi hji hc1 hc2 hr h
      have lb := ldt_bd hT 10 (by omega) i
      simp only [gd] at h
      refine w_X10_machinesFor_8 _ _ _ _ _ ⟨by omega, fun z => absurd z (by omega), fun _ => d_load (by omega) hT hM ⟨by omega, by omega, fun z => ⟨by omega, fun _ => by omega, fun v14 e14 => ?_⟩, fun z => ?_⟩⟩
      · rw [if_neg (by omega)] at h
        rw [if_neg (by omega)] at e14
        have h14 : c ≤ v14 ∧ v14 ≤ c + 1 := by rw [e14]; split <;> omega
        refine ⟨by omega, fun _ => by omega, fun _ => ⟨by omega, fun _ => by omega⟩, fun v29 e29 => ?_⟩
        have e29 : v29 = if ldt T 10 i ≤ r then r - ldt T 10 i else most - ldt T 10 i := by
          rw [e29]
          by_cases w : v14 = 1
          · rw [if_neg (not_not_intro w), if_neg (by omega)]
          · rw [if_pos w]
        by_cases w : ldt T 10 i ≤ r
        · rw [if_pos w] at h e29 e14
          rw [e29, e14, Int.add_zero]
          exact ih (i + 1) c (r - ldt T 10 i) (by omega) (by omega) hc1 (by omega) (by omega) h
        · rw [if_neg w] at h e29 e14
          rw [e29, e14]
          exact ih (i + 1) (c + 1) (most - ldt T 10 i) (by omega) (by omega) (by omega) (by omega) (by omega) h
      · rw [if_pos (by omega)] at h
        exact h
  refine e_X10_machinesFor _ _ ?_
  unfold mf9 at hK
  by_cases hj0 : 10 ≤ j
  · rw [if_pos hj0] at hK
    exact w_X10_machinesFor_8 _ _ _ _ _ ⟨by omega, fun _ => hK, fun z => absurd (by omega) z⟩
  · rw [if_neg hj0] at hK
    have lb := ldt_bd hT 10 (by omega) j
    obtain ⟨k, hk⟩ : ∃ k, 10 - j = k + 1 := ⟨9 - j, by omega⟩
    rw [hk] at hK
    simp only [gd] at hK
    refine w_X10_machinesFor_8 _ _ _ _ _ ⟨by omega, fun z => absurd z (by omega), fun _ => d_load (by omega) hT hM ⟨by omega, by omega, fun z => ⟨by decide, fun w => absurd rfl w, fun v14 e14 => ?_⟩, fun z => ?_⟩⟩
    · rw [if_pos rfl] at e14
      subst e14
      rw [if_neg (by omega), if_pos z] at hK
      refine ⟨by decide, fun w => absurd rfl w, fun _ => ⟨by omega, fun w => absurd rfl w⟩, fun v29 e29 => ?_⟩
      rw [if_neg (by decide), if_pos rfl] at e29
      rw [e29]
      exact loop k (j + 1) 1 (most - ldt T 10 j) (by omega) (by omega) (by decide) (by omega) (by omega) hK
    · rw [if_pos (by omega)] at hK
      exact hK
/-- the least greatest load -/
def isBL (T : Nat → TV) (mc v : Int) : Prop := (0 ≤ v ∧ v ≤ 240) ∧ mf9 (ldt T 10) v 0 ≤ mc ∧ ∀ w, 0 ≤ w → w < v → ¬ mf9 (ldt T 10) w 0 ≤ mc
theorem mf9_240 (hT : oks T) {mc : Int} (h : 1 ≤ mc) : mf9 (ldt T 10) 240 0 ≤ mc := by
  unfold mf9
  rw [if_neg (by decide), gd_all (fun j => (ldt_bd hT 10 (by omega) j).1) _ _ _ (Int.le_refl _) (by have := sm_ldt hT 10 0 10 (by omega); exact this)]
  exact h
theorem isBL_one {mc v w : Int} (hv : isBL T mc v) (hw : isBL T mc w) : v = w := by
  rcases Int.lt_trichotomy v w with z | z | z
  · exact absurd hv.2.1 (hw.2.2 v hv.1.1 z)
  · exact z
  · exact absurd hw.2.1 (hv.2.2 w hw.1.1 z)
theorem c_least {K : Int → Mem → Prop} {mc : Int} (hmc : 1 ≤ mc ∧ mc ≤ 5) (hT : oks T) (hL : ∀ c : Nat, c < 10 → σ 33 c = ldt T 10 c) (hK : ∀ v, isBL T mc v → K v σ) : CC m_X1_leastGreatest [vR 32, vI mc] σ (PI K) := by
  have loop : ∀ (k : Nat) (v : Int), v + k = 240 → 0 ≤ v → (∀ w, 0 ≤ w → w < v → ¬ mf9 (ldt T 10) w 0 ≤ mc) → TT m_X1_leastGreatest 2 [vR 32, vI mc, vI v] [] σ (PI K) := by
    intro k
    induction k with
    | zero =>
      intro v hv h0 hl
      have hv : v = 240 := by omega
      subst hv
      exact w_X1_leastGreatest_2 _ _ ⟨by decide, fun _ => hK 240 ⟨by decide, mf9_240 hT hmc.1, hl⟩, fun z => absurd (by decide) z⟩
    | succ k ih =>
      intro v hv h0 hl
      refine w_X1_leastGreatest_2 _ _ ⟨by omega, fun z => absurd z (by omega), fun _ => ?_⟩
      refine c_fits (j := 0) (by decide) (by omega) (by omega) hT hL (fun z => hK v ⟨by omega, z, hl⟩) (fun z => ih (v + 1) (by omega) (by omega) fun w w0 w1 => ?_)
      rcases Int.lt_or_le w v with u | u
      · exact hl w w0 u
      · rw [show w = v by omega]; exact z
  exact e_X1_leastGreatest _ (loop 240 0 (by decide) (by decide) fun w a b => absurd a (by omega))
theorem d_least {K : Int → Mem → Prop} {mc : Int} (hmc : 1 ≤ mc ∧ mc ≤ 5) (hT : oks T) (hM : MA σ T) (hK : ∀ v, isBL T mc v → K v σ) : CC m_X10_bestLoad [vR 80, vI mc] σ (PI K) := by
  have loop : ∀ (k : Nat) (v : Int), v + k = 240 → 0 ≤ v → (∀ w, 0 ≤ w → w < v → ¬ mf9 (ldt T 10) w 0 ≤ mc) → TT m_X10_bestLoad 2 [vR 80, vI mc, vI v] [] σ (PI K) := by
    intro k
    induction k with
    | zero =>
      intro v hv h0 hl
      have hv : v = 240 := by omega
      subst hv
      have b := mf9_bd (ldt T 10) 240 0
      exact w_X10_bestLoad_2 _ _ (d_mach (j := 0) (by decide) (by decide) hT hM ⟨by omega, by omega, fun _ => hK 240 ⟨by decide, mf9_240 hT hmc.1, hl⟩, fun z => absurd (mf9_240 hT hmc.1) z⟩)
    | succ k ih =>
      intro v hv h0 hl
      have b := mf9_bd (ldt T 10) v 0
      refine w_X10_bestLoad_2 _ _ (d_mach (j := 0) (by decide) (by omega) hT hM ⟨by omega, by omega, fun z => hK v ⟨by omega, z, hl⟩, fun z => ih (v + 1) (by omega) (by omega) fun w w0 w1 => ?_⟩)
      rcases Int.lt_or_le w v with u | u
      · exact hl w w0 u
      · rw [show w = v by omega]; exact z
  exact e_X10_bestLoad _ (loop 240 0 (by decide) (by decide) fun w a b => absurd a (by omega))
/-- where a part that begins at j ends, so many machines being left behind it -/
def endF (L : Nat → Int) (most left : Int) : Nat → Nat → Nat
  | 0, j => j
  | k + 1, j => if mf9 L most j ≤ left then j else endF L most left k (j + 1)
theorem endF_bd (L : Nat → Int) (most left : Int) : ∀ k j : Nat, j ≤ endF L most left k j ∧ endF L most left k j ≤ j + k
  | 0, j => ⟨Nat.le_refl _, Nat.le_refl _⟩
  | k + 1, j => by
    have := endF_bd L most left k (j + 1)
    simp only [endF]
    split <;> omega
/-- start and end of part i -/
def ptF (L : Nat → Int) (most mc : Int) : Nat → Nat × Nat
  | 0 => (0, 0)
  | i + 1 => ((ptF L most mc i).2, endF L most (mc - i - 1) (10 - (ptF L most mc i).2) (ptF L most mc i).2)
theorem ptF_bd (L : Nat → Int) (most mc : Int) : ∀ i : Nat, (ptF L most mc i).1 ≤ (ptF L most mc i).2 ∧ (ptF L most mc i).2 ≤ 10
  | 0 => ⟨Nat.le_refl _, Nat.zero_le _⟩
  | i + 1 => by
    have a := ptF_bd L most mc i
    have b := endF_bd L most (mc - i - 1) (10 - (ptF L most mc i).2) (ptF L most mc i).2
    simp only [ptF]
    omega
theorem c_part {K : Int → Mem → Prop} {mc : Int} {i : Nat} (hmc : 1 ≤ mc ∧ mc ≤ 5) (hi : (i : Int) < mc) (hT : oks T) (hL : ∀ c : Nat, c < 10 → σ 33 c = ldt T 10 c) (hK : ∀ v, isBL T mc v → K (((ptF (ldt T 10) v mc (i + 1)).2 : Int) - (ptF (ldt T 10) v mc (i + 1)).1) σ) : CC m_X1_partOf [vR 32, vI mc, vI (i : Int)] σ (PI K) := by
  refine e_X1_partOf _ _ (c_least hmc hT hL fun v hv => ?_)
  have hv1 := hv.1
  have inner : ∀ (q : Nat) (st : Nat), (q : Int) < mc → (∀ e : Nat, e = endF (ldt T 10) v (mc - q - 1) (10 - st) st → TT m_X1_partOf 15 [vR 32, vI mc, vI (i : Int), vI v, vI (st : Int), vI (e : Int), vI ((q : Int) + 1)] [] σ (PI K)) → ∀ (k j : Nat), j + k = 10 → endF (ldt T 10) v (mc - q - 1) k j = endF (ldt T 10) v (mc - q - 1) (10 - st) st → TT m_X1_partOf 25 [vR 32, vI mc, vI (i : Int), vI v, vI (st : Int), vI (j : Int), vI (q : Int)] [] σ (PI K) := by
    intro q st hq next k
    induction k with
    | zero =>
      intro j hj he
      exact w_X1_partOf_25 _ _ _ _ _ _ ⟨by omega, fun _ => next j he, fun z => absurd z (by omega)⟩
    | succ k ih =>
      intro j hj he
      simp only [endF] at he
      refine w_X1_partOf_25 _ _ _ _ _ _ ⟨by omega, fun z => absurd z (by omega), fun _ => ?_⟩
      refine c_fits (by omega) (by omega) hv1 hT hL (fun z => ?_) (fun z => ?_)
      · rw [if_pos z] at he
        exact next j he
      · rw [if_neg z] at he
        exact ih (j + 1) (by omega) he
  have outer : ∀ (k q : Nat), q + k = i + 1 → TT m_X1_partOf 15 [vR 32, vI mc, vI (i : Int), vI v, vI ((ptF (ldt T 10) v mc q).1 : Int), vI ((ptF (ldt T 10) v mc q).2 : Int), vI (q : Int)] [] σ (PI K) := by
    intro k
    induction k with
    | zero =>
      intro q hq
      have hq : q = i + 1 := by omega
      subst hq
      exact w_X1_partOf_15 _ _ _ _ _ _ ⟨by omega, by omega, fun _ => hK v hv, fun z => absurd (by omega) z⟩
    | succ k ih =>
      intro q hq
      have pb := ptF_bd (ldt T 10) v mc q
      refine w_X1_partOf_15 _ _ _ _ _ _ ⟨by omega, by omega, fun z => absurd z (by omega), fun _ => ?_⟩
      refine inner q (ptF (ldt T 10) v mc q).2 (by omega) (fun e he => ?_) (10 - (ptF (ldt T 10) v mc q).2) (ptF (ldt T 10) v mc q).2 (by omega) rfl
      have := ih (q + 1) (by omega)
      simp only [ptF] at this
      rw [he]
      exact this
  exact outer (i + 1) 0 (by omega)
theorem d_part {K : Int → Mem → Prop} {mc v : Int} {i : Nat} (hmc : 1 ≤ mc ∧ mc ≤ 5) (hi : (i : Int) < mc) (hT : oks T) (hM : MA σ T) (hv : isBL T mc v) (hK : K (((ptF (ldt T 10) v mc (i + 1)).2 : Int) - (ptF (ldt T 10) v mc (i + 1)).1) σ) : TT m_X10_gets 43 [vR 80, vI mc, vI (i : Int), vI v, vI 0, vI 0, vI 0] [] σ (PI K) := by
  have hv1 := hv.1
  have inner : ∀ (q : Nat) (st : Nat), st ≤ 10 → (q : Int) < mc → (∀ e : Nat, e = endF (ldt T 10) v (mc - q - 1) (10 - st) st → st ≤ e → TT m_X10_gets 43 [vR 80, vI mc, vI (i : Int), vI v, vI (e : Int), vI ((e : Int) - st), vI ((q : Int) + 1)] [] σ (PI K)) → ∀ (k j : Nat), j + k = 10 → st ≤ j → endF (ldt T 10) v (mc - q - 1) k j = endF (ldt T 10) v (mc - q - 1) (10 - st) st → TT m_X10_gets 52 [vR 80, vI mc, vI (i : Int), vI v, vI (st : Int), vI ((j : Int) - st), vI (q : Int)] [] σ (PI K) := by
    intro q st hst hq next k
    induction k with
    | zero =>
      intro j hj hsj he
      have hj : j = 10 := by omega
      subst hj
      refine w_X10_gets_52 _ _ _ _ _ _ ?_
      rw [show (st : Int) + (((10 : Nat) : Int) - st) = ((10 : Nat) : Int) by omega]
      have b := mf9_bd (ldt T 10) v 10
      have z10 : mf9 (ldt T 10) v 10 = 0 := by unfold mf9; rw [if_pos (by decide)]
      exact d_mach (by omega) hv1 hT hM ⟨by omega, by omega, fun _ => next 10 he hsj, fun z => absurd (by omega) z⟩
    | succ k ih =>
      intro j hj hsj he
      simp only [endF] at he
      have b := mf9_bd (ldt T 10) v j
      refine w_X10_gets_52 _ _ _ _ _ _ ?_
      rw [show (st : Int) + ((j : Int) - st) = (j : Int) by omega]
      refine d_mach (by omega) hv1 hT hM ⟨by omega, by omega, fun z => ?_, fun z => ?_⟩
      · rw [if_pos (by omega)] at he
        exact next j he hsj
      · rw [if_neg (by omega)] at he
        have := ih (j + 1) (by omega) (by omega) he
        rw [show ((j + 1 : Nat) : Int) - st = (j : Int) - st + 1 by omega] at this
        exact this
  have outer : ∀ (k q : Nat), q + k = i + 1 → TT m_X10_gets 43 [vR 80, vI mc, vI (i : Int), vI v, vI ((ptF (ldt T 10) v mc q).2 : Int), vI (((ptF (ldt T 10) v mc q).2 : Int) - (ptF (ldt T 10) v mc q).1), vI (q : Int)] [] σ (PI K) := by
    intro k
    induction k with
    | zero =>
      intro q hq
      have hq : q = i + 1 := by omega
      subst hq
      exact w_X10_gets_43 _ _ _ _ _ _ ⟨by omega, by omega, fun _ => hK, fun z => absurd (by omega) z⟩
    | succ k ih =>
      intro q hq
      have pb := ptF_bd (ldt T 10) v mc q
      refine w_X10_gets_43 _ _ _ _ _ _ ⟨by omega, by omega, fun z => absurd z (by omega), fun _ => ?_⟩
      have := inner q (ptF (ldt T 10) v mc q).2 (by omega) (by omega) (fun e he _ => by
        have := ih (q + 1) (by omega)
        simp only [ptF] at this
        rw [he]
        exact this) (10 - (ptF (ldt T 10) v mc q).2) (ptF (ldt T 10) v mc q).2 (by omega) (Nat.le_refl _) rfl
      rw [Int.sub_self] at this
      exact this
  exact outer (i + 1) 0 (by omega)
end COLS
section COLO
variable {σ : Mem} {T : Nat → TV} {K : Int → Int → Mem → Prop}
theorem op_load {c : Int} (hc : R32 c) (hT : oks T) (hC : CA σ T) (hM : MA σ T) (hK : ∀ v σ', R32 v → qm σ σ' → K v v σ') :
    CC m_X9_load [vR 0, vI c] σ (PI fun v s' => CC m_X10_load [vR 80, vI c] s' (PI fun v2 s2 => K v v2 s2)) := by
  refine e_X9_load _ (c_isWithin hc (by decide) (by decide) (fun q => c_cols hT hC fun s hf hL => ⟨by omega, ?_⟩) (fun z => ?_))
  · obtain ⟨j, rfl, hj⟩ := nat_of (x := c) (n := 10) (by omega)
    have lb := ldt_bd hT 10 (by omega) j
    rw [Int.toNat_natCast, hL j (by omega)]
    refine e_X10_load _ ⟨hc, d_in (r64 hc) (by decide) (by decide) (fun _ => d_load (by omega) hT (hM.cq hf.cq) (hK _ _ (by omega) (qm_of hf.cq mq.rf))) (fun z => absurd q z)⟩
  · exact e_X10_load _ ⟨hc, d_in (r64 hc) (by decide) (by decide) (fun w => absurd w z) (fun _ => hK _ _ (by decide) (qm_of cq.rf mq.rf))⟩
theorem op_share {c : Int} (hc : R32 c) (hT : oks T) (hC : CA σ T) (hM : MA σ T) (hK : ∀ v σ', R32 v → qm σ σ' → K v v σ') :
    CC m_X9_share [vR 0, vI c] σ (PI fun v s' => CC m_X10_share [vR 80, vI c] s' (PI fun v2 s2 => K v v2 s2)) := by
  refine e_X9_share _ (c_isWithin hc (by decide) (by decide) (fun q => c_cols hT hC fun s hf hL => c_least q hT hL fun v hv => ?_) (fun z => ?_))
  · refine e_X10_share _ ⟨hc, d_in (r64 hc) (by decide) (by decide) (fun _ => d_least q hT (hM.cq hf.cq) fun w hw => ?_) (fun z => absurd q z)⟩
    rw [isBL_one hw hv]
    have := hv.1
    exact hK _ _ (by omega) (qm_of hf.cq mq.rf)
  · exact e_X10_share _ ⟨hc, d_in (r64 hc) (by decide) (by decide) (fun w => absurd w z) (fun _ => hK _ _ (by decide) (qm_of cq.rf mq.rf))⟩
theorem op_gets {c i : Int} (hc : R32 c) (hi : R32 i) (hT : oks T) (hC : CA σ T) (hM : MA σ T) (hK : ∀ v σ', R32 v → qm σ σ' → K v v σ') :
    CC m_X9_gets [vR 0, vI c, vI i] σ (PI fun v s' => CC m_X10_gets [vR 80, vI c, vI i] s' (PI fun v2 s2 => K v v2 s2)) := by
  refine e_X9_gets _ _ (c_isWithin hc (by decide) (by decide) (fun q => c_isWithin hi (by decide) (by omega) (fun q2 => ?_) (fun z => ?_)) (fun z => ?_))
  · obtain ⟨j, rfl, hj⟩ := nat_of (x := i) (n := c) (by omega)
    refine c_cols hT hC fun s hf hL => c_part q (by omega) hT hL fun v hv => ?_
    refine e_X10_gets _ _ ⟨hc, d_in (r64 hc) (by decide) (by decide) (fun _ => ⟨hi, by omega, d_in (r64 hi) (by decide) (by omega) (fun _ => d_least q hT (hM.cq hf.cq) fun w hw => ?_) (fun z => absurd q2 z)⟩) (fun z => absurd q z)⟩
    rw [isBL_one hw hv]
    have b := ptF_bd (ldt T 10) v c (j + 1)
    exact d_part q (by omega) hT (hM.cq hf.cq) hv (hK _ _ (by omega) (qm_of hf.cq mq.rf))
  · exact e_X10_gets _ _ ⟨hc, d_in (r64 hc) (by decide) (by decide) (fun _ => ⟨hi, by omega, d_in (r64 hi) (by decide) (by omega) (fun w => absurd w z) (fun _ => hK _ _ (by decide) (qm_of cq.rf mq.rf))⟩) (fun w => absurd q w)⟩
  · exact e_X10_gets _ _ ⟨hc, d_in (r64 hc) (by decide) (by decide) (fun w => absurd w z) (fun _ => hK _ _ (by decide) (qm_of cq.rf mq.rf))⟩
end COLO
