/-! the nearest -/
def ins {α : Type} (f : Nat → α) (p : Nat) (v : α) : Nat → α := fun l => if l < p then f l else if l = p then v else f (l - 1)
theorem ins_lt {α : Type} {f : Nat → α} {p l : Nat} {v : α} (h : l < p) : ins f p v l = f l := by simp [ins, h]
theorem ins_at {α : Type} {f : Nat → α} {p : Nat} {v : α} : ins f p v p = v := by simp [ins]
theorem ins_gt {α : Type} {f : Nat → α} {p l : Nat} {v : α} (h : p < l) : ins f p v l = f (l - 1) := by
  unfold ins
  rw [if_neg (by omega), if_neg (by omega)]
/-- counting, point by point -/
theorem ct_cong {f g : Nat → Bool} : ∀ {n : Nat}, (∀ k, k < n → f k = g k) → ct f n = ct g n
  | 0, _ => rfl
  | n + 1, h => by simp only [ct]; rw [ct_cong fun k hk => h k (by omega), h n (by omega)]
theorem ct_one {f g : Nat → Bool} {c : Nat} (h0 : f c = false) (h1 : g c = true) : ∀ {n : Nat}, c < n → (∀ k, k < n → k ≠ c → f k = g k) → ct g n = ct f n + 1
  | 0, h, _ => absurd h (Nat.not_lt_zero c)
  | n + 1, h, hk => by
    simp only [ct]
    by_cases e : c = n
    · subst e
      rw [h0, h1, ct_cong (f := f) (g := g) fun k q => hk k (by omega) (by omega)]
      simp
    · rw [ct_one h0 h1 (by omega) fun k q q2 => hk k (by omega) q2, hk n (by omega) (Ne.symm e)]
      omega
theorem ct_none {f : Nat → Bool} : ∀ {n : Nat}, (∀ k, k < n → f k = false) → ct f n = 0
  | 0, _ => rfl
  | n + 1, h => by
    simp only [ct]
    rw [ct_none fun k hk => h k (by omega), h n (by omega)]
    rfl
/-- as many as a list of different ones has -/
theorem ct_list {num : Nat → Nat} {n : Nat} {p : Nat → Bool} : ∀ {i : Nat}, (∀ l, l < i → num l < n) → (∀ l k, l < k → k < i → num l ≠ num k) → (∀ c, c < n → (p c = true ↔ ∃ l, l < i ∧ num l = c)) → ct p n = (i : Int)
  | 0, _, _, h => ct_none fun k hk => by
    cases hp : p k with
    | false => rfl
    | true =>
      obtain ⟨l, hl, -⟩ := (h k hk).mp hp
      exact absurd hl (Nat.not_lt_zero l)
  | i + 1, h1, h2, h3 => by
    have hn := h1 i (by omega)
    have ih : ct (fun c => p c && decide (c ≠ num i)) n = (i : Int) := ct_list (num := num) (fun l hl => h1 l (by omega)) (fun l k a b => h2 l k a (by omega)) fun c hc => by
      rw [Bool.and_eq_true, decide_eq_true_eq, h3 c hc]
      constructor
      · rintro ⟨⟨l, a, b⟩, e⟩
        exact ⟨l, by
          rcases Nat.lt_or_ge l i with z | z
          · exact z
          · exact absurd (by rw [← b, show l = i by omega]) e, b⟩
      · rintro ⟨l, a, b⟩
        exact ⟨⟨l, by omega, b⟩, fun e => h2 l i a (by omega) (by rw [b, e])⟩
    have hp : p (num i) = true := (h3 _ hn).mpr ⟨i, by omega, rfl⟩
    rw [ct_one (f := fun c => p c && decide (c ≠ num i)) (g := p) (c := num i) (by simp) hp hn fun k hk e => by simp [e], ih]
    rfl
/-! a ranking: numbers with fractions -/
def RkC (σ : Mem) (h : Nat) (N : Nat → Int) (A B : Nat → Int) : Prop := σ 9 3 = (h : Int) ∧ ∀ l, l < h → σ 10 l = N l ∧ σ 11 l = A l ∧ σ 12 l = B l
def fRk (σ σ' : Mem) : Prop := ∀ c, c ≠ 9 → c ≠ 10 → c ≠ 11 → c ≠ 12 → σ' c = σ c
theorem fRk.cq {σ σ' : Mem} (h : fRk σ σ') : cq σ σ' := fun b hb => h b (fun e => hb (by subst e; unfold cs; omega)) (fun e => hb (by subst e; unfold cs; omega)) (fun e => hb (by subst e; unfold cs; omega)) (fun e => hb (by subst e; unfold cs; omega))
section RANK
variable {σ : Mem} {K : Mem → Prop}
theorem c_rput {h : Nat} {N A B : Nat → Int} {x a b : Int} (hh : h < 10) (hR : RkC σ h N A B) (hb1 : ∀ l, l < h → R64 (a * B l) ∧ R64 (A l * b)) (hK : ∀ σ' p, p ≤ h → (0 < p → A (p - 1) * b ≤ a * B (p - 1)) → (∀ l, p ≤ l → l < h → a * B l < A l * b) → RkC σ' (h + 1) (ins N p x) (ins A p a) (ins B p b) → fRk σ σ' → K σ') : CC m_X4_put [vR 9, vI x, vL a, vL b] σ (PN K) := by
  have fin : ∀ (p : Nat) (s : Mem), p ≤ h → (0 < p → A (p - 1) * b ≤ a * B (p - 1)) → (∀ l, p ≤ l → l < h → a * B l < A l * b) → s 9 3 = (h : Int) → (∀ l, l < p → s 10 l = N l ∧ s 11 l = A l ∧ s 12 l = B l) → (∀ l, p < l → l ≤ h → s 10 l = N (l - 1) ∧ s 11 l = A (l - 1) ∧ s 12 l = B (l - 1)) → fRk σ s → TT m_X4_put 102 [vR 9, vI x, vL a, vU, vL b, vU, vI (p : Int)] [] s (PN K) := by
    intro p s hp h1 h2 h3 h4 h5 h6
    have e : (p : Int).toNat = p := by omega
    refine w_X4_put_102 _ _ _ _ ?_
    rw [e]
    refine ⟨by omega, fun s17 e17 s19 e19 s21 e21 s23 e23 => ?_⟩
    have a3 : s21 9 3 = (h : Int) := by rw [e21, up_o1 (by decide), e19, up_o1 (by decide), e17, up_o1 (by decide)]; exact h3
    rw [a3] at e23
    refine hK s23 p hp h1 h2 ⟨by rw [e23, up_at]; rfl, fun l hl => ?_⟩ fun c c9 c10 c11 c12 => ?_
    · rw [e23, up_o1 (by decide), up_o1 (by decide), up_o1 (by decide), e21, up_o1 (by decide), up_o1 (by decide), e19, up_o1 (by decide), e17]
      rcases Nat.lt_trichotomy l p with z | z | z
      · have hlp : l ≠ p := by omega
        rw [ins_lt z, ins_lt z, ins_lt z]
        simp [up, hlp]
        exact h4 l z
      · subst z
        rw [ins_at, ins_at, ins_at, up_at, up_at, up_at]
        exact ⟨rfl, rfl, rfl⟩
      · have hlp : l ≠ p := by omega
        rw [ins_gt z, ins_gt z, ins_gt z]
        simp [up, hlp]
        exact h5 l z (by omega)
    · rw [e23, up_cell c9, e21, up_cell c12, e19, up_cell c11, e17, up_cell c10, h6 c c9 c10 c11 c12]
  have loop : ∀ (p : Nat) (s : Mem), p ≤ h → (∀ l, p ≤ l → l < h → a * B l < A l * b) → s 9 3 = (h : Int) → (∀ l, l < p → s 10 l = N l ∧ s 11 l = A l ∧ s 12 l = B l) → (∀ l, p < l → l ≤ h → s 10 l = N (l - 1) ∧ s 11 l = A (l - 1) ∧ s 12 l = B (l - 1)) → fRk σ s → TT m_X4_put 16 [vR 9, vI x, vL a, vU, vL b, vU, vI (p : Int)] [] s (PN K) := by
    intro p
    induction p with
    | zero =>
      intro s hp h2 h3 h4 h5 h6
      exact w_X4_put_16 _ _ _ _ ⟨by decide, fun _ => fin 0 s hp (fun z => absurd z (by omega)) h2 h3 h4 h5 h6, fun q => absurd (by decide) q⟩
    | succ p ih =>
      intro s hp h2 h3 h4 h5 h6
      have e1 : (((p + 1 : Nat) : Int) - 1).toNat = p := by omega
      have e2 : (((p + 1 : Nat) : Int)).toNat = p + 1 := by omega
      obtain ⟨k1, k2, k3⟩ := h4 p (by omega)
      have rb := hb1 p (by omega)
      refine w_X4_put_16 _ _ _ _ ⟨by omega, fun q => absurd q (by omega), fun q => ?_⟩
      rw [e1, e2, k2, k3]
      refine ⟨by omega, rb.1, rb.2, fun z => fin (p + 1) s hp (fun _ => by rw [show p + 1 - 1 = p by omega]; exact z) h2 h3 h4 h5 h6, fun z => ⟨by omega, fun s10 e10 s12 e12 s14 e14 => ?_⟩⟩
      have c10 : s10 11 p = A p := by rw [e10, up_o1 (by decide)]; exact k2
      have c12 : s12 12 p = B p := by rw [e12, up_o1 (by decide), e10, up_o1 (by decide)]; exact k3
      rw [c10] at e12
      rw [c12] at e14
      rw [k1] at e10
      have e5 : ((p + 1 : Nat) : Int) + -1 = (p : Int) := by omega
      rw [e5]
      refine ih s14 (by omega) (fun l l1 l2 => ?_) ?_ (fun l hl => ?_) (fun l l1 l2 => ?_) fun c c9 c10 c11 c12 => ?_
      · rcases Nat.lt_or_ge p l with w | w
        · exact h2 l w l2
        · rw [show l = p by omega]; omega
      · rw [e14, up_o1 (by decide), e12, up_o1 (by decide), e10, up_o1 (by decide)]; exact h3
      · rw [e14, up_o1 (by decide), up_o1 (by decide), up_o2 (by omega), e12, up_o1 (by decide), up_o2 (by omega), up_o1 (by decide), e10, up_o2 (by omega), up_o1 (by decide), up_o1 (by decide)]
        exact h4 l (by omega)
      · rw [e14, up_o1 (by decide), up_o1 (by decide), e12, up_o1 (by decide), e10]
        by_cases w : l = p + 1
        · subst w
          rw [up_at, up_at, up_at, show p + 1 - 1 = p by omega]
          exact ⟨rfl, rfl, rfl⟩
        · simp [up, w]
          exact h5 l (by omega) l2
      · rw [e14, up_cell c12, e12, up_cell c11, e10, up_cell c10, h6 c c9 c10 c11 c12]
  refine e_X4_put _ _ _ ?_
  rw [hR.1]
  exact ⟨by omega, fun _ => loop h σ (Nat.le_refl h) (fun l z w => absurd w (by omega)) hR.1 hR.2 (fun l z w => absurd w (by omega)) (fun _ _ _ _ _ => rfl), fun q => absurd q (by omega)⟩
end RANK
/-! the order: by how far, of like ones by number -/
def pf (T : Nat → TV) (a : Nat) (m : Int) (b : Nat) : Int × Int := (farV T a b m).getD (0, 1)
def isS (T : Nat → TV) (a : Nat) (m : Int) (b : Nat) : Prop := b < 10 ∧ b ≠ a ∧ (farV T a b m).isSome = true
def fle (p q : Int × Int) : Prop := p.1 * q.2 ≤ q.1 * p.2
def flt (p q : Int × Int) : Prop := p.1 * q.2 < q.1 * p.2
theorem fle_tr {p q r : Int × Int} (hp : 0 < p.2) (hq : 0 < q.2) (hr : 0 < r.2) (h1 : fle p q) (h2 : fle q r) : fle p r := by
  unfold fle at *
  have a1 : p.1 * q.2 * r.2 ≤ q.1 * p.2 * r.2 := Int.mul_le_mul_of_nonneg_right h1 (by omega)
  have a2 : q.1 * r.2 * p.2 ≤ r.1 * q.2 * p.2 := Int.mul_le_mul_of_nonneg_right h2 (by omega)
  have e1 : q.1 * p.2 * r.2 = q.1 * r.2 * p.2 := by rw [Int.mul_assoc, Int.mul_comm p.2, ← Int.mul_assoc]
  have e2 : p.1 * q.2 * r.2 = p.1 * r.2 * q.2 := by rw [Int.mul_assoc, Int.mul_comm q.2, ← Int.mul_assoc]
  have e3 : r.1 * q.2 * p.2 = r.1 * p.2 * q.2 := by rw [Int.mul_assoc, Int.mul_comm q.2, ← Int.mul_assoc]
  exact Int.le_of_mul_le_mul_right (a := q.2) (by rw [← e2, ← e3]; omega) hq
theorem flt_tr1 {p q r : Int × Int} (hp : 0 < p.2) (hq : 0 < q.2) (hr : 0 < r.2) (h1 : fle p q) (h2 : flt q r) : flt p r := by
  unfold flt
  rcases Int.lt_or_le (p.1 * r.2) (r.1 * p.2) with z | z
  · exact z
  · have : fle r q := fle_tr hr hp hq z h1
    unfold fle at this
    unfold flt at h2
    omega
theorem flt_tr2 {p q r : Int × Int} (hp : 0 < p.2) (hq : 0 < q.2) (hr : 0 < r.2) (h1 : flt p q) (h2 : fle q r) : flt p r := by
  unfold flt
  rcases Int.lt_or_le (p.1 * r.2) (r.1 * p.2) with z | z
  · exact z
  · have : fle q p := fle_tr hq hr hp h2 z
    unfold fle at this
    unfold flt at h1
    omega
def nlt (T : Nat → TV) (a : Nat) (m : Int) (c b : Nat) : Prop := flt (pf T a m c) (pf T a m b) ∨ (fle (pf T a m c) (pf T a m b) ∧ c < b)
theorem nlt_tr {T : Nat → TV} {a : Nat} {m : Int} {x y z : Nat} (hx : 0 < (pf T a m x).2) (hy : 0 < (pf T a m y).2) (hz : 0 < (pf T a m z).2) (h1 : nlt T a m x y) (h2 : nlt T a m y z) : nlt T a m x z := by
  rcases h1 with h1 | ⟨h1, k1⟩
  · rcases h2 with h2 | ⟨h2, k2⟩
    · exact Or.inl (flt_tr2 hx hy hz h1 (Int.le_of_lt h2))
    · exact Or.inl (flt_tr2 hx hy hz h1 h2)
  · rcases h2 with h2 | ⟨h2, k2⟩
    · exact Or.inl (flt_tr1 hx hy hz h1 h2)
    · exact Or.inr ⟨fle_tr hx hy hz h1 h2, by omega⟩
theorem nlt_irr {T : Nat → TV} {a : Nat} {m : Int} {x y : Nat} (h1 : nlt T a m x y) (h2 : nlt T a m y x) : False := by
  unfold nlt flt fle at *
  omega
/-- the sorted row of those below j -/
def Srt (T : Nat → TV) (a : Nat) (m : Int) (j h : Nat) (num : Nat → Nat) : Prop := h ≤ j ∧ (∀ l, l < h → isS T a m (num l) ∧ num l < j) ∧ (∀ l k, l < k → k < h → nlt T a m (num l) (num k)) ∧ ∀ b, isS T a m b → b < j → ∃ l, l < h ∧ num l = b
theorem pf_pos {T : Nat → TV} {a : Nat} {m : Int} {b : Nat} (hT : oks T) (ha : a < 10) (h : isS T a m b) : ((0 ≤ (pf T a m b).1 ∧ (pf T a m b).1 ≤ 51200000000) ∧ (1 ≤ (pf T a m b).2 ∧ (pf T a m b).2 ≤ 65536)) ∧ farV T a b m = some (pf T a m b) := by
  obtain ⟨h1, -, h3⟩ := h
  unfold pf
  cases e : farV T a b m with
  | none => rw [e] at h3; cases h3
  | some p =>
    obtain ⟨x, y⟩ := p
    exact ⟨farV_bd (hT a ha) (hT b h1) e, rfl⟩
theorem Srt_skip {T : Nat → TV} {a : Nat} {m : Int} {j h : Nat} {num : Nat → Nat} (hs : Srt T a m j h num) (hn : ¬ isS T a m j) : Srt T a m (j + 1) h num :=
  ⟨by have := hs.1; omega, fun l hl => ⟨(hs.2.1 l hl).1, by have := (hs.2.1 l hl).2; omega⟩, hs.2.2.1, fun b h1 h2 => hs.2.2.2 b h1 (by
    rcases Nat.lt_or_ge b j with z | z
    · exact z
    · exact absurd (by rw [show j = b by omega]; exact h1) hn)⟩
theorem Srt_ins {T : Nat → TV} {a : Nat} {m : Int} {j h p : Nat} {num : Nat → Nat} (hT : oks T) (ha : a < 10) (hs : Srt T a m j h num) (hj : isS T a m j) (hp : p ≤ h) (h1 : 0 < p → fle (pf T a m (num (p - 1))) (pf T a m j)) (h2 : ∀ l, p ≤ l → l < h → flt (pf T a m j) (pf T a m (num l))) : Srt T a m (j + 1) (h + 1) (ins num p j) := by
  obtain ⟨s1, s2, s3, s4⟩ := hs
  have pos : ∀ b, isS T a m b → 0 < (pf T a m b).2 := fun b hb => by have := (pf_pos hT ha hb).1; omega
  have low : ∀ l, l < p → nlt T a m (num l) j := by
    intro l hl
    have q1 : nlt T a m (num (p - 1)) j := Or.inr ⟨h1 (by omega), (s2 (p - 1) (by omega)).2⟩
    rcases Nat.lt_or_ge l (p - 1) with z | z
    · exact nlt_tr (pos _ (s2 l (by omega)).1) (pos _ (s2 (p - 1) (by omega)).1) (pos _ hj) (s3 l (p - 1) z (by omega)) q1
    · rw [show l = p - 1 by omega]; exact q1
  refine ⟨by omega, fun l hl => ?_, fun l k hlk hk => ?_, fun b hb hbj => ?_⟩
  · rcases Nat.lt_trichotomy l p with z | z | z
    · rw [ins_lt z]; exact ⟨(s2 l (by omega)).1, by have := (s2 l (by omega)).2; omega⟩
    · subst z; rw [ins_at]; exact ⟨hj, by omega⟩
    · rw [ins_gt z]; exact ⟨(s2 (l - 1) (by omega)).1, by have := (s2 (l - 1) (by omega)).2; omega⟩
  · rcases Nat.lt_trichotomy k p with z | z | z
    · rw [ins_lt z, ins_lt (by omega)]; exact s3 l k hlk (by omega)
    · subst z; rw [ins_at, ins_lt hlk]; exact low l hlk
    · rw [ins_gt z]
      rcases Nat.lt_trichotomy l p with w | w | w
      · rw [ins_lt w]; exact s3 l (k - 1) (by omega) (by omega)
      · subst w; rw [ins_at]; exact Or.inl (h2 (k - 1) (by omega) (by omega))
      · rw [ins_gt w]; exact s3 (l - 1) (k - 1) (by omega) (by omega)
  · by_cases e : b = j
    · exact ⟨p, by omega, by rw [ins_at, e]⟩
    · obtain ⟨l, l1, l2⟩ := s4 b hb (by omega)
      rcases Nat.lt_or_ge l p with z | z
      · exact ⟨l, by omega, by rw [ins_lt z]; exact l2⟩
      · exact ⟨l + 1, by omega, by rw [ins_gt (by omega)]; exact l2⟩
/-- how many are ahead of b -/
def ahd (T : Nat → TV) (a : Nat) (m : Int) (b : Nat) : Nat → Bool := fun c => decide (c ≠ a) && decide (c ≠ b) && (farV T a c m).isSome && (decide ((pf T a m c).1 * (pf T a m b).2 < (pf T a m b).1 * (pf T a m c).2) || (decide ((pf T a m c).1 * (pf T a m b).2 = (pf T a m b).1 * (pf T a m c).2) && decide (c < b)))
theorem ahd_rank {T : Nat → TV} {a : Nat} {m : Int} {h : Nat} {num : Nat → Nat} (hs : Srt T a m 10 h num) {i : Nat} (hi : i < h) : ct (ahd T a m (num i)) 10 = (i : Int) := by
  obtain ⟨s1, s2, s3, s4⟩ := hs
  have dif : ∀ l k, l < k → k < h → num l ≠ num k := fun l k h1 h2 e => by
    have q := s3 l k h1 h2
    rw [e] at q
    exact nlt_irr q q
  refine ct_list (num := num) (i := i) (fun l hl => (s2 l (by omega)).2) (fun l k h1 h2 => dif l k h1 (by omega)) fun c hc => ?_
  unfold ahd
  simp only [Bool.and_eq_true, Bool.or_eq_true, decide_eq_true_eq]
  constructor
  · rintro ⟨⟨⟨c1, c2⟩, c3⟩, c4⟩
    obtain ⟨l, l1, l2⟩ := s4 c ⟨hc, c1, c3⟩ hc
    refine ⟨l, ?_, l2⟩
    have hn : nlt T a m (num l) (num i) := by
      rw [l2]
      unfold nlt flt fle
      omega
    rcases Nat.lt_trichotomy l i with z | z | z
    · exact z
    · subst z; exact absurd l2.symm c2
    · exact absurd (s3 i l z l1) (fun q => nlt_irr hn q)
  · rintro ⟨l, l1, l2⟩
    subst l2
    have q := s3 l i l1 hi
    have s := (s2 l (by omega)).1
    refine ⟨⟨⟨s.2.1, dif l i l1 hi⟩, s.2.2⟩, ?_⟩
    unfold nlt flt fle at q
    omega
section NEAR
variable {T : Nat → TV} {a : Nat} {m : Int}
/-- the row that the class holds -/
def RkS (σ : Mem) (T : Nat → TV) (a : Nat) (m : Int) (j : Nat) : Prop := ∃ (h : Nat) (num : Nat → Nat) (A B : Nat → Int), Srt T a m j h num ∧ RkC σ h (fun l => (num l : Int)) A B ∧ ∀ l, l < h → ∃ Q : Int, 1 ≤ Q ∧ A l = (pf T a m (num l)).1 * Q ∧ B l = (pf T a m (num l)).2 * Q ∧ (0 ≤ A l ∧ A l ≤ 13200000000000) ∧ (1 ≤ B l ∧ B l ≤ 65536)
theorem c_near45 {K : Int → Mem → Prop} {k : Int} {X Y b : Int} (hk : R32 k) (ha : a < 10) (hm : 0 ≤ m ∧ m < 200) (hT : oks T) (hp : pos (T a) m = some (X, Y, b)) : ∀ (n j : Nat) (σ : Mem), j + n = 10 → CA σ T → spotAt σ 4 X Y b → RkS σ T a m j → (∀ σ' h num, cq σ σ' → Srt T a m 10 h num → K (if 0 ≤ k ∧ k < h then (num k.toNat : Int) else -900009) σ') → TT m_X9_nearest 45 [vR 0, vI (a : Int), vI m, vI k, vU, vI (j : Int)] [] σ (PI K) := by
  intro n
  induction n with
  | zero =>
    intro j σ hn hC hs4 hR hK
    have : j = 10 := by omega
    subst this
    obtain ⟨h, num, A, B, hs, hr, hq⟩ := hR
    have h10 := hs.1
    refine w_X9_nearest_45 _ _ _ _ ⟨by omega, fun _ => e_X4_numberAt _ ?_, fun q => absurd q (by omega)⟩
    rw [hr.1]
    refine c_isWithin hk (by decide) (by omega) (fun z => ?_) (fun z => ?_)
    · rw [(hr.2 k.toNat (by omega)).1]
      have := hK σ h num cq.rf hs
      rw [if_pos (by omega)] at this
      exact ⟨by omega, this⟩
    · have := hK σ h num cq.rf hs
      rw [if_neg (by omega)] at this
      exact this
  | succ n ih =>
    intro j σ hn hC hs4 hR hK
    refine w_X9_nearest_45 _ _ _ _ ⟨by omega, fun q => absurd q (by omega), fun _ => ⟨by omega, fun q => ?_, fun q => ⟨by omega, ?_⟩⟩⟩
    · obtain ⟨h, num, A, B, hs, hr⟩ := hR
      exact ih (j + 1) σ (by omega) hC hs4 ⟨h, num, A, B, Srt_skip hs fun z => z.2.1 (by omega), hr⟩ hK
    · refine c_locate (isT_trk (by omega)) (Or.inr rfl) (hC j (by omega)) (hT j (by omega)) hm (fun s23 X2 Y2 b2 hp2 hs5 hf => ?_) (fun s24 hp2 hf => ?_)
      · have h4 : spotAt s23 4 X Y b := by
          unfold spotAt
          rw [hf 4 (by decide)]
          exact hs4
        have hv : farV T a j m = some (far2 (X, Y, b) (X2, Y2, b2)) := by unfold farV; rw [hp, hp2]
        have hS : isS T a m j := ⟨by omega, by omega, by rw [hv]; rfl⟩
        have hpf : pf T a m j = far2 (X, Y, b) (X2, Y2, b2) := by unfold pf; rw [hv]; rfl
        obtain ⟨Q, q1, q2, q3, q4, q5⟩ := farS_of h4 hs5 (pos_bd (hT a ha) hp) (pos_bd (hT j (by omega)) hp2)
        rw [← hpf] at q2 q3 q4 q5
        obtain ⟨h, num, A, B, hs, hr, hq⟩ := hR
        have h10 := hs.1
        have hr' : RkC s23 h (fun l => (num l : Int)) A B := by
          unfold RkC
          rw [hf 9 (by decide), hf 10 (by decide), hf 11 (by decide), hf 12 (by decide)]
          exact hr
        refine q4 _ (q5 _ (c_rput (by omega) hr' (fun l hl => ?_) fun σ' p p1 p2 p3 p4 p5 => ?_))
        · obtain ⟨Q2, -, -, -, u1, u2⟩ := hq l hl
          have w1 := mul_bd (u := (pf T a m j).1 * Q) (v := B l) (U := 13200000000000) (W := 65536) (by omega) (by omega)
          have w2 := mul_bd (u := A l) (v := (pf T a m j).2 * Q) (U := 13200000000000) (W := 65536) (by omega) (by omega)
          exact ⟨by omega, by omega⟩
        · -- comparisons without the factors
          have cmp : ∀ l, l < h → ((A l * ((pf T a m j).2 * Q) ≤ (pf T a m j).1 * Q * B l ↔ fle (pf T a m (num l)) (pf T a m j)) ∧ ((pf T a m j).1 * Q * B l < A l * ((pf T a m j).2 * Q) ↔ flt (pf T a m j) (pf T a m (num l)))) := by
            intro l hl
            obtain ⟨Q2, g1, g2, g3, -, -⟩ := hq l hl
            have pq : 0 < Q * Q2 := Int.mul_pos (by omega) (by omega)
            have e1 : A l * ((pf T a m j).2 * Q) = (pf T a m (num l)).1 * (pf T a m j).2 * (Q * Q2) := by rw [g2]; grind
            have e2 : (pf T a m j).1 * Q * B l = (pf T a m j).1 * (pf T a m (num l)).2 * (Q * Q2) := by rw [g3]; grind
            rw [e1, e2]
            unfold fle flt
            exact ⟨Int.mul_le_mul_right pq, Int.mul_lt_mul_right pq⟩
          have sr := Srt_ins hT ha hs hS p1 (fun z => (cmp (p - 1) (by omega)).1.mp (p2 z)) (fun l l1 l2 => (cmp l l2).2.mp (p3 l l1 l2))
          refine ih (j + 1) σ' (by omega) ((hC.cq (cq5 hf)).cq p5.cq) ?_ ⟨h + 1, ins num p j, ins A p ((pf T a m j).1 * Q), ins B p ((pf T a m j).2 * Q), sr, ?_, fun l hl => ?_⟩ fun σ2 h2 num2 c2 => hK σ2 h2 num2 (((cq5 hf).tr p5.cq).tr c2)
          · unfold spotAt
            rw [p5 4 (by decide) (by decide) (by decide) (by decide)]
            exact h4
          · have e : (fun l => ((ins num p j l : Nat) : Int)) = ins (fun l => (num l : Int)) p (j : Int) := by
              funext l
              unfold ins
              split
              · rfl
              · split <;> rfl
            rw [e]
            exact p4
          · rcases Nat.lt_trichotomy l p with z | z | z
            · rw [ins_lt z, ins_lt z, ins_lt z]; exact hq l (by omega)
            · subst z; rw [ins_at, ins_at, ins_at]; exact ⟨Q, q1, rfl, rfl, q2, q3⟩
            · rw [ins_gt z, ins_gt z, ins_gt z]; exact hq (l - 1) (by omega)
      · obtain ⟨h, num, A, B, hs, hr, hq⟩ := hR
        refine ih (j + 1) s24 (by omega) (hC.cq (cq5 hf)) ?_ ⟨h, num, A, B, Srt_skip hs fun z => ?_, ?_, hq⟩ fun σ2 h2 num2 c2 => hK σ2 h2 num2 ((cq5 hf).tr c2)
        · unfold spotAt
          rw [hf 4 (by decide)]
          exact hs4
        · have := z.2.2
          unfold farV at this
          rw [hp, hp2] at this
          cases this
        · unfold RkC
          rw [hf 9 (by decide), hf 10 (by decide), hf 11 (by decide), hf 12 (by decide)]
          exact hr
theorem d_placeOf {σ : Mem} {K : Int → Mem → Prop} {b : Nat} (ha : a < 10) (hm : 0 ≤ m ∧ m < 200) (hT : oks T) (hM : MA σ T) (hb : isS T a m b) (hK : ∀ σ', mq σ σ' → K (ct (ahd T a m b) 10) σ') : CC m_X10_placeOf [vR 80, vI (a : Int), vI (b : Int), vI m] σ (PI K) := by
  obtain ⟨pb, pe⟩ := pf_pos hT ha hb
  have loop : ∀ (n c : Nat) (σ1 : Mem), c + n = 10 → MA σ1 T → mq σ σ1 → TT m_X10_placeOf 27 [vR 80, vI (a : Int), vI (b : Int), vI m, vU, vL (pf T a m b).1, vU, vL (pf T a m b).2, vU, vI (ct (ahd T a m b) c), vI (c : Int), vU, vU, vU, vU] [] σ1 (PI K) := by
    intro n
    induction n with
    | zero =>
      intro c σ1 hn hM1 hq
      have : c = 10 := by omega
      subst this
      exact w_X10_placeOf_27 _ _ _ _ _ _ _ ⟨by omega, fun _ => hK σ1 hq, fun q => absurd q (by omega)⟩
    | succ n ih =>
      intro c σ1 hn hM1 hq
      have e : ct (ahd T a m b) (c + 1) = ct (ahd T a m b) c + (if ahd T a m b c = true then 1 else 0) := rfl
      have no : ahd T a m b c = false → ∀ σ2, MA σ2 T → mq σ σ2 → TT m_X10_placeOf 27 [vR 80, vI (a : Int), vI (b : Int), vI m, vU, vL (pf T a m b).1, vU, vL (pf T a m b).2, vU, vI (ct (ahd T a m b) c), vI ((c : Int) + 1), vU, vU, vU, vU] [] σ2 (PI K) := by
        intro hf σ2 h2 h3
        have := ih (c + 1) σ2 (by omega) h2 h3
        rw [e, if_neg (by rw [hf]; decide), Int.add_zero] at this
        exact this
      have hb10 := hb.1
      refine w_X10_placeOf_27 _ _ _ _ _ _ _ ⟨by omega, fun q => absurd q (by omega), fun _ => ⟨by omega, fun q => ?_, fun q => ⟨by omega, fun q2 => ?_, fun q2 => ?_⟩⟩⟩
      · have hca : c = a := by omega
        exact no (by unfold ahd; simp [hca]) σ1 hM1 hq
      · have hcb : c = b := by omega
        exact no (by unfold ahd; simp [hcb]) σ1 hM1 hq
      · have hca : c ≠ a := by omega
        have hcb : c ≠ b := by omega
        refine d_layFar ha (by omega) hm hT hM1 (fun s11 fa fb hv e13 e14 hf => ?_) (fun s12 hv g1 g2 => no (by unfold ahd; simp [hv]) s12 (hM1.mq (mf.mq ⟨g1, g2⟩)) (hq.tr (mf.mq ⟨g1, g2⟩)))
        have hS : isS T a m c := ⟨by omega, hca, by rw [hv]; rfl⟩
        obtain ⟨cb, ce⟩ := pf_pos hT ha hS
        rw [hv] at ce
        have ce : pf T a m c = (fa, fb) := (Option.some.inj ce).symm
        rw [e13, e14]
        rw [ce] at cb
        have cb : (0 ≤ fa ∧ fa ≤ 51200000000) ∧ (1 ≤ fb ∧ fb ≤ 65536) := cb
        have w1 := mul_bd (u := fa) (v := (pf T a m b).2) (U := 51200000000) (W := 65536) (by omega) (by omega)
        have w2 := mul_bd (u := (pf T a m b).1) (v := fb) (U := 51200000000) (W := 65536) (by omega) (by omega)
        refine ⟨by omega, by omega, fun v22 e22 => ?_⟩
        have := ih (c + 1) s11 (by omega) (hM1.mq hf.mq) (hq.tr hf.mq)
        have ev : v22 = ct (ahd T a m b) (c + 1) := by
          rw [e, e22]
          congr 1
          have ha1 : ahd T a m b c = (decide (fa * (pf T a m b).2 < (pf T a m b).1 * fb) || (decide (fa * (pf T a m b).2 = (pf T a m b).1 * fb) && decide (c < b))) := by
            unfold ahd
            rw [hv, ce]
            simp [hca, hcb]
          rw [ha1]
          by_cases z1 : fa * (pf T a m b).2 < (pf T a m b).1 * fb
          · simp [z1]
          · by_cases z2 : fa * (pf T a m b).2 = (pf T a m b).1 * fb
            · by_cases z3 : (b : Int) ≤ (c : Int)
              · have : ¬ c < b := by omega
                simp [z2, this, Nat.not_lt.mp this]
              · have : c < b := by omega
                simp [z2, this]
            · simp [z1, z2]
        rw [ev]
        exact this
  refine e_X10_placeOf _ _ _ (d_layFar ha hb.1 hm hT hM (fun s2 fa fb hv e13 e14 hf => ?_) (fun s3 hv _ _ => by rw [hv] at pe; cases pe))
  rw [pe] at hv
  have hv := Option.some.inj hv
  rw [e13, e14]
  have := loop 10 0 s2 rfl (hM.mq hf.mq) hf.mq
  rw [hv] at this
  exact this
theorem d_near35 {K : Int → Mem → Prop} {k : Int} {X Y b0 : Int} (hk : R32 k) (ha : a < 10) (hm : 0 ≤ m ∧ m < 200) (hT : oks T) (hp : pos (T a) m = some (X, Y, b0)) {h : Nat} {num : Nat → Nat} (hs : Srt T a m 10 h num) : ∀ (n j : Nat) (σ : Mem), j + n = 10 → MA σ T → ((0 ≤ k ∧ k < h) → j ≤ num k.toNat) → (∀ σ', mq σ σ' → K (if 0 ≤ k ∧ k < h then (num k.toNat : Int) else -900009) σ') → TT m_X10_nearest 35 [vR 80, vI (a : Int), vI m, vI k, vI (j : Int)] [] σ (PI K) := by
  have hall := hs.2.1
  intro n
  induction n with
  | zero =>
    intro j σ hn hM hj hK
    have := hK σ mq.rf
    rw [if_neg (fun z => by have h1 := hj z; have h2 := (hall k.toNat (by omega)).2; omega)] at this
    exact w_X10_nearest_35 _ _ _ _ ⟨by omega, fun _ => this, fun q => absurd q (by omega)⟩
  | succ n ih =>
    intro j σ hn hM hj hK
    have step : ∀ σ1, mq σ σ1 → ((0 ≤ k ∧ k < h) → num k.toNat ≠ j) → TT m_X10_nearest 35 [vR 80, vI (a : Int), vI m, vI k, vI ((j : Int) + 1)] [] σ1 (PI K) := fun σ1 h1 h2 => ih (j + 1) σ1 (by omega) (hM.mq h1) (fun z => by have a1 := hj z; have a2 := h2 z; omega) fun σ2 h3 => hK σ2 (h1.tr h3)
    refine w_X10_nearest_35 _ _ _ _ ⟨by omega, fun q => absurd q (by omega), fun _ => ⟨by omega, fun q => step σ mq.rf fun z e => ?_, fun q => ?_⟩⟩
    · have := (hall k.toNat (by omega)).1.2.1
      omega
    · refine d_find (by omega) (hM j (by omega)) (hT j (by omega)) hm (fun s21 X2 Y2 b2 hp2 f6 f7 f8 hf => ?_) (fun hp2 => step σ mq.rf fun z e => ?_)
      · have hS : isS T a m j := ⟨by omega, by omega, by unfold farV; rw [hp, hp2]; rfl⟩
        obtain ⟨i, i1, i2⟩ := hs.2.2.2 j hS (by omega)
        have rk := ahd_rank hs i1
        rw [i2] at rk
        have h10 := hs.1
        refine d_placeOf ha hm hT (hM.mq hf.mq) hS fun s25 h25 => ?_
        rw [rk]
        refine ⟨by omega, hk, fun z => step s25 (hf.mq.tr h25) fun w e => ?_, fun z => ?_⟩
        · -- num k = j = num i: then i = k
          have hki : k.toNat = i := by
            rcases Nat.lt_trichotomy k.toNat i with u | u | u
            · have q := hs.2.2.1 k.toNat i u i1
              rw [e, i2] at q
              exact absurd q (fun q => nlt_irr q q)
            · exact u
            · have q := hs.2.2.1 i k.toNat u (by omega)
              rw [e, i2] at q
              exact absurd q (fun q => nlt_irr q q)
          omega
        · have := hK s25 (hf.mq.tr h25)
          have ek : k.toNat = i := by omega
          rw [if_pos (by omega), ek, i2] at this
          exact this
      · have := (hall k.toNat (by omega)).1.2.2
        rw [e] at this
        unfold farV at this
        rw [hp, hp2] at this
        cases this
end NEAR
theorem op_nearest {σ : Mem} {T : Nat → TV} {K : Int → Int → Mem → Prop} {t m k : Int} (ht : R32 t) (hm : R32 m) (hk : R32 k) (hT : oks T) (hC : CA σ T) (hM : MA σ T) (hK : ∀ v σ', R32 v → qm σ σ' → K v v σ') :
    CC m_X9_nearest [vR 0, vI t, vI m, vI k] σ (PI fun v s => CC m_X10_nearest [vR 80, vI t, vI m, vI k] s (PI fun v2 s2 => K v v2 s2)) := by
  refine e_X9_nearest _ _ _ (c_refuseMoment ht hm (fun q q2 => ⟨by decide, fun _ => ⟨q, ?_⟩, fun z => absurd rfl z⟩) (fun q => ⟨by decide, fun z => absurd z (by decide), fun _ => ?_⟩) (fun q q2 => ⟨by decide, fun z => absurd z (by decide), fun _ => ?_⟩))
  · obtain ⟨i, rfl, hi⟩ := nat_of q
    have hi : i < 10 := by omega
    refine c_locate (isT_trk q) (Or.inl rfl) (hC i hi) (hT i hi) q2 (fun s8 X Y b hp hs hf => ?_) (fun s9 hp hf => ?_)
    · refine e_X4_clear fun s1 e1 => ?_
      have hcl : fRk s8 s1 := fun c c9 _ _ _ => by rw [e1, up_cell c9]
      have c81 := (cq4 hf).tr hcl.cq
      refine c_near45 hk hi q2 hT hp 10 0 s1 rfl (hC.cq c81) ?_ ⟨0, fun _ => 0, fun _ => 0, fun _ => 0, ⟨by omega, fun l z => absurd z (by omega), fun l k z w => absurd w (by omega), fun b z w => absurd w (by omega)⟩, ⟨by rw [e1, up_at]; rfl, fun l z => absurd z (by omega)⟩, fun l z => absurd z (by omega)⟩ fun s h num hq hsr => ?_
      · unfold spotAt
        rw [hcl 4 (by decide) (by decide) (by decide) (by decide)]
        exact hs
      · have hcq := c81.tr hq
        refine e_X10_nearest _ _ _ (d_isThing ht (fun _ => d_isMinute hm (fun _ => ?_) (fun z => absurd q2 z)) (fun z => absurd q z))
        refine d_find hi ((hM.cq hcq) i hi) (hT i hi) q2 (fun s10 X2 Y2 b2 hp2 f6 f7 f8 hmf => ?_) (fun hp2 => by rw [hp] at hp2; cases hp2)
        refine d_near35 hk hi q2 hT hp hsr 10 0 s10 rfl ((hM.cq hcq).mq hmf.mq) (fun _ => Nat.zero_le _) fun s2 h2 => hK _ _ ?_ (qm_of hcq (hmf.mq.tr h2))
        split
        · have := (hsr.2.1 k.toNat (by have := hsr.1; omega)).2
          omega
        · decide
    · refine e_X10_nearest _ _ _ (d_isThing ht (fun _ => d_isMinute hm (fun _ => ?_) (fun z => absurd q2 z)) (fun z => absurd q z))
      exact d_find hi ((hM.cq (cq4 hf)) i hi) (hT i hi) q2 (fun s10 X2 Y2 b2 hp2 f6 f7 f8 hmf => by rw [hp] at hp2; cases hp2) (fun hp2 => hK _ _ (by decide) (qm_of (cq4 hf) mq.rf))
  · exact e_X10_nearest _ _ _ (d_isThing ht (fun z => absurd z q) (fun _ => hK _ _ (by decide) (qm_of cq.rf mq.rf)))
  · exact e_X10_nearest _ _ _ (d_isThing ht (fun _ => d_isMinute hm (fun z => absurd z q2) (fun _ => hK _ _ (by decide) (qm_of cq.rf mq.rf))) (fun z => absurd q z))
