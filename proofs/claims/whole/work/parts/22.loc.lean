/-! the class locates -/
section LOC
variable {σ : Mem} {A B : Mem → Prop} {a o : Nat} {V : TV} {mi : Int}
theorem c_lastRow {K : Int → Mem → Prop} (ha : isT a) (hC : CT σ a V) (hV : tok V) (hm : R32 mi) (h : ∀ lo : Nat, lo ≤ tn V → (∀ i, i < lo → tm V i ≤ mi) → (lo < tn V → mi < tm V lo) → K ((lo : Int) - 1) σ) : CC m_X8_lastRowUpTo [vR a, vI mi] σ (PI K) := by
  have hn := hV.1
  have loop : ∀ (k lo hi : Nat) (s4 : Int), 0 ≤ s4 ∧ s4 + k = 24 → hi - lo ≤ k → lo ≤ hi → hi ≤ tn V → (∀ i, i < lo → tm V i ≤ mi) → (∀ i, hi ≤ i → i < tn V → mi < tm V i) → TT m_X8_lastRowUpTo 10 [vR a, vI mi, vI (lo : Int), vI (hi : Int), vI s4, vU] [] σ (PI K) := by
    intro k
    induction k with
    | zero =>
      intro lo hi s4 hs hk h1 h2 h3 h4
      refine w_X8_lastRowUpTo_10 a ha _ _ _ _ ⟨by omega, fun q => ?_, fun q => absurd q (by omega)⟩
      exact h lo (by omega) h3 (fun z => h4 lo (by omega) z)
    | succ k ih =>
      intro lo hi s4 hs hk h1 h2 h3 h4
      refine w_X8_lastRowUpTo_10 a ha _ _ _ _ ⟨by omega, fun q => absurd q (by omega), fun q => ⟨by omega, by omega, fun q2 => ?_, fun q2 => ?_⟩⟩
      · exact h lo (by omega) h3 (fun z => h4 lo (by omega) z)
      · have e : Int.tdiv ((lo : Int) + (hi : Int)) 2 = (((lo + hi) / 2 : Nat) : Int) := by
          rw [Int.tdiv_eq_ediv_of_nonneg (by omega)]
          omega
        rw [e]
        generalize hmid : (lo + hi) / 2 = mid
        have e2 : (mid : Int).toNat = mid := by omega
        have hl : mid < tn V := by omega
        rw [e2, (hC.2.2 mid hl).1]
        have hb := hV.2.2.1 mid hl
        refine ⟨by omega, by omega, by omega, hm, ?_⟩
        by_cases c : mi < tm V mid
        · rw [if_pos c, if_pos c]
          refine ih lo mid (s4 + 1) (by omega) (by omega) (by omega) (by omega) h3 fun i h5 h6 => ?_
          rcases Nat.lt_or_ge mid i with z | z
          · have := hV.2.2.2 mid i z h6; omega
          · rw [show i = mid by omega]; exact c
        · rw [if_neg c, if_neg c]
          refine ih (mid + 1) hi (s4 + 1) (by omega) (by omega) (by omega) h2 (fun i h5 => ?_) h4
          rcases Nat.lt_or_ge i mid with z | z
          · have := hV.2.2.2 i mid z hl; omega
          · rw [show i = mid by omega]; omega
  refine e_X8_lastRowUpTo a ha _ ?_
  rw [hC.1]
  exact loop 24 0 (tn V) 0 (by omega) (by omega) (by omega) (Nat.le_refl _) (fun i z => absurd z (Nat.not_lt_zero i)) (fun i z w => absurd w (by omega))
theorem c_isLeg (ha : isT a) (hC : CT σ a V) (hV : tok V) {x : Int} (hx : -1 ≤ x ∧ x < 24) (h1 : ∀ r : Nat, x = (r : Int) → r + 1 < tn V → tm V (r + 1) - tm V r ≤ 16 → A σ) (h0 : (∀ r : Nat, x = (r : Int) → ¬ (r + 1 < tn V ∧ tm V (r + 1) - tm V r ≤ 16)) → B σ) : CC m_X8_isLeg [vR a, vI x] σ (PZ A B) := by
  have hn := hV.1
  refine e_X8_isLeg a ha _ ⟨by omega, fun q => h0 fun r hr => by omega, fun q => ?_⟩
  obtain ⟨r, rfl⟩ : ∃ r : Nat, x = (r : Int) := ⟨x.toNat, by omega⟩
  rw [hC.1]
  refine ⟨by omega, by omega, fun q2 => h0 fun r2 hr => by omega, fun q2 => ?_⟩
  have e1 : ((r : Int) + 1).toNat = r + 1 := by omega
  have e2 : (r : Int).toNat = r := by omega
  have hl : r + 1 < tn V := by omega
  rw [e1, e2, (hC.2.2 (r + 1) hl).1, (hC.2.2 r (by omega)).1]
  have b1 := hV.2.2.1 (r + 1) hl
  have b2 := hV.2.2.1 r (by omega)
  refine ⟨by omega, by omega, by omega, fun q3 => h0 fun r2 hr => ?_, fun q3 => h1 r rfl hl (by omega)⟩
  have : r2 = r := by omega
  subst this
  omega
theorem c_standAt {K : Mem → Prop} (ha : isT a) (ho : isO o) (hC : CT σ a V) (hV : tok V) {x : Int} {r : Nat} (hx : x = (r : Int)) (hr : r < tn V) (h : ∀ σ', σ' o 0 = tx V r → σ' o 1 = ty V r → σ' o 2 = 1 → (∀ b, b ≠ o → σ' b = σ b) → K σ') : CC m_X8_standAt [vR a, vI x, vR o] σ (PN K) := by
  subst hx
  have hn := hV.1
  have e2 : (r : Int).toNat = r := by omega
  have hao : o ≠ a + 3 := by
    obtain ⟨k, hk, rfl⟩ := ha
    rcases ho with rfl | rfl <;> omega
  obtain ⟨g1, g2, g3⟩ := hC.2.2 r hr
  refine e_X8_standAt a ha _ o ho ⟨by omega, fun s2 q2 s4 q4 s6 q6 => ?_⟩
  rw [e2] at q2 q4
  subst q2 q4 q6
  refine h _ ?_ ?_ ?_ fun b hb => ?_
  · rw [up_o2 (by decide), up_o2 (by decide), up_at, g2]
  · rw [up_o2 (by decide), up_at, up_o1 (Ne.symm hao), g3]
  · rw [up_at]
  · rw [up_cell hb, up_cell hb, up_cell hb]
theorem c_followLeg {K : Mem → Prop} (ha : isT a) (ho : isO o) (hC : CT σ a V) (hV : tok V) {x : Int} {r : Nat} (hx : x = (r : Int)) (hr : r + 1 < tn V) (h : ∀ σ', σ' o 0 = (leg3 V (r + 1) mi).1 → σ' o 1 = (leg3 V (r + 1) mi).2.1 → σ' o 2 = (leg3 V (r + 1) mi).2.2 → (∀ b, b ≠ o → σ' b = σ b) → K σ') : CC m_X8_followLeg [vR a, vI x, vI mi, vR o] σ (PN K) := by
  subst hx
  have hn := hV.1
  have e1 : ((r : Int) + 1).toNat = r + 1 := by omega
  have e2 : (r : Int).toNat = r := by omega
  have hao : o ≠ a + 1 ∧ o ≠ a + 2 ∧ o ≠ a + 3 := by
    obtain ⟨k, hk, rfl⟩ := ha
    rcases ho with rfl | rfl <;> omega
  obtain ⟨g1, g2, g3⟩ := hC.2.2 r (by omega)
  obtain ⟨k1, k2, k3⟩ := hC.2.2 (r + 1) hr
  refine e_X8_followLeg a ha _ _ o ho ⟨by omega, by omega, fun s3 q3 s5 q5 s7 q7 => ?_⟩
  rw [e1, e2] at q3 q5 q7
  have c3 : ∀ b j, b ≠ o → s3 b j = σ b j := fun b j hb => by rw [q3, up_o1 hb]
  have d3 : s3 o 2 = σ (a + 1) (r + 1) - σ (a + 1) r := by rw [q3, up_at]
  have c5 : ∀ b j, b ≠ o → s5 b j = σ b j := fun b j hb => by rw [q5, up_o1 hb, c3 b j hb]
  have d5 : s5 o 2 = σ (a + 1) (r + 1) - σ (a + 1) r := by rw [q5, up_o2 (by decide), d3]
  rw [d3, c3 _ _ (Ne.symm hao.2.1), c3 _ _ (Ne.symm hao.2.1)] at q5
  rw [d5, c5 _ _ (Ne.symm hao.2.2), c5 _ _ (Ne.symm hao.2.2)] at q7
  refine h _ ?_ ?_ ?_ fun b hb => ?_
  · rw [q7, up_o2 (by decide), q5, up_at, g1, g2, k1, k2]; rfl
  · rw [q7, up_at, g1, g3, k1, k3]; rfl
  · rw [q7, up_o2 (by decide), d5, g1, k1]; rfl
  · rw [q7, up_cell hb, q5, up_cell hb, q3, up_cell hb]
/-- the class's spot is the reference's position, above and below times one number q -/
def spotAt (σ : Mem) (o : Nat) (X Y b : Int) : Prop := ∃ q : Int, (1 ≤ q ∧ 1 ≤ b * q ∧ b * q ≤ 16) ∧ σ o 0 = X * q ∧ σ o 1 = Y * q ∧ σ o 2 = b * q
theorem spot_leg {r : Nat} (hV : tok V) (h0 : 0 < r) (hr : r < tn V) (hl : tm V r - tm V (r - 1) ≤ 16) {σ' : Mem} (e0 : σ' o 0 = (leg3 V r mi).1) (e1 : σ' o 1 = (leg3 V r mi).2.1) (e2 : σ' o 2 = (leg3 V r mi).2.2) : spotAt σ' o (leg3 V r mi).1 (leg3 V r mi).2.1 (leg3 V r mi).2.2 := by
  have := hV.2.2.2 (r - 1) r (by omega) hr
  refine ⟨1, ?_, by rw [e0, Int.mul_one], by rw [e1, Int.mul_one], by rw [e2, Int.mul_one]⟩
  rw [Int.mul_one]
  show 1 ≤ 1 ∧ 1 ≤ tm V r - tm V (r - 1) ∧ tm V r - tm V (r - 1) ≤ 16
  omega
theorem c_locateBehind (ha : isT a) (ho : isO o) (hC : CT σ a V) (hV : tok V) {x : Int} {r : Nat} (hx : x = (r : Int)) (hr : r + 1 = tn V) (hm : 0 ≤ mi ∧ mi < 200) (hr2 : tm V r ≤ mi)
    (h1 : ∀ σ' X Y b, pos V mi = some (X, Y, b) → spotAt σ' o X Y b → (∀ c, c ≠ o → σ' c = σ c) → A σ') (h0 : pos V mi = none → B σ) : CC m_X8_locateBehind [vR a, vI x, vI mi, vR o] σ (PZ A B) := by
  subst hx
  have hn := hV.1
  have e2 : (r : Int).toNat = r := by omega
  obtain ⟨g1, g2, g3⟩ := hC.2.2 r (by omega)
  have b2 := hV.2.2.1 r (by omega)
  have hinc := hV.2.2.2
  have hlow : ∀ i, i < r → tm V i < mi := fun i hi => by have := hinc i r hi (by omega); omega
  -- the two ways that the reference comes here
  have key : (tm V r = mi → pos V mi = some (st3 V r)) ∧ (tm V r < mi → pos V mi = (if 16 < mi - tm V r then none else if tk V = 1 ∧ 0 < r ∧ tm V r - tm V (r - 1) ≤ 16 then some (leg3 V r mi) else some (st3 V r))) := by
    constructor
    · intro q
      rw [pos_of (p := r) ⟨by omega, hlow, fun _ => by omega⟩]
      unfold posP
      rw [if_pos (by omega), if_pos q]
    · intro q
      rw [pos_of (p := r + 1) ⟨by omega, fun i hi => by
        rcases Nat.lt_or_ge i r with z | z
        · exact hlow i z
        · rw [show i = r by omega]; exact q, fun z => absurd z (by omega)⟩]
      unfold posP
      rw [if_neg (by omega)]
      rw [show r + 1 - 1 = r by omega]
      by_cases c : 16 < mi - tm V r
      · rw [if_pos (Or.inr c), if_pos c]
      · rw [if_neg (by omega), if_neg c]
  have stand : ∀ σ1 : Mem, σ1 = σ → ¬ 16 < mi - tm V r → ¬ (tk V = 1 ∧ 0 < r ∧ tm V r - tm V (r - 1) ≤ 16) → TT m_X8_locateBehind 44 [vR a, vI (r : Int), vU, vR o] [] σ1 (PZ A B) := by
    intro σ1 e c d
    subst e
    refine w_X8_locateBehind_44 a ha _ o ho (c_standAt ha ho hC hV (r := r) rfl (by omega) fun σ' a1 a2 a3 a4 => ?_)
    have hp : pos V mi = some (st3 V r) := by
      rcases Int.lt_or_le (tm V r) mi with z | z
      · rw [key.2 z, if_neg c, if_neg d]
      · exact key.1 (by omega)
    exact h1 σ' _ _ _ hp ⟨1, by decide, by rw [a1, Int.mul_one], by rw [a2, Int.mul_one], by rw [a3, Int.mul_one]⟩ a4
  refine e_X8_locateBehind a ha _ _ o ho ?_
  rw [e2, g1, hC.2.1]
  refine ⟨by omega, by omega, fun q => ⟨by have := hV.2.1; omega, fun q2 => stand σ rfl (by omega) (by omega), fun q2 => ?_⟩, fun q => h0 ?_⟩
  · refine c_isLeg ha hC hV (by omega) (fun r2 e3 e4 e5 => ?_) (fun q3 => stand σ rfl (by omega) fun z => q3 (r - 1) (by omega) ⟨by omega, ?_⟩)
    · have hr2' : r2 + 1 = r := by omega
      refine c_followLeg ha ho hC hV e3 e4 fun σ' a1 a2 a3 a4 => ?_
      rw [hr2'] at a1 a2 a3
      have hleg : tm V r - tm V (r - 1) ≤ 16 := by rw [← hr2']; exact e5
      rcases Int.lt_or_le (tm V r) mi with z | z
      · refine h1 σ' _ _ _ (by rw [key.2 z, if_neg (by omega), if_pos ⟨by have := hV.2.1; omega, by omega, hleg⟩]) (spot_leg hV (by omega) (by omega) hleg a1 a2 a3) a4
      · have e9 : tm V r = mi := by omega
        have hlt := hinc (r - 1) r (by omega) (by omega)
        refine h1 σ' _ _ _ (key.1 e9) ⟨tm V r - tm V (r - 1), ?_, ?_, ?_, ?_⟩ a4
        · rw [Int.one_mul]; omega
        · rw [a1]
          show tx V (r - 1) * (tm V r - tm V (r - 1)) + (tx V r - tx V (r - 1)) * (mi - tm V (r - 1)) = tx V r * (tm V r - tm V (r - 1))
          rw [← e9, ← Int.add_mul]
          congr 1
          omega
        · rw [a2]
          show ty V (r - 1) * (tm V r - tm V (r - 1)) + (ty V r - ty V (r - 1)) * (mi - tm V (r - 1)) = ty V r * (tm V r - tm V (r - 1))
          rw [← e9, ← Int.add_mul]
          congr 1
          omega
        · rw [a3, Int.one_mul]; rfl
    · rw [show r - 1 + 1 = r by omega]; exact z.2.2
  · rw [key.2 (by omega), if_pos (by omega)]
theorem c_locate (ha : isT a) (ho : isO o) (hC : CT σ a V) (hV : tok V) (hm : 0 ≤ mi ∧ mi < 200)
    (h1 : ∀ σ' X Y b, pos V mi = some (X, Y, b) → spotAt σ' o X Y b → (∀ c, c ≠ o → σ' c = σ c) → A σ') (h0 : ∀ σ', pos V mi = none → (∀ c, c ≠ o → σ' c = σ c) → B σ') : CC m_X8_locate [vR a, vI mi, vR o] σ (PZ A B) := by
  have hn := hV.1
  have hinc := hV.2.2.2
  refine e_X8_locate a ha _ o ho (c_lastRow ha hC hV (by omega) fun lo l1 l2 l3 => ⟨by omega, fun q => ?_, fun q => ?_⟩)
  · rw [hC.1]
    obtain ⟨r, rfl⟩ : ∃ r, lo = r + 1 := ⟨lo - 1, by omega⟩
    have el : ((r + 1 : Nat) : Int) - 1 = (r : Int) := by omega
    rw [el]
    have hrm := l2 r (by omega)
    have hlow : ∀ i, i < r → tm V i < mi := fun i hi => by have := hinc i r hi (by omega); omega
    refine ⟨by omega, fun q2 => ?_, fun q2 => ?_⟩
    · have hr1 : r + 1 < tn V := by omega
      have l3 := l3 hr1
      have key : (tm V r = mi → pos V mi = some (st3 V r)) ∧ (tm V r < mi → pos V mi = (if tm V (r + 1) - tm V r ≤ 16 then some (leg3 V (r + 1) mi) else none)) := by
        constructor
        · intro w
          rw [pos_of (p := r) ⟨by omega, hlow, fun _ => by omega⟩]
          unfold posP
          rw [if_pos (by omega), if_pos w]
        · intro w
          rw [pos_of (p := r + 1) ⟨by omega, fun i hi => by
            rcases Nat.lt_or_ge i r with z | z
            · exact hlow i z
            · rw [show i = r by omega]; exact w, fun z => by omega⟩]
          unfold posP
          rw [if_pos hr1, if_neg (by omega)]
          rw [show r + 1 - 1 = r by omega]
          by_cases c : tm V (r + 1) - tm V r ≤ 16
          · rw [if_pos ⟨by omega, c⟩, if_pos c]
          · rw [if_neg (by omega), if_neg c]
      refine c_isLeg ha hC hV (by omega) (fun r2 e3 e4 e5 => ?_) (fun q3 => ?_)
      · have : r2 = r := by omega
        subst this
        refine c_followLeg ha ho hC hV rfl e4 fun σ' a1 a2 a3 a4 => ?_
        rcases Int.lt_or_le (tm V r2) mi with z | z
        · exact h1 σ' _ _ _ (by rw [key.2 z, if_pos e5]) (spot_leg hV (by omega) e4 (by rw [show r2 + 1 - 1 = r2 by omega]; exact e5) a1 a2 a3) a4
        · have e9 : tm V r2 = mi := by omega
          have hlt := hinc r2 (r2 + 1) (by omega) e4
          refine h1 σ' _ _ _ (key.1 e9) ⟨tm V (r2 + 1) - tm V r2, ?_, ?_, ?_, ?_⟩ a4
          · rw [Int.one_mul]; omega
          · rw [a1]
            show tx V (r2 + 1 - 1) * (tm V (r2 + 1) - tm V (r2 + 1 - 1)) + (tx V (r2 + 1) - tx V (r2 + 1 - 1)) * (mi - tm V (r2 + 1 - 1)) = tx V r2 * (tm V (r2 + 1) - tm V r2)
            rw [show r2 + 1 - 1 = r2 by omega, ← e9, Int.sub_self, Int.mul_zero, Int.add_zero]
          · rw [a2]
            show ty V (r2 + 1 - 1) * (tm V (r2 + 1) - tm V (r2 + 1 - 1)) + (ty V (r2 + 1) - ty V (r2 + 1 - 1)) * (mi - tm V (r2 + 1 - 1)) = ty V r2 * (tm V (r2 + 1) - tm V r2)
            rw [show r2 + 1 - 1 = r2 by omega, ← e9, Int.sub_self, Int.mul_zero, Int.add_zero]
          · rw [a3, Int.one_mul]; rfl
      · have hnl : ¬ tm V (r + 1) - tm V r ≤ 16 := fun z => q3 r rfl ⟨hr1, z⟩
        refine c_standAt ha ho hC hV (r := r) rfl (by omega) fun σ' a1 a2 a3 a4 => ?_
        have e2 : (r : Int).toNat = r := by omega
        have hao : a + 1 ≠ o := by
          obtain ⟨k, hk, rfl⟩ := ha
          rcases ho with rfl | rfl <;> omega
        rw [e2, a4 _ hao, (hC.2.2 r (by omega)).1]
        have b2 := hV.2.2.1 r (by omega)
        refine ⟨by omega, by omega, by omega, fun z => h0 σ' (by rw [key.2 (by omega), if_neg hnl]) a4, fun z => ?_⟩
        exact h1 σ' _ _ _ (key.1 z) ⟨1, by decide, by rw [a1, Int.mul_one], by rw [a2, Int.mul_one], by rw [a3, Int.mul_one]⟩ a4
    · exact c_locateBehind ha ho hC hV rfl (by omega) hm hrm h1 (fun z => h0 σ z (fun _ _ => rfl))
  · have e0 : lo = 0 := by omega
    subst e0
    refine h0 σ ?_ (fun _ _ => rfl)
    rw [pos_of (p := 0) ⟨by omega, fun i z => absurd z (Nat.not_lt_zero i), fun z => by have := l3 z; omega⟩]
    unfold posP
    by_cases c : 0 < tn V
    · rw [if_pos c, if_neg (by have := l3 c; omega), if_neg (by omega)]
    · rw [if_neg c, if_pos (Or.inl rfl)]
end LOC
