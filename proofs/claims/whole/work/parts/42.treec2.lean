section TREED
variable {σ : Mem} {L : Nat → Bx} {G : PG}
theorem c_addLeaf {K : Mem → Prop} {m : Nat} (h : σ 13 12 = (m : Int)) (hm : m < 230) (hK : K (up (up (up σ 18 m 0) 20 m 0) 13 12 ((m : Int) + 1))) : CC m_X2_addLeaf [vR 13] σ (PN K) := by
  refine e_X2_addLeaf ?_
  rw [h, Int.toNat_natCast]
  refine ⟨by omega, fun s2 e2 => ?_⟩
  have h2 : s2 13 12 = (m : Int) := by rw [e2, up_o1 (by decide)]; exact h
  rw [h2, Int.toNat_natCast]
  refine ⟨by omega, fun s5 e5 s7 e7 => ?_⟩
  have h5 : s5 13 12 = (m : Int) := by rw [e5, up_o1 (by decide)]; exact h2
  rw [h5, e5, e2] at e7
  rw [e7]
  exact hK
theorem c_cut {K : Mem → Prop} {n p : Nat} (h : WF L G n p) (hn : n ≤ 230) (hLb : ∀ l, l < n → bok (L l)) (hp : p < gm G) (hf : gf G p = 0) (hG : PgC σ G) (hL : LgC σ L n) (hK : ∀ σ', PgC σ' (if gc G p = 5 then cutG L G p else G) → (∀ b, (b ≠ 13 ∧ b ≠ 17 ∧ b ≠ 18 ∧ b ≠ 19 ∧ b ≠ 20 ∧ b ≠ 23 ∧ b ≠ 24 ∧ b ≠ 26) → σ' b = σ b) → (∀ i, i ≠ 12 → σ' 13 i = σ 13 i) → K σ') : CC m_X2_cutIfOverfull [vR 13, vI (p : Int)] σ (PN K) := by
  have hm := WF_bd h hn
  have c5 := h.1.c5 p hp
  obtain ⟨⟨g18, g20⟩, g19, g17⟩ := hG.2 p hp
  refine e_X2_cutIfOverfull _ ?_
  rw [Int.toNat_natCast, g18, g20, hG.1]
  refine ⟨by omega, by omega, fun z => absurd (by omega) z, fun _ => ⟨by omega, fun z => ?_, fun z => ⟨by omega, fun _ => ?_, fun z2 => ?_⟩⟩⟩
  · refine hK σ ?_ (fun _ _ => rfl) (fun _ _ => rfl)
    rw [if_neg (by omega)]
    exact hG
  · have hc : gc G p = 5 := by omega
    have hcut := WF_cut h hn hp hf hc
    obtain ⟨l1, l2, l3⟩ := leaf_legs h hLb hp hc
    have hh : ∀ i, i < 5 → gh G p i < n ∧ bok (L (gh G p i)) := fun i hi => ⟨(h.2.2.1.2.2 p hp i (by omega)).1, l1 i hi⟩
    refine c_choose (h := gh G p) (by omega) hn hL (fun i hi => g19 i (by omega)) hh fun s9 h24 f9 s10 e10 => ?_
    rw [if_pos hc] at hK
    unfold cutG at hK
    generalize cBest L (gh G p) 6 = B at l2 l3 h24 hK
    obtain ⟨many, sum, o⟩ := B
    have l2 : many = 2 ∨ many = 3 := l2
    have l3 : ∀ i, i < 5 → bok (L (o i)) ∧ bsub (L (o i)) (gb G p) ∧ o i < n := l3
    have h24 : ∀ i, i < 5 → s9 24 i = (o i : Int) := h24
    have hK : ∀ σ', PgC σ' (stF (hdN L (nl2 G p) (gm G) many o 5) p (gm G)) → (∀ b, (b ≠ 13 ∧ b ≠ 17 ∧ b ≠ 18 ∧ b ≠ 19 ∧ b ≠ 20 ∧ b ≠ 23 ∧ b ≠ 24 ∧ b ≠ 26) → σ' b = σ b) → (∀ i, i ≠ 12 → σ' 13 i = σ 13 i) → K σ' := hK
    show CC m_X2_addLeaf [vR 13] s10 (PN fun s13 => CC m_X2_addLeaf [vR 13] s13 (PN fun s15 => TT m_X2_cutIfOverfull 58 [vR 13, vU, vI (many : Int), vI 0] [] s15 (PN K)))
    have m9 : s9 13 12 = (gm G : Int) := by rw [f9 13 (by decide) (by decide) (by decide)]; exact hG.1
    rw [m9] at e10
    refine c_addLeaf (m := gm G) (by rw [e10, up_o1 (by decide)]; exact m9) (by omega) ?_
    refine c_addLeaf (m := gm G + 1) (by rw [up_at]; rfl) (by omega) ?_
    generalize e15 : up (up (up (up (up (up s10 18 (gm G) 0) 20 (gm G) 0) 13 12 ((gm G : Int) + 1)) 18 (gm G + 1) 0) 20 (gm G + 1) 0) 13 12 (((gm G + 1 : Nat) : Int) + 1) = s15
    have o15 : ∀ b, b ≠ 13 → b ≠ 18 → b ≠ 20 → s15 b = s9 b := fun b b1 b2 b3 => by rw [← e15, up_cell b1, up_cell b3, up_cell b2, up_cell b1, up_cell b3, up_cell b2, e10, up_cell b2]
    have o13 : ∀ i, i ≠ 12 → s15 13 i = s9 13 i := fun i hi => by rw [← e15, up_o2 hi, up_o1 (by decide), up_o1 (by decide), up_o2 hi, up_o1 (by decide), up_o1 (by decide), e10, up_o1 (by decide)]
    have m15 : s15 13 12 = (gm G : Int) + 2 := by rw [← e15, up_at]; omega
    have c18 : ∀ q, s15 18 q = if q = gm G + 1 then 0 else if q = gm G then 0 else if q = p then (gm G : Int) else s9 18 q := fun q => by
      rw [← e15, up_o1 (by decide), up_o1 (by decide)]
      by_cases z1 : q = gm G + 1
      · rw [if_pos z1, z1, up_at]
      · rw [if_neg z1, up_o2 z1, up_o1 (by decide), up_o1 (by decide)]
        by_cases z2 : q = gm G
        · rw [if_pos z2, z2, up_at]
        · rw [if_neg z2, up_o2 z2, e10]
          by_cases z3 : q = p
          · rw [if_pos z3, z3, up_at]
          · rw [if_neg z3, up_o2 z3]
    have c20 : ∀ q, s15 20 q = if q = gm G + 1 then 0 else if q = gm G then 0 else s9 20 q := fun q => by
      rw [← e15, up_o1 (by decide)]
      by_cases z1 : q = gm G + 1
      · rw [if_pos z1, z1, up_at]
      · rw [if_neg z1, up_o2 z1, up_o1 (by decide), up_o1 (by decide)]
        by_cases z2 : q = gm G
        · rw [if_pos z2, z2, up_at]
        · rw [if_neg z2, up_o2 z2, up_o1 (by decide), e10, up_o1 (by decide)]
    have p15 : PgC s15 (stF (nl2 G p) p (gm G)) := by
      have ef : ∀ q, gf (stF (nl2 G p) p (gm G)) q = if q = p then gm G else if q = gm G + 1 then 0 else if q = gm G then 0 else gf G q := fun q => rfl
      have ec : ∀ q, gc (stF (nl2 G p) p (gm G)) q = if q = gm G + 1 then 0 else if q = gm G then 0 else gc G q := fun q => rfl
      refine ⟨by rw [m15]; rfl, fun q hq => ?_⟩
      have hq : q < gm G + 2 := hq
      have d18 := c18 q
      have d20 := c20 q
      have dc := ec q
      have df := ef q
      by_cases z1 : q = gm G + 1
      · rw [if_pos z1] at d18 d20 dc
        rw [if_neg (by omega), if_pos z1] at df
        rw [d18, d20, dc, df]
        exact ⟨⟨rfl, rfl⟩, fun i hi => absurd hi (by omega), fun z => absurd z (by omega)⟩
      · rw [if_neg z1] at d18 d20 dc
        by_cases z2 : q = gm G
        · rw [if_pos z2] at d18 d20 dc
          rw [if_neg (by omega), if_neg z1, if_pos z2] at df
          rw [d18, d20, dc, df]
          exact ⟨⟨rfl, rfl⟩, fun i hi => absurd hi (by omega), fun z => absurd z (by omega)⟩
        · rw [if_neg z2] at d18 d20 dc
          have hq2 : q < gm G := by omega
          obtain ⟨⟨a1, a2⟩, a3, a4⟩ := hG.2 q hq2
          have b3 : ∀ i, i < gc G q → s15 19 (5 * q + i) = (gh G q i : Int) := fun i hi => by rw [o15 19 (by decide) (by decide) (by decide), f9 19 (by decide) (by decide) (by decide)]; exact a3 i hi
          have b4 : 0 < gc G q → bc s15 17 q (gb G q) := fun hi j hj => by rw [o15 17 (by decide) (by decide) (by decide), f9 17 (by decide) (by decide) (by decide)]; exact a4 hi j hj
          rw [f9 20 (by decide) (by decide) (by decide)] at d20
          rw [f9 18 (by decide) (by decide) (by decide)] at d18
          by_cases z3 : q = p
          · rw [if_pos z3] at d18 df
            rw [d18, d20, dc, df]
            exact ⟨⟨rfl, a2⟩, b3, b4⟩
          · rw [if_neg z3] at d18 df
            rw [if_neg z1, if_neg z2] at df
            rw [d18, d20, dc, df]
            exact ⟨⟨a1, a2⟩, b3, b4⟩
    have loop : ∀ (d i : Nat) (s : Mem), i + d = 5 → PgC s (stF (hdN L (nl2 G p) (gm G) many o i) p (gm G)) → (∀ b, b ≠ 17 → b ≠ 19 → b ≠ 20 → s b = s15 b) → TT m_X2_cutIfOverfull 58 [vR 13, vU, vI (many : Int), vI (i : Int)] [] s (PN K) := by
      intro d
      induction d with
      | zero =>
        intro i s hi hP hfs
        have hi : i = 5 := by omega
        subst hi
        refine w_X2_cutIfOverfull_58 _ _ ⟨by decide, fun _ => hK s hP (fun b hb => ?_) (fun j hj => ?_), fun z => absurd (by decide) z⟩
        · rw [hfs b hb.2.1 hb.2.2.2.1 hb.2.2.2.2.1, o15 b hb.1 hb.2.2.1 hb.2.2.2.2.1, f9 b hb.2.2.2.2.2.1 hb.2.2.2.2.2.2.1 hb.2.2.2.2.2.2.2]
        · rw [hfs 13 (by decide) (by decide) (by decide), o13 j hj, f9 13 (by decide) (by decide) (by decide)]
      | succ d ih =>
        intro i s hi hP hfs
        obtain ⟨k1, k2, k3, ⟨k4, k4'⟩, k5, k6⟩ := hdN_spec (G := G) (p := p) (n := n) l2 l3 i (by omega)
        have ms : s 13 12 = (gm G : Int) + 2 := by rw [hfs 13 (by decide) (by decide) (by decide)]; exact m15
        have os : s 24 i = (o i : Int) := by rw [hfs 24 (by decide) (by decide) (by decide), o15 24 (by decide) (by decide) (by decide)]; exact h24 i (by omega)
        have hLs : LgC s L n := (hL.same (f9 15 (by decide) (by decide) (by decide))).same (by rw [hfs 15 (by decide) (by decide) (by decide), o15 15 (by decide) (by decide) (by decide)])
        have tgt : (if (many : Int) ≤ (i : Int) then s 13 12 - 1 else s 13 12 - 2) = ((if i < many then gm G else gm G + 1 : Nat) : Int) := by
          rw [ms]
          by_cases z : i < many
          · rw [if_neg (by omega), if_pos z]; omega
          · rw [if_pos (by omega), if_neg z]; omega
        refine w_X2_cutIfOverfull_58 _ _ ⟨by omega, fun z => absurd z (by omega), fun _ => ⟨by omega, by omega, ?_⟩⟩
        rw [tgt, Int.toNat_natCast, os]
        generalize ht : (if i < many then gm G else gm G + 1) = t
        have htt : t = gm G ∨ t = gm G + 1 := by rw [← ht]; split; exact Or.inl rfl; exact Or.inr rfl
        have hgt : gc (hdN L (nl2 G p) (gm G) many o i) t ≤ 4 := by
          rcases htt with e | e
          · rw [e, k4]; omega
          · rw [e, k4']; omega
        refine c_hold (G := stF (hdN L (nl2 G p) (gm G) many o i) p (gm G)) (k := n) (fun q hq => ?_) ?_ hn hP hLs (l3 i (by omega)).2.2 ?_ hgt (fun h0 => ((k6 t htt).1 h0).1) (l3 i (by omega)).1 fun s23 hP23 hf23 => ?_
        · have hq : q < gm (hdN L (nl2 G p) (gm G) many o i) := hq
          rw [k1] at hq
          show gc (hdN L (nl2 G p) (gm G) many o i) q ≤ 5
          by_cases e1 : q = gm G
          · rw [e1, k4]; omega
          · by_cases e2 : q = gm G + 1
            · rw [e2, k4']; omega
            · rw [(k3 q e1 e2).1]; exact h.1.c5 q (by omega)
        · show gm (hdN L (nl2 G p) (gm G) many o i) ≤ 230
          rw [k1]; omega
        · show t < gm (hdN L (nl2 G p) (gm G) many o i)
          rw [k1]; omega
        · refine ih (i + 1) s23 (by omega) ?_ fun b b1 b2 b3 => by rw [hf23 b b1 b2 b3, hfs b b1 b2 b3]
          simp only [hdN]
          rw [ht]
          exact hP23
    exact loop 5 0 s15 rfl p15 fun _ _ _ _ => rfl
  · have hc : gc G p = 5 := by omega
    have hcut := WF_cut h hn hp hf hc
    exact absurd (by omega) z2
end TREED
/-! the legs, one after the other -/
def lbox (V : TV) (r : Nat) : Bx := fun j => if j = 0 then min (tx V r) (tx V (r + 1)) else if j = 1 then max (tx V r) (tx V (r + 1)) else if j = 2 then min (ty V r) (ty V (r + 1)) else if j = 3 then max (ty V r) (ty V (r + 1)) else if j = 4 then min (tm V r) (tm V (r + 1)) else max (tm V r) (tm V (r + 1))
theorem lbox_all (V : TV) (r : Nat) : (lbox V r 0 = min (tx V r) (tx V (r + 1)) ∧ lbox V r 1 = max (tx V r) (tx V (r + 1))) ∧ (lbox V r 2 = min (ty V r) (ty V (r + 1)) ∧ lbox V r 3 = max (ty V r) (ty V (r + 1))) ∧ (lbox V r 4 = min (tm V r) (tm V (r + 1)) ∧ lbox V r 5 = max (tm V r) (tm V (r + 1))) := ⟨⟨rfl, rfl⟩, ⟨rfl, rfl⟩, ⟨rfl, rfl⟩⟩
theorem lbox_ok {V : TV} {r : Nat} (hV : tok V) (hr : r + 1 < tn V) : bok (lbox V r) := by
  have a := hV.2.2.1 r (by omega)
  have b := hV.2.2.1 (r + 1) hr
  have e := lbox_all V r
  unfold bok
  omega
abbrev LGS : Type := Nat × (Nat → Bx)
def lgR (V : TV) (s : LGS) : Nat → LGS
  | 0 => s
  | r + 1 => if tm V (r + 1) - tm V r ≤ 16 then ((lgR V s r).1 + 1, stn (lgR V s r).2 (lgR V s r).1 (lbox V r)) else lgR V s r
def lgT (T : Nat → TV) : Nat → LGS
  | 0 => (0, fun _ _ => 0)
  | t + 1 => lgR (T t) (lgT T t) (tn (T t) - 1)
/-- s grows to u: the legs of s stay -/
def lgE (s u : LGS) : Prop := s.1 ≤ u.1 ∧ ∀ l, l < s.1 → u.2 l = s.2 l
theorem lgE.rf (s : LGS) : lgE s s := ⟨Nat.le_refl _, fun _ _ => rfl⟩
theorem lgE.tr {s u v : LGS} (h : lgE s u) (h2 : lgE u v) : lgE s v := ⟨Nat.le_trans h.1 h2.1, fun l hl => (h2.2 l (Nat.lt_of_lt_of_le hl h.1)).trans (h.2 l hl)⟩
theorem lgR_step (V : TV) (s : LGS) (r : Nat) : lgE (lgR V s r) (lgR V s (r + 1)) := by
  simp only [lgR]
  split
  · exact ⟨Nat.le_succ _, fun l hl => stn_ne (by omega)⟩
  · exact lgE.rf _
theorem lgR_mono (V : TV) (s : LGS) (r : Nat) : ∀ d, lgE (lgR V s r) (lgR V s (r + d))
  | 0 => lgE.rf _
  | d + 1 => (lgR_mono V s r d).tr (lgR_step V s (r + d))
theorem lgR_bd (V : TV) (s : LGS) : ∀ r, (lgR V s r).1 ≤ s.1 + r
  | 0 => Nat.le_refl _
  | r + 1 => by
    have := lgR_bd V s r
    simp only [lgR]
    split
    · show (lgR V s r).1 + 1 ≤ _
      omega
    · omega
theorem lgT_mono (T : Nat → TV) (t : Nat) : ∀ d, lgE (lgT T t) (lgT T (t + d))
  | 0 => lgE.rf _
  | d + 1 => (lgT_mono T t d).tr (by
      have := lgR_mono (T (t + d)) (lgT T (t + d)) 0 (tn (T (t + d)) - 1)
      rw [Nat.zero_add] at this
      exact this)
theorem lgT_bd {T : Nat → TV} (hT : oks T) : ∀ t, t ≤ 10 → (lgT T t).1 ≤ 23 * t
  | 0, _ => Nat.le_refl _
  | t + 1, h => by
    have a := lgT_bd hT t (by omega)
    have b := lgR_bd (T t) (lgT T t) (tn (T t) - 1)
    have c := (hT t (by omega)).1
    simp only [lgT]
    omega
theorem lgR_ok {V : TV} (hV : tok V) {s : LGS} (hs : ∀ l, l < s.1 → bok (s.2 l)) : ∀ r, r ≤ tn V - 1 → ∀ l, l < (lgR V s r).1 → bok ((lgR V s r).2 l)
  | 0, _ => hs
  | r + 1, hr => by
    have ih := lgR_ok hV hs r (by omega)
    simp only [lgR]
    split
    · intro l hl
      have hl : l < (lgR V s r).1 + 1 := hl
      show bok (stn (lgR V s r).2 (lgR V s r).1 (lbox V r) l)
      by_cases z : l = (lgR V s r).1
      · rw [z, stn_at]; exact lbox_ok hV (by omega)
      · rw [stn_ne z]; exact ih l (by omega)
    · exact ih
theorem lgT_ok {T : Nat → TV} (hT : oks T) : ∀ t, t ≤ 10 → ∀ l, l < (lgT T t).1 → bok ((lgT T t).2 l)
  | 0, _ => fun l h => absurd h (Nat.not_lt_zero l)
  | t + 1, h => by
    simp only [lgT]
    exact lgR_ok (hT t (by omega)) (lgT_ok hT t (by omega)) _ (Nat.le_refl _)
def FN (T : Nat → TV) : Nat := (lgT T 10).1
def FL (T : Nat → TV) : Nat → Bx := (lgT T 10).2
theorem FN_bd {T : Nat → TV} (hT : oks T) : FN T ≤ 230 := lgT_bd hT 10 (Nat.le_refl _)
theorem FL_ok {T : Nat → TV} (hT : oks T) : ∀ l, l < FN T → bok (FL T l) := lgT_ok hT 10 (Nat.le_refl _)
theorem lg_end {T : Nat → TV} {t r : Nat} (ht : t < 10) (hr : r ≤ tn (T t) - 1) : lgE (lgR (T t) (lgT T t) r) (lgT T 10) := by
  have a := lgR_mono (T t) (lgT T t) r (tn (T t) - 1 - r)
  rw [show r + (tn (T t) - 1 - r) = tn (T t) - 1 by omega] at a
  have b := lgT_mono T (t + 1) (10 - (t + 1))
  rw [show t + 1 + (10 - (t + 1)) = 10 by omega] at b
  exact a.tr b
theorem FL_at {T : Nat → TV} {t r : Nat} (ht : t < 10) (hr : r + 1 < tn (T t)) (hg : tm (T t) (r + 1) - tm (T t) r ≤ 16) : FL T (lgR (T t) (lgT T t) r).1 = lbox (T t) r ∧ (lgR (T t) (lgT T t) r).1 + 1 ≤ FN T := by
  have e : lgR (T t) (lgT T t) (r + 1) = ((lgR (T t) (lgT T t) r).1 + 1, stn (lgR (T t) (lgT T t) r).2 (lgR (T t) (lgT T t) r).1 (lbox (T t) r)) := by simp only [lgR]; rw [if_pos hg]
  have a := lg_end (T := T) (t := t) (r := r + 1) ht (by omega)
  rw [e] at a
  refine ⟨?_, a.1⟩
  have := a.2 (lgR (T t) (lgT T t) r).1 (Nat.lt_succ_self _)
  show (lgT T 10).2 _ = _
  rw [this]
  exact stn_at
def TrC (σ : Mem) (T : Nat → TV) : Prop := σ 13 11 = (FN T : Int) ∧ LgC σ (FL T) (FN T) ∧ PgC σ (bld (FL T) (FN T))
