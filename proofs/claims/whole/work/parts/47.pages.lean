/-! asking the pages -/
theorem TrC.same {σ σ' : Mem} {T : Nat → TV} (h : TrC σ T) (e1 : σ' 13 11 = σ 13 11) (e2 : σ' 13 12 = σ 13 12) (e3 : ∀ b, (b = 15 ∨ (17 ≤ b ∧ b ≤ 20)) → σ' b = σ b) : TrC σ' T :=
  ⟨by rw [e1]; exact h.1, h.2.1.same (e3 15 (by omega)), h.2.2.same e2 (e3 17 (by omega)) (e3 18 (by omega)) (e3 19 (by omega)) (e3 20 (by omega))⟩
def mxD (G : PG) : Nat → Int
  | 0 => 0
  | p + 1 => max (mxD G p) (gp G p)
def mcD (G : PG) : Nat → Int
  | 0 => 1
  | p + 1 => if gf G p = 0 then mcD G p else max (mcD G p) (gp G (gf G p))
theorem mxD_ge (G : PG) : ∀ {k p : Nat}, p < k → gp G p ≤ mxD G k
  | 0, p, h => absurd h (Nat.not_lt_zero p)
  | k + 1, p, h => by
    simp only [mxD]
    by_cases z : p = k
    · subst z; omega
    · have := mxD_ge G (k := k) (p := p) (by omega); omega
theorem mcD_ge (G : PG) : ∀ (k : Nat), 1 ≤ mcD G k ∧ ∀ p, p < k → gf G p ≠ 0 → gp G (gf G p) ≤ mcD G k
  | 0 => ⟨Int.le_refl _, fun p h => absurd h (Nat.not_lt_zero p)⟩
  | k + 1 => by
    have ih := mcD_ge G k
    simp only [mcD]
    by_cases z : gf G k = 0
    · rw [if_pos z]
      exact ⟨ih.1, fun p hp hf => ih.2 p (by
        rcases Nat.lt_or_ge p k with w | w
        · exact w
        · exact absurd (by rw [show p = k by omega]; exact z) hf) hf⟩
    · rw [if_neg z]
      refine ⟨by have := ih.1; omega, fun p hp hf => ?_⟩
      by_cases w : p = k
      · subst w; omega
      · have := ih.2 p (by omega) hf; omega
section ASKG
variable {L : Nat → Bx} {G : PG} {n x : Nat}
theorem gp_bd (h : WF L G n x) : ∀ q, q < gm G → 1 ≤ gp G q ∧ gp G q ≤ (q : Int) + 1 := by
  intro q
  induction q using Nat.strongRecOn with
  | ind q ih =>
    intro hq
    rcases Nat.eq_zero_or_pos q with z | z
    · subst z; rw [h.2.1.2.2.1]; omega
    · obtain ⟨p, p1, p2, p3⟩ := h.2.1.2.1 q hq z
      have w := (h.1.2.1 p p1 p2).1
      have u := h.2.1.2.2.2 p p1 p2
      have := ih p (by omega) p1
      rcases p3 with e | e
      · rw [e, u.1]; omega
      · rw [e, u.2]; omega
theorem mcD_le (h : WF L G n x) : ∀ k, k ≤ gm G → mcD G k ≤ mxD G (gm G)
  | 0, _ => by
    have := mxD_ge G (k := gm G) (p := 0) (by have := h.1.1.1; omega)
    rw [h.2.1.2.2.1] at this
    exact this
  | k + 1, hk => by
    have ih := mcD_le h k (by omega)
    simp only [mcD]
    by_cases z : gf G k = 0
    · rw [if_pos z]; exact ih
    · rw [if_neg z]
      have w := (h.1.2.1 k (by omega) z).1
      have := mxD_ge G (k := gm G) (p := gf G k) (by omega)
      omega
theorem mxD_le (h : WF L G n x) : ∀ k, k ≤ gm G → mxD G k ≤ mcD G (gm G)
  | 0, _ => by have := (mcD_ge G (gm G)).1; show (0 : Int) ≤ _; omega
  | k + 1, hk => by
    have ih := mxD_le h k (by omega)
    have g := mcD_ge G (gm G)
    simp only [mxD]
    have : gp G k ≤ mcD G (gm G) := by
      rcases Nat.eq_zero_or_pos k with z | z
      · subst z; rw [h.2.1.2.2.1]; exact g.1
      · obtain ⟨p, p1, p2, p3⟩ := h.2.1.2.1 k (by omega) z
        have u := h.2.1.2.2.2 p p1 p2
        have := g.2 p p1 p2
        rcases p3 with e | e
        · rw [e]; exact this
        · rw [e, u.2, ← u.1]; exact this
    omega
theorem mD_eq (h : WF L G n x) : mcD G (gm G) = mxD G (gm G) := Int.le_antisymm (mcD_le h _ (Nat.le_refl _)) (mxD_le h _ (Nat.le_refl _))
theorem mxD_bd (h : WF L G n x) : ∀ k, k ≤ gm G → 0 ≤ mxD G k ∧ mxD G k ≤ k
  | 0, _ => by simp [mxD]
  | k + 1, hk => by
    have ih := mxD_bd h k (by omega)
    have := gp_bd h k (by omega)
    simp only [mxD]
    omega
theorem c_deep {σ : Mem} {K : Int → Mem → Prop} (h : WF L G n x) (hn : n ≤ 230) (hG : PgC σ G) (hK : ∀ σ', (∀ b, b ≠ 21 → σ' b = σ b) → K (mcD G (gm G)) σ') : CC m_X2_deepest [vR 13] σ (PI K) := by
  have hm := WF_bd h hn
  have h1 := h.1.1.1
  have loop : ∀ (d p : Nat) (s : Mem), p + d = gm G → (∀ b, b ≠ 21 → s b = σ b) → s 21 0 = gp G 0 → (∀ q, q < p → gf G q ≠ 0 → s 21 (gf G q) = gp G (gf G q) ∧ s 21 (gf G q + 1) = gp G (gf G q + 1)) → TT m_X2_deepest 11 [vR 13, vI (mcD G p), vI (p : Int), vU] [] s (PI K) := by
    intro d
    induction d with
    | zero =>
      intro p s hp hf h0 hq
      have hp : p = gm G := by omega
      subst hp
      refine w_X2_deepest_11 _ _ ?_
      rw [hf 13 (by decide), hG.1]
      exact ⟨by omega, by omega, fun _ => hK s hf, fun z => absurd (Int.le_refl _) z⟩
    | succ d ih =>
      intro p s hp hf h0 hq
      have hpm : p < gm G := by omega
      have e18 : s 18 p = (gf G p : Int) := by rw [hf 18 (by decide)]; exact (hG.2 p hpm).1.1
      have gb9 := gp_bd h p hpm
      have s21 : s 21 p = gp G p := by
        rcases Nat.eq_zero_or_pos p with z | z
        · rw [z]; exact h0
        · obtain ⟨q, q1, q2, q3⟩ := h.2.1.2.1 p hpm z
          have w := (h.1.2.1 q q1 q2).1
          have := hq q (by omega) q2
          rcases q3 with e | e
          · rw [e]; exact this.1
          · rw [e]; exact this.2
      have mb : 1 ≤ mcD G p ∧ mcD G p ≤ 230 := by
        have a := (mcD_ge G p).1
        have b := mcD_le h p (by omega)
        have c := mxD_bd h (gm G) (Nat.le_refl _)
        omega
      refine w_X2_deepest_11 _ _ ?_
      rw [Int.toNat_natCast, hf 13 (by decide), hG.1, e18, s21]
      by_cases z : gf G p = 0
      · refine ⟨by omega, by omega, fun w => absurd w (by omega), fun _ => ⟨by omega, by omega, fun _ => ?_, fun w => absurd (by omega) w⟩⟩
        have := ih (p + 1) s (by omega) hf h0 (fun q hq1 hq2 => hq q (by
          rcases Nat.lt_or_ge q p with w | w
          · exact w
          · exact absurd (by rw [show q = p by omega]; exact z) hq2) hq2)
        simp only [mcD] at this
        rw [if_pos z] at this
        exact this
      · have w := (h.1.2.1 p hpm z).1
        have u := h.2.1.2.2.2 p hpm z
        have gb8 := gp_bd h (gf G p) (by omega)
        refine ⟨by omega, by omega, fun w2 => absurd w2 (by omega), fun _ => ⟨by omega, by omega, fun w2 => absurd w2 (by omega), fun _ => ⟨by omega, fun s10 e10 => ?_⟩⟩⟩
        rw [Int.toNat_natCast] at e10
        have t21 : s10 21 p = gp G p := by rw [e10, up_o2 (by omega)]; exact s21
        rw [t21]
        refine ⟨by omega, fun s13 e13 => ?_⟩
        rw [show ((gf G p : Int) + 1).toNat = gf G p + 1 by omega] at e13
        have v13 : s13 21 (gf G p) = gp G (gf G p) := by rw [e13, up_o2 (by omega), e10, up_at, u.1]
        rw [Int.toNat_natCast, v13]
        refine ⟨by omega, by omega, fun v17 e17 => ?_⟩
        have := ih (p + 1) s13 (by omega) (fun b hb => by rw [e13, up_cell hb, e10, up_cell hb]; exact hf b hb) (by rw [e13, up_o2 (by omega), e10, up_o2 (by omega)]; exact h0) (fun q hq1 hq2 => ?_)
        · simp only [mcD] at this
          rw [if_neg z] at this
          rw [e17]
          exact this
        · have set : ∀ j, s13 21 j = if j = gf G p + 1 then gp G (gf G p + 1) else if j = gf G p then gp G (gf G p) else s 21 j := fun j => by
            rw [e13]
            by_cases a : j = gf G p + 1
            · rw [if_pos a, a, up_at, u.2]
            · rw [if_neg a, up_o2 a, e10]
              by_cases b : j = gf G p
              · rw [if_pos b, b, up_at, u.1]
              · rw [if_neg b, up_o2 b]
          have good : ∀ j, (q < p → s 21 j = gp G j) → (q = p → j = gf G p ∨ j = gf G p + 1) → s13 21 j = gp G j := fun j g1 g2 => by
            rw [set]
            by_cases a : j = gf G p + 1
            · rw [if_pos a, a]
            · rw [if_neg a]
              by_cases b : j = gf G p
              · rw [if_pos b, b]
              · rw [if_neg b]
                exact g1 (by
                  rcases Nat.lt_or_ge q p with c | c
                  · exact c
                  · have := g2 (by omega); omega)
          exact ⟨good _ (fun c => (hq q c hq2).1) (fun c => by rw [c]; exact Or.inl rfl), good _ (fun c => (hq q c hq2).2) (fun c => by rw [c]; exact Or.inr rfl)⟩
  refine e_X2_deepest fun s1 e1 => ?_
  exact loop (gm G) 0 s1 (by omega) (fun b hb => by rw [e1, up_cell hb]) (by rw [e1, up_at, h.2.1.2.2.1]) (fun q hq => absurd hq (by omega))
/-- sizes of leaves -/
def szG (G : PG) : Nat → Int
  | 0 => 0
  | p + 1 => szG G p + (if gf G p = 0 ∧ 0 < gc G p then bS (gb G p) else 0)
theorem szG_bd (h : WF L G n x) : ∀ k, k ≤ gm G → 0 ≤ szG G k ∧ szG G k ≤ 8000000 * k
  | 0, _ => by simp [szG]
  | k + 1, hk => by
    have ih := szG_bd h k (by omega)
    simp only [szG]
    split
    · rename_i z
      have := bS_bd (h.2.2.1.1 k (by omega) z.2)
      omega
    · omega
theorem c_sizes {σ : Mem} {K : Int → Mem → Prop} (h : WF L G n x) (hn : n ≤ 230) (hG : PgC σ G) (hK : K (szG G (gm G)) σ) : CC m_X2_leafSizes [vR 13] σ (PJ K) := by
  have n16 := n16
  have hm := WF_bd h hn
  have loop : ∀ (d p : Nat), p + d = gm G → TT m_X2_leafSizes 4 [vR 13, vL (szG G p), vU, vI (p : Int)] [] σ (PJ K) := by
    intro d
    induction d with
    | zero =>
      intro p hp
      have hp : p = gm G := by omega
      subst hp
      refine w_X2_leafSizes_4 _ _ ?_
      rw [hG.1]
      exact ⟨by omega, by omega, fun _ => hK, fun z => absurd (Int.le_refl _) z⟩
    | succ d ih =>
      intro p hp
      have hpm : p < gm G := by omega
      obtain ⟨⟨a1, a2⟩, a3, a4⟩ := hG.2 p hpm
      have ih := ih (p + 1) (by omega)
      simp only [szG] at ih
      have c5 := h.1.c5 p hpm
      have gfl : gf G p < 230 := by
        by_cases z : gf G p = 0
        · omega
        · have := (h.1.2.1 p hpm z).1; omega
      refine w_X2_leafSizes_4 _ _ ?_
      rw [Int.toNat_natCast, hG.1, a1, a2]
      refine ⟨by omega, by omega, fun w => absurd w (by omega), fun _ => ⟨by omega, by omega, fun z => ?_, fun z => ⟨by omega, fun z2 => ?_, fun z2 => ?_⟩⟩⟩
      · rw [if_neg (by omega), Int.add_zero] at ih
        exact ih
      · rw [if_neg (by omega), Int.add_zero] at ih
        exact ih
      · rw [if_pos (by omega)] at ih
        have := bS_bd (h.2.2.1.1 p hpm (by omega))
        exact c_sizeOf (q0 := p) b16 (by omega) (a4 (by omega)) ⟨by omega, ih⟩
  exact e_X2_leafSizes (loop (gm G) 0 (by omega))
theorem d_sizes {σ : Mem} {K : Int → Mem → Prop} (h : WF L G n x) (hn : n ≤ 230) (hG : PgM σ G) (hK : K (szG G (gm G)) σ) : TT m_X10_size 8 [vR 80, vL 0, vU, vI 0] [] σ (PJ K) := by
  have hm := WF_bd h hn
  have loop : ∀ (d p : Nat), p + d = gm G → TT m_X10_size 8 [vR 80, vL (szG G p), vU, vI (p : Int)] [] σ (PJ K) := by
    intro d
    induction d with
    | zero =>
      intro p hp
      have hp : p = gm G := by omega
      subst hp
      refine w_X10_size_8 _ _ ?_
      rw [hG.1]
      exact ⟨by omega, by omega, fun _ => hK, fun z => absurd (Int.le_refl _) z⟩
    | succ d ih =>
      intro p hp
      have hpm : p < gm G := by omega
      obtain ⟨⟨⟨a91, a93⟩, a90, a92⟩, a94, a89⟩ := hG.2 p hpm
      have ih := ih (p + 1) (by omega)
      simp only [szG] at ih
      refine w_X10_size_8 _ _ ?_
      rw [Int.toNat_natCast, hG.1]
      have gfl : gf G p < 230 := by
        by_cases z : gf G p = 0
        · omega
        · have := (h.1.2.1 p hpm z).1; omega
      by_cases z : gf G p = 0
      · rw [if_pos z] at a91
        rw [a91]
        by_cases z2 : gc G p = 0
        · rw [if_pos z2] at a90
          rw [if_neg (by omega)] at ih
          rw [a90]
          exact ⟨by omega, by omega, fun w => absurd w (by omega), fun _ => ⟨by omega, by decide, fun w => absurd rfl w, fun _ => ⟨by decide, fun _ => ih, fun w => absurd w (by decide)⟩⟩⟩
        · rw [if_neg z2] at a90
          rw [if_pos ⟨z, by omega⟩] at ih
          rw [a90]
          have := bS_bd (h.2.2.1.1 p hpm (by omega))
          exact ⟨by omega, by omega, fun w => absurd w (by omega), fun _ => ⟨by omega, by decide, fun w => absurd rfl w, fun _ => ⟨by decide, fun w => absurd rfl w, fun _ => d_size0 (by omega) a90 (a89 (by omega)) ⟨by omega, ih⟩⟩⟩⟩
      · rw [if_neg z] at a91
        rw [if_neg (by omega)] at ih
        rw [a91]
        exact ⟨by omega, by omega, fun w => absurd w (by omega), fun _ => ⟨by omega, by omega, fun _ => ih, fun w => absurd w (by omega)⟩⟩
  exact loop (gm G) 0 (by omega)
theorem d_pages26 {σ : Mem} {K : Int → Mem → Prop} {w c15 : Int} (h : WF L G n x) (hn : n ≤ 230) (hw : R32 w) (hG : PgM σ G) (h15 : σ 80 15 = c15) (hK : K (if ¬ w = 0 then (if ¬ w = 1 then (if ¬ w = 2 then mxD G (gm G) else ct (lfB G) (gm G) : Int) else (gm G : Int) : Int) else c15 : Int) σ) : TT m_X10_pages 26 [vR 80, vI w, vI 0, vI 0, vI 0] [] σ (PI K) := by
  have hm := WF_bd h hn
  have loop : ∀ (d p : Nat), p + d = gm G → TT m_X10_pages 26 [vR 80, vI w, vI (ct (lfB G) p), vI (mxD G p), vI (p : Int)] [] σ (PI K) := by
    intro d
    induction d with
    | zero =>
      intro p hp
      have hp : p = gm G := by omega
      subst hp
      refine w_X10_pages_26 _ _ _ _ ?_
      rw [hG.1, h15]
      exact ⟨by omega, by omega, fun _ => ⟨hw, hK⟩, fun z => absurd (Int.le_refl _) z⟩
    | succ d ih =>
      intro p hp
      have hpm : p < gm G := by omega
      obtain ⟨⟨⟨a91, a93⟩, a90, a92⟩, a94, a89⟩ := hG.2 p hpm
      have ih := ih (p + 1) (by omega)
      simp only [ct, mxD] at ih
      have gfl : gf G p < 230 := by
        by_cases z : gf G p = 0
        · omega
        · have := (h.1.2.1 p hpm z).1; omega
      have r91 : R32 (σ 91 p) := by rw [a91]; split <;> omega
      have gb9 := gp_bd h p hpm
      have mb := mxD_bd h p (by omega)
      refine w_X10_pages_26 _ _ _ _ ?_
      rw [Int.toNat_natCast, hG.1, a92]
      refine ⟨by omega, by omega, fun z => absurd z (by omega), fun _ => ⟨by omega, r91, fun v23 e23 => ⟨by omega, by omega, fun v29 e29 => ?_⟩⟩⟩
      have w1 : v23 = ct (lfB G) p + (if lfB G p = true then 1 else 0) := by
        rw [e23]
        by_cases z : gf G p = 0
        · rw [if_pos (show lfB G p = true from decide_eq_true z), if_neg (not_not_intro (by rw [a91, if_pos z]))]
        · rw [if_neg (show ¬ lfB G p = true by unfold lfB; rw [decide_eq_false z]; decide), if_pos (by rw [a91, if_neg z]; omega)]
      have w2 : v29 = max (mxD G p) (gp G p) := by rw [e29]; split <;> omega
      rw [w1, w2]
      exact ih
  exact loop (gm G) 0 (by omega)
end ASKG
def pq (σ σ' : Mem) : Prop := (∀ b, ((34 ≤ b ∧ b < 80) ∨ (81 ≤ b ∧ b ≤ 85) ∨ b = 100) → σ' b = σ b) ∧ (∀ i, i ≠ 10 → σ' 0 i = σ 0 i) ∧ σ' 80 5 = σ 80 5 ∧ σ' 80 29 = σ 80 29 ∧ σ' 80 30 = σ 80 30
section PGO
variable {σ : Mem} {T : Nat → TV} {K : Int → Int → Mem → Prop}
theorem op_pages {w : Int} (hw : R32 w) (hT : oks T) (hC : CA σ T) (hM : MA σ T) (hP : σ 0 10 = 1 ∨ (σ 0 10 = 0 ∧ TrC σ T)) (hK : ∀ v σ', R32 v → pq σ σ' → σ' 0 10 = 0 → TrC σ' T → K v v σ') :
    CC m_X9_pages [vR 0, vI w] σ (PI fun v s' => CC m_X10_pages [vR 80, vI w] s' (PI fun v2 s2 => K v v2 s2)) := by
  have hfn := FN_bd hT
  have wf := bld_wf (FL_ok hT) hfn (FN T) (Nat.le_refl _)
  have hm := WF_bd wf hfn
  have h1 := wf.1.1.1
  have md := mxD_bd wf _ (Nat.le_refl _)
  have me := mD_eq wf
  have lf := wf.2.2.2.1
  refine e_X9_pages _ (c_refresh hT hC hP fun s2 hTr h10 hf hi => ?_)
  have go : ∀ (v : Int) (s : Mem), R32 v → (∀ b, b ≠ 21 → s b = s2 b) → (w = 0 → v = (FN T : Int)) → (w = 1 → v = (gm (bld (FL T) (FN T)) : Int)) → (w = 2 → v = ct (lfB (bld (FL T) (FN T))) (gm (bld (FL T) (FN T)))) → (w = 3 → v = mxD (bld (FL T) (FN T)) (gm (bld (FL T) (FN T)))) → (w < 0 ∨ 3 < w → v = -900002) → CC m_X10_pages [vR 80, vI w] s (PI fun v2 s2 => K v v2 s2) := by
    intro v s hv hs k0 k1 k2 k3 k4
    have hTs : TrC s T := hTr.same (by rw [hs 13 (by decide)]) (by rw [hs 13 (by decide)]) fun b hb => hs b (by omega)
    have h10s : s 0 10 = 0 := by rw [hs 0 (by decide)]; exact h10
    have pqs : pq σ s := ⟨fun b hb => by rw [hs b (by omega), hf b (by omega) (by omega)], fun i hi2 => by rw [hs 0 (by decide), hi i hi2], by rw [hs 80 (by decide), hf 80 (by decide) (by omega)], by rw [hs 80 (by decide), hf 80 (by decide) (by omega)], by rw [hs 80 (by decide), hf 80 (by decide) (by omega)]⟩
    refine e_X10_pages _ ⟨hw, d_in (r64 hw) (by decide) (by decide) (fun q => ?_) (fun q => ?_)⟩
    · have hMs : MA s T := fun t ht => (hM t ht).same (pqs.1 _ (by omega)) (pqs.1 _ (by omega)) (pqs.1 _ (by omega)) (pqs.1 _ (by omega)) (pqs.1 _ (by omega))
      refine d_layPages hT hMs fun s7 hTm hmt => ?_
      refine d_pages26 wf hfn hw hTm.2.2 hTm.1 ?_
      have fin : K v v s7 := hK v s7 hv ⟨fun b hb => by rw [hmt.1 b (by omega)]; exact pqs.1 b hb, fun i hi2 => by rw [hmt.1 0 (by omega)]; exact pqs.2.1 i hi2, by rw [hmt.2 5 (by decide) (by decide)]; exact pqs.2.2.1, by rw [hmt.2 29 (by decide) (by decide)]; exact pqs.2.2.2.1, by rw [hmt.2 30 (by decide) (by decide)]; exact pqs.2.2.2.2⟩ (by rw [hmt.1 0 (by omega)]; exact h10s) (hTs.same (by rw [hmt.1 13 (by omega)]) (by rw [hmt.1 13 (by omega)]) fun b hb => hmt.1 b (by omega))
      by_cases z0 : w = 0
      · rw [if_neg (not_not_intro z0), ← k0 z0]; exact fin
      · rw [if_pos z0]
        by_cases z1 : w = 1
        · rw [if_neg (not_not_intro z1), ← k1 z1]; exact fin
        · rw [if_pos z1]
          by_cases z2 : w = 2
          · rw [if_neg (not_not_intro z2), ← k2 z2]; exact fin
          · rw [if_pos z2, ← k3 (by omega)]; exact fin
    · rw [← k4 (by omega)]
      exact hK v s hv pqs h10s hTs
  rw [hTr.1, hTr.2.2.1]
  refine ⟨hw, fun z => go _ s2 (by omega) (fun _ _ => rfl) (fun _ => rfl) ?_ ?_ ?_ ?_, fun z => go _ s2 (by omega) (fun _ _ => rfl) ?_ (fun _ => rfl) ?_ ?_ ?_, fun z => e_X2_leaves ?_, fun z => c_deep wf hfn hTr.2.2 fun s7 hf7 => go _ s7 (by rw [me]; omega) hf7 ?_ ?_ ?_ (fun _ => me) ?_, fun z => go _ s2 (by decide) (fun _ _ => rfl) ?_ ?_ ?_ ?_ (fun _ => rfl)⟩
  case refine_9 =>
    rw [hTr.2.2.1]
    have e : Int.tdiv ((gm (bld (FL T) (FN T)) : Int) + 1) 2 = ct (lfB (bld (FL T) (FN T))) (gm (bld (FL T) (FN T))) := by rw [Int.tdiv_eq_ediv_of_nonneg (by omega)]; omega
    rw [e]
    exact ⟨by omega, go _ s2 (by omega) (fun _ _ => rfl) (fun u => by omega) (fun u => by omega) (fun _ => rfl) (fun u => by omega) (fun u => by omega)⟩
  all_goals (intro u; omega)
theorem op_size {K : Int → Int → Mem → Prop} (hT : oks T) (hC : CA σ T) (hM : MA σ T) (hP : σ 0 10 = 1 ∨ (σ 0 10 = 0 ∧ TrC σ T)) (hK : ∀ v σ', R64 v → pq σ σ' → σ' 0 10 = 0 → TrC σ' T → K v v σ') :
    CC m_X9_size [vR 0] σ (PJ fun v s' => CC m_X10_size [vR 80] s' (PJ fun v2 s2 => K v v2 s2)) := by
  have hfn := FN_bd hT
  have wf := bld_wf (FL_ok hT) hfn (FN T) (Nat.le_refl _)
  have hm := WF_bd wf hfn
  have sb := szG_bd wf _ (Nat.le_refl _)
  refine e_X9_size (c_refresh hT hC hP fun s hTr h10 hf hi => c_sizes wf hfn hTr.2.2 ?_)
  have pqs : pq σ s := ⟨fun b hb => hf b (by omega) (by omega), hi, by rw [hf 80 (by decide) (by omega)], by rw [hf 80 (by decide) (by omega)], by rw [hf 80 (by decide) (by omega)]⟩
  have hMs : MA s T := fun t ht => (hM t ht).same (pqs.1 _ (by omega)) (pqs.1 _ (by omega)) (pqs.1 _ (by omega)) (pqs.1 _ (by omega)) (pqs.1 _ (by omega))
  refine e_X10_size (d_layPages hT hMs fun s7 hTm hmt => d_sizes wf hfn hTm.2.2 ?_)
  exact hK _ s7 (by omega) ⟨fun b hb => by rw [hmt.1 b (by omega)]; exact pqs.1 b hb, fun i hi2 => by rw [hmt.1 0 (by omega)]; exact pqs.2.1 i hi2, by rw [hmt.2 5 (by decide) (by decide)]; exact pqs.2.2.1, by rw [hmt.2 29 (by decide) (by decide)]; exact pqs.2.2.2.1, by rw [hmt.2 30 (by decide) (by decide)]; exact pqs.2.2.2.2⟩ (by rw [hmt.1 0 (by omega)]; exact h10) (hTr.same (by rw [hmt.1 13 (by omega)]) (by rw [hmt.1 13 (by omega)]) fun b hb => hmt.1 b (by omega))
end PGO
