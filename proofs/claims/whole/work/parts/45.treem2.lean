section TREEN
variable {σ : Mem} {L : Nat → Bx} {G : PG}
theorem d_isBehind {A B : Mem → Prop} {x y ax k : Nat} (hx : x < k) (hy : y < k) (hk : k ≤ 230) (hax : ax < 3) (hL : LgM σ L k) (hxb : bok (L x)) (hyb : bok (L y)) (h1 : ahL L ax x y = true → A σ) (h0 : ahL L ax x y = false → B σ) : CC m_X10_isBehind [vR 80, vI (y : Int), vI (x : Int), vI (ax : Int)] σ (PZ A B) := by
  have k1 := bok_k hxb hax
  have k2 := bok_k hyb hax
  have yes : (kS L ax x < kS L ax y ∨ (kS L ax x = kS L ax y ∧ x < y)) → A σ := fun z => h1 (decide_eq_true z)
  have no : ¬ (kS L ax x < kS L ax y ∨ (kS L ax x = kS L ax y ∧ x < y)) → B σ := fun z => h0 (decide_eq_false z)
  unfold kS at yes no
  refine e_X10_isBehind _ _ _ ?_
  rw [show (6 * (y : Int) + 2 * (ax : Int)).toNat = 6 * y + 2 * ax by omega, show (6 * (y : Int) + 2 * (ax : Int) + 1).toNat = 6 * y + (2 * ax + 1) by omega, show (6 * (x : Int) + 2 * (ax : Int)).toNat = 6 * x + 2 * ax by omega, show (6 * (x : Int) + 2 * (ax : Int) + 1).toNat = 6 * x + (2 * ax + 1) by omega, hL y hy _ (by omega), hL y hy _ (by omega), hL x hx _ (by omega), hL x hx _ (by omega)]
  exact ⟨by omega, by omega, fun v3 e3 => ⟨by omega, by omega, fun v7 e7 => ⟨by omega, by omega, fun z => yes (by omega), fun z => ⟨fun z2 => no (by omega), fun z2 => ⟨by omega, by omega, fun z3 => no (by omega), fun z3 => yes (by omega)⟩⟩⟩⟩⟩
theorem d_sort {K : Mem → Prop} {p ax k : Nat} {h : Nat → Nat} (hp : p < 500) (hk : k ≤ 230) (hax : ax < 3) (hL : LgM σ L k) (h19 : ∀ i, i < 5 → σ 94 (5 * p + i) = (h i : Int)) (hh : ∀ i, i < 5 → h i < k ∧ bok (L (h i))) (hK : ∀ σ', (∀ l, l < 5 → σ' 95 l = (srt (ahL L ax) h 5 l : Int)) → (∀ c, c ≠ 95 → σ' c = σ c) → K σ') : CC m_X10_sort [vR 80, vI (p : Int), vI (ax : Int)] σ (PN K) := by
  have inner : ∀ (i : Nat), i < 5 → (∀ s, (∀ l, l < i + 1 → s 95 l = (srt (ahL L ax) h (i + 1) l : Int)) → (∀ c, c ≠ 95 → s c = σ c) → TT m_X10_sort 2 [vR 80, vI (p : Int), vI (ax : Int), vI ((i : Int) + 1), vU, vU] [] s (PN K)) → ∀ (j : Nat) (s : Mem), j ≤ i → inp (ahL L ax) (srt (ahL L ax) h i) (h i) j = inp (ahL L ax) (srt (ahL L ax) h i) (h i) i → (∀ l, l < j → s 95 l = (srt (ahL L ax) h i l : Int)) → (∀ l, j < l → l ≤ i → s 95 l = (srt (ahL L ax) h i (l - 1) : Int)) → (∀ c, c ≠ 95 → s c = σ c) → TT m_X10_sort 22 [vR 80, vI (p : Int), vI (ax : Int), vI (i : Int), vI (h i : Int), vI (j : Int)] [] s (PN K) := by
    intro i hi next j
    have fin : ∀ (j : Nat) (s s7 : Mem), j ≤ i → inp (ahL L ax) (srt (ahL L ax) h i) (h i) i = j → (∀ l, l < j → s 95 l = (srt (ahL L ax) h i l : Int)) → (∀ l, j < l → l ≤ i → s 95 l = (srt (ahL L ax) h i (l - 1) : Int)) → (∀ c, c ≠ 95 → s c = σ c) → s7 = up s 95 j (h i : Int) → TT m_X10_sort 2 [vR 80, vI (p : Int), vI (ax : Int), vI ((i : Int) + 1), vU, vU] [] s7 (PN K) := by
      intro j s s7 hj he h1 h2 hf e7
      refine next s7 (fun l hl => ?_) fun c hc => by rw [e7, up_cell hc]; exact hf c hc
      simp only [srt]
      rw [he, e7]
      rcases Nat.lt_trichotomy l j with z | z | z
      · rw [ins_lt z, up_o2 (by omega)]; exact h1 l z
      · rw [z, ins_at, up_at]
      · rw [ins_gt z, up_o2 (by omega)]; exact h2 l z (by omega)
    induction j with
    | zero =>
      intro s hj he h1 h2 hf
      refine w_X10_sort_22 _ _ _ _ _ ⟨by decide, fun _ => ⟨by decide, fun s7 e7 => fin 0 s s7 hj he.symm h1 h2 hf e7⟩, fun z => absurd (by decide) z⟩
    | succ j ih =>
      intro s hj he h1 h2 hf
      obtain ⟨m, m1, m2⟩ := srt_mem (ahL L ax) h i j (by omega)
      have hm := hh m (by omega)
      have ee := he
      simp only [inp] at ee
      refine w_X10_sort_22 _ _ _ _ _ ?_
      rw [show (((j + 1 : Nat) : Int) - 1).toNat = j by omega, h1 j (by omega), Int.toNat_natCast]
      refine ⟨by omega, fun z => absurd z (by omega), fun _ => ⟨by omega, ?_⟩⟩
      refine d_isBehind (hh i hi).1 (by rw [m2]; exact hm.1) hk hax (hL.same (hf 88 (by decide))) (hh i hi).2 (by rw [m2]; exact hm.2) (fun hv => ⟨by omega, fun s15 e15 => ?_⟩) (fun hv => ⟨by omega, fun s19 e19 => ?_⟩)
      · rw [if_pos hv] at ee
        rw [h1 j (by omega)] at e15
        rw [show ((j + 1 : Nat) : Int) + -1 = (j : Int) by omega]
        refine ih s15 (by omega) ee (fun l hl => ?_) (fun l l1 l2 => ?_) fun c hc => by rw [e15, up_cell hc]; exact hf c hc
        · rw [e15, up_o2 (by omega)]; exact h1 l (by omega)
        · rw [e15]
          by_cases z : l = j + 1
          · rw [z, up_at]; rfl
          · rw [up_o2 z]; exact h2 l (by omega) l2
      · rw [if_neg (by rw [hv]; decide)] at ee
        exact fin (j + 1) s s19 hj ee.symm h1 h2 hf e19
  have outer : ∀ (d i : Nat) (s : Mem), i + d = 5 → (∀ l, l < i → s 95 l = (srt (ahL L ax) h i l : Int)) → (∀ c, c ≠ 95 → s c = σ c) → TT m_X10_sort 2 [vR 80, vI (p : Int), vI (ax : Int), vI (i : Int), vU, vU] [] s (PN K) := by
    intro d
    induction d with
    | zero =>
      intro i s hi h1 hf
      have hi : i = 5 := by omega
      subst hi
      exact w_X10_sort_2 _ _ _ ⟨by decide, fun _ => hK s h1 hf, fun z => absurd (by decide) z⟩
    | succ d ih =>
      intro i s hi h1 hf
      refine w_X10_sort_2 _ _ _ ?_
      rw [show (5 * (p : Int) + (i : Int)).toNat = 5 * p + i by omega, hf 94 (by decide), h19 i (by omega)]
      refine ⟨by omega, fun z => absurd z (by omega), fun _ => ⟨by omega, ?_⟩⟩
      exact inner i (by omega) (fun s2 a b => ih (i + 1) s2 (by omega) a b) i s (Nat.le_refl i) rfl h1 (fun l a b => absurd a (by omega)) hf
  exact e_X10_sort _ _ (outer 5 0 σ rfl (fun l h => absurd h (by omega)) fun _ _ => rfl)
theorem d_sizeT {K : Int → Mem → Prop} {a m k : Nat} {o : Nat → Nat} (ham : a + m < 5) (hk : k ≤ 230) (hL : LgM σ L k) (ho : ∀ i, i < 5 → σ 95 i = (o i : Int) ∧ o i < k ∧ bok (L (o i))) (hK : K (bS (fb L o a m)) σ) : CC m_X10_sizeOf [vR 80, vI (a : Int), vI ((a + m + 1 : Nat) : Int)] σ (PI K) := by
  have fok : ∀ i, i ≤ m → bok (fb L o a i) := fun i hi => fb_ok fun j hj => (ho (a + j) (by omega)).2.2
  have stp : ∀ (q : Nat) (x3 : Int), q < 3 → TT m_X10_sizeOf 5 [vR 80, vI (a : Int), vI ((a + m + 1 : Nat) : Int), vI (x3 * (fb L o a m (2 * q + 1) - fb L o a m (2 * q) + 1)), vI (2 * (q : Int) + 2), vU, vU, vU] [] σ (PI K) → TT m_X10_sizeOf 5 [vR 80, vI (a : Int), vI ((a + m + 1 : Nat) : Int), vI x3, vI (2 * (q : Int)), vU, vU, vU] [] σ (PI K) := by
    intro q x3 hq next
    have one : ∀ (i : Nat) (x5 x6 : Int), i < 5 → R32 x5 → R32 x6 → i < a + m + 1 → TT m_X10_sizeOf 23 [vR 80, vI (a : Int), vI ((a + m + 1 : Nat) : Int), vI x3, vI (2 * (q : Int)), vI (min x5 (L (o i) (2 * q))), vI (max x6 (L (o i) (2 * q + 1))), vI ((i : Int) + 1)] [] σ (PI K) → TT m_X10_sizeOf 23 [vR 80, vI (a : Int), vI ((a + m + 1 : Nat) : Int), vI x3, vI (2 * (q : Int)), vI x5, vI x6, vI (i : Int)] [] σ (PI K) := by
      intro i x5 x6 hi h5 h6 him nx
      have oi := ho i hi
      have bk := bok_k oi.2.2 hq
      refine w_X10_sizeOf_23 _ _ _ _ _ _ _ ?_
      rw [Int.toNat_natCast, oi.1, show (6 * (o i : Int) + 2 * (q : Int)).toNat = 6 * o i + 2 * q by omega, show (6 * (o i : Int) + 2 * (q : Int) + 1).toNat = 6 * o i + (2 * q + 1) by omega, hL _ oi.2.1 _ (by omega), hL _ oi.2.1 _ (by omega)]
      refine ⟨by omega, by omega, fun z => absurd z (by omega), fun _ => ⟨by omega, by omega, by omega, h5, fun v12 e12 => ⟨by omega, by omega, h6, fun v19 e19 => ?_⟩⟩⟩
      have w1 : v12 = min x5 (L (o i) (2 * q)) := by rw [e12]; split <;> omega
      have w2 : v19 = max x6 (L (o i) (2 * q + 1)) := by rw [e19]; split <;> omega
      rw [w1, w2]
      exact nx
    have loop : ∀ (d i : Nat), i + d = m → TT m_X10_sizeOf 23 [vR 80, vI (a : Int), vI ((a + m + 1 : Nat) : Int), vI x3, vI (2 * (q : Int)), vI (fb L o a i (2 * q)), vI (fb L o a i (2 * q + 1)), vI ((a + i + 1 : Nat) : Int)] [] σ (PI K) := by
      intro d
      induction d with
      | zero =>
        intro i hi
        have hi : i = m := by omega
        subst hi
        exact w_X10_sizeOf_23 _ _ _ _ _ _ _ ⟨by omega, by omega, fun _ => next, fun z => absurd (Int.le_refl _) z⟩
      | succ d ih =>
        intro i hi
        have bk := bok_k (fok i (by omega)) hq
        have e : fb L o a (i + 1) = bW (fb L o a i) (L (o (a + (i + 1)))) := rfl
        have := ih (i + 1) (by omega)
        rw [e, bW_ev, bW_od] at this
        refine one (a + i + 1) _ _ (by omega) (by omega) (by omega) (by omega) ?_
        exact this
    have l0 := loop m 0 (by omega)
    have bk := bok_k ((ho a (by omega)).2.2) hq
    refine w_X10_sizeOf_5 _ _ _ _ ⟨by omega, fun z => absurd z (by omega), fun _ => ?_⟩
    refine one a _ _ (by omega) (by decide) (by decide) (by omega) ?_
    rw [show min (100000000 : Int) (L (o a) (2 * q)) = L (o a) (2 * q) by omega, show max (-100000000 : Int) (L (o a) (2 * q + 1)) = L (o a) (2 * q + 1) by omega]
    exact l0
  refine e_X10_sizeOf _ _ ?_
  refine stp 0 1 (by decide) ?_
  refine stp 1 (1 * (fb L o a m 1 - fb L o a m 0 + 1)) (by decide) ?_
  refine stp 2 (1 * (fb L o a m 1 - fb L o a m 0 + 1) * (fb L o a m 3 - fb L o a m 2 + 1)) (by decide) ?_
  refine w_X10_sizeOf_5 _ _ _ _ ⟨by omega, fun _ => ?_, fun z => absurd (by omega) z⟩
  show K (1 * (fb L o a m 1 - fb L o a m 0 + 1) * (fb L o a m 3 - fb L o a m 2 + 1) * (fb L o a m 5 - fb L o a m 4 + 1)) σ
  rw [Int.one_mul]
  exact hK
theorem d_newPage {K : Int → Mem → Prop} {m : Nat} {v : Int} (h : σ 80 17 = (m : Int)) (hm : m < 500) (hK : ∀ s, s = up (up (up (up (up σ 90 m 1) 91 m (-900009)) 92 m v) 93 m 0) 80 17 ((m : Int) + 1) → K (m : Int) s) : CC m_X10_newPage [vR 80, vI v] σ (PI K) := by
  refine e_X10_newPage _ ?_
  rw [h, Int.toNat_natCast]
  refine ⟨by omega, fun s2 e2 => ?_⟩
  have h2 : s2 80 17 = (m : Int) := by rw [e2, up_o1 (by decide)]; exact h
  rw [h2, Int.toNat_natCast]
  refine ⟨by omega, fun s5 e5 => ?_⟩
  have h5 : s5 80 17 = (m : Int) := by rw [e5, up_o1 (by decide)]; exact h2
  rw [h5, Int.toNat_natCast]
  refine ⟨by omega, fun s8 e8 => ?_⟩
  have h8 : s8 80 17 = (m : Int) := by rw [e8, up_o1 (by decide)]; exact h5
  rw [h8, Int.toNat_natCast]
  refine ⟨by omega, fun s11 e11 s13 e13 => ?_⟩
  have h11 : s11 80 17 = (m : Int) := by rw [e11, up_o1 (by decide)]; exact h8
  rw [h11, e11, e8, e5, e2] at e13
  have := hK s13 e13
  have h13 : s13 80 17 = (m : Int) + 1 := by rw [e13, up_at]
  rw [h13, show (m : Int) + 1 - 1 = (m : Int) by omega]
  exact this
theorem d_cut {K : Mem → Prop} {n p : Nat} (h : WF L G n p) (hn : n ≤ 230) (hLb : ∀ l, l < n → bok (L l)) (hp : p < gm G) (hf : gf G p = 0) (hc : gc G p = 5) (hG : PgM σ G) (hL : LgM σ L n) (hK : ∀ σ', PgM σ' (cutG L G p) → (∀ b, (b ≠ 80 ∧ b ≠ 89 ∧ b ≠ 90 ∧ b ≠ 91 ∧ b ≠ 92 ∧ b ≠ 93 ∧ b ≠ 94 ∧ b ≠ 95 ∧ b ≠ 96) → σ' b = σ b) → (∀ i, i ≠ 17 → σ' 80 i = σ 80 i) → K σ') : CC m_X10_cut [vR 80, vI (p : Int)] σ (PN K) := by
  have hcut := WF_cut h hn hp hf hc
  obtain ⟨l1, l2, l3⟩ := leaf_legs h hLb hp hc
  have hh : ∀ i, i < 5 → gh G p i < n ∧ bok (L (gh G p i)) := fun i hi => ⟨(h.2.2.1.2.2 p hp i (by omega)).1, l1 i hi⟩
  have ord : ∀ c i, i < 5 → cOrd L (gh G p) c i < n ∧ bok (L (cOrd L (gh G p) c i)) := fun c i hi => by
    obtain ⟨j, j1, j2⟩ := srt_mem (ahL L (c / 2)) (gh G p) 5 i hi
    unfold cOrd
    rw [j2]
    exact hh j j1
  obtain ⟨⟨⟨g91, g93⟩, g90, g92⟩, g94, g89⟩ := hG.2 p hp
  -- sharing out
  have share : ∀ (s : Mem), (∀ i, i < 5 → s 96 i = ((cBest L (gh G p) 6).2.2 i : Int)) → (∀ b, b ≠ 95 → b ≠ 96 → s b = σ b) → TT m_X10_cut 8 [vR 80, vI (p : Int), vI (cBest L (gh G p) 6).2.1, vI ((cBest L (gh G p) 6).1 : Int), vI 6, vU, vU, vU] [] s (PN K) := by
    intro s h96 hfs
    unfold cutG at hK
    generalize cBest L (gh G p) 6 = B at l2 l3 h96 hK
    obtain ⟨many, sum, o⟩ := B
    have l2 : many = 2 ∨ many = 3 := l2
    have l3 : ∀ i, i < 5 → bok (L (o i)) ∧ bsub (L (o i)) (gb G p) ∧ o i < n := l3
    have h96 : ∀ i, i < 5 → s 96 i = (o i : Int) := h96
    have hK : ∀ σ', PgM σ' (stF (hdN L (nl2 G p) (gm G) many o 5) p (gm G)) → (∀ b, (b ≠ 80 ∧ b ≠ 89 ∧ b ≠ 90 ∧ b ≠ 91 ∧ b ≠ 92 ∧ b ≠ 93 ∧ b ≠ 94 ∧ b ≠ 95 ∧ b ≠ 96) → σ' b = σ b) → (∀ i, i ≠ 17 → σ' 80 i = σ 80 i) → K σ' := hK
    show TT m_X10_cut 8 [vR 80, vI (p : Int), vI sum, vI (many : Int), vI 6, vU, vU, vU] [] s (PN K)
    have m9 : s 80 17 = (gm G : Int) := by rw [hfs 80 (by decide) (by decide)]; exact hG.1
    have s92 : s 92 p = gp G p := by rw [hfs 92 (by decide) (by decide)]; exact g92
    refine w_X10_cut_8 _ _ _ _ ⟨by decide, fun _ => ⟨by omega, ?_⟩, fun z => absurd (by decide) z⟩
    rw [Int.toNat_natCast, s92]
    refine d_newPage (m := gm G) m9 (by omega) fun s5 e5 => ?_
    have m5 : s5 80 17 = ((gm G + 1 : Nat) : Int) := by rw [e5, up_at]; rfl
    have t92 : s5 92 p = gp G p := by rw [e5, up_o1 (by decide), up_o1 (by decide), up_o2 (by omega), up_o1 (by decide), up_o1 (by decide)]; exact s92
    rw [t92]
    refine d_newPage (m := gm G + 1) m5 (by omega) fun s7 e7 => ?_
    have o5 : ∀ b, b ≠ 80 → b ≠ 90 → b ≠ 91 → b ≠ 92 → b ≠ 93 → s5 b = s b := fun b b1 b2 b3 b4 b5 => by rw [e5, up_cell b1, up_cell b5, up_cell b4, up_cell b3, up_cell b2]
    have o7 : ∀ b, b ≠ 80 → b ≠ 90 → b ≠ 91 → b ≠ 92 → b ≠ 93 → s7 b = s b := fun b b1 b2 b3 b4 b5 => by rw [e7, up_cell b1, up_cell b5, up_cell b4, up_cell b3, up_cell b2, o5 b b1 b2 b3 b4 b5]
    have q7 : ∀ b q, (b = 90 ∨ b = 91 ∨ b = 92 ∨ b = 93) → q ≠ gm G → q ≠ gm G + 1 → s7 b q = s b q := fun b q hb q1 q2 => by
      have b0 : b ≠ 80 := by omega
      rw [e7, up_o1 b0, up_o2 q2, up_o2 q2, up_o2 q2, up_o2 q2, e5, up_o1 b0, up_o2 q1, up_o2 q1, up_o2 q1, up_o2 q1]
    have n7 : ∀ q, (q = gm G ∨ q = gm G + 1) → s7 90 q = 1 ∧ s7 91 q = -900009 ∧ s7 92 q = gp G p + 1 ∧ s7 93 q = 0 := fun q hq => by
      by_cases z : q = gm G + 1
      · subst z
        refine ⟨?_, ?_, ?_, ?_⟩
        · rw [e7, up_o1 (by decide), up_o1 (by decide), up_o1 (by decide), up_o1 (by decide), up_at]
        · rw [e7, up_o1 (by decide), up_o1 (by decide), up_o1 (by decide), up_at]
        · rw [e7, up_o1 (by decide), up_o1 (by decide), up_at]
        · rw [e7, up_o1 (by decide), up_at]
      · have hq : q = gm G := by omega
        subst hq
        refine ⟨?_, ?_, ?_, ?_⟩
        · rw [e7, up_o1 (by decide), up_o2 z, up_o2 z, up_o2 z, up_o2 z, e5, up_o1 (by decide), up_o1 (by decide), up_o1 (by decide), up_o1 (by decide), up_at]
        · rw [e7, up_o1 (by decide), up_o2 z, up_o2 z, up_o2 z, up_o2 z, e5, up_o1 (by decide), up_o1 (by decide), up_o1 (by decide), up_at]
        · rw [e7, up_o1 (by decide), up_o2 z, up_o2 z, up_o2 z, up_o2 z, e5, up_o1 (by decide), up_o1 (by decide), up_at]
        · rw [e7, up_o1 (by decide), up_o2 z, up_o2 z, up_o2 z, up_o2 z, e5, up_o1 (by decide), up_at]
    have m7 : s7 80 17 = (gm G : Int) + 2 := by rw [e7, up_at]; omega
    have i7 : ∀ i, i ≠ 17 → s7 80 i = σ 80 i := fun i hi => by rw [e7, up_o2 hi, up_o1 (by decide), up_o1 (by decide), up_o1 (by decide), up_o1 (by decide), e5, up_o2 hi, up_o1 (by decide), up_o1 (by decide), up_o1 (by decide), up_o1 (by decide), hfs 80 (by decide) (by decide)]
    have p7 : PgM s7 (nl2 G p) := by
      have ef : ∀ q, gf (nl2 G p) q = if q = gm G + 1 then 0 else if q = gm G then 0 else gf G q := fun q => rfl
      have ec : ∀ q, gc (nl2 G p) q = if q = gm G + 1 then 0 else if q = gm G then 0 else gc G q := fun q => rfl
      have ep : ∀ q, gp (nl2 G p) q = if q = gm G + 1 then gp G p + 1 else if q = gm G then gp G p + 1 else gp G q := fun q => rfl
      refine ⟨by rw [m7]; rfl, fun q hq => ?_⟩
      have hq : q < gm G + 2 := hq
      have dc := ec q
      have df := ef q
      have dp := ep q
      by_cases z : q = gm G ∨ q = gm G + 1
      · have dc : gc (nl2 G p) q = 0 := by
          rw [dc]
          rcases z with z | z
          · rw [if_neg (by omega), if_pos z]
          · rw [if_pos z]
        have df : gf (nl2 G p) q = 0 := by
          rw [df]
          rcases z with z | z
          · rw [if_neg (by omega), if_pos z]
          · rw [if_pos z]
        have dp : gp (nl2 G p) q = gp G p + 1 := by
          rw [dp]
          rcases z with z | z
          · rw [if_neg (by omega), if_pos z]
          · rw [if_pos z]
        have nq := n7 q z
        rw [nq.1, nq.2.1, nq.2.2.1, nq.2.2.2, dc, df, dp]
        exact ⟨⟨⟨rfl, rfl⟩, rfl, rfl⟩, fun _ i hi => absurd hi (by omega), fun h0 => absurd h0 (by omega)⟩
      · have z1 : q ≠ gm G + 1 := by omega
        have z2 : q ≠ gm G := by omega
        rw [if_neg z1, if_neg z2] at dc df dp
        have hq2 : q < gm G := by omega
        obtain ⟨⟨⟨a91, a93⟩, a90, a92⟩, a94, a89⟩ := hG.2 q hq2
        rw [q7 91 q (by omega) z2 z1, q7 93 q (by omega) z2 z1, q7 90 q (by omega) z2 z1, q7 92 q (by omega) z2 z1, hfs 91 (by decide) (by decide), hfs 93 (by decide) (by decide), hfs 90 (by decide) (by decide), hfs 92 (by decide) (by decide), o7 94 (by decide) (by decide) (by decide) (by decide) (by decide), hfs 94 (by decide) (by decide), dc, df, dp]
        refine ⟨⟨⟨a91, a93⟩, a90, a92⟩, a94, fun h0 j hj => ?_⟩
        rw [o7 89 (by decide) (by decide) (by decide) (by decide) (by decide), hfs 89 (by decide) (by decide)]
        exact a89 h0 j hj
    have loop : ∀ (d i : Nat) (u : Mem), i + d = 5 → PgM u (hdN L (nl2 G p) (gm G) many o i) → (∀ b, b ≠ 89 → b ≠ 90 → b ≠ 93 → b ≠ 94 → u b = s7 b) → TT m_X10_cut 127 [vR 80, vI (p : Int), vU, vI (many : Int), vI (gm G : Int), vI ((gm G + 1 : Nat) : Int), vI (i : Int), vU] [] u (PN K) := by
      intro d
      induction d with
      | zero =>
        intro i u hi hP hfu
        have hi : i = 5 := by omega
        subst hi
        obtain ⟨k1, k2, k3, ⟨k4, k4'⟩, k5, k6⟩ := hdN_spec (G := G) (p := p) (n := n) l2 l3 5 (Nat.le_refl 5)
        refine w_X10_cut_127 _ _ _ _ _ ⟨by decide, fun _ => ⟨by omega, fun s20 e20 s22 e22 => ?_⟩, fun z => absurd (by decide) z⟩
        rw [Int.toNat_natCast] at e20 e22
        have o22 : ∀ b, b ≠ 91 → b ≠ 93 → s22 b = u b := fun b b1 b2 => by rw [e22, up_cell b2, e20, up_cell b1]
        refine hK s22 ⟨?_, fun q hq => ?_⟩ (fun b hb => ?_) (fun i hi => ?_)
        · rw [o22 80 (by decide) (by decide)]; exact hP.1
        · obtain ⟨⟨⟨a91, a93⟩, a90, a92⟩, a94, a89⟩ := hP.2 q hq
          have df : gf (stF (hdN L (nl2 G p) (gm G) many o 5) p (gm G)) q = if q = p then gm G else gf (hdN L (nl2 G p) (gm G) many o 5) q := rfl
          by_cases z : q = p
          · rw [if_pos z] at df
            refine ⟨⟨⟨?_, ?_⟩, ?_, ?_⟩, fun h0 => absurd h0 (by omega), fun h0 j hj => ?_⟩
            · rw [df, if_neg (by omega), e22, up_o1 (by decide), e20, z, up_at]
            · rw [df, if_neg (by omega), e22, z, up_at]
            · rw [o22 90 (by decide) (by decide)]; exact a90
            · rw [o22 92 (by decide) (by decide)]; exact a92
            · rw [o22 89 (by decide) (by decide)]; exact a89 h0 j hj
          · rw [if_neg z] at df
            refine ⟨⟨⟨?_, ?_⟩, ?_, ?_⟩, ?_, fun h0 j hj => ?_⟩
            · rw [df, e22, up_o1 (by decide), e20, up_o2 z]; exact a91
            · rw [df, e22, up_o2 z, e20, up_o1 (by decide)]; exact a93
            · rw [o22 90 (by decide) (by decide)]; exact a90
            · rw [o22 92 (by decide) (by decide)]; exact a92
            · rw [df, o22 94 (by decide) (by decide)]; exact a94
            · rw [o22 89 (by decide) (by decide)]; exact a89 h0 j hj
        · rw [o22 b hb.2.2.2.1 hb.2.2.2.2.2.1, hfu b hb.2.1 hb.2.2.1 hb.2.2.2.2.2.1 hb.2.2.2.2.2.2.1, o7 b hb.1 hb.2.2.1 hb.2.2.2.1 hb.2.2.2.2.1 hb.2.2.2.2.2.1, hfs b hb.2.2.2.2.2.2.2.1 hb.2.2.2.2.2.2.2.2]
        · rw [o22 80 (by decide) (by decide), hfu 80 (by decide) (by decide) (by decide) (by decide)]; exact i7 i hi
      | succ d ih =>
        intro i u hi hP hfu
        obtain ⟨k1, k2, k3, ⟨k4, k4'⟩, k5, k6⟩ := hdN_spec (G := G) (p := p) (n := n) l2 l3 i (by omega)
        have os : u 96 i = (o i : Int) := by rw [hfu 96 (by decide) (by decide) (by decide) (by decide), o7 96 (by decide) (by decide) (by decide) (by decide) (by decide)]; exact h96 i (by omega)
        have hLs : LgM u L n := (hL.same (hfs 88 (by decide) (by decide))).same (by rw [hfu 88 (by decide) (by decide) (by decide) (by decide), o7 88 (by decide) (by decide) (by decide) (by decide) (by decide)])
        have tgt : (if (many : Int) ≤ (i : Int) then ((gm G + 1 : Nat) : Int) else (gm G : Int)) = ((if i < many then gm G else gm G + 1 : Nat) : Int) := by
          by_cases z : i < many
          · rw [if_neg (by omega), if_pos z]
          · rw [if_pos (by omega), if_neg z]
        refine w_X10_cut_127 _ _ _ _ _ ⟨by omega, fun z => absurd z (by omega), fun _ => ⟨by omega, by omega, ?_⟩⟩
        rw [tgt, Int.toNat_natCast, os]
        generalize ht : (if i < many then gm G else gm G + 1) = t
        have htt : t = gm G ∨ t = gm G + 1 := by rw [← ht]; split; exact Or.inl rfl; exact Or.inr rfl
        have hgt : gc (hdN L (nl2 G p) (gm G) many o i) t ≤ 4 := by
          rcases htt with e | e
          · rw [e, k4]; omega
          · rw [e, k4']; omega
        have hft : gf (hdN L (nl2 G p) (gm G) many o i) t = 0 := by
          rw [k2]
          rcases htt with e | e
          · rw [e, stn_ne (by omega), stn_at]
          · rw [e, stn_at]
        refine d_put (G := hdN L (nl2 G p) (gm G) many o i) (k := n) (fun q hq => ?_) (by rw [k1]; omega) hn hP hLs (l3 i (by omega)).2.2 (by rw [k1]; omega) hft hgt (fun h0 => ((k6 t htt).1 h0).1) (l3 i (by omega)).1 fun s23 hP23 hf23 => ?_
        · rw [k1] at hq
          by_cases e1 : q = gm G
          · rw [e1, k4]; omega
          · by_cases e2 : q = gm G + 1
            · rw [e2, k4']; omega
            · rw [(k3 q e1 e2).1]; exact h.1.c5 q (by omega)
        · refine ih (i + 1) s23 (by omega) ?_ fun b b1 b2 b3 b4 => by rw [hf23 b b1 b2 b3 b4, hfu b b1 b2 b3 b4]
          simp only [hdN]
          rw [ht]
          exact hP23
    exact loop 5 0 s7 rfl p7 fun _ _ _ _ _ => rfl
  have copy : ∀ (c : Nat), c < 6 → (∀ s : Mem, (∀ i, i < 5 → s 96 i = ((cBest L (gh G p) (c + 1)).2.2 i : Int)) → (∀ b, b ≠ 95 → b ≠ 96 → s b = σ b) → TT m_X10_cut 8 [vR 80, vI (p : Int), vI (cBest L (gh G p) (c + 1)).2.1, vI ((cBest L (gh G p) (c + 1)).1 : Int), vI ((c : Int) + 1), vU, vU, vU] [] s (PN K)) → cBest L (gh G p) (c + 1) = (cMany c, cSum L (gh G p) c, cOrd L (gh G p) c) → ∀ (d i : Nat) (s : Mem), i + d = 5 → (∀ j, j < 5 → s 95 j = (cOrd L (gh G p) c j : Int)) → (∀ j, j < i → s 96 j = (cOrd L (gh G p) c j : Int)) → (∀ b, b ≠ 95 → b ≠ 96 → s b = σ b) → TT m_X10_cut 64 [vR 80, vI (p : Int), vI (cSum L (gh G p) c), vI (cMany c : Int), vI (c : Int), vU, vU, vI (i : Int)] [] s (PN K) := by
    intro c hc6 next eb d
    rw [eb] at next
    induction d with
    | zero =>
      intro i s hi h95 h96 hfs
      have hi : i = 5 := by omega
      subst hi
      exact w_X10_cut_64 _ _ _ _ _ ⟨by decide, fun _ => next s h96 hfs, fun z => absurd (by decide) z⟩
    | succ d ih =>
      intro i s hi h95 h96 hfs
      refine w_X10_cut_64 _ _ _ _ _ ?_
      rw [Int.toNat_natCast, h95 i (by omega)]
      refine ⟨by omega, fun z => absurd z (by omega), fun _ => ⟨by omega, fun s33 e33 => ?_⟩⟩
      refine ih (i + 1) s33 (by omega) (fun j hj => by rw [e33, up_o1 (by decide)]; exact h95 j hj) (fun j hj => ?_) fun b b1 b2 => by rw [e33, up_cell b2]; exact hfs b b1 b2
      rw [e33]
      by_cases z : j = i
      · rw [z, up_at]
      · rw [up_o2 z]; exact h96 j (by omega)
  have ways : ∀ (d c : Nat) (s : Mem), c + d = 6 → (0 < c → ∀ i, i < 5 → s 96 i = ((cBest L (gh G p) c).2.2 i : Int)) → (∀ b, b ≠ 95 → b ≠ 96 → s b = σ b) → TT m_X10_cut 8 [vR 80, vI (p : Int), vI (cBest L (gh G p) c).2.1, vI ((cBest L (gh G p) c).1 : Int), vI (c : Int), vU, vU, vU] [] s (PN K) := by
    intro d
    induction d with
    | zero =>
      intro c s hc6 h96 hfs
      have hc6 : c = 6 := by omega
      subst hc6
      exact share s (h96 (by decide)) hfs
    | succ d ih =>
      intro c s hc6 h96 hfs
      have cb := cSum_bd l1 c
      have bb : R32 (cBest L (gh G p) c).2.1 := by
        rcases Nat.eq_zero_or_pos c with z | z
        · rw [z]; show R32 200000000; decide
        · have := (cBest_spec l1 c z).2.1; omega
      have em : cMany c = 2 ∨ cMany c = 3 := by unfold cMany; omega
      have cs9 : cSum L (gh G p) c = bS (fb L (cOrd L (gh G p) c) 0 (cMany c - 1)) + bS (fb L (cOrd L (gh G p) c) (cMany c) (4 - cMany c)) := rfl
      have e1 : Int.tdiv (c : Int) 2 = ((c / 2 : Nat) : Int) := rfl
      have e2 : 2 + Int.tmod (c : Int) 2 = ((cMany c : Nat) : Int) := by
        have : Int.tmod (c : Int) 2 = ((c % 2 : Nat) : Int) := rfl
        rw [this]; unfold cMany; omega
      have hL' : LgM s L n := hL.same (hfs 88 (by decide) (by decide))
      refine w_X10_cut_8 _ _ _ _ ⟨by omega, fun z => absurd z (by omega), fun _ => ?_⟩
      rw [e1, e2]
      refine d_sort (h := gh G p) (by omega) hn (by omega) hL' (by rw [hfs 94 (by decide) (by decide)]; exact fun i hi => g94 hf i (by omega)) hh fun s9 h95 f9 => ?_
      have h95 : ∀ j, j < 5 → s9 95 j = (cOrd L (gh G p) c j : Int) := h95
      have f9' : ∀ b, b ≠ 95 → b ≠ 96 → s9 b = σ b := fun b b1 b2 => by rw [f9 b b1, hfs b b1 b2]
      have hL9 : LgM s9 L n := hL'.same (f9 88 (by decide))
      have acc : cSum L (gh G p) c < (cBest L (gh G p) c).2.1 → TT m_X10_cut 64 [vR 80, vI (p : Int), vI (cSum L (gh G p) c), vI (cMany c : Int), vI (c : Int), vU, vU, vI 0] [] s9 (PN K) := by
        intro hlt
        have eb : cBest L (gh G p) (c + 1) = (cMany c, cSum L (gh G p) c, cOrd L (gh G p) c) := by simp only [cBest]; rw [if_pos hlt]
        exact copy c (by omega) (fun s' a b => ih (c + 1) s' (by omega) (fun _ => a) b) eb 5 0 s9 rfl h95 (fun j hj => absurd hj (by omega)) f9'
      have rej : ¬ cSum L (gh G p) c < (cBest L (gh G p) c).2.1 → TT m_X10_cut 8 [vR 80, vI (p : Int), vI (cBest L (gh G p) c).2.1, vI ((cBest L (gh G p) c).1 : Int), vI ((c : Int) + 1), vU, vU, vU] [] s9 (PN K) := by
        intro hlt
        have eb : cBest L (gh G p) (c + 1) = cBest L (gh G p) c := by simp only [cBest]; rw [if_neg hlt]
        have c0 : 0 < c := by
          rcases Nat.eq_zero_or_pos c with z | z
          · rw [z] at hlt cb
            exact absurd (show cSum L (gh G p) 0 < 200000000 by omega) hlt
          · exact z
        have := ih (c + 1) s9 (by omega) (fun _ => by rw [eb, f9 96 (by decide)]; exact h96 c0) f9'
        rw [eb] at this
        exact this
      have t1 := d_sizeT (σ := s9) (L := L) (a := 0) (m := cMany c - 1) (k := n) (o := cOrd L (gh G p) c) (K := fun y10 s11 => CC m_X10_sizeOf [vR 80, vI (cMany c : Int), vI 5] s11 (PI (fun y12 s13 => R32 (y10 + y12) ∧ R32 (cBest L (gh G p) c).2.1 ∧ (((cBest L (gh G p) c).2.1 ≤ (y10 + y12) → TT m_X10_cut 8 [vR 80, vI (p : Int), vI (cBest L (gh G p) c).2.1, vI ((cBest L (gh G p) c).1 : Int), vI ((c : Int) + 1), vU, vU, vU] [] s13 (PN K)) ∧ (¬ (cBest L (gh G p) c).2.1 ≤ (y10 + y12) → TT m_X10_cut 64 [vR 80, vI (p : Int), vI (y10 + y12), vI (cMany c : Int), vI (c : Int), vU, vU, vI 0] [] s13 (PN K)))))) (by omega) hn hL9 (fun i hi => ⟨h95 i hi, ord c i hi⟩) ?_
      · rw [show 0 + (cMany c - 1) + 1 = cMany c by omega] at t1
        exact t1
      have t2 := d_sizeT (σ := s9) (L := L) (a := cMany c) (m := 4 - cMany c) (k := n) (o := cOrd L (gh G p) c) (K := fun y12 s13 => R32 (bS (fb L (cOrd L (gh G p) c) 0 (cMany c - 1)) + y12) ∧ R32 (cBest L (gh G p) c).2.1 ∧ (((cBest L (gh G p) c).2.1 ≤ (bS (fb L (cOrd L (gh G p) c) 0 (cMany c - 1)) + y12) → TT m_X10_cut 8 [vR 80, vI (p : Int), vI (cBest L (gh G p) c).2.1, vI ((cBest L (gh G p) c).1 : Int), vI ((c : Int) + 1), vU, vU, vU] [] s13 (PN K)) ∧ (¬ (cBest L (gh G p) c).2.1 ≤ (bS (fb L (cOrd L (gh G p) c) 0 (cMany c - 1)) + y12) → TT m_X10_cut 64 [vR 80, vI (p : Int), vI (bS (fb L (cOrd L (gh G p) c) 0 (cMany c - 1)) + y12), vI (cMany c : Int), vI (c : Int), vU, vU, vI 0] [] s13 (PN K)))) (by omega) hn hL9 (fun i hi => ⟨h95 i hi, ord c i hi⟩) ?_
      · rw [show cMany c + (4 - cMany c) + 1 = 5 by omega] at t2
        exact t2
      rw [← cs9]
      exact ⟨by omega, bb, fun z => rej (by omega), fun z => acc (by omega)⟩
  exact e_X10_cut _ (ways 6 0 σ rfl (fun z => absurd z (by decide)) fun _ _ _ => rfl)
end TREEN
