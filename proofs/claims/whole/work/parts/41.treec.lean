/-! the class's pages -/
def LgC (σ : Mem) (L : Nat → Bx) (k : Nat) : Prop := ∀ l, l < k → bc σ 15 l (L l)
def PgC (σ : Mem) (G : PG) : Prop := σ 13 12 = (gm G : Int) ∧ ∀ p, p < gm G → (σ 18 p = (gf G p : Int) ∧ σ 20 p = (gc G p : Int)) ∧ (∀ i, i < gc G p → σ 19 (5 * p + i) = (gh G p i : Int)) ∧ (0 < gc G p → bc σ 17 p (gb G p))
theorem LgC.same {σ σ' : Mem} {L : Nat → Bx} {k : Nat} (h : LgC σ L k) (e : σ' 15 = σ 15) : LgC σ' L k := fun l hl j hj => by rw [e]; exact h l hl j hj
theorem PgC.same {σ σ' : Mem} {G : PG} (h : PgC σ G) (e : σ' 13 12 = σ 13 12) (e1 : σ' 17 = σ 17) (e2 : σ' 18 = σ 18) (e3 : σ' 19 = σ 19) (e4 : σ' 20 = σ 20) : PgC σ' G := by
  unfold PgC bc
  rw [e, e1, e2, e3, e4]
  exact h
theorem b14 : isB 14 := Or.inl rfl
theorem b16 : isB 16 := Or.inr (Or.inl rfl)
theorem b25 : isB 25 := Or.inr (Or.inr (Or.inl rfl))
theorem b27 : isB 27 := Or.inr (Or.inr (Or.inr rfl))
theorem n14 : bln 14 = 1380 := rfl
theorem n16 : bln 16 = 1380 := rfl
theorem n25 : bln 25 = 6 := rfl
theorem n27 : bln 27 = 6 := rfl
section TREEC
variable {σ : Mem} {L : Nat → Bx} {G : PG}
theorem c_hold {K : Mem → Prop} {p l k : Nat} (h5 : ∀ q, q < gm G → gc G q ≤ 5) (hm : gm G ≤ 230) (hk : k ≤ 230) (hG : PgC σ G) (hL : LgC σ L k) (hl : l < k) (hp : p < gm G) (hc : gc G p ≤ 4) (hb : 0 < gc G p → bok (gb G p)) (hlb : bok (L l)) (hK : ∀ σ', PgC σ' (hd L G p l) → (∀ b, b ≠ 17 → b ≠ 19 → b ≠ 20 → σ' b = σ b) → K σ') : CC m_X2_hold [vR 13, vI (p : Int), vI (l : Int)] σ (PN K) := by
  have n14 := n14
  have n16 := n16
  obtain ⟨g0, gp9⟩ := hG
  obtain ⟨⟨gf9, gc9⟩, gh9, gb9⟩ := gp9 p hp
  have fin : ∀ s, bc s 17 p (if gc G p = 0 then L l else bW (gb G p) (L l)) → fx σ s 17 p → TT m_X2_hold 49 [vR 13, vI (p : Int), vI (l : Int)] [] s (PN K) := by
    intro s hbs hf
    have of : ∀ b, b ≠ 17 → s b = σ b := fun b hb => funext fun i => hf b i (fun e => absurd e hb)
    have c20 : s 20 p = (gc G p : Int) := by rw [of 20 (by decide)]; exact gc9
    refine w_X2_hold_49 _ _ ?_
    rw [Int.toNat_natCast, c20, show ((p : Int) * 5 + (gc G p : Int)).toNat = 5 * p + gc G p by omega]
    refine ⟨by omega, by omega, fun s11 e11 s13 e13 => ?_⟩
    have c20b : s11 20 p = (gc G p : Int) := by rw [e11, up_o1 (by decide)]; exact c20
    rw [c20b] at e13
    have ec : ∀ q, gc (hd L G p l) q = if q = p then gc G p + 1 else gc G q := fun q => rfl
    have eb : ∀ q, gb (hd L G p l) q = if q = p then (if gc G p = 0 then L l else bW (gb G p) (L l)) else gb G q := fun q => rfl
    have eh : ∀ q, gh (hd L G p l) q = if q = p then stn (gh G p) (gc G p) l else gh G q := fun q => rfl
    refine hK s13 ⟨?_, fun q hq => ⟨⟨?_, ?_⟩, fun i hi => ?_, fun hq0 j hj => ?_⟩⟩ fun b b1 b2 b3 => ?_
    · rw [e13, up_o1 (by decide), e11, up_o1 (by decide), of 13 (by decide)]; exact g0
    · rw [e13, up_o1 (by decide), e11, up_o1 (by decide), of 18 (by decide)]; exact (gp9 q hq).1.1
    · rw [ec, e13]
      by_cases z : q = p
      · rw [if_pos z, z, up_at]; omega
      · rw [if_neg z, up_o2 z, e11, up_o1 (by decide), of 20 (by decide)]; exact (gp9 q hq).1.2
    · rw [ec] at hi
      rw [eh, e13, up_o1 (by decide), e11]
      by_cases z : q = p
      · rw [if_pos z] at hi ⊢
        by_cases w : i = gc G p
        · rw [z, w, up_at, stn_at]
        · rw [up_o2 (by omega), stn_ne w, of 19 (by decide), z]; exact gh9 i (by omega)
      · rw [if_neg z] at hi ⊢
        have := (gp9 q hq).2.1 i hi
        have c5 := h5 q hq
        rw [up_o2 (by omega), of 19 (by decide)]
        exact this
    · rw [ec] at hq0
      rw [eb, e13, up_o1 (by decide), e11, up_o1 (by decide)]
      by_cases z : q = p
      · rw [if_pos z, z]; exact hbs j hj
      · rw [if_neg z] at hq0 ⊢
        rw [hf 17 _ (fun _ => by omega)]
        exact (gp9 q hq).2.2 hq0 j hj
    · rw [e13, up_cell b3, e11, up_cell b2, of b b1]
  refine e_X2_hold _ _ ?_
  rw [Int.toNat_natCast, gc9]
  refine ⟨by omega, by omega, fun _ => ⟨fun z => ?_, fun z => ?_⟩, fun z => absurd (by omega) z⟩
  · refine c_widen (q0 := p) (q2 := l) b16 b14 (by decide) (by omega) (by omega) (hb (by omega)) hlb (gb9 (by omega)) (hL l hl) fun s hs hf => fin s ?_ hf
    rw [if_neg (by omega)]
    exact hs
  · refine c_copyB (q0 := p) (q2 := l) b16 b14 (by decide) (by omega) (by omega) (hL l hl) fun s hs hf => fin s ?_ hf
    rw [if_pos (by omega)]
    exact hs
theorem W1.c5 {x : Nat} (h : W1 G x) : ∀ q, q < gm G → gc G q ≤ 5 := fun q hq => by
  by_cases z : gf G q = 0
  · rcases h.2.2.1 q hq z with w | w <;> omega
  · have := (h.2.1 q hq z).2.2; omega
theorem c_partFor {K : Int → Mem → Prop} {p l k : Nat} {b : Nat → Bx} (hm : gm G ≤ 229) (hk : k ≤ 230) (hG : PgC σ (wb G b)) (hL : LgC σ L k) (hl : l < k) (hp : p < gm G) (hf : p < gf G p ∧ gf G p + 1 < gm G) (h1 : 0 < gc G (gf G p) ∧ bok (b (gf G p))) (h2 : 0 < gc G (gf G p + 1) ∧ bok (b (gf G p + 1))) (hlb : bok (L l)) (hK : ∀ c : Nat, c = (if grw (b (gf G p + 1)) (L l) < grw (b (gf G p)) (L l) then gf G p + 1 else gf G p) → K (c : Int) σ) : CC m_X2_partFor [vR 13, vI (p : Int), vI (l : Int)] σ (PI K) := by
  have n14 := n14
  have n16 := n16
  obtain ⟨g0, gp9⟩ := hG
  have e18 : σ 18 p = (gf G p : Int) := (gp9 p hp).1.1
  have b1 := grw_bd h1.2 hlb
  have b2 := grw_bd h2.2 hlb
  refine e_X2_partFor _ _ ?_
  rw [Int.toNat_natCast, e18]
  refine ⟨by omega, c_growth (q0 := gf G p) (q2 := l) b16 b14 (by omega) (by omega) h1.2 hlb ((gp9 (gf G p) (by show _ < gm G; omega)).2.2 h1.1) (hL l hl) ?_⟩
  rw [show (gf G p : Int) + 1 = ((gf G p + 1 : Nat) : Int) by omega]
  refine c_growth (q0 := gf G p + 1) (q2 := l) b16 b14 (by omega) (by omega) h2.2 hlb ((gp9 (gf G p + 1) (by show _ < gm G; omega)).2.2 h2.1) (hL l hl) ⟨by omega, by omega, ?_⟩
  by_cases z : grw (b (gf G p + 1)) (L l) < grw (b (gf G p)) (L l)
  · have := hK (gf G p + 1) (by rw [if_pos z])
    rw [if_neg (by omega)]
    exact this
  · have := hK (gf G p) (by rw [if_neg z])
    rw [if_pos (by omega)]
    exact this
theorem c_down {K : Int → Mem → Prop} {n x l k : Nat} {R : Nat × (Nat → Bx)} (h : WF L G n x) (hx : gm G ≤ x) (hm : gm G ≤ 229) (hk : k ≤ 230) (hl : l < k) (hlb : bok (L l)) (hK : ∀ σ' : Mem, PgC σ' (hd L (wb G R.2) R.1 l) → (∀ c, c ≠ 17 → c ≠ 19 → c ≠ 20 → σ' c = σ c) → K (R.1 : Int) σ') : ∀ (f p : Nat) (b : Nat → Bx) (s : Mem), JD G (L l) b p → p < gm G → 230 ≤ p + f → f ≤ 230 → dsc (gf G) (L l) f p b = R → PgC s (wb G b) → LgC s L k → (∀ c, c ≠ 17 → s c = σ c) → TT m_X2_takeLeg 66 [vR 13, vU, vU, vI (l : Int), vI (p : Int), vI (230 - (f : Int))] [] s (PI K) := by
  have n14 := n14
  have n16 := n16
  intro f
  induction f with
  | zero => intro p b s _ hp hf; omega
  | succ f ih =>
    intro p b s hJ hp hf hf2 he hG hL hs
    have e18 : s 18 p = (gf G p : Int) := (hG.2 p hp).1.1
    have gfl : gf G p < 230 := by
      by_cases z : gf G p = 0
      · omega
      · have := (h.1.2.1 p hp z).1; omega
    simp only [dsc] at he
    refine w_X2_takeLeg_66 _ _ _ ?_
    rw [Int.toNat_natCast, e18]
    refine ⟨by omega, fun z => absurd z (by omega), fun _ => ⟨by omega, by omega, fun z => ?_, fun z => ?_⟩⟩
    · have z : gf G p = 0 := by omega
      rw [if_pos z] at he
      refine w_X2_takeLeg_113 _ _ (c_hold (G := wb G b) (k := k) h.1.c5 (by show gm G ≤ 230; omega) hk hG hL hl hp ?_ (fun h0 => hJ.1 p hp h0) hlb fun σ' hG' hf' => ?_)
      · rcases h.1.2.2.1 p hp z with w | w
        · exact w
        · omega
      · rw [← he] at hK
        exact hK σ' hG' fun c c1 c2 c3 => by rw [hf' c c1 c2 c3, hs c c1]
    · have z : gf G p ≠ 0 := by omega
      rw [if_neg z] at he
      have w := h.1.2.1 p hp z
      have hc1 := h.1.2.2.2 (gf G p) (by omega) (by omega)
      have hc2 := h.1.2.2.2 (gf G p + 1) (by omega) (by omega)
      have hbp : 0 < gc G p := by omega
      refine c_widen (q0 := p) (q2 := l) b16 b14 (by decide) (by omega) (by omega) (hJ.1 p hp hbp) hlb ((hG.2 p hp).2.2 hbp) (hL l hl) fun s17 hb17 hf17 => ?_
      have of : ∀ c, c ≠ 17 → s17 c = s c := fun c hc => funext fun i => hf17 c i (fun e => absurd e hc)
      have hG17 : PgC s17 (wb G (stn b p (bW (b p) (L l)))) := by
        refine ⟨by rw [of 13 (by decide)]; exact hG.1, fun q hq => ⟨by rw [of 18 (by decide), of 20 (by decide)]; exact (hG.2 q hq).1, by rw [of 19 (by decide)]; exact (hG.2 q hq).2.1, fun hq0 j hj => ?_⟩⟩
        show s17 17 (6 * q + j) = stn b p (bW (b p) (L l)) q j
        by_cases e : q = p
        · rw [e, stn_at]; exact hb17 j hj
        · rw [stn_ne e, hf17 17 _ (fun _ => by omega)]; exact (hG.2 q hq).2.2 hq0 j hj
      have ne1 : gf G p ≠ p := by omega
      have ne2 : gf G p + 1 ≠ p := by omega
      refine c_partFor (b := stn b p (bW (b p) (L l))) hm hk hG17 (hL.same (of 15 (by decide))) hl hp w.1 ⟨by omega, by rw [stn_ne ne1]; exact hJ.1 _ (by omega) (by omega)⟩ ⟨by omega, by rw [stn_ne ne2]; exact hJ.1 _ (by omega) (by omega)⟩ hlb fun c hc => ?_
      rw [stn_ne ne1, stn_ne ne2] at hc
      have hcc : c = gf G p ∨ c = gf G p + 1 := by rw [hc]; split; exact Or.inr rfl; exact Or.inl rfl
      have := ih c (stn b p (bW (b p) (L l))) s17 (JD_step h hlb hJ hp z hcc) (by omega) (by omega) (by omega) (by rw [hc]; exact he) hG17 (hL.same (of 15 (by decide))) fun d hd => by rw [of d hd, hs d hd]
      rw [show (230 : Int) - ((f + 1 : Nat) : Int) + 1 = 230 - (f : Int) by omega]
      exact this
/-! cutting -/
theorem c_isAhead {A B : Mem → Prop} {x y ax k : Nat} (hx : x < k) (hy : y < k) (hk : k ≤ 230) (hax : ax < 3) (hL : LgC σ L k) (hxb : bok (L x)) (hyb : bok (L y)) (h1 : ahL L ax x y = true → A σ) (h0 : ahL L ax x y = false → B σ) : CC m_X2_isAhead [vR 13, vI (x : Int), vI (y : Int), vI (ax : Int)] σ (PZ A B) := by
  have n14 := n14
  have k1 := bok_k hxb hax
  have k2 := bok_k hyb hax
  have yes : (kS L ax x < kS L ax y ∨ (kS L ax x = kS L ax y ∧ x < y)) → A σ := fun z => h1 (decide_eq_true z)
  have no : ¬ (kS L ax x < kS L ax y ∨ (kS L ax x = kS L ax y ∧ x < y)) → B σ := fun z => h0 (decide_eq_false z)
  unfold kS at yes no
  refine e_X2_isAhead _ _ _ (c_endsSum (q0 := x) hax b14 (by omega) (hL x hx) (c_endsSum (q0 := y) hax b14 (by omega) (hL y hy) ⟨by omega, by omega, fun z => yes (Or.inl z), fun z => ⟨fun z2 => no (by omega), fun z2 => ⟨by omega, by omega, fun z3 => no (by omega), fun z3 => yes (by omega)⟩⟩⟩))
theorem c_sortA {K : Mem → Prop} {p ax k : Nat} {h : Nat → Nat} (hp : p < 230) (hk : k ≤ 230) (hax : ax < 3) (hL : LgC σ L k) (h19 : ∀ i, i < 5 → σ 19 (5 * p + i) = (h i : Int)) (hh : ∀ i, i < 5 → h i < k ∧ bok (L (h i))) (hK : ∀ σ', (∀ l, l < 5 → σ' 23 l = (srt (ahL L ax) h 5 l : Int)) → (∀ c, c ≠ 23 → σ' c = σ c) → K σ') : CC m_X2_sortAlong [vR 13, vI (p : Int), vI (ax : Int)] σ (PN K) := by
  have inner : ∀ (i : Nat), i < 5 → (∀ s, (∀ l, l < i + 1 → s 23 l = (srt (ahL L ax) h (i + 1) l : Int)) → (∀ c, c ≠ 23 → s c = σ c) → TT m_X2_sortAlong 2 [vR 13, vI (p : Int), vI (ax : Int), vI ((i : Int) + 1), vU, vU] [] s (PN K)) → ∀ (j : Nat) (s : Mem), j ≤ i → inp (ahL L ax) (srt (ahL L ax) h i) (h i) j = inp (ahL L ax) (srt (ahL L ax) h i) (h i) i → (∀ l, l < j → s 23 l = (srt (ahL L ax) h i l : Int)) → (∀ l, j < l → l ≤ i → s 23 l = (srt (ahL L ax) h i (l - 1) : Int)) → (∀ c, c ≠ 23 → s c = σ c) → TT m_X2_sortAlong 22 [vR 13, vI (p : Int), vI (ax : Int), vI (i : Int), vI (h i : Int), vI (j : Int)] [] s (PN K) := by
    intro i hi next j
    have fin : ∀ (j : Nat) (s s7 : Mem), j ≤ i → inp (ahL L ax) (srt (ahL L ax) h i) (h i) i = j → (∀ l, l < j → s 23 l = (srt (ahL L ax) h i l : Int)) → (∀ l, j < l → l ≤ i → s 23 l = (srt (ahL L ax) h i (l - 1) : Int)) → (∀ c, c ≠ 23 → s c = σ c) → s7 = up s 23 j (h i : Int) → TT m_X2_sortAlong 2 [vR 13, vI (p : Int), vI (ax : Int), vI ((i : Int) + 1), vU, vU] [] s7 (PN K) := by
      intro j s s7 hj he h1 h2 hf e7
      refine next s7 (fun l hl => ?_) fun c hc => by rw [e7, up_cell hc]; exact hf c hc
      simp only [srt]
      rw [he, e7]
      rcases Nat.lt_trichotomy l j with z | z | z
      · rw [ins_lt z, up_o2 (by omega)]; exact h1 l z
      · rw [z, ins_at, up_at]
      · rw [ins_gt z, up_o2 (by omega)]; exact h2 l z (by omega)
    induction j with
    | zero =>
      intro s hj he h1 h2 hf
      refine w_X2_sortAlong_22 _ _ _ _ _ ⟨by decide, fun _ => ⟨by decide, fun s7 e7 => fin 0 s s7 hj he.symm h1 h2 hf e7⟩, fun z => absurd (by decide) z⟩
    | succ j ih =>
      intro s hj he h1 h2 hf
      obtain ⟨m, m1, m2⟩ := srt_mem (ahL L ax) h i j (by omega)
      have hm := hh m (by omega)
      have ee := he
      simp only [inp] at ee
      refine w_X2_sortAlong_22 _ _ _ _ _ ?_
      rw [show (((j + 1 : Nat) : Int) - 1).toNat = j by omega, h1 j (by omega), Int.toNat_natCast]
      refine ⟨by omega, fun z => absurd z (by omega), fun _ => ⟨by omega, ?_⟩⟩
      refine c_isAhead (hh i hi).1 (by rw [m2]; exact hm.1) hk hax (hL.same (hf 15 (by decide))) (hh i hi).2 (by rw [m2]; exact hm.2) (fun hv => ⟨by omega, fun s15 e15 => ?_⟩) (fun hv => ⟨by omega, fun s19 e19 => ?_⟩)
      · rw [if_pos hv] at ee
        rw [h1 j (by omega)] at e15
        rw [show ((j + 1 : Nat) : Int) + -1 = (j : Int) by omega]
        refine ih s15 (by omega) ee (fun l hl => ?_) (fun l l1 l2 => ?_) fun c hc => by rw [e15, up_cell hc]; exact hf c hc
        · rw [e15, up_o2 (by omega)]; exact h1 l (by omega)
        · rw [e15]
          by_cases z : l = j + 1
          · rw [z, up_at]; rfl
          · rw [up_o2 z]; exact h2 l (by omega) l2
      · rw [if_neg (by rw [hv]; decide)] at ee
        exact fin (j + 1) s s19 hj ee.symm h1 h2 hf e19
  have outer : ∀ (d i : Nat) (s : Mem), i + d = 5 → (∀ l, l < i → s 23 l = (srt (ahL L ax) h i l : Int)) → (∀ c, c ≠ 23 → s c = σ c) → TT m_X2_sortAlong 2 [vR 13, vI (p : Int), vI (ax : Int), vI (i : Int), vU, vU] [] s (PN K) := by
    intro d
    induction d with
    | zero =>
      intro i s hi h1 hf
      have hi : i = 5 := by omega
      subst hi
      exact w_X2_sortAlong_2 _ _ _ ⟨by decide, fun _ => hK s h1 hf, fun z => absurd (by decide) z⟩
    | succ d ih =>
      intro i s hi h1 hf
      refine w_X2_sortAlong_2 _ _ _ ?_
      rw [show ((p : Int) * 5 + (i : Int)).toNat = 5 * p + i by omega, hf 19 (by decide), h19 i (by omega)]
      refine ⟨by omega, fun z => absurd z (by omega), fun _ => ⟨by omega, ?_⟩⟩
      exact inner i (by omega) (fun s2 a b => ih (i + 1) s2 (by omega) a b) i s (Nat.le_refl i) rfl h1 (fun l a b => absurd a (by omega)) hf
  exact e_X2_sortAlong _ _ (outer 5 0 σ rfl (fun l h => absurd h (by omega)) fun _ _ => rfl)
theorem c_sizeT {K : Int → Mem → Prop} {a m k : Nat} {o : Nat → Nat} (ham : a + m < 5) (hk : k ≤ 230) (hL : LgC σ L k) (ho : ∀ i, i < 5 → σ 23 i = (o i : Int) ∧ o i < k ∧ bok (L (o i))) (hK : ∀ σ', (∀ c, c ≠ 26 → σ' c = σ c) → K (bS (fb L o a m)) σ') : CC m_X2_sizeTogether [vR 13, vI (a : Int), vI ((a + m + 1 : Nat) : Int)] σ (PI K) := by
  have n14 := n14
  have n25 := n25
  have loop : ∀ (d i : Nat) (s : Mem), i + d = m → bc s 26 0 (fb L o a i) → (∀ c, c ≠ 26 → s c = σ c) → TT m_X2_sizeTogether 22 [vR 13, vU, vI ((a + m + 1 : Nat) : Int), vI ((a + i + 1 : Nat) : Int)] [] s (PI K) := by
    intro d
    induction d with
    | zero =>
      intro i s hi hb hf
      have hi : i = m := by omega
      subst hi
      refine w_X2_sizeTogether_22 _ _ ⟨by omega, by omega, fun _ => ?_, fun z => absurd (Int.le_refl _) z⟩
      exact c_sizeOf (q0 := 0) b25 (by omega) hb (hK s hf)
    | succ d ih =>
      intro i s hi hb hf
      have oi := ho (a + i + 1) (by omega)
      have ok : bok (fb L o a i) := fb_ok fun j hj => (ho (a + j) (by omega)).2.2
      refine w_X2_sizeTogether_22 _ _ ?_
      rw [Int.toNat_natCast, hf 23 (by decide), oi.1]
      refine ⟨by omega, by omega, fun z => absurd z (by omega), fun _ => ⟨by omega, ?_⟩⟩
      refine c_widen (q0 := 0) (q2 := o (a + i + 1)) b25 b14 (by decide) (by omega) (by omega) ok oi.2.2 hb ((hL.same (hf 15 (by decide))) _ oi.2.1) fun s11 hb11 hf11 => ?_
      have := ih (i + 1) s11 (by omega) hb11 fun c hc => by rw [← hf c hc]; exact funext fun j => hf11 c j (fun e => absurd e hc)
      rw [show ((a + (i + 1) + 1 : Nat) : Int) = ((a + i + 1 : Nat) : Int) + 1 by omega] at this
      exact this
  have oa := ho a (by omega)
  refine e_X2_sizeTogether _ _ ?_
  rw [Int.toNat_natCast, oa.1]
  refine ⟨by omega, c_copyB (q0 := 0) (q2 := o a) b25 b14 (by decide) (by omega) (by omega) (hL _ oa.2.1) fun s3 hb3 hf3 => ?_⟩
  exact loop m 0 s3 (by omega) hb3 fun c hc => funext fun j => hf3 c j (fun e => absurd e hc)
def stC (L : Nat → Bx) (h : Nat → Nat) (c : Nat) (s : Mem) (x2 x3 : Int) : Prop := (c = 0 → x2 = 0) ∧ (0 < c → x2 = ((cBest L h c).1 : Int) ∧ x3 = (cBest L h c).2.1 ∧ ∀ i, i < 5 → s 24 i = ((cBest L h c).2.2 i : Int))
theorem c_choose {K : Int → Mem → Prop} {p k : Nat} {h : Nat → Nat} (hp : p < 230) (hk : k ≤ 230) (hL : LgC σ L k) (h19 : ∀ i, i < 5 → σ 19 (5 * p + i) = (h i : Int)) (hh : ∀ i, i < 5 → h i < k ∧ bok (L (h i))) (hK : ∀ σ', (∀ i, i < 5 → σ' 24 i = ((cBest L h 6).2.2 i : Int)) → (∀ c, c ≠ 23 → c ≠ 24 → c ≠ 26 → σ' c = σ c) → K ((cBest L h 6).1 : Int) σ') : CC m_X2_chooseCut [vR 13, vI (p : Int)] σ (PI K) := by
  have ord : ∀ c i, i < 5 → cOrd L h c i < k ∧ bok (L (cOrd L h c i)) := fun c i hi => by
    obtain ⟨j, j1, j2⟩ := srt_mem (ahL L (c / 2)) h 5 i hi
    unfold cOrd
    rw [j2]
    exact hh j j1
  have one : ∀ (ax m c : Nat) (s : Mem) (x2 x3 : Int), ax < 3 → (m = 2 ∨ m = 3) → c = 2 * ax + (m - 2) → stC L h c s x2 x3 → (∀ i, i < 5 → s 23 i = (cOrd L h c i : Int)) → (∀ c, c ≠ 23 → c ≠ 24 → c ≠ 26 → s c = σ c) → (∀ (s' : Mem) (x2' x3' : Int), stC L h (c + 1) s' x2' x3' → (∀ i, i < 5 → s' 23 i = (cOrd L h c i : Int)) → (∀ c, c ≠ 23 → c ≠ 24 → c ≠ 26 → s' c = σ c) → TT m_X2_chooseCut 23 [vR 13, vI (p : Int), vI x2', vI x3', vI (ax : Int), vI ((m : Int) + 1), vU] [] s' (PI K)) → TT m_X2_chooseCut 23 [vR 13, vI (p : Int), vI x2, vI x3, vI (ax : Int), vI (m : Int), vU] [] s (PI K) := by
    intro ax m c s x2 x3 hax hm hc hst h23 hf next
    have em : cMany c = m := by unfold cMany; omega
    have hL' : LgC s L k := hL.same (hf 15 (by decide) (by decide) (by decide))
    have cb := cSum_bd (fun i hi => (hh i hi).2) c
    have cs9 : cSum L h c = bS (fb L (cOrd L h c) 0 (m - 1)) + bS (fb L (cOrd L h c) m (4 - m)) := by unfold cSum; rw [em]
    refine w_X2_chooseCut_23 _ _ _ _ _ ⟨by omega, fun z => absurd z (by omega), fun _ => ?_⟩
    have t1 := c_sizeT (σ := s) (L := L) (a := 0) (m := m - 1) (k := k) (o := cOrd L h c) (K := fun y7 s8 => CC m_X2_sizeTogether [vR 13, vI (m : Int), vI 5] s8 (PI (fun y9 s10 => R32 x2 ∧ ((x2 = 0 → TT m_X2_chooseCut 56 [vR 13, vI (p : Int), vU, vU, vI (ax : Int), vI (m : Int), vI (y7 + y9)] [] s10 (PI K)) ∧ (¬ x2 = 0 → R32 (y7 + y9) ∧ R32 x3 ∧ ((x3 ≤ (y7 + y9) → TT m_X2_chooseCut 23 [vR 13, vI (p : Int), vI x2, vI x3, vI (ax : Int), vI ((m : Int) + 1), vU] [] s10 (PI K)) ∧ (¬ x3 ≤ (y7 + y9) → TT m_X2_chooseCut 56 [vR 13, vI (p : Int), vU, vU, vI (ax : Int), vI (m : Int), vI (y7 + y9)] [] s10 (PI K)))))))) (by omega) hk hL' (fun i hi => ⟨h23 i hi, ord c i hi⟩) (fun s8 hf8 => ?_)
    · rw [show 0 + (m - 1) + 1 = m by omega] at t1
      exact t1
    have h23' : ∀ i, i < 5 → s8 23 i = (cOrd L h c i : Int) := fun i hi => by rw [hf8 23 (by decide)]; exact h23 i hi
    have t2 := c_sizeT (σ := s8) (L := L) (a := m) (m := 4 - m) (k := k) (o := cOrd L h c) (K := fun y9 s10 => R32 x2 ∧ ((x2 = 0 → TT m_X2_chooseCut 56 [vR 13, vI (p : Int), vU, vU, vI (ax : Int), vI (m : Int), vI (bS (fb L (cOrd L h c) 0 (m - 1)) + y9)] [] s10 (PI K)) ∧ (¬ x2 = 0 → R32 (bS (fb L (cOrd L h c) 0 (m - 1)) + y9) ∧ R32 x3 ∧ ((x3 ≤ (bS (fb L (cOrd L h c) 0 (m - 1)) + y9) → TT m_X2_chooseCut 23 [vR 13, vI (p : Int), vI x2, vI x3, vI (ax : Int), vI ((m : Int) + 1), vU] [] s10 (PI K)) ∧ (¬ x3 ≤ (bS (fb L (cOrd L h c) 0 (m - 1)) + y9) → TT m_X2_chooseCut 56 [vR 13, vI (p : Int), vU, vU, vI (ax : Int), vI (m : Int), vI (bS (fb L (cOrd L h c) 0 (m - 1)) + y9)] [] s10 (PI K)))))) (by omega) hk (hL'.same (hf8 15 (by decide))) (fun i hi => ⟨h23' i hi, ord c i hi⟩) (fun s10 hf10 => ?_)
    · rw [show m + (4 - m) + 1 = 5 by omega] at t2
      exact t2
    rw [← cs9]
    have f10 : ∀ c, c ≠ 23 → c ≠ 24 → c ≠ 26 → s10 c = σ c := fun c c1 c2 c3 => by rw [hf10 c c3, hf8 c c3, hf c c1 c2 c3]
    have h2310 : ∀ i, i < 5 → s10 23 i = (cOrd L h c i : Int) := fun i hi => by rw [hf10 23 (by decide)]; exact h23' i hi
    have h2410 : s10 24 = s 24 := by rw [hf10 24 (by decide), hf8 24 (by decide)]
    have acc : cSum L h c < (cBest L h c).2.1 → TT m_X2_chooseCut 56 [vR 13, vI (p : Int), vU, vU, vI (ax : Int), vI (m : Int), vI (cSum L h c)] [] s10 (PI K) := by
      intro hlt
      have eb : cBest L h (c + 1) = (cMany c, cSum L h c, cOrd L h c) := by simp only [cBest]; rw [if_pos hlt]
      refine w_X2_chooseCut_56 _ _ _ _ fun s16 e16 => ?_
      refine next s16 _ _ ⟨fun z => absurd z (by omega), fun _ => ?_⟩ (fun i hi => ?_) fun c c1 c2 c3 => ?_
      · rw [eb]
        refine ⟨by show (m : Int) = (cMany c : Int); rw [em], rfl, fun i hi => ?_⟩
        show s16 24 i = (cOrd L h c i : Int)
        rw [e16, ← h2310 i hi]
        simp [mcpy, hi]
      · rw [e16, ← h2310 i hi]
        simp [mcpy]
      · rw [← f10 c c1 c2 c3, e16]
        funext j
        simp [mcpy, c2]
    have rej : ¬ cSum L h c < (cBest L h c).2.1 → 0 < c → TT m_X2_chooseCut 23 [vR 13, vI (p : Int), vI x2, vI x3, vI (ax : Int), vI ((m : Int) + 1), vU] [] s10 (PI K) := by
      intro hlt hc0
      have eb : cBest L h (c + 1) = cBest L h c := by simp only [cBest]; rw [if_neg hlt]
      refine next s10 _ _ ⟨fun z => absurd z (by omega), fun _ => ?_⟩ h2310 f10
      rw [eb, h2410]
      exact hst.2 hc0
    rcases Nat.eq_zero_or_pos c with z | z
    · have x20 := hst.1 z
      refine ⟨by omega, fun _ => acc ?_, fun w => absurd x20 w⟩
      rw [z]
      show cSum L h 0 < 200000000
      rw [z] at cb
      omega
    · obtain ⟨s1, s2, s3⟩ := hst.2 z
      have sp := cBest_spec (fun i hi => (hh i hi).2) c z
      exact ⟨by omega, fun w => absurd w (by omega), fun _ => ⟨by omega, by omega, fun w => rej (by omega) z, fun w => acc (by omega)⟩⟩
  have outer : ∀ (d ax : Nat) (s : Mem) (x2 x3 : Int), ax + d = 3 → stC L h (2 * ax) s x2 x3 → (∀ c, c ≠ 23 → c ≠ 24 → c ≠ 26 → s c = σ c) → TT m_X2_chooseCut 7 [vR 13, vI (p : Int), vI x2, vI x3, vI (ax : Int), vU, vU] [] s (PI K) := by
    intro d
    induction d with
    | zero =>
      intro ax s x2 x3 hax hst hf
      have hax : ax = 3 := by omega
      subst hax
      obtain ⟨s1, s2, s3⟩ := hst.2 (by decide)
      refine w_X2_chooseCut_7 _ _ _ _ ⟨by decide, fun _ => ?_, fun z => absurd (by decide) z⟩
      rw [s1]
      exact hK s s3 hf
    | succ d ih =>
      intro ax s x2 x3 hax hst hf
      refine w_X2_chooseCut_7 _ _ _ _ ⟨by omega, fun z => absurd z (by omega), fun _ => ?_⟩
      refine c_sortA (h := h) hp hk (by omega) (hL.same (hf 15 (by decide) (by decide) (by decide))) (by rw [hf 19 (by decide) (by decide) (by decide)]; exact h19) hh fun s4 h4 f4 => ?_
      have f4' : ∀ c, c ≠ 23 → c ≠ 24 → c ≠ 26 → s4 c = σ c := fun c c1 c2 c3 => by rw [f4 c c1, hf c c1 c2 c3]
      have o1 : ∀ i, i < 5 → s4 23 i = (cOrd L h (2 * ax) i : Int) := fun i hi => by unfold cOrd; rw [show 2 * ax / 2 = ax by omega]; exact h4 i hi
      have o2 : cOrd L h (2 * ax) = cOrd L h (2 * ax + 1) := by unfold cOrd; rw [show 2 * ax / 2 = ax by omega, show (2 * ax + 1) / 2 = ax by omega]
      have hst4 : stC L h (2 * ax) s4 x2 x3 := by
        refine ⟨hst.1, fun z => ?_⟩
        rw [f4 24 (by decide)]
        exact hst.2 z
      refine one ax 2 (2 * ax) s4 x2 x3 (by omega) (Or.inl rfl) (by omega) hst4 o1 f4' fun s5 y2 y3 hst5 h5 f5 => ?_
      rw [o2] at h5
      refine one ax 3 (2 * ax + 1) s5 y2 y3 (by omega) (Or.inr rfl) (by omega) hst5 h5 f5 fun s6 z2 z3 hst6 h6 f6 => ?_
      refine w_X2_chooseCut_23 _ _ _ _ _ ⟨by decide, fun _ => ih (ax + 1) s6 z2 z3 (by omega) hst6 f6, fun z => absurd (by decide) z⟩
  exact e_X2_chooseCut _ (outer 3 0 σ 0 0 rfl ⟨fun _ => rfl, fun z => absurd z (by decide)⟩ fun _ _ _ _ => rfl)
end TREEC
