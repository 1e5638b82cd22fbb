section TREEW
variable {L : Nat → Bx} {G : PG} {n x : Nat}
theorem wt_nn (h : WF L G n x) (h1 : 1 < gm G) : ∀ k, k < gm G → 0 ≤ wt G k := by
  intro k hk
  unfold wt
  by_cases z : gf G k = 0
  · rw [if_pos z]
    have k0 : 0 < k := by
      rcases Nat.eq_zero_or_pos k with w | w
      · subst w; exact absurd z (root_fork h.1 h.2.1 h1)
      · exact w
    have := h.1.2.2.2 k hk k0
    omega
  · rw [if_neg z]; exact Int.le_refl 0
theorem WF_bd (h : WF L G n x) (hn : n ≤ 230) : gm G ≤ 229 := by
  rcases Nat.lt_or_ge 1 (gm G) with z | z
  · have a := sn_nn (wt_nn h z)
    rw [h.2.2.2.2] at a
    omega
  · omega
theorem WF_cut (h : WF L G n x) (hn : n ≤ 230) {p : Nat} (hp : p < gm G) (hf : gf G p = 0) (hc : gc G p = 5) : gm G + 2 ≤ 230 := by
  rcases Nat.lt_or_ge 1 (gm G) with z | z
  · have a := sn_ge hp (wt_nn h z)
    rw [h.2.2.2.2] at a
    have e : wt G p = 3 := by unfold wt; rw [if_pos hf, hc]; rfl
    omega
  · omega
/-- on the way down -/
def JD (G : PG) (l : Bx) (b : Nat → Bx) (p : Nat) : Prop := (∀ q, q < gm G → 0 < gc G q → bok (b q)) ∧ (∀ q, q < gm G → gf G q ≠ 0 → (bsub (b (gf G q)) (b q) ∧ bsub (b (gf G q + 1)) (b q)) ∧ (p = gf G q ∨ p = gf G q + 1 → bsub l (b q))) ∧ ∀ q, bsub (gb G q) (b q)
theorem JD_step {l : Bx} {b : Nat → Bx} {p c : Nat} (h : WF L G n x) (hl : bok l) (hJ : JD G l b p) (hp : p < gm G) (hf : gf G p ≠ 0) (hc : c = gf G p ∨ c = gf G p + 1) : JD G l (stn b p (bW (b p) l)) c := by
  obtain ⟨⟨-, w2, -, -⟩, ⟨u1, -, -, -⟩, -, -⟩ := h
  obtain ⟨j1, j2, j3⟩ := hJ
  have wp := w2 p hp hf
  refine ⟨fun q hq hq0 => ?_, fun q hq hqf => ?_, fun q => ?_⟩
  · by_cases z : q = p
    · subst z; rw [stn_at]; exact (j1 q hq hq0).W hl
    · rw [stn_ne z]; exact j1 q hq hq0
  · have wq := w2 q hq hqf
    have jq := j2 q hq hqf
    by_cases z : q = p
    · subst z
      rw [stn_at, stn_ne (show gf G q ≠ q by omega), stn_ne (show gf G q + 1 ≠ q by omega)]
      exact ⟨⟨jq.1.1.tr (bsub_W1 _ _), jq.1.2.tr (bsub_W1 _ _)⟩, fun _ => bsub_W2 _ _⟩
    · rw [stn_ne z]
      have kid : ∀ d, (d = gf G q ∨ d = gf G q + 1) → bsub (b d) (b q) → bsub (stn b p (bW (b p) l) d) (b q) := by
        intro d hd hs
        by_cases e : d = p
        · rw [e, stn_at]
          rw [e] at hs hd
          exact hs.W (jq.2 hd)
        · rw [stn_ne e]; exact hs
      refine ⟨⟨kid _ (Or.inl rfl) jq.1.1, kid _ (Or.inr rfl) jq.1.2⟩, fun hcq => ?_⟩
      have := u1 p q hp hq hf
      exact absurd (this (by omega)) (Ne.symm z)
  · by_cases z : q = p
    · subst z; rw [stn_at]; exact (j3 q).tr (bsub_W1 _ _)
    · rw [stn_ne z]; exact j3 q
theorem JD_start {l : Bx} (h : WF L G n x) : JD G l (gb G) 0 := ⟨h.2.2.1.1, fun q hq hf => ⟨h.2.2.1.2.1 q hq hf, fun e => absurd e (by have := (h.1.2.1 q hq hf).1; omega)⟩, fun q => bsub.rf _⟩
theorem dsc_spec {l : Bx} (h : WF L G n x) (hl : bok l) (hn : gm G ≤ 229) : ∀ (k p : Nat) (b : Nat → Bx), JD G l b p → p < gm G → 230 ≤ p + k → JD G l (dsc (gf G) l k p b).2 (dsc (gf G) l k p b).1 ∧ (dsc (gf G) l k p b).1 < gm G ∧ gf G (dsc (gf G) l k p b).1 = 0 := by
  intro k
  induction k with
  | zero => intro p b _ hp hk; omega
  | succ k ih =>
    intro p b hJ hp hk
    simp only [dsc]
    by_cases z : gf G p = 0
    · rw [if_pos z]
      exact ⟨hJ, hp, z⟩
    · rw [if_neg z]
      have w := (h.1.2.1 p hp z).1
      have hc : ∀ c, c = (if grw (b (gf G p + 1)) l < grw (b (gf G p)) l then gf G p + 1 else gf G p) → (c = gf G p ∨ c = gf G p + 1) := by
        intro c e
        rw [e]
        split
        · exact Or.inr rfl
        · exact Or.inl rfl
      have hc := hc _ rfl
      exact ih _ _ (JD_step h hl hJ hp z hc) (by omega) (by omega)
theorem tkL_wf (h : WF L G n (gm G)) (hn : n + 1 ≤ 230) (hl : bok (L n)) : WF L (tkL L G n).2 (n + 1) (tkL L G n).1 ∧ (tkL L G n).1 < gm (tkL L G n).2 ∧ gf (tkL L G n).2 (tkL L G n).1 = 0 ∧ 1 ≤ gc (tkL L G n).2 (tkL L G n).1 := by
  have hb := WF_bd h (by omega)
  have h1g := h.1.1.1
  obtain ⟨hJ, hp, hf⟩ := dsc_spec h hl hb 230 0 (gb G) (JD_start h) (by omega) (by omega)
  unfold tkL
  generalize dsc (gf G) (L n) 230 0 (gb G) = r at hJ hp hf
  obtain ⟨p, b⟩ := r
  have hJ : JD G (L n) b p := hJ
  have hp : p < gm G := hp
  have hf : gf G p = 0 := hf
  obtain ⟨⟨w1, w2, w3, w4⟩, ⟨u1, u2, u3, u4⟩, ⟨v1, v2, v3⟩, ⟨t1, t2⟩⟩ := h
  obtain ⟨j1, j2, j3⟩ := hJ
  have c4 : gc G p ≤ 4 := by
    rcases w3 p hp hf with z | z
    · exact z
    · omega
  have ec : ∀ q, gc (hd L (wb G b) p n) q = if q = p then gc G p + 1 else gc G q := fun q => rfl
  have eb : ∀ q, gb (hd L (wb G b) p n) q = if q = p then (if gc G p = 0 then L n else bW (b p) (L n)) else b q := fun q => rfl
  have eh : ∀ q, gh (hd L (wb G b) p n) q = if q = p then stn (gh G p) (gc G p) n else gh G q := fun q => rfl
  have ef : gf (hd L (wb G b) p n) = gf G := rfl
  have em : gm (hd L (wb G b) p n) = gm G := rfl
  have ep : gp (hd L (wb G b) p n) = gp G := rfl
  show WF L (hd L (wb G b) p n) (n + 1) p ∧ p < gm G ∧ gf G p = 0 ∧ 1 ≤ gc (hd L (wb G b) p n) p
  refine ⟨⟨⟨by rw [em]; exact w1, fun q hq hqf => ?_, fun q hq hqf => ?_, fun q hq hq0 => ?_⟩, ⟨by rw [em, ef]; exact u1, by rw [em, ef]; exact u2, by rw [ep]; exact u3, by rw [em, ef, ep]; exact u4⟩, ⟨fun q hq hq0 => ?_, fun q hq hqf => ?_, fun q hq i hi => ?_⟩, ⟨by unfold lfB; rw [em, ef]; exact t1, ?_⟩⟩, hp, hf, by rw [ec, if_pos rfl]; omega⟩
  · rw [em] at hq ⊢
    rw [ef] at hqf ⊢
    rw [ec, if_neg (fun e => hqf (by rw [e]; exact hf))]
    exact w2 q hq hqf
  · rw [em] at hq
    rw [ef] at hqf
    rw [ec]
    by_cases z : q = p
    · rw [if_pos z]; omega
    · rw [if_neg z]
      rcases w3 q hq hqf with w | w
      · exact Or.inl w
      · omega
  · rw [em] at hq
    rw [ec]
    have := w4 q hq hq0
    by_cases z : q = p
    · rw [if_pos z, ← z]; omega
    · rw [if_neg z]; exact this
  · rw [em] at hq
    rw [ec] at hq0
    rw [eb]
    by_cases z : q = p
    · rw [if_pos z]
      by_cases w : gc G p = 0
      · rw [if_pos w]; exact hl
      · rw [if_neg w]; exact (j1 p hp (by omega)).W hl
    · rw [if_neg z] at hq0 ⊢
      exact j1 q hq hq0
  · rw [em] at hq
    rw [ef] at hqf ⊢
    have jq := j2 q hq hqf
    have qp : q ≠ p := fun e => hqf (by rw [e]; exact hf)
    have kid : ∀ d, (d = gf G q ∨ d = gf G q + 1) → bsub (b d) (b q) → bsub (gb (hd L (wb G b) p n) d) (b q) := by
      intro d hd hs
      rw [eb]
      by_cases e : d = p
      · rw [if_pos e]
        rw [e] at hs hd
        have hs2 := jq.2 hd
        split
        · exact hs2
        · exact hs.W hs2
      · rw [if_neg e]; exact hs
    rw [eb q, if_neg qp]
    exact ⟨kid _ (Or.inl rfl) jq.1.1, kid _ (Or.inr rfl) jq.1.2⟩
  · rw [em] at hq
    rw [ec] at hi
    rw [eh, eb]
    by_cases z : q = p
    · rw [if_pos z] at hi ⊢
      rw [if_pos z]
      have big : ∀ s : Bx, bsub s (b p) → (gc G p = 0 → False) → bsub s (if gc G p = 0 then L n else bW (b p) (L n)) := fun s hs hne => by
        rw [if_neg (fun e => hne e)]
        exact hs.tr (bsub_W1 _ _)
      by_cases w : i = gc G p
      · rw [w, stn_at]
        refine ⟨by omega, ?_⟩
        split
        · exact bsub.rf _
        · exact bsub_W2 _ _
      · rw [stn_ne w]
        have := v3 p hp i (by omega)
        exact ⟨by omega, big _ (this.2.tr (j3 p)) (by omega)⟩
    · rw [if_neg z] at hi ⊢
      rw [if_neg z]
      have := v3 q hq i hi
      exact ⟨by omega, this.2.tr (j3 q)⟩
  · rw [em, sn_one (f := wt G) (p := p) hp (fun k hk hkp => by unfold wt; rw [ef, ec, if_neg hkp]), t2]
    have e1 : wt G p = (gc G p : Int) - 2 := by unfold wt; rw [if_pos hf]
    have e2 : wt (hd L (wb G b) p n) p = (gc G p : Int) + 1 - 2 := by unfold wt; rw [ef, if_pos hf, ec, if_pos rfl]; omega
    rw [e1, e2]
    omega
/-- the legs of a leaf are shared out to two new leaves -/
def HN (L : Nat → Bx) (G H : PG) (p n many i : Nat) : Prop := gm H = gm G + 2 ∧ gf H = stn (stn (gf G) (gm G) 0) (gm G + 1) 0 ∧ (∀ q, q ≠ gm G → q ≠ gm G + 1 → gc H q = gc G q ∧ gh H q = gh G q ∧ gb H q = gb G q ∧ gp H q = gp G q) ∧ (gc H (gm G) = min i many ∧ gc H (gm G + 1) = i - min i many) ∧ (gp H (gm G) = gp G p + 1 ∧ gp H (gm G + 1) = gp G p + 1) ∧ ∀ c, (c = gm G ∨ c = gm G + 1) → (0 < gc H c → bok (gb H c) ∧ bsub (gb H c) (gb G p)) ∧ ∀ j, j < gc H c → gh H c j < n ∧ bsub (L (gh H c j)) (gb H c)
theorem hdN_spec {p many : Nat} {o : Nat → Nat} (hm : many = 2 ∨ many = 3) (ho : ∀ i, i < 5 → bok (L (o i)) ∧ bsub (L (o i)) (gb G p) ∧ o i < n) : ∀ i, i ≤ 5 → HN L G (hdN L (nl2 G p) (gm G) many o i) p n many i
  | 0, _ => by
    show HN L G (nl2 G p) p n many 0
    have c1 : gc (nl2 G p) (gm G) = 0 := by show stn (stn (gc G) (gm G) 0) (gm G + 1) 0 (gm G) = 0; rw [stn_ne (by omega), stn_at]
    have c2 : gc (nl2 G p) (gm G + 1) = 0 := by show stn (stn (gc G) (gm G) 0) (gm G + 1) 0 (gm G + 1) = 0; rw [stn_at]
    refine ⟨rfl, rfl, fun q h1 h2 => ⟨?_, rfl, rfl, ?_⟩, ⟨by rw [c1]; omega, by rw [c2]; omega⟩, ⟨?_, ?_⟩, fun c hc => ?_⟩
    · show stn (stn (gc G) (gm G) 0) (gm G + 1) 0 q = _
      rw [stn_ne h2, stn_ne h1]
    · show stn (stn (gp G) (gm G) _) (gm G + 1) _ q = _
      rw [stn_ne h2, stn_ne h1]
    · show stn (stn (gp G) (gm G) _) (gm G + 1) _ (gm G) = _
      rw [stn_ne (by omega), stn_at]
    · show stn (stn (gp G) (gm G) _) (gm G + 1) _ (gm G + 1) = _
      rw [stn_at]
    · have : gc (nl2 G p) c = 0 := by rcases hc with rfl | rfl <;> assumption
      exact ⟨fun z => absurd z (by omega), fun j z => absurd z (by omega)⟩
  | i + 1, hi => by
    obtain ⟨h1, h2, h3, ⟨h4, h4'⟩, h5, h6⟩ := hdN_spec hm ho i (by omega)
    have ok := ho i (by omega)
    simp only [hdN]
    generalize hdN L (nl2 G p) (gm G) many o i = H at h1 h2 h3 h4 h4' h5 h6
    generalize ht : (if i < many then gm G else gm G + 1) = t
    have htt : t = gm G ∨ t = gm G + 1 := by rw [← ht]; split; exact Or.inl rfl; exact Or.inr rfl
    have ec : ∀ q, gc (hd L H t (o i)) q = if q = t then gc H t + 1 else gc H q := fun q => rfl
    have eb : ∀ q, gb (hd L H t (o i)) q = if q = t then (if gc H t = 0 then L (o i) else bW (gb H t) (L (o i))) else gb H q := fun q => rfl
    have eh : ∀ q, gh (hd L H t (o i)) q = if q = t then stn (gh H t) (gc H t) (o i) else gh H q := fun q => rfl
    refine ⟨h1, h2, fun q q1 q2 => ?_, ⟨?_, ?_⟩, h5, fun c hc => ⟨fun hc0 => ?_, fun j hj => ?_⟩⟩
    · have qt : q ≠ t := by omega
      rw [ec, eb, eh, if_neg qt, if_neg qt, if_neg qt]
      exact h3 q q1 q2
    · rw [ec]
      by_cases z : i < many
      · rw [if_pos z] at ht
        rw [if_pos ht, ← ht, h4]
        omega
      · rw [if_neg z] at ht
        rw [if_neg (by omega), h4]
        omega
    · rw [ec]
      by_cases z : i < many
      · rw [if_pos z] at ht
        rw [if_neg (by omega), h4']
        omega
      · rw [if_neg z] at ht
        rw [if_pos ht, ← ht, h4']
        omega
    · rw [ec] at hc0
      rw [eb]
      by_cases z : c = t
      · rw [if_pos z]
        by_cases w : gc H t = 0
        · rw [if_pos w]; exact ⟨ok.1, ok.2.1⟩
        · rw [if_neg w]
          have := (h6 t htt).1 (by omega)
          exact ⟨this.1.W ok.1, this.2.W ok.2.1⟩
      · rw [if_neg z] at hc0 ⊢
        exact (h6 c hc).1 hc0
    · rw [ec] at hj
      rw [eh, eb]
      by_cases z : c = t
      · rw [if_pos z] at hj ⊢
        rw [if_pos z]
        by_cases w : j = gc H t
        · rw [w, stn_at]
          refine ⟨ok.2.2, ?_⟩
          split
          · exact bsub.rf _
          · exact bsub_W2 _ _
        · rw [stn_ne w]
          have := (h6 t htt).2 j (by omega)
          rw [if_neg (by omega)]
          exact ⟨this.1, this.2.tr (bsub_W1 _ _)⟩
      · rw [if_neg z] at hj ⊢
        rw [if_neg z]
        exact (h6 c hc).2 j hj
theorem leaf_legs (h : WF L G n x) (hL : ∀ l, l < n → bok (L l)) {p : Nat} (hp : p < gm G) (hc : gc G p = 5) : (∀ i, i < 5 → bok (L (gh G p i))) ∧ ((cBest L (gh G p) 6).1 = 2 ∨ (cBest L (gh G p) 6).1 = 3) ∧ ∀ i, i < 5 → bok (L ((cBest L (gh G p) 6).2.2 i)) ∧ bsub (L ((cBest L (gh G p) 6).2.2 i)) (gb G p) ∧ (cBest L (gh G p) 6).2.2 i < n := by
  have a : ∀ i, i < 5 → bok (L (gh G p i)) := fun i hi => hL _ (h.2.2.1.2.2 p hp i (by omega)).1
  obtain ⟨b1, -, b3⟩ := cBest_spec a 6 (by omega)
  refine ⟨a, b1, fun i hi => ?_⟩
  obtain ⟨j, j1, j2⟩ := b3 i hi
  rw [j2]
  have := h.2.2.1.2.2 p hp j (by omega)
  exact ⟨a j j1, this.2, this.1⟩
theorem cut_wf {p : Nat} (h : WF L G n p) (hL : ∀ l, l < n → bok (L l)) (hp : p < gm G) (hf : gf G p = 0) (hc : gc G p = 5) : WF L (cutG L G p) n (gm (cutG L G p)) := by
  obtain ⟨-, lm, lo⟩ := leaf_legs h hL hp hc
  unfold cutG
  generalize cBest L (gh G p) 6 = B at lm lo
  obtain ⟨many, sum, o⟩ := B
  have lm : many = 2 ∨ many = 3 := lm
  have lo : ∀ i, i < 5 → bok (L (o i)) ∧ bsub (L (o i)) (gb G p) ∧ o i < n := lo
  show WF L (stF (hdN L (nl2 G p) (gm G) many o 5) p (gm G)) n (gm (stF (hdN L (nl2 G p) (gm G) many o 5) p (gm G)))
  obtain ⟨k1, k2, k3, ⟨k4, k4'⟩, k5, k6⟩ := hdN_spec (G := G) (p := p) (n := n) lm lo 5 (Nat.le_refl 5)
  generalize hdN L (nl2 G p) (gm G) many o 5 = H at k1 k2 k3 k4 k4' k5 k6
  obtain ⟨⟨w1, w2, w3, w4⟩, ⟨u1, u2, u3, u4⟩, ⟨v1, v2, v3⟩, ⟨t1, t2⟩⟩ := h
  have em : gm (stF H p (gm G)) = gm G + 2 := k1
  have ef : ∀ q, gf (stF H p (gm G)) q = if q = p then gm G else if q = gm G + 1 then 0 else if q = gm G then 0 else gf G q := fun q => by show stn (gf H) p (gm G) q = _; rw [k2]; rfl
  have efp : gf (stF H p (gm G)) p = gm G := by rw [ef, if_pos rfl]
  have efn : ∀ q, (q = gm G ∨ q = gm G + 1) → gf (stF H p (gm G)) q = 0 := fun q hq => by
    rw [ef, if_neg (by omega)]
    rcases hq with e | e
    · rw [if_neg (by omega), if_pos e]
    · rw [if_pos e]
  have efo : ∀ q, q < gm G → q ≠ p → gf (stF H p (gm G)) q = gf G q := fun q hq hqp => by rw [ef, if_neg hqp, if_neg (by omega), if_neg (by omega)]
  have ec : gc (stF H p (gm G)) = gc H := rfl
  have eb : gb (stF H p (gm G)) = gb H := rfl
  have eh : gh (stF H p (gm G)) = gh H := rfl
  have ep : gp (stF H p (gm G)) = gp H := rfl
  have old : ∀ q, q < gm G → gc H q = gc G q ∧ gh H q = gh G q ∧ gb H q = gb G q ∧ gp H q = gp G q := fun q hq => k3 q (by omega) (by omega)
  have m1 : gc H (gm G) = many := by rw [k4]; omega
  have m2 : gc H (gm G + 1) = 5 - many := by rw [k4']; omega
  have cas : ∀ q, q < gm G + 2 → q = p ∨ (q = gm G ∨ q = gm G + 1) ∨ (q < gm G ∧ q ≠ p) := fun q hq => by omega
  refine ⟨⟨by rw [em]; omega, fun q hq hqf => ?_, fun q hq hqf => ?_, fun q hq hq0 => ?_⟩, ⟨fun q r hq hr hqf he => ?_, fun q hq hq0 => ?_, ?_, fun q hq hqf => ?_⟩, ⟨fun q hq hq0 => ?_, fun q hq hqf => ?_, fun q hq i hi => ?_⟩, ⟨?_, ?_⟩⟩
  · rw [em] at hq ⊢
    rw [ec]
    rcases cas q hq with e | e | e
    · subst e
      rw [efp, (old q hp).1, hc]
      omega
    · exact absurd (efn q e) hqf
    · rw [efo q e.1 e.2] at hqf ⊢
      have := w2 q e.1 hqf
      rw [(old q e.1).1]
      omega
  · rw [em] at hq
    rw [ec]
    rcases cas q hq with e | e | e
    · subst e
      rw [efp] at hqf
      omega
    · rcases e with e | e
      · rw [e, m1]; omega
      · rw [e, m2]; omega
    · rw [efo q e.1 e.2] at hqf
      rw [(old q e.1).1]
      rcases w3 q e.1 hqf with z | z
      · exact Or.inl z
      · exact absurd z.1 e.2
  · rw [em] at hq
    rw [ec]
    rcases cas q hq with e | e | e
    · subst e
      rw [(old q hp).1, hc]
      omega
    · rcases e with e | e
      · rw [e, m1]; omega
      · rw [e, m2]; omega
    · rw [(old q e.1).1]; exact w4 q e.1 hq0
  · rw [em] at hq hr
    rcases cas q hq with e | e | e
    · subst e
      rw [efp] at he
      rcases cas r hr with d | d | d
      · exact d.symm
      · rw [efn r d] at he; omega
      · rw [efo r d.1 d.2] at he
        have := w2 r d.1 (by omega)
        omega
    · exact absurd (efn q e) hqf
    · rw [efo q e.1 e.2] at hqf he
      have := w2 q e.1 hqf
      rcases cas r hr with d | d | d
      · subst d
        rw [efp] at he
        omega
      · rw [efn r d] at he; omega
      · rw [efo r d.1 d.2] at he
        exact u1 q r e.1 d.1 hqf he
  · rw [em] at hq ⊢
    have find : q < gm G → ∃ q', q' < gm G + 2 ∧ gf (stF H p (gm G)) q' ≠ 0 ∧ (q = gf (stF H p (gm G)) q' ∨ q = gf (stF H p (gm G)) q' + 1) := fun hl => by
      obtain ⟨r, r1, r2, r3⟩ := u2 q hl hq0
      have rp : r ≠ p := fun e => r2 (by rw [e]; exact hf)
      exact ⟨r, by omega, by rw [efo r r1 rp]; exact r2, by rw [efo r r1 rp]; exact r3⟩
    rcases Nat.lt_or_ge q (gm G) with z | z
    · exact find z
    · exact ⟨p, by omega, by rw [efp]; omega, by rw [efp]; omega⟩
  · rw [ep]
    have : (0 : Nat) < gm G := by omega
    rw [(old 0 this).2.2.2]
    exact u3
  · rw [em] at hq
    rw [ep]
    rcases cas q hq with e | e | e
    · subst e
      rw [efp, (old q hp).2.2.2]
      exact k5
    · exact absurd (efn q e) hqf
    · rw [efo q e.1 e.2] at hqf ⊢
      have := w2 q e.1 hqf
      rw [(old q e.1).2.2.2, (old (gf G q) (by omega)).2.2.2, (old (gf G q + 1) (by omega)).2.2.2]
      exact u4 q e.1 hqf
  · rw [em] at hq
    rw [ec] at hq0
    rw [eb]
    rcases cas q hq with e | e | e
    · subst e
      rw [(old q hp).2.2.1]
      exact v1 q hp (by omega)
    · exact ((k6 q e).1 hq0).1
    · rw [(old q e.1).1] at hq0
      rw [(old q e.1).2.2.1]
      exact v1 q e.1 hq0
  · rw [em] at hq
    rw [eb]
    rcases cas q hq with e | e | e
    · subst e
      rw [efp, (old q hp).2.2.1]
      exact ⟨((k6 _ (Or.inl rfl)).1 (by rw [m1]; omega)).2, ((k6 _ (Or.inr rfl)).1 (by rw [m2]; omega)).2⟩
    · exact absurd (efn q e) hqf
    · rw [efo q e.1 e.2] at hqf ⊢
      have := w2 q e.1 hqf
      rw [(old q e.1).2.2.1, (old (gf G q) (by omega)).2.2.1, (old (gf G q + 1) (by omega)).2.2.1]
      exact v2 q e.1 hqf
  · rw [em] at hq
    rw [ec] at hi
    rw [eh, eb]
    rcases cas q hq with e | e | e
    · subst e
      rw [(old q hp).1] at hi
      rw [(old q hp).2.1, (old q hp).2.2.1]
      exact v3 q hp i hi
    · exact (k6 q e).2 i hi
    · rw [(old q e.1).1] at hi
      rw [(old q e.1).2.1, (old q e.1).2.2.1]
      exact v3 q e.1 i hi
  · rw [em]
    simp only [ct]
    have l1 : lfB (stF H p (gm G)) (gm G) = true := by unfold lfB; rw [efn _ (Or.inl rfl)]; rfl
    have l2 : lfB (stF H p (gm G)) (gm G + 1) = true := by unfold lfB; rw [efn _ (Or.inr rfl)]; rfl
    rw [if_pos l1, if_pos l2]
    have := ct_one (f := lfB (stF H p (gm G))) (g := lfB G) (c := p) (by unfold lfB; rw [efp]; exact decide_eq_false (by omega)) (by unfold lfB; rw [hf]; rfl) hp (fun k hk hkp => by unfold lfB; rw [efo k hk hkp])
    omega
  · rw [em]
    simp only [sn]
    have s1 : wt (stF H p (gm G)) (gm G) = (many : Int) - 2 := by unfold wt; rw [efn _ (Or.inl rfl), if_pos rfl, ec, m1]
    have s2 : wt (stF H p (gm G)) (gm G + 1) = ((5 - many : Nat) : Int) - 2 := by unfold wt; rw [efn _ (Or.inr rfl), if_pos rfl, ec, m2]
    have s3 : wt (stF H p (gm G)) p = 0 := by unfold wt; rw [efp, if_neg (by omega)]
    have s4 : wt G p = 3 := by unfold wt; rw [if_pos hf, hc]; rfl
    rw [sn_one (f := wt G) (p := p) hp (fun k hk hkp => by unfold wt; rw [efo k hk hkp, ec, (old k hk).1]), s1, s2, s3, s4, t2]
    omega
theorem bld_wf (hL : ∀ l, l < n → bok (L l)) (hn : n ≤ 230) : ∀ k, k ≤ n → WF L (bld L k) k (gm (bld L k))
  | 0, _ => by
    refine ⟨⟨⟨Nat.le_refl 1, rfl⟩, fun p _ h => absurd rfl h, fun p _ _ => Or.inl (Nat.zero_le 4), fun p hp h0 => ?_⟩, ⟨fun p q _ _ h => absurd rfl h, fun p hp h0 => ?_, rfl, fun p _ h => absurd rfl h⟩, ⟨fun p _ h => absurd h (Nat.lt_irrefl 0), fun p _ h => absurd rfl h, fun p _ i h => absurd h (Nat.not_lt_zero i)⟩, ⟨rfl, rfl⟩⟩
    · have hp : p < 1 := hp
      omega
    · have hp : p < 1 := hp
      omega
  | k + 1, hk => by
    have ih := bld_wf hL hn k (by omega)
    obtain ⟨a1, a2, a3, a4⟩ := tkL_wf ih (by omega) (hL k (by omega))
    show WF L (addG L (bld L k) k) (k + 1) (gm (addG L (bld L k) k))
    unfold addG
    by_cases z : gc (tkL L (bld L k) k).2 (tkL L (bld L k) k).1 = 5
    · rw [if_pos z]
      exact cut_wf a1 (fun l hl => hL l (by omega)) a2 a3 z
    · rw [if_neg z]
      obtain ⟨⟨w1, w2, w3, w4⟩, b⟩ := a1
      refine ⟨⟨w1, w2, fun p hp hf => ?_, w4⟩, b⟩
      rcases w3 p hp hf with w | w
      · exact Or.inl w
      · exact absurd (by rw [← w.1]; exact w.2) z
end TREEW
