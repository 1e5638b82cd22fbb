/-! opening pages -/
def wbx (P : BX) (f t : Int) : Bx := fun j => if j = 0 then P.1 else if j = 1 then P.2.1 else if j = 2 then P.2.2.1 else if j = 3 then P.2.2.2 else if j = 4 then f else t
def opB (G : PG) (w : Bx) (p : Nat) : Bool := decide (0 < gc G p) && tcB (gb G p) w
def b2i (b : Bool) : Int := if b = true then 1 else 0
theorem b2i_bd (b : Bool) : b2i b = 0 ∨ b2i b = 1 := by cases b <;> simp [b2i]
def tin (L : Nat → Bx) (G : PG) (w : Bx) (p : Nat) : Int := ct (fun i => tcB (L (gh G p i)) w) (gc G p)
def tO (L : Nat → Bx) (G : PG) (w : Bx) : Nat → Int
  | 0 => 0
  | p + 1 => tO L G w p + (if opB G w p = true ∧ gf G p = 0 then tin L G w p else 0)
theorem tcB_sub {a b w : Bx} (h : bsub a b) (ht : tcB a w = true) : tcB b w = true := by
  have := of_decide_eq_true ht
  unfold bsub at h
  exact decide_eq_true (by omega)
section OPEN
variable {L : Nat → Bx} {G : PG} {n x : Nat} {w : Bx}
theorem opB_kid (h : WF L G n x) {p c : Nat} (hp : p < gm G) (hf : gf G p ≠ 0) (hc : c = gf G p ∨ c = gf G p + 1) : (opB G w p = false → opB G w c = false) ∧ (opB G w p = true → opB G w c = tcB (gb G c) w) := by
  have a := h.1.2.1 p hp hf
  have b := h.2.2.1.2.1 p hp hf
  have sub : bsub (gb G c) (gb G p) := by
    rcases hc with e | e
    · rw [e]; exact b.1
    · rw [e]; exact b.2
  have gc9 : 0 < gc G c := by have := h.1.2.2.2 c (by omega) (by omega); omega
  have gp9 : 0 < gc G p := by omega
  unfold opB
  rw [decide_eq_true gc9, decide_eq_true gp9]
  simp only [Bool.true_and]
  refine ⟨fun z => ?_, fun _ => trivial⟩
  cases e : tcB (gb G c) w with
  | false => rfl
  | true => rw [tcB_sub sub e] at z; cases z
theorem root_n (h : WF L G n x) : (0 < gc G 0 ↔ 0 < n) := by
  have h1 := h.1.1.1
  have h4 := h.2.2.2.2
  rcases Nat.lt_or_ge 1 (gm G) with z | z
  · have a := (h.1.2.1 0 (by omega) (root_fork h.1 h.2.1 z)).2.2
    have b := sn_nn (wt_nn h z)
    rw [h4] at b
    omega
  · have e : gm G = 1 := by omega
    rw [e] at h4
    have hf : gf G 0 = 0 := by
      by_cases u : gf G 0 = 0
      · exact u
      · have := (h.1.2.1 0 (by omega) u).1; omega
    simp only [sn] at h4
    have e2 : wt G 0 = (gc G 0 : Int) - 2 := by unfold wt; rw [if_pos hf]
    rw [e2] at h4
    omega
theorem tin_bd (h : WF L G n x) {p : Nat} (hp : p < gm G) : 0 ≤ tin L G w p ∧ tin L G w p ≤ 5 := by
  have a := ct_bd (fun i => tcB (L (gh G p i)) w) (gc G p)
  have b := h.1.c5 p hp
  unfold tin
  omega
theorem tO_bd (h : WF L G n x) : ∀ k, k ≤ gm G → 0 ≤ tO L G w k ∧ tO L G w k ≤ 5 * k
  | 0, _ => by simp [tO]
  | k + 1, hk => by
    have ih := tO_bd h k (by omega)
    have := tin_bd (w := w) h (p := k) (by omega)
    simp only [tO]
    split <;> omega
theorem bok_R {a : Bx} (h : bok a) : ∀ j, j < 6 → R32 (a j) := by
  intro j hj
  obtain ⟨h1, h2, h3⟩ := h
  have : j = 0 ∨ j = 1 ∨ j = 2 ∨ j = 3 ∨ j = 4 ∨ j = 5 := by omega
  rcases this with e | e | e | e | e | e <;> subst e <;> omega
theorem c_tin {σ : Mem} {K : Int → Mem → Prop} {k p : Nat} (h : WF L G k x) (hk : k ≤ 230) (hLb : ∀ l, l < k → bok (L l)) (hw : ∀ j, j < 6 → R32 (w j)) (hG : PgC σ G) (hL : LgC σ L k) (h28 : bc σ 28 0 w) (hp : p < gm G) (hK : K (tin L G w p) σ) : CC m_X2_touchedIn [vR 13, vI (p : Int)] σ (PI K) := by
  have n14 := n14
  have n27 := n27
  have hm := WF_bd h hk
  have c5 := h.1.c5 p hp
  obtain ⟨⟨a1, a2⟩, a3, a4⟩ := hG.2 p hp
  have loop : ∀ (d i : Nat), i + d = gc G p → TT m_X2_touchedIn 4 [vR 13, vI (p : Int), vI (ct (fun i => tcB (L (gh G p i)) w) i), vI (i : Int)] [] σ (PI K) := by
    intro d
    induction d with
    | zero =>
      intro i hi
      have hi : i = gc G p := by omega
      subst hi
      refine w_X2_touchedIn_4 _ _ _ ?_
      rw [Int.toNat_natCast, a2]
      exact ⟨by omega, by omega, by omega, fun _ => hK, fun z => absurd (Int.le_refl _) z⟩
    | succ d ih =>
      intro i hi
      have hi2 : i < gc G p := by omega
      have lg := h.2.2.1.2.2 p hp i hi2
      have ih := ih (i + 1) (by omega)
      simp only [ct] at ih
      refine w_X2_touchedIn_4 _ _ _ ?_
      rw [Int.toNat_natCast, a2, show ((p : Int) * 5 + (i : Int)).toNat = 5 * p + i by omega, a3 i hi2]
      refine ⟨by omega, by omega, by omega, fun z => absurd z (by omega), fun _ => ⟨by omega, ?_⟩⟩
      refine c_touch (q0 := gh G p i) (q2 := 0) b14 b27 (by omega) (by omega) (bok_R (hLb _ lg.1)) hw (hL _ lg.1) h28 (fun hv => ?_) (fun hv => ?_)
      · rw [if_pos hv] at ih; exact ih
      · rw [if_neg (by rw [hv]; decide), Int.add_zero] at ih; exact ih
  exact e_X2_touchedIn _ (loop (gc G p) 0 (by omega))
/-- what the class holds of opened pages below p -/
def I22 (s : Mem) (G : PG) (w : Bx) (p : Nat) : Prop := s 22 0 = b2i (opB G w 0) ∧ ∀ q, q < p → gf G q ≠ 0 → s 22 (gf G q) = b2i (opB G w (gf G q)) ∧ s 22 (gf G q + 1) = b2i (opB G w (gf G q + 1))
theorem I22_at {s : Mem} (h : WF L G n x) {p : Nat} (hp : p < gm G) (hI : I22 s G w p) : s 22 p = b2i (opB G w p) := by
  rcases Nat.eq_zero_or_pos p with z | z
  · rw [z]; exact hI.1
  · obtain ⟨q, q1, q2, q3⟩ := h.2.1.2.1 p hp z
    have u := (h.1.2.1 q q1 q2).1
    have := hI.2 q (by omega) q2
    rcases q3 with e | e
    · rw [e]; exact this.1
    · rw [e]; exact this.2
theorem c_ask92 {σ : Mem} {K : Mem → Prop} {k : Nat} (h : WF L G k x) (hk : k ≤ 230) (hLb : ∀ l, l < k → bok (L l)) (hw : ∀ j, j < 6 → R32 (w j)) (hG : PgC σ G) (hL : LgC σ L k) (h28 : bc σ 28 0 w) (hK : ∀ σ', σ' 13 13 = ct (opB G w) (gm G) → σ' 13 14 = tO L G w (gm G) → (∀ b, b ≠ 13 → b ≠ 22 → σ' b = σ b) → (∀ i, i ≠ 13 → i ≠ 14 → σ' 13 i = σ 13 i) → K σ') : ∀ (d p : Nat) (s : Mem), p + d = gm G → s 13 13 = ct (opB G w) p → s 13 14 = tO L G w p → (∀ b, b ≠ 13 → b ≠ 22 → s b = σ b) → (∀ i, i ≠ 13 → i ≠ 14 → s 13 i = σ 13 i) → I22 s G w p → TT m_X2_ask 92 [vR 13, vU, vU, vU, vI (p : Int), vU] [] s (PN K) := by
  have n16 := n16
  have n27 := n27
  have hm := WF_bd h hk
  intro d
  induction d with
  | zero =>
    intro p s hp e13 e14 hf hi hI
    have hp : p = gm G := by omega
    subst hp
    refine w_X2_ask_92 _ ?_
    rw [hi 12 (by decide) (by decide), hG.1]
    exact ⟨by omega, by omega, fun _ => hK s e13 e14 hf hi, fun z => absurd (Int.le_refl _) z⟩
  | succ d ih =>
    intro p s hp e13 e14 hf hi hI
    have hpm : p < gm G := by omega
    obtain ⟨⟨a1, a2⟩, a3, a4⟩ := hG.2 p hpm
    have gfl : gf G p < 230 := by
      by_cases z : gf G p = 0
      · omega
      · have := (h.1.2.1 p hpm z).1; omega
    have ob := b2i_bd (opB G w p)
    have fin : ∀ s : Mem, s 13 13 = ct (opB G w) p → s 13 14 = tO L G w p → (∀ b, b ≠ 13 → b ≠ 22 → s b = σ b) → (∀ i, i ≠ 13 → i ≠ 14 → s 13 i = σ 13 i) → I22 s G w (p + 1) → TT m_X2_ask 197 [vR 13, vU, vU, vU, vI (p : Int), vI (gf G p : Int)] [] s (PN K) := by
      intro s e13 e14 hf hi hI
      have s22 := I22_at h hpm (p := p) (s := s) ⟨hI.1, fun q hq => hI.2 q (by omega)⟩
      refine w_X2_ask_197 _ _ ?_
      rw [Int.toNat_natCast, s22]
      refine ⟨by omega, by omega, fun z => ?_, fun z s40 e40 => ⟨by omega, fun z2 s44 e44 => ?_, fun z2 => ?_⟩⟩
      · have z : opB G w p = false := by
          cases e : opB G w p with
          | false => rfl
          | true => rw [e] at z; simp [b2i] at z
        refine ih (p + 1) s (by omega) ?_ ?_ hf hi hI
        · simp only [ct]; rw [z, e13]; simp
        · simp only [tO]; rw [z, e14]; simp
      · have z : opB G w p = true := by
          cases e : opB G w p with
          | true => rfl
          | false => rw [e] at z; simp [b2i] at z
        have t14 : s40 13 14 = tO L G w p := by rw [e40, up_o2 (by decide)]; exact e14
        rw [t14] at e44
        have o44 : ∀ b, b ≠ 13 → s44 b = s b := fun b hb => by rw [e44, up_cell hb, e40, up_cell hb]
        refine ih (p + 1) s44 (by omega) ?_ ?_ (fun b b1 b2 => by rw [o44 b b1]; exact hf b b1 b2) (fun i i1 i2 => by rw [e44, up_o2 i2, e40, up_o2 i1]; exact hi i i1 i2) (by unfold I22; rw [o44 22 (by decide)]; exact hI)
        · rw [e44, up_o2 (by decide), e40, up_at, e13]
          simp only [ct]
          rw [if_pos z]
        · rw [e44, up_at]
          simp only [tO]
          rw [if_neg (by intro u; have := u.2; omega)]
      · have z : opB G w p = true := by
          cases e : opB G w p with
          | true => rfl
          | false => rw [e] at z; simp [b2i] at z
        have o40 : ∀ b, b ≠ 13 → s40 b = s b := fun b hb => by rw [e40, up_cell hb]
        have t12 : s40 13 12 = s 13 12 := by rw [e40, up_o2 (by decide)]
        have hG40 : PgC s40 G := hG.same (by rw [t12, hi 12 (by decide) (by decide)]) (by rw [o40 17 (by decide), hf 17 (by decide) (by decide)]) (by rw [o40 18 (by decide), hf 18 (by decide) (by decide)]) (by rw [o40 19 (by decide), hf 19 (by decide) (by decide)]) (by rw [o40 20 (by decide), hf 20 (by decide) (by decide)])
        refine c_tin (w := w) h hk hLb hw hG40 (hL.same (by rw [o40 15 (by decide), hf 15 (by decide) (by decide)])) (fun j hj => by rw [o40 28 (by decide), hf 28 (by decide) (by decide)]; exact h28 j hj) hpm fun s48 e48 => ?_
        have t14 : s40 13 14 = tO L G w p := by rw [e40, up_o2 (by decide)]; exact e14
        rw [t14] at e48
        have o48 : ∀ b, b ≠ 13 → s48 b = s b := fun b hb => by rw [e48, up_cell hb, o40 b hb]
        refine ih (p + 1) s48 (by omega) ?_ ?_ (fun b b1 b2 => by rw [o48 b b1]; exact hf b b1 b2) (fun i i1 i2 => by rw [e48, up_o2 i2, e40, up_o2 i1]; exact hi i i1 i2) (by unfold I22; rw [o48 22 (by decide)]; exact hI)
        · rw [e48, up_o2 (by decide), e40, up_at, e13]
          simp only [ct]
          rw [if_pos z]
        · rw [e48, up_at]
          simp only [tO]
          rw [if_pos ⟨z, by omega⟩]
    have s22 := I22_at h hpm hI
    have e18 : s 18 p = (gf G p : Int) := by rw [hf 18 (by decide) (by decide)]; exact a1
    refine w_X2_ask_92 _ ?_
    rw [Int.toNat_natCast, hi 12 (by decide) (by decide), hG.1, e18, s22]
    refine ⟨by omega, by omega, fun z => absurd z (by omega), fun _ => ⟨by omega, by omega, fun z => ?_, fun z => ?_⟩⟩
    · have z : gf G p = 0 := by omega
      refine fin s e13 e14 hf hi ⟨hI.1, fun q hq hqf => hI.2 q (by
        rcases Nat.lt_or_ge q p with u | u
        · exact u
        · exact absurd (by rw [show q = p by omega]; exact z) hqf) hqf⟩
    · have z : gf G p ≠ 0 := by omega
      have u := h.1.2.1 p hpm z
      have hcf : 0 < gc G (gf G p) := by have := h.1.2.2.2 (gf G p) (by omega) (by omega); omega
      have hcf2 : 0 < gc G (gf G p + 1) := by have := h.1.2.2.2 (gf G p + 1) (by omega) (by omega); omega
      have k1 := opB_kid (w := w) h hpm z (Or.inl rfl)
      have k2 := opB_kid (w := w) h hpm z (Or.inr rfl)
      have bx17 : ∀ s' : Mem, s' 17 = s 17 → ∀ q, q < gm G → 0 < gc G q → bc s' 17 q (gb G q) := fun s' e q hq h0 j hj => by rw [e, hf 17 (by decide) (by decide)]; exact (hG.2 q hq).2.2 h0 j hj
      have bx28 : ∀ s' : Mem, s' 28 = s 28 → bc s' 28 0 w := fun s' e j hj => by rw [e, hf 28 (by decide) (by decide)]; exact h28 j hj
      have last : ∀ (s52 s64 : Mem) (v : Int), s52 = up s 22 (gf G p) (b2i (opB G w (gf G p))) → v = b2i (opB G w (gf G p + 1)) → s64 = up s52 22 (gf G p + 1) v → TT m_X2_ask 197 [vR 13, vU, vU, vU, vI (p : Int), vI (gf G p : Int)] [] s64 (PN K) := by
        intro s52 s64 v e52 ev e64
        have o64 : ∀ b, b ≠ 22 → s64 b = s b := fun b hb => by rw [e64, up_cell hb, e52, up_cell hb]
        refine fin s64 (by rw [o64 13 (by decide)]; exact e13) (by rw [o64 13 (by decide)]; exact e14) (fun b b1 b2 => by rw [o64 b b2]; exact hf b b1 b2) (fun i i1 i2 => by rw [o64 13 (by decide)]; exact hi i i1 i2) ⟨?_, fun q hq hqf => ?_⟩
        · rw [e64, up_o2 (by omega), e52, up_o2 (by omega)]; exact hI.1
        · have good : ∀ j, (q < p → s 22 j = b2i (opB G w j)) → (q = p → j = gf G p ∨ j = gf G p + 1) → s64 22 j = b2i (opB G w j) := fun j g1 g2 => by
            rw [e64]
            by_cases a : j = gf G p + 1
            · rw [a, up_at, ev]
            · rw [up_o2 a, e52]
              by_cases b : j = gf G p
              · rw [b, up_at]
              · rw [up_o2 b]
                exact g1 (by
                  rcases Nat.lt_or_ge q p with c | c
                  · exact c
                  · have := g2 (by omega); omega)
          exact ⟨good _ (fun c => (hI.2 q c hqf).1) (fun c => by rw [c]; exact Or.inl rfl), good _ (fun c => (hI.2 q c hqf).2) (fun c => by rw [c]; exact Or.inr rfl)⟩
      have mid : ∀ v : Int, v = b2i (opB G w (gf G p)) → TT m_X2_ask 153 [vR 13, vU, vU, vU, vI (p : Int), vI (gf G p : Int)] [vI v, vI (gf G p : Int), vR 22] s (PN K) := by
        intro v ev
        refine w_X2_ask_153 _ _ _ _ ⟨by omega, by rw [ev]; exact b2i_bd _, fun s52 e52 => ?_⟩
        rw [Int.toNat_natCast, ev] at e52
        have t22 : s52 22 p = b2i (opB G w p) := by rw [e52, up_o2 (by omega)]; exact s22
        rw [Int.toNat_natCast, t22]
        have put : ∀ v2 : Int, v2 = b2i (opB G w (gf G p + 1)) → TT m_X2_ask 196 [vR 13, vU, vU, vU, vI (p : Int), vI (gf G p : Int)] [vI v2, vI ((gf G p : Int) + 1), vR 22] s52 (PN K) := by
          intro v2 ev2
          refine w_X2_ask_196 _ _ _ _ ⟨by omega, by rw [ev2]; exact b2i_bd _, fun s64 e64 => ?_⟩
          rw [show ((gf G p : Int) + 1).toNat = gf G p + 1 by omega] at e64
          exact last s52 s64 v2 e52 ev2 e64
        refine ⟨by omega, by omega, fun y => put 0 ?_, fun y => ?_⟩
        · have : opB G w p = false := by
            cases e : opB G w p with
            | false => rfl
            | true => rw [e] at y; simp [b2i] at y
          rw [k2.1 this]; rfl
        · have y : opB G w p = true := by
            cases e : opB G w p with
            | true => rfl
            | false => rw [e] at y; simp [b2i] at y
          have o52 : ∀ b, b ≠ 22 → s52 b = s b := fun b hb => by rw [e52, up_cell hb]
          refine c_touch (q0 := gf G p + 1) (q2 := 0) b16 b27 (by omega) (by omega) (bok_R (h.2.2.1.1 _ (by omega) hcf2)) hw (bx17 s52 (o52 17 (by decide)) _ (by omega) hcf2) (bx28 s52 (o52 28 (by decide))) (fun hv => put 1 ?_) (fun hv => put 0 ?_)
          · rw [k2.2 y, hv]; rfl
          · rw [k2.2 y, hv]; rfl
      refine ⟨by omega, fun y => mid 0 ?_, fun y => ?_⟩
      · have : opB G w p = false := by
          cases e : opB G w p with
          | false => rfl
          | true => rw [e] at y; simp [b2i] at y
        rw [k1.1 this]; rfl
      · have y : opB G w p = true := by
          cases e : opB G w p with
          | true => rfl
          | false => rw [e] at y; simp [b2i] at y
        refine c_touch (q0 := gf G p) (q2 := 0) b16 b27 (by omega) (by omega) (bok_R (h.2.2.1.1 _ (by omega) hcf)) hw (bx17 s rfl _ (by omega) hcf) (bx28 s rfl) (fun hv => mid 1 ?_) (fun hv => mid 0 ?_)
        · rw [k1.2 y, hv]; rfl
        · rw [k1.2 y, hv]; rfl
/-! the reference -/
theorem d_touches {σ : Mem} {A B : Mem → Prop} {a b c d : Int} (ha : R32 a) (hb : R32 b) (hc : R32 c) (hd : R32 d) (h1 : a ≤ d ∧ c ≤ b → A σ) (h0 : ¬ (a ≤ d ∧ c ≤ b) → B σ) : CC m_X10_touches [vR 80, vI a, vI b, vI c, vI d] σ (PZ A B) :=
  e_X10_touches _ _ _ _ ⟨ha, hd, fun z => h0 (by omega), fun z => ⟨hc, hb, fun z2 => h0 (by omega), fun z2 => h1 (by omega)⟩⟩
theorem d_touchL {σ : Mem} {A B : Mem → Prop} {l : Nat} {a : Bx} (hl : l < 240) (ha : ∀ j, j < 6 → R32 (a j)) (hw : ∀ j, j < 6 → R32 (w j)) (hA : bc σ 88 l a) (hW : ∀ j, j < 6 → σ 97 j = w j) (h1 : tcB a w = true → A σ) (h0 : tcB a w = false → B σ) : CC m_X10_touchesLeg [vR 80, vI (l : Int)] σ (PZ A B) := by
  have loop : ∀ (d k : Nat) (x2 : Int), k + d = 3 → ((x2 = 1 ∧ ∀ i, i < k → a (2 * i) ≤ w (2 * i + 1) ∧ w (2 * i) ≤ a (2 * i + 1)) ∨ (x2 = 0 ∧ tcB a w = false)) → TT m_X10_touchesLeg 4 [vR 80, vI (l : Int), vI x2, vI (2 * (k : Int))] [] σ (PZ A B) := by
    intro d
    induction d with
    | zero =>
      intro k x2 hk hx
      have hk : k = 3 := by omega
      subst hk
      refine w_X10_touchesLeg_4 _ _ _ ⟨by decide, fun _ => ⟨by omega, fun z => ?_, fun z => ?_⟩, fun z => absurd (by decide) z⟩
      · rcases hx with u | u
        · exact h1 (tcB_t u.2)
        · omega
      · rcases hx with u | u
        · omega
        · exact h0 u.2
    | succ d ih =>
      intro k x2 hk hx
      have e1 : (6 * (l : Int) + 2 * (k : Int)).toNat = 6 * l + 2 * k := by omega
      have e3 : (6 * (l : Int) + 2 * (k : Int) + 1).toNat = 6 * l + (2 * k + 1) := by omega
      have e2 : (2 * (k : Int)).toNat = 2 * k := by omega
      have e4 : (2 * (k : Int) + 1).toNat = 2 * k + 1 := by omega
      have nx : ∀ y : Int, ((y = 1 ∧ ∀ i, i < k + 1 → a (2 * i) ≤ w (2 * i + 1) ∧ w (2 * i) ≤ a (2 * i + 1)) ∨ (y = 0 ∧ tcB a w = false)) → TT m_X10_touchesLeg 4 [vR 80, vI (l : Int), vI y, vI (2 * (k : Int) + 2)] [] σ (PZ A B) := by
        intro y hy
        have := ih (k + 1) y (by omega) hy
        rw [show 2 * (((k + 1 : Nat)) : Int) = 2 * (k : Int) + 2 by omega] at this
        exact this
      refine w_X10_touchesLeg_4 _ _ _ ?_
      rw [e1, e2, e3, e4, hA _ (by omega), hA _ (by omega), hW _ (by omega), hW _ (by omega)]
      refine ⟨by omega, fun z => absurd z (by omega), fun _ => ⟨by omega, fun z => ?_, fun z => ⟨by omega, by omega, by omega, by omega, ?_⟩⟩⟩
      · rcases hx with u | u
        · omega
        · exact nx 0 (Or.inr ⟨rfl, u.2⟩)
      · rcases hx with u | u
        · refine d_touches (ha _ (by omega)) (ha _ (by omega)) (hw _ (by omega)) (hw _ (by omega)) (fun v => nx 1 (Or.inl ⟨rfl, fun i hi => ?_⟩)) (fun v => nx 0 (Or.inr ⟨rfl, tcB_f (i := k) (by omega) v⟩))
          rcases Nat.lt_or_ge i k with y | y
          · exact u.2 i y
          · rw [show i = k by omega]; exact v
        · omega
  exact e_X10_touchesLeg _ (loop 3 0 1 rfl (Or.inl ⟨rfl, fun i h => absurd h (by omega)⟩))
theorem d_touchP {σ : Mem} {A B : Mem → Prop} {p : Nat} (hp : p < 500) (h90 : σ 90 p = if gc G p = 0 then 1 else 0) (ha : 0 < gc G p → bok (gb G p) ∧ bc σ 89 p (gb G p)) (hw : ∀ j, j < 6 → R32 (w j)) (hW : ∀ j, j < 6 → σ 97 j = w j) (h1 : opB G w p = true → A σ) (h0 : opB G w p = false → B σ) : CC m_X10_touchesPage [vR 80, vI (p : Int)] σ (PZ A B) := by
  have fal : tcB (gb G p) w = false → opB G w p = false := fun z => by unfold opB; rw [z, Bool.and_false]
  have loop : ∀ (d k : Nat) (x2 : Int), k + d = 3 → ((x2 = 1 ∧ 0 < gc G p ∧ ∀ i, i < k → gb G p (2 * i) ≤ w (2 * i + 1) ∧ w (2 * i) ≤ gb G p (2 * i + 1)) ∨ (x2 = 0 ∧ opB G w p = false)) → TT m_X10_touchesPage 17 [vR 80, vI (p : Int), vI x2, vI (2 * (k : Int))] [] σ (PZ A B) := by
    intro d
    induction d with
    | zero =>
      intro k x2 hk hx
      have hk : k = 3 := by omega
      subst hk
      refine w_X10_touchesPage_17 _ _ _ ⟨by decide, fun _ => ⟨by omega, fun z => ?_, fun z => ?_⟩, fun z => absurd (by decide) z⟩
      · rcases hx with u | u
        · refine h1 ?_
          unfold opB
          rw [decide_eq_true u.2.1, tcB_t u.2.2]
          rfl
        · omega
      · rcases hx with u | u
        · omega
        · exact h0 u.2
    | succ d ih =>
      intro k x2 hk hx
      have e1 : (6 * (p : Int) + 2 * (k : Int)).toNat = 6 * p + 2 * k := by omega
      have e3 : (6 * (p : Int) + 2 * (k : Int) + 1).toNat = 6 * p + (2 * k + 1) := by omega
      have e2 : (2 * (k : Int)).toNat = 2 * k := by omega
      have e4 : (2 * (k : Int) + 1).toNat = 2 * k + 1 := by omega
      have nx : ∀ y : Int, ((y = 1 ∧ 0 < gc G p ∧ ∀ i, i < k + 1 → gb G p (2 * i) ≤ w (2 * i + 1) ∧ w (2 * i) ≤ gb G p (2 * i + 1)) ∨ (y = 0 ∧ opB G w p = false)) → TT m_X10_touchesPage 17 [vR 80, vI (p : Int), vI y, vI (2 * (k : Int) + 2)] [] σ (PZ A B) := by
        intro y hy
        have := ih (k + 1) y (by omega) hy
        rw [show 2 * (((k + 1 : Nat)) : Int) = 2 * (k : Int) + 2 by omega] at this
        exact this
      refine w_X10_touchesPage_17 _ _ _ ?_
      rw [e1, e2, e3, e4, hW _ (by omega), hW _ (by omega)]
      refine ⟨by omega, fun z => absurd z (by omega), fun _ => ⟨by omega, fun z => ?_, fun z => ⟨by omega, by omega, by omega, by omega, ?_⟩⟩⟩
      · rcases hx with u | u
        · omega
        · exact nx 0 (Or.inr ⟨rfl, u.2⟩)
      · rcases hx with u | u
        · have hb := ha u.2.1
          have hr := bok_R hb.1
          rw [hb.2 _ (by omega), hb.2 _ (by omega)]
          refine d_touches (hr _ (by omega)) (hr _ (by omega)) (hw _ (by omega)) (hw _ (by omega)) (fun v => nx 1 (Or.inl ⟨rfl, u.2.1, fun i hi => ?_⟩)) (fun v => nx 0 (Or.inr ⟨rfl, fal (tcB_f (i := k) (by omega) v)⟩))
          rcases Nat.lt_or_ge i k with y | y
          · exact u.2.2 i y
          · rw [show i = k by omega]; exact v
        · omega
  refine e_X10_touchesPage _ ?_
  rw [Int.toNat_natCast, h90]
  refine ⟨by omega, by split <;> decide, fun v5 e5 => loop 3 0 v5 rfl ?_⟩
  by_cases z : gc G p = 0
  · rw [if_pos z] at e5
    refine Or.inr ⟨by rw [e5]; rfl, ?_⟩
    unfold opB
    rw [decide_eq_false (show ¬ 0 < gc G p by omega)]
    rfl
  · rw [if_neg z] at e5
    exact Or.inl ⟨by rw [e5]; rfl, by omega, fun i h => absurd h (by omega)⟩
theorem d_opens101 {σ : Mem} {K : Int → Mem → Prop} {k : Nat} {x7 : Int} (h : WF L G k x) (hk : k ≤ 230) (h7 : R32 x7) (hLb : ∀ l, l < k → bok (L l)) (hw : ∀ j, j < 6 → R32 (w j)) (hG : PgM σ G) (hL : LgM σ L k) (hW : ∀ j, j < 6 → σ 97 j = w j) (hK : K (if x7 = 0 then ct (opB G w) (gm G) else tO L G w (gm G) : Int) σ) : TT m_X10_opens 101 [vR 80, vU, vU, vU, vU, vU, vU, vI x7, vI 0, vI 0, vI 0, vU] [] σ (PI K) := by
  have hm := WF_bd h hk
  have loop : ∀ (d p : Nat), p + d = gm G → TT m_X10_opens 101 [vR 80, vU, vU, vU, vU, vU, vU, vI x7, vI (ct (opB G w) p), vI (tO L G w p), vI (p : Int), vU] [] σ (PI K) := by
    intro d
    induction d with
    | zero =>
      intro p hp
      have hp : p = gm G := by omega
      subst hp
      refine w_X10_opens_101 _ _ _ _ ?_
      rw [hG.1]
      exact ⟨by omega, by omega, fun _ => ⟨h7, hK⟩, fun z => absurd (Int.le_refl _) z⟩
    | succ d ih =>
      intro p hp
      have hpm : p < gm G := by omega
      obtain ⟨⟨⟨a91, a93⟩, a90, a92⟩, a94, a89⟩ := hG.2 p hpm
      have ih := ih (p + 1) (by omega)
      have c5 := h.1.c5 p hpm
      have ta : ∀ (A B : Mem → Prop), (opB G w p = true → A σ) → (opB G w p = false → B σ) → CC m_X10_touchesPage [vR 80, vI (p : Int)] σ (PZ A B) := fun A B => d_touchP (by omega) a90 (fun h0 => ⟨h.2.2.1.1 p hpm h0, a89 h0⟩) hw hW
      have r93 : R32 (σ 93 p) := by rw [a93]; split <;> omega
      have legs : ∀ C : Int, C = ct (opB G w) (p + 1) → opB G w p = true → gf G p = 0 → ∀ (d i : Nat), i + d = gc G p → TT m_X10_opens 132 [vR 80, vU, vU, vU, vU, vU, vU, vI x7, vI C, vI (tO L G w p + ct (fun i => tcB (L (gh G p i)) w) i), vI (p : Int), vI (i : Int)] [] σ (PI K) := by
        intro C hC ho hf d
        rw [← hC] at ih
        rw [if_pos hf] at a93
        induction d with
        | zero =>
          intro i hi
          have hi : i = gc G p := by omega
          subst hi
          have e : tO L G w (p + 1) = tO L G w p + ct (fun i => tcB (L (gh G p i)) w) (gc G p) := by simp only [tO]; rw [if_pos ⟨ho, hf⟩]; rfl
          rw [e] at ih
          refine w_X10_opens_132 _ _ _ _ _ ?_
          rw [Int.toNat_natCast, a93]
          exact ⟨by omega, by omega, by omega, fun _ => ih, fun z => absurd (Int.le_refl _) z⟩
        | succ d ih2 =>
          intro i hi
          have hi2 : i < gc G p := by omega
          have lg := h.2.2.1.2.2 p hpm i hi2
          have ih2 := ih2 (i + 1) (by omega)
          simp only [ct] at ih2
          refine w_X10_opens_132 _ _ _ _ _ ?_
          rw [Int.toNat_natCast, a93, show (5 * (p : Int) + (i : Int)).toNat = 5 * p + i by omega]
          refine ⟨by omega, by omega, by omega, fun z => absurd z (by omega), fun _ => ta _ _ (fun _ => ⟨by omega, ?_⟩) (fun z => absurd (ho.symm.trans z) (by decide))⟩
          rw [a94 hf i hi2]
          refine d_touchL (by omega) (bok_R (hLb _ lg.1)) hw (hL _ lg.1) hW (fun hv => ?_) (fun hv => ?_)
          · rw [if_pos hv, ← Int.add_assoc] at ih2; exact ih2
          · rw [if_neg (by rw [hv]; decide), ← Int.add_assoc] at ih2; exact ih2
      refine w_X10_opens_101 _ _ _ _ ?_
      rw [hG.1]
      refine ⟨by omega, by omega, fun z => absurd z (by omega), fun _ => ta _ _ (fun ho => ?_) (fun ho => ?_)⟩
      · have e8 : ct (opB G w) (p + 1) = ct (opB G w) p + 1 := by simp only [ct]; rw [if_pos ho]
        by_cases hf : gf G p = 0
        · have := legs _ e8.symm ho hf (gc G p) 0 (by omega)
          simp only [ct] at this
          rw [Int.add_zero] at this
          exact this
        · rw [if_neg hf] at a93
          have e9 : tO L G w (p + 1) = tO L G w p := by simp only [tO]; rw [if_neg (fun u => hf u.2), Int.add_zero]
          rw [e8, e9] at ih
          refine w_X10_opens_132 _ _ _ _ _ ?_
          rw [Int.toNat_natCast, a93]
          exact ⟨by omega, by decide, by decide, fun _ => ih, fun z => absurd (Int.le_refl _) z⟩
      · have e8 : ct (opB G w) (p + 1) = ct (opB G w) p + 0 := by simp only [ct]; rw [if_neg (by rw [ho]; decide)]
        have e9 : tO L G w (p + 1) = tO L G w p := by simp only [tO]; rw [if_neg (fun u => by rw [ho] at u; cases u.1), Int.add_zero]
        rw [e8, e9] at ih
        refine w_X10_opens_132 _ _ _ _ _ ?_
        rw [Int.toNat_natCast]
        exact ⟨by omega, by omega, r93, fun _ => ih, fun _ => ta _ _ (fun z => absurd (ho.symm.trans z) (by decide)) (fun _ => ih)⟩
  exact loop (gm G) 0 (by omega)
end OPEN
