/-! the reference's pages -/
def LgM (σ : Mem) (L : Nat → Bx) (k : Nat) : Prop := ∀ l, l < k → bc σ 88 l (L l)
def PgM (σ : Mem) (G : PG) : Prop := σ 80 17 = (gm G : Int) ∧ ∀ p, p < gm G → ((σ 91 p = (if gf G p = 0 then -900009 else (gf G p : Int)) ∧ σ 93 p = (if gf G p = 0 then (gc G p : Int) else 0)) ∧ (σ 90 p = (if gc G p = 0 then 1 else 0) ∧ σ 92 p = gp G p)) ∧ (gf G p = 0 → ∀ i, i < gc G p → σ 94 (5 * p + i) = (gh G p i : Int)) ∧ (0 < gc G p → bc σ 89 p (gb G p))
theorem LgM.same {σ σ' : Mem} {L : Nat → Bx} {k : Nat} (h : LgM σ L k) (e : σ' 88 = σ 88) : LgM σ' L k := fun l hl j hj => by rw [e]; exact h l hl j hj
section TREEM
variable {σ : Mem} {L : Nat → Bx} {G : PG}
theorem d_join {K : Mem → Prop} {p l : Nat} {a b : Bx} {em : Bool} (hp : p < 500) (hl : l < 240) (he : σ 90 p = if em = true then 1 else 0) (ha : em = false → bok a ∧ bc σ 89 p a) (hb : bok b) (hB : bc σ 88 l b) (hK : ∀ σ', bc σ' 89 p (if em = true then b else bW a b) → σ' 90 p = 0 → (∀ c i, (c = 89 → i < 6 * p ∨ 6 * p + 6 ≤ i) → (c = 90 → i ≠ p) → σ' c i = σ c i) → K σ') : CC m_X10_join [vR 80, vI (p : Int), vI (l : Int)] σ (PN K) := by
  have h90 : R32 (σ 90 p) := by rw [he]; split <;> decide
  have loop : ∀ (d k : Nat) (s : Mem), k + d = 3 → (∀ j, j < 2 * k → s 89 (6 * p + j) = (if em = true then b else bW a b) j) → (em = false → ∀ j, 2 * k ≤ j → j < 6 → s 89 (6 * p + j) = a j) → fx σ s 89 p → TT m_X10_join 2 [vR 80, vI (p : Int), vI (l : Int), vI (2 * (k : Int)), vU, vU] [] s (PN K) := by
    intro d
    induction d with
    | zero =>
      intro k s hk h1 h2 hf
      have hk : k = 3 := by omega
      subst hk
      refine w_X10_join_2 _ _ _ ⟨by decide, fun _ => ⟨by omega, fun s4 e4 => ?_⟩, fun z => absurd (by decide) z⟩
      rw [Int.toNat_natCast] at e4
      refine hK s4 (fun j hj => by rw [e4, up_o1 (by decide)]; exact h1 j (by omega)) (by rw [e4, up_at]) fun c i hi hi2 => ?_
      rw [e4]
      by_cases z : c = 90
      · rw [up_o2 (hi2 z)]; exact hf c i hi
      · rw [up_o1 z]; exact hf c i hi
    | succ d ih =>
      intro k s hk h1 h2 hf
      have e1 : (6 * (p : Int) + 2 * (k : Int)).toNat = 6 * p + 2 * k := by omega
      have e2 : (6 * (l : Int) + 2 * (k : Int)).toNat = 6 * l + 2 * k := by omega
      have e3 : (6 * (p : Int) + 2 * (k : Int) + 1).toNat = 6 * p + (2 * k + 1) := by omega
      have e4 : (6 * (l : Int) + 2 * (k : Int) + 1).toNat = 6 * l + (2 * k + 1) := by omega
      have bb := bok_k hb (k := k) (by omega)
      have s90 : s 90 p = σ 90 p := hf 90 p (fun e => absurd e (by decide))
      have o2 : ∀ j, j < 6 → s 88 (6 * l + j) = b j := fun j hj => by rw [hf 88 _ (fun e => absurd e (by decide))]; exact hB j hj
      have nx : ∀ s31 : Mem, s31 89 (6 * p + 2 * k) = (if em = true then b else bW a b) (2 * k) → s31 89 (6 * p + (2 * k + 1)) = (if em = true then b else bW a b) (2 * k + 1) → (∀ c i, (c = 89 → i ≠ 6 * p + 2 * k ∧ i ≠ 6 * p + (2 * k + 1)) → s31 c i = s c i) → TT m_X10_join 2 [vR 80, vI (p : Int), vI (l : Int), vI (2 * (k : Int) + 2), vU, vU] [] s31 (PN K) := by
        intro s31 g1 g2 g3
        have := ih (k + 1) s31 (by omega) (fun j hj => ?_) (fun hem j hj hj6 => ?_) fun c i hi => ?_
        · rw [show 2 * (((k + 1 : Nat)) : Int) = 2 * (k : Int) + 2 by omega] at this
          exact this
        · by_cases z : j = 2 * k + 1
          · rw [z]; exact g2
          · by_cases w : j = 2 * k
            · rw [w]; exact g1
            · rw [g3 89 _ (fun _ => by omega)]; exact h1 j (by omega)
        · rw [g3 89 _ (fun _ => by omega)]; exact h2 hem j (by omega) hj6
        · rw [g3 c i (fun e => by have := hi e; omega)]; exact hf c i hi
      refine w_X10_join_2 _ _ _ ?_
      rw [e1, e2, e3, e4, Int.toNat_natCast, o2 (2 * k) (by omega), o2 (2 * k + 1) (by omega), s90]
      refine ⟨by omega, fun z => absurd z (by omega), fun _ => ⟨by omega, by omega, fun v8 e8 => ⟨by omega, h90, fun z => ?_, by omega, fun s20 e20 => ?_⟩⟩⟩
      · have hem : em = false := by
          rw [he] at z
          cases em
          · rfl
          · simp at z
        have := bok_k (ha hem).1 (k := k) (by omega)
        rw [h2 hem (2 * k) (by omega) (by omega)]
        exact ⟨by omega, by omega, by omega⟩
      · have t90 : s20 90 p = σ 90 p := by rw [e20, up_o1 (by decide)]; exact s90
        rw [t90]
        refine ⟨h90, fun z => ?_, by omega, fun s31 e31 => nx s31 ?_ ?_ fun c i hi => ?_⟩
        · have hem : em = false := by
            rw [he] at z
            cases em
            · rfl
            · simp at z
          have := bok_k (ha hem).1 (k := k) (by omega)
          rw [e20, up_o2 (by omega), h2 hem (2 * k + 1) (by omega) (by omega)]
          exact ⟨by omega, by omega, by omega⟩
        · rw [e31, up_o2 (by omega), e20, up_at]
          cases em with
          | false =>
            have z0 : σ 90 p = 0 := he
            have eF : (if false = true then b else bW a b) = bW a b := if_neg (by decide)
            rw [if_neg (not_not_intro z0), h2 rfl (2 * k) (by omega) (by omega), eF, bW_ev]
            split <;> omega
          | true =>
            have z1 : ¬ σ 90 p = 0 := by rw [he]; decide
            have eT : (if true = true then b else bW a b) = b := if_pos rfl
            rw [if_pos z1, eT]
        · rw [e31, up_at]
          cases em with
          | false =>
            have z0 : σ 90 p = 0 := he
            have eF : (if false = true then b else bW a b) = bW a b := if_neg (by decide)
            rw [if_neg (not_not_intro z0), e20, up_o2 (by omega), h2 rfl (2 * k + 1) (by omega) (by omega), eF, bW_od, e8]
            split <;> omega
          | true =>
            have z1 : ¬ σ 90 p = 0 := by rw [he]; decide
            have eT : (if true = true then b else bW a b) = b := if_pos rfl
            rw [if_pos z1, eT, e8]
        · rw [e31]
          by_cases z : c = 89
          · have := hi z
            rw [up_o2 this.2, e20, up_o2 this.1]
          · rw [up_o1 z, e20, up_o1 z]
  exact e_X10_join _ _ (loop 3 0 σ rfl (fun j h => absurd h (by omega)) (fun hem j _ hj => (ha hem).2 j hj) fun _ _ _ => rfl)
theorem d_sizeW {K : Int → Mem → Prop} {p l : Nat} {a b : Bx} (hp : p < 500) (hl : l < 240) (he : σ 90 p = 0) (ha : bok a) (hA : bc σ 89 p a) (hb : bok b) (hB : bc σ 88 l b) (hK : K (bS (bW a b)) σ) : CC m_X10_sizeWith [vR 80, vI (p : Int), vI (l : Int)] σ (PI K) := by
  have stp : ∀ (k : Nat) (x3 : Int), k < 3 → TT m_X10_sizeWith 5 [vR 80, vI (p : Int), vI (l : Int), vI (x3 * (bW a b (2 * k + 1) - bW a b (2 * k) + 1)), vI (2 * (k : Int) + 2), vU, vU, vU, vU] [] σ (PI K) → TT m_X10_sizeWith 5 [vR 80, vI (p : Int), vI (l : Int), vI x3, vI (2 * (k : Int)), vU, vU, vU, vU] [] σ (PI K) := by
    intro k x3 hk h
    have e1 : (6 * (p : Int) + 2 * (k : Int)).toNat = 6 * p + 2 * k := by omega
    have e2 : (6 * (l : Int) + 2 * (k : Int)).toNat = 6 * l + 2 * k := by omega
    have e3 : (6 * (p : Int) + 2 * (k : Int) + 1).toNat = 6 * p + (2 * k + 1) := by omega
    have e4 : (6 * (l : Int) + 2 * (k : Int) + 1).toNat = 6 * l + (2 * k + 1) := by omega
    have ba := bok_k ha hk
    have bb := bok_k hb hk
    refine w_X10_sizeWith_5 _ _ _ _ ?_
    rw [e1, e2, e3, e4, Int.toNat_natCast, hA _ (by omega), hA _ (by omega), hB _ (by omega), hB _ (by omega)]
    refine ⟨by omega, fun z => absurd z (by omega), fun _ => ⟨by omega, by omega, fun _ => by omega, fun v8 e8 => ⟨fun _ => by omega, fun v13 e13 => ?_⟩⟩⟩
    rw [if_pos he] at e8 e13
    refine ⟨by omega, fun _ => ⟨by omega, by omega, fun _ => ⟨by omega, by omega⟩, fun _ => ⟨by omega, by omega⟩⟩, fun v34 e34 => ?_⟩
    have ev : v34 = x3 * (bW a b (2 * k + 1) - bW a b (2 * k) + 1) := by
      have hl9 : ¬ (l : Int) = -900009 := by omega
      rw [e34, if_neg hl9, if_neg hl9, if_neg (not_not_intro he), if_neg (not_not_intro he), bW_ev, bW_od, e8, e13]
      congr 3
      all_goals (split <;> omega)
    rw [ev]
    exact h
  refine e_X10_sizeWith _ _ ?_
  refine stp 0 1 (by decide) ?_
  refine stp 1 (1 * (bW a b 1 - bW a b 0 + 1)) (by decide) ?_
  refine stp 2 (1 * (bW a b 1 - bW a b 0 + 1) * (bW a b 3 - bW a b 2 + 1)) (by decide) ?_
  refine w_X10_sizeWith_5 _ _ _ _ ⟨by omega, fun _ => ?_, fun z => absurd (by omega) z⟩
  show K (1 * (bW a b 1 - bW a b 0 + 1) * (bW a b 3 - bW a b 2 + 1) * (bW a b 5 - bW a b 4 + 1)) σ
  rw [Int.one_mul]
  exact hK
theorem d_size0 {K : Int → Mem → Prop} {p : Nat} {a : Bx} (hp : p < 500) (he : σ 90 p = 0) (hA : bc σ 89 p a) (hK : K (bS a) σ) : CC m_X10_sizeWith [vR 80, vI (p : Int), vI (-900009)] σ (PI K) := by
  have stp : ∀ (k : Nat) (x3 : Int), k < 3 → TT m_X10_sizeWith 5 [vR 80, vI (p : Int), vI (-900009), vI (x3 * (a (2 * k + 1) - a (2 * k) + 1)), vI (2 * (k : Int) + 2), vU, vU, vU, vU] [] σ (PI K) → TT m_X10_sizeWith 5 [vR 80, vI (p : Int), vI (-900009), vI x3, vI (2 * (k : Int)), vU, vU, vU, vU] [] σ (PI K) := by
    intro k x3 hk h
    have e1 : (6 * (p : Int) + 2 * (k : Int)).toNat = 6 * p + 2 * k := by omega
    have e3 : (6 * (p : Int) + 2 * (k : Int) + 1).toNat = 6 * p + (2 * k + 1) := by omega
    refine w_X10_sizeWith_5 _ _ _ _ ?_
    rw [e1, e3, Int.toNat_natCast, hA _ (by omega), hA _ (by omega)]
    refine ⟨by omega, fun z => absurd z (by omega), fun _ => ⟨by omega, by omega, fun _ => by omega, fun v8 e8 => ⟨fun _ => by omega, fun v13 e13 => ?_⟩⟩⟩
    rw [if_pos he] at e8 e13
    refine ⟨by decide, fun z => absurd rfl z, fun v34 e34 => ?_⟩
    have ev : v34 = x3 * (a (2 * k + 1) - a (2 * k) + 1) := by
      rw [e34, if_pos rfl, if_pos rfl, e8, e13]
    rw [ev]
    exact h
  refine e_X10_sizeWith _ _ ?_
  refine stp 0 1 (by decide) ?_
  refine stp 1 (1 * (a 1 - a 0 + 1)) (by decide) ?_
  refine stp 2 (1 * (a 1 - a 0 + 1) * (a 3 - a 2 + 1)) (by decide) ?_
  refine w_X10_sizeWith_5 _ _ _ _ ⟨by omega, fun _ => ?_, fun z => absurd (by omega) z⟩
  show K (1 * (a 1 - a 0 + 1) * (a 3 - a 2 + 1) * (a 5 - a 4 + 1)) σ
  rw [Int.one_mul]
  exact hK
theorem d_growth {K : Int → Mem → Prop} {p l : Nat} {a b : Bx} (hp : p < 500) (hl : l < 240) (he : σ 90 p = 0) (ha : bok a) (hA : bc σ 89 p a) (hb : bok b) (hB : bc σ 88 l b) (hK : K (grw a b) σ) : CC m_X10_growth [vR 80, vI (p : Int), vI (l : Int)] σ (PI K) :=
  e_X10_growth _ _ (d_sizeW hp hl he ha hA hb hB (d_size0 hp he hA hK))
theorem d_put {K : Mem → Prop} {p l k : Nat} (h5 : ∀ q, q < gm G → gc G q ≤ 5) (hm : gm G ≤ 240) (hk : k ≤ 230) (hG : PgM σ G) (hL : LgM σ L k) (hl : l < k) (hp : p < gm G) (hf : gf G p = 0) (hc : gc G p ≤ 4) (hb : 0 < gc G p → bok (gb G p)) (hlb : bok (L l)) (hK : ∀ σ', PgM σ' (hd L G p l) → (∀ b, b ≠ 89 → b ≠ 90 → b ≠ 93 → b ≠ 94 → σ' b = σ b) → K σ') : CC m_X10_put [vR 80, vI (p : Int), vI (l : Int)] σ (PN K) := by
  obtain ⟨g0, gp9⟩ := hG
  obtain ⟨⟨⟨g91, g93⟩, g90, g92⟩, g94, g89⟩ := gp9 p hp
  rw [if_pos hf] at g93
  refine e_X10_put _ _ ?_
  rw [Int.toNat_natCast, g93, show (5 * (p : Int) + (gc G p : Int)).toNat = 5 * p + gc G p by omega]
  refine ⟨by omega, by omega, fun s3 e3 s5 e5 => ?_⟩
  have t93 : s3 93 p = (gc G p : Int) := by rw [e3, up_o1 (by decide)]; exact g93
  rw [t93] at e5
  have o5 : ∀ c, c ≠ 93 → c ≠ 94 → s5 c = σ c := fun c c1 c2 => by rw [e5, up_cell c1, e3, up_cell c2]
  have ec : ∀ q, gc (hd L G p l) q = if q = p then gc G p + 1 else gc G q := fun q => rfl
  have eb : ∀ q, gb (hd L G p l) q = if q = p then (if gc G p = 0 then L l else bW (gb G p) (L l)) else gb G q := fun q => rfl
  have eh : ∀ q, gh (hd L G p l) q = if q = p then stn (gh G p) (gc G p) l else gh G q := fun q => rfl
  refine d_join (a := gb G p) (b := L l) (em := decide (gc G p = 0)) (by omega) (by omega) ?_ (fun he => ?_) hlb ((hL.same (o5 88 (by decide) (by decide))) l hl) fun s8 hb8 h90 hf8 => ?_
  · rw [o5 90 (by decide) (by decide), g90]
    by_cases z : gc G p = 0
    · rw [if_pos z, if_pos (decide_eq_true z)]
    · rw [if_neg z, if_neg (by rw [decide_eq_false z]; decide)]
  · have z : 0 < gc G p := by
      rcases Nat.eq_zero_or_pos (gc G p) with w | w
      · rw [decide_eq_true w] at he; cases he
      · exact w
    exact ⟨hb z, fun j hj => by rw [o5 89 (by decide) (by decide)]; exact g89 z j hj⟩
  · have o8 : ∀ c, c ≠ 89 → c ≠ 90 → s8 c = s5 c := fun c c1 c2 => funext fun i => hf8 c i (fun e => absurd e c1) (fun e => absurd e c2)
    have o9 : ∀ c i, i ≠ p → c ≠ 89 → s8 c i = s5 c i := fun c i hi c1 => hf8 c i (fun e => absurd e c1) (fun _ => hi)
    refine hK s8 ⟨?_, fun q hq => ?_⟩ fun b b1 b2 b3 b4 => by rw [o8 b b1 b2, o5 b b3 b4]
    · rw [o8 80 (by decide) (by decide), o5 80 (by decide) (by decide)]; exact g0
    · have hq : q < gm G := hq
      obtain ⟨⟨⟨a91, a93⟩, a90, a92⟩, a94, a89⟩ := gp9 q hq
      have x91 : s8 91 q = σ 91 q := by rw [o8 91 (by decide) (by decide), o5 91 (by decide) (by decide)]
      have x92 : s8 92 q = σ 92 q := by rw [o8 92 (by decide) (by decide), o5 92 (by decide) (by decide)]
      have dc := ec q
      have db := eb q
      have dh := eh q
      by_cases z : q = p
      · rw [if_pos z] at dc db dh
        have x93 : s8 93 q = (gc G p : Int) + 1 := by rw [o8 93 (by decide) (by decide), e5, z, up_at]
        refine ⟨⟨⟨by rw [x91]; exact a91, ?_⟩, ?_, by rw [x92]; exact a92⟩, fun _ i hi => ?_, fun _ j hj => ?_⟩
        · show s8 93 q = if gf G q = 0 then (gc (hd L G p l) q : Int) else 0
          rw [if_pos (by rw [z]; exact hf), dc, x93]; rfl
        · rw [dc, if_neg (by omega), z]; exact h90
        · rw [dc] at hi
          rw [dh, o8 94 (by decide) (by decide), e5, up_o1 (by decide), e3, z]
          by_cases w : i = gc G p
          · rw [w, up_at, stn_at]
          · rw [up_o2 (by omega), stn_ne w]; exact g94 hf i (by omega)
        · rw [db, z, hb8 j hj]
          by_cases w : gc G p = 0
          · rw [if_pos w, if_pos (decide_eq_true w)]
          · rw [if_neg w, if_neg (by rw [decide_eq_false w]; decide)]
      · rw [if_neg z] at dc db dh
        have x93 : s8 93 q = σ 93 q := by rw [o8 93 (by decide) (by decide), e5, up_o2 z, e3, up_o1 (by decide)]
        have x90 : s8 90 q = σ 90 q := by rw [o9 90 q z (by decide), o5 90 (by decide) (by decide)]
        refine ⟨⟨⟨by rw [x91]; exact a91, ?_⟩, ?_, by rw [x92]; exact a92⟩, fun hqf i hi => ?_, fun h0 j hj => ?_⟩
        · show s8 93 q = if gf G q = 0 then (gc (hd L G p l) q : Int) else 0
          rw [dc, x93]; exact a93
        · rw [dc, x90]; exact a90
        · rw [dc] at hi
          have c5 := h5 q hq
          rw [dh, o8 94 (by decide) (by decide), e5, up_o1 (by decide), e3, up_o2 (by omega)]
          exact a94 hqf i hi
        · rw [dc] at h0
          rw [db, hf8 89 _ (fun _ => by omega) (fun e => absurd e (by decide)), o5 89 (by decide) (by decide)]
          exact a89 h0 j hj
theorem d_down {K : Mem → Prop} {n x l k : Nat} {R : Nat × (Nat → Bx)} (h : WF L G n x) (hx : gm G ≤ x) (hm : gm G ≤ 229) (hk : k ≤ 230) (hl : l < k) (hlb : bok (L l)) (hK : ∀ σ' : Mem, PgM σ' (hd L (wb G R.2) R.1 l) → (∀ c, c ≠ 89 → c ≠ 90 → c ≠ 93 → c ≠ 94 → σ' c = σ c) → R.1 < gm G → gf G R.1 = 0 → (R32 (σ' 93 R.1) ∧ ((¬ σ' 93 R.1 = 5 → K σ') ∧ (σ' 93 R.1 = 5 → CC m_X10_cut [vR 80, vI (R.1 : Int)] σ' (PN fun s9 => K s9))))) : ∀ (f p : Nat) (b : Nat → Bx) (s : Mem), JD G (L l) b p → p < gm G → 230 ≤ p + f → dsc (gf G) (L l) f p b = R → PgM s (wb G b) → LgM s L k → (∀ c, c ≠ 89 → c ≠ 90 → s c = σ c) → TT m_X10_addLeg 2 [vR 80, vI (l : Int), vI (p : Int)] [] s (PN K) := by
  intro f
  induction f with
  | zero => intro p b s _ hp hf; omega
  | succ f ih =>
    intro p b s hJ hp hf he hG hL hs
    obtain ⟨⟨⟨g91, g93⟩, g90, g92⟩, g94, g89⟩ := hG.2 p hp
    have g91 : s 91 p = if gf G p = 0 then -900009 else (gf G p : Int) := g91
    simp only [dsc] at he
    by_cases z : gf G p = 0
    · rw [if_pos z] at he g91
      refine w_X10_addLeg_2 _ _ ?_
      rw [Int.toNat_natCast, g91]
      refine ⟨by omega, by decide, fun _ => ?_, fun w => absurd rfl w⟩
      refine d_put (G := wb G b) (k := k) h.1.c5 (by show gm G ≤ 240; omega) hk hG hL hl hp z ?_ (fun h0 => hJ.1 p hp h0) hlb fun σ' hG' hf' => ?_
      · rcases h.1.2.2.1 p hp z with w | w
        · exact w
        · omega
      · rw [← he] at hK
        exact hK σ' hG' (fun c c1 c2 c3 c4 => by rw [hf' c c1 c2 c3 c4, hs c c1 c2]) hp z
    · rw [if_neg z] at he g91
      have w := h.1.2.1 p hp z
      have hc1 := h.1.2.2.2 (gf G p) (by omega) (by omega)
      have hc2 := h.1.2.2.2 (gf G p + 1) (by omega) (by omega)
      have hbp : 0 < gc G p := by omega
      have g90 : s 90 p = 0 := by rw [g90]; exact if_neg (show ¬ gc G p = 0 by omega)
      refine w_X10_addLeg_2 _ _ ?_
      rw [Int.toNat_natCast, g91]
      refine ⟨by omega, by omega, fun u => absurd u (by omega), fun _ => ?_⟩
      refine d_join (a := b p) (b := L l) (em := false) (by omega) (by omega) (by rw [g90]; rfl) (fun _ => ⟨hJ.1 p hp hbp, g89 hbp⟩) hlb (hL l hl) fun s11 hb11 h11 hf11 => ?_
      have of : ∀ c, c ≠ 89 → c ≠ 90 → s11 c = s c := fun c c1 c2 => funext fun i => hf11 c i (fun e => absurd e c1) (fun e => absurd e c2)
      have hG11 : PgM s11 (wb G (stn b p (bW (b p) (L l)))) := by
        refine ⟨by rw [of 80 (by decide) (by decide)]; exact hG.1, fun q hq => ?_⟩
        obtain ⟨⟨a1, a2, a3⟩, a4, a5⟩ := hG.2 q hq
        refine ⟨⟨by rw [of 91 (by decide) (by decide), of 93 (by decide) (by decide)]; exact a1, ?_, by rw [of 92 (by decide) (by decide)]; exact a3⟩, by rw [of 94 (by decide) (by decide)]; exact a4, fun hq0 j hj => ?_⟩
        · by_cases e : q = p
          · rw [e, h11]; exact (if_neg (show ¬ gc G p = 0 by omega)).symm
          · rw [hf11 90 q (fun e => absurd e (by decide)) (fun _ => e)]; exact a2
        · show s11 89 (6 * q + j) = stn b p (bW (b p) (L l)) q j
          by_cases e : q = p
          · rw [e, stn_at]; exact hb11 j hj
          · rw [stn_ne e, hf11 89 _ (fun _ => by omega) (fun e => absurd e (by decide))]; exact a5 hq0 j hj
      have hL11 : LgM s11 L k := hL.same (of 88 (by decide) (by decide))
      have x91 : s11 91 p = (gf G p : Int) := by rw [of 91 (by decide) (by decide)]; exact g91
      have ne1 : gf G p ≠ p := by omega
      have ne2 : gf G p + 1 ≠ p := by omega
      have k1 : s11 90 (gf G p) = 0 := by rw [(hG11.2 (gf G p) (by show _ < gm G; omega)).1.2.1]; exact if_neg (show ¬ gc G (gf G p) = 0 by omega)
      have k2 : s11 90 (gf G p + 1) = 0 := by rw [(hG11.2 (gf G p + 1) (by show _ < gm G; omega)).1.2.1]; exact if_neg (show ¬ gc G (gf G p + 1) = 0 by omega)
      have m1 : bok (b (gf G p)) := hJ.1 _ (by omega) (by omega)
      have m2 : bok (b (gf G p + 1)) := hJ.1 _ (by omega) (by omega)
      have n1 : bc s11 89 (gf G p) (b (gf G p)) := by
        have := (hG11.2 (gf G p) (by show _ < gm G; omega)).2.2 (show 0 < gc G (gf G p) by omega)
        have e : gb (wb G (stn b p (bW (b p) (L l)))) (gf G p) = b (gf G p) := stn_ne ne1
        rw [e] at this
        exact this
      have n2 : bc s11 89 (gf G p + 1) (b (gf G p + 1)) := by
        have := (hG11.2 (gf G p + 1) (by show _ < gm G; omega)).2.2 (show 0 < gc G (gf G p + 1) by omega)
        have e : gb (wb G (stn b p (bW (b p) (L l)))) (gf G p + 1) = b (gf G p + 1) := stn_ne ne2
        rw [e] at this
        exact this
      have g1 := grw_bd m1 hlb
      have g2 := grw_bd m2 hlb
      rw [x91, show (gf G p : Int) + 1 = ((gf G p + 1 : Nat) : Int) by omega]
      refine d_growth (by omega) (by omega) k2 m2 n2 hlb (hL11 l hl) ?_
      rw [x91]
      refine d_growth (by omega) (by omega) k1 m1 n1 hlb (hL11 l hl) ⟨by omega, by omega, fun v20 e20 => ?_⟩
      obtain ⟨c, hc⟩ : ∃ c : Nat, c = (if grw (b (gf G p + 1)) (L l) < grw (b (gf G p)) (L l) then gf G p + 1 else gf G p) := ⟨_, rfl⟩
      have hcc : c = gf G p ∨ c = gf G p + 1 := by rw [hc]; split; exact Or.inr rfl; exact Or.inl rfl
      have ev : v20 = (c : Int) := by
        rw [x91] at e20
        rw [e20, hc]
        by_cases u : grw (b (gf G p + 1)) (L l) < grw (b (gf G p)) (L l)
        · rw [if_pos u, if_neg (by omega)]; omega
        · rw [if_neg u, if_pos (by omega)]
      rw [ev]
      exact ih c (stn b p (bW (b p) (L l))) s11 (JD_step h hlb hJ hp z hcc) (by omega) (by omega) (by rw [hc]; exact he) hG11 hL11 fun d d1 d2 => by rw [of d d1 d2, hs d d1 d2]
end TREEM
