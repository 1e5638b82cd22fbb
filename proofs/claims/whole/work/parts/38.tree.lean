/-! boxes -/
abbrev Bx : Type := Nat → Int
def bW (a b : Bx) : Bx := fun j => if j % 2 = 0 then min (a j) (b j) else max (a j) (b j)
def bS (a : Bx) : Int := (a 1 - a 0 + 1) * (a 3 - a 2 + 1) * (a 5 - a 4 + 1)
def bok (a : Bx) : Prop := (0 ≤ a 0 ∧ a 0 ≤ a 1 ∧ a 1 < 200) ∧ (0 ≤ a 2 ∧ a 2 ≤ a 3 ∧ a 3 < 200) ∧ (0 ≤ a 4 ∧ a 4 ≤ a 5 ∧ a 5 < 200)
def bsub (a b : Bx) : Prop := (b 0 ≤ a 0 ∧ a 1 ≤ b 1) ∧ (b 2 ≤ a 2 ∧ a 3 ≤ b 3) ∧ (b 4 ≤ a 4 ∧ a 5 ≤ b 5)
def grw (a l : Bx) : Int := bS (bW a l) - bS a
theorem bW_all (a b : Bx) : (bW a b 0 = min (a 0) (b 0) ∧ bW a b 1 = max (a 1) (b 1)) ∧ (bW a b 2 = min (a 2) (b 2) ∧ bW a b 3 = max (a 3) (b 3)) ∧ (bW a b 4 = min (a 4) (b 4) ∧ bW a b 5 = max (a 5) (b 5)) := ⟨⟨rfl, rfl⟩, ⟨rfl, rfl⟩, ⟨rfl, rfl⟩⟩
theorem bok.W {a b : Bx} (ha : bok a) (hb : bok b) : bok (bW a b) := by
  have e := bW_all a b
  unfold bok at *
  omega
theorem bsub.rf (a : Bx) : bsub a a := by unfold bsub; omega
theorem bsub.tr {a b c : Bx} (h : bsub a b) (h2 : bsub b c) : bsub a c := by unfold bsub at *; omega
theorem bsub_W1 (a b : Bx) : bsub a (bW a b) := by
  have e := bW_all a b
  unfold bsub
  omega
theorem bsub_W2 (a b : Bx) : bsub b (bW a b) := by
  have e := bW_all a b
  unfold bsub
  omega
theorem bsub.W {a b c : Bx} (h : bsub a c) (h2 : bsub b c) : bsub (bW a b) c := by
  have e := bW_all a b
  unfold bsub at *
  omega
theorem bS_bd {a : Bx} (h : bok a) : 1 ≤ bS a ∧ bS a ≤ 8000000 := by
  obtain ⟨h1, h2, h3⟩ := h
  unfold bS
  generalize hx : a 1 - a 0 + 1 = x
  generalize hy : a 3 - a 2 + 1 = y
  generalize hz : a 5 - a 4 + 1 = z
  have k1 : 1 * 1 ≤ x * y := Int.mul_le_mul (by omega) (by omega) (by omega) (by omega)
  have k2 : x * y ≤ 200 * 200 := Int.mul_le_mul (by omega) (by omega) (by omega) (by omega)
  have k3 : 1 * 1 ≤ x * y * z := Int.mul_le_mul (by omega) (by omega) (by omega) (by omega)
  have k4 : x * y * z ≤ 40000 * 200 := Int.mul_le_mul (by omega) (by omega) (by omega) (by omega)
  omega
theorem grw_bd {a l : Bx} (h : bok a) (hl : bok l) : -8000000 ≤ grw a l ∧ grw a l ≤ 8000000 := by
  have h1 := bS_bd h
  have h2 := bS_bd (h.W hl)
  unfold grw
  omega
def stn {α : Type} (f : Nat → α) (k : Nat) (v : α) : Nat → α := fun j => if j = k then v else f j
theorem stn_at {α : Type} {f : Nat → α} {k : Nat} {v : α} : stn f k v k = v := by simp [stn]
theorem stn_ne {α : Type} {f : Nat → α} {k j : Nat} {v : α} (h : j ≠ k) : stn f k v j = f j := by simp [stn, h]
/-! pages: how many, forks, counts, held legs, boxes, depths -/
abbrev PG : Type := Nat × (Nat → Nat) × (Nat → Nat) × (Nat → Nat → Nat) × (Nat → Bx) × (Nat → Int)
abbrev gm (G : PG) : Nat := G.1
abbrev gf (G : PG) : Nat → Nat := G.2.1
abbrev gc (G : PG) : Nat → Nat := G.2.2.1
abbrev gh (G : PG) : Nat → Nat → Nat := G.2.2.2.1
abbrev gb (G : PG) : Nat → Bx := G.2.2.2.2.1
abbrev gp (G : PG) : Nat → Int := G.2.2.2.2.2
def wb (G : PG) (b : Nat → Bx) : PG := (gm G, gf G, gc G, gh G, b, gp G)
def hd (L : Nat → Bx) (G : PG) (p l : Nat) : PG := (gm G, gf G, stn (gc G) p (gc G p + 1), stn (gh G) p (stn (gh G p) (gc G p) l), stn (gb G) p (if gc G p = 0 then L l else bW (gb G p) (L l)), gp G)
def dsc (F : Nat → Nat) (l : Bx) : Nat → Nat → (Nat → Bx) → Nat × (Nat → Bx)
  | 0, p, b => (p, b)
  | k + 1, p, b => if F p = 0 then (p, b) else dsc F l k (if grw (b (F p + 1)) l < grw (b (F p)) l then F p + 1 else F p) (stn b p (bW (b p) l))
/-! sorting five legs -/
def kS (L : Nat → Bx) (ax x : Nat) : Int := L x (2 * ax) + L x (2 * ax + 1)
def ahL (L : Nat → Bx) (ax x y : Nat) : Bool := decide (kS L ax x < kS L ax y ∨ (kS L ax x = kS L ax y ∧ x < y))
def inp (ah : Nat → Nat → Bool) (o : Nat → Nat) (x : Nat) : Nat → Nat
  | 0 => 0
  | k + 1 => if ah x (o k) = true then inp ah o x k else k + 1
def srt (ah : Nat → Nat → Bool) (h : Nat → Nat) : Nat → Nat → Nat
  | 0 => fun _ => 0
  | i + 1 => ins (srt ah h i) (inp ah (srt ah h i) (h i) i) (h i)
theorem inp_le (ah : Nat → Nat → Bool) (o : Nat → Nat) (x : Nat) : ∀ k, inp ah o x k ≤ k
  | 0 => Nat.le_refl 0
  | k + 1 => by
    have := inp_le ah o x k
    simp only [inp]
    split <;> omega
theorem srt_mem (ah : Nat → Nat → Bool) (h : Nat → Nat) : ∀ i l, l < i → ∃ j, j < i ∧ srt ah h i l = h j
  | 0, l, q => absurd q (Nat.not_lt_zero l)
  | i + 1, l, q => by
    have ih := srt_mem ah h i
    have b := inp_le ah (srt ah h i) (h i) i
    simp only [srt]
    rcases Nat.lt_trichotomy l (inp ah (srt ah h i) (h i) i) with z | z | z
    · rw [ins_lt z]
      obtain ⟨j, j1, j2⟩ := ih l (by omega)
      exact ⟨j, by omega, j2⟩
    · rw [z, ins_at]
      exact ⟨i, by omega, rfl⟩
    · rw [ins_gt z]
      obtain ⟨j, j1, j2⟩ := ih (l - 1) (by omega)
      exact ⟨j, by omega, j2⟩
/-- the least box round the legs at places a to a + k -/
def fb (L : Nat → Bx) (o : Nat → Nat) (a : Nat) : Nat → Bx
  | 0 => L (o a)
  | k + 1 => bW (fb L o a k) (L (o (a + (k + 1))))
theorem fb_ok {L : Nat → Bx} {o : Nat → Nat} {a : Nat} : ∀ {k : Nat}, (∀ i, i ≤ k → bok (L (o (a + i)))) → bok (fb L o a k)
  | 0, h => h 0 (Nat.le_refl 0)
  | k + 1, h => (fb_ok fun i hi => h i (by omega)).W (h (k + 1) (Nat.le_refl _))
/-- the six ways to cut, one after the other -/
def cOrd (L : Nat → Bx) (h : Nat → Nat) (c : Nat) : Nat → Nat := srt (ahL L (c / 2)) h 5
def cMany (c : Nat) : Nat := 2 + c % 2
def cSum (L : Nat → Bx) (h : Nat → Nat) (c : Nat) : Int := bS (fb L (cOrd L h c) 0 (cMany c - 1)) + bS (fb L (cOrd L h c) (cMany c) (4 - cMany c))
def cBest (L : Nat → Bx) (h : Nat → Nat) : Nat → Nat × Int × (Nat → Nat)
  | 0 => (2, 200000000, fun _ => 0)
  | c + 1 => if cSum L h c < (cBest L h c).2.1 then (cMany c, cSum L h c, cOrd L h c) else cBest L h c
theorem cSum_bd {L : Nat → Bx} {h : Nat → Nat} (hL : ∀ i, i < 5 → bok (L (h i))) (c : Nat) : 2 ≤ cSum L h c ∧ cSum L h c ≤ 16000000 := by
  have o : ∀ i, i < 5 → bok (L (cOrd L h c i)) := fun i hi => by
    obtain ⟨j, j1, j2⟩ := srt_mem (ahL L (c / 2)) h 5 i hi
    unfold cOrd
    rw [j2]
    exact hL j j1
  have m : cMany c = 2 ∨ cMany c = 3 := by unfold cMany; omega
  have a := bS_bd (fb_ok (L := L) (o := cOrd L h c) (a := 0) (k := cMany c - 1) fun i hi => o (0 + i) (by omega))
  have b := bS_bd (fb_ok (L := L) (o := cOrd L h c) (a := cMany c) (k := 4 - cMany c) fun i hi => o (cMany c + i) (by omega))
  unfold cSum
  omega
theorem cBest_spec {L : Nat → Bx} {h : Nat → Nat} (hL : ∀ i, i < 5 → bok (L (h i))) : ∀ c, 0 < c → ((cBest L h c).1 = 2 ∨ (cBest L h c).1 = 3) ∧ (2 ≤ (cBest L h c).2.1 ∧ (cBest L h c).2.1 ≤ 16000000) ∧ ∀ i, i < 5 → ∃ j, j < 5 ∧ (cBest L h c).2.2 i = h j
  | 0, q => absurd q (Nat.lt_irrefl 0)
  | c + 1, _ => by
    have b := cSum_bd hL c
    have m : cMany c = 2 ∨ cMany c = 3 := by unfold cMany; omega
    simp only [cBest]
    by_cases z : cSum L h c < (cBest L h c).2.1
    · rw [if_pos z]
      exact ⟨m, b, fun i hi => srt_mem (ahL L (c / 2)) h 5 i hi⟩
    · rw [if_neg z]
      rcases Nat.eq_zero_or_pos c with w | w
      · subst w
        exact absurd (show cSum L h 0 < 200000000 by omega) z
      · exact cBest_spec hL c w
/-! taking a leg in -/
def nl2 (G : PG) (p : Nat) : PG := (gm G + 2, stn (stn (gf G) (gm G) 0) (gm G + 1) 0, stn (stn (gc G) (gm G) 0) (gm G + 1) 0, gh G, gb G, stn (stn (gp G) (gm G) (gp G p + 1)) (gm G + 1) (gp G p + 1))
def hdN (L : Nat → Bx) (G : PG) (a many : Nat) (o : Nat → Nat) : Nat → PG
  | 0 => G
  | i + 1 => hd L (hdN L G a many o i) (if i < many then a else a + 1) (o i)
def stF (G : PG) (p v : Nat) : PG := (gm G, stn (gf G) p v, gc G, gh G, gb G, gp G)
def cutG (L : Nat → Bx) (G : PG) (p : Nat) : PG := stF (hdN L (nl2 G p) (gm G) (cBest L (gh G p) 6).1 (cBest L (gh G p) 6).2.2 5) p (gm G)
def tkL (L : Nat → Bx) (G : PG) (l : Nat) : Nat × PG := ((dsc (gf G) (L l) 230 0 (gb G)).1, hd L (wb G (dsc (gf G) (L l) 230 0 (gb G)).2) (dsc (gf G) (L l) 230 0 (gb G)).1 l)
def addG (L : Nat → Bx) (G : PG) (l : Nat) : PG := if gc (tkL L G l).2 (tkL L G l).1 = 5 then cutG L (tkL L G l).2 (tkL L G l).1 else (tkL L G l).2
def bld (L : Nat → Bx) : Nat → PG
  | 0 => (1, fun _ => 0, fun _ => 0, fun _ _ => 0, fun _ _ => 0, fun _ => 1)
  | n + 1 => addG L (bld L n) n
/-! sums -/
def sn (f : Nat → Int) : Nat → Int
  | 0 => 0
  | n + 1 => sn f n + f n
theorem sn_cong {f g : Nat → Int} : ∀ {n : Nat}, (∀ k, k < n → g k = f k) → sn g n = sn f n
  | 0, _ => rfl
  | n + 1, h => by simp only [sn]; rw [sn_cong fun k hk => h k (by omega), h n (by omega)]
theorem sn_one {f g : Nat → Int} {p : Nat} : ∀ {n : Nat}, p < n → (∀ k, k < n → k ≠ p → g k = f k) → sn g n = sn f n - f p + g p
  | 0, h, _ => absurd h (Nat.not_lt_zero p)
  | n + 1, h, hk => by
    simp only [sn]
    by_cases e : p = n
    · subst e
      rw [sn_cong fun k q => hk k (by omega) (by omega)]
      omega
    · rw [sn_one (by omega) fun k q q2 => hk k (by omega) q2, hk n (by omega) (Ne.symm e)]
      omega
theorem sn_nn {f : Nat → Int} : ∀ {n : Nat}, (∀ k, k < n → 0 ≤ f k) → 0 ≤ sn f n
  | 0, _ => Int.le_refl 0
  | n + 1, h => by
    have a := sn_nn (n := n) fun k hk => h k (by omega)
    have b := h n (by omega)
    simp only [sn]
    omega
theorem sn_ge {f : Nat → Int} {p : Nat} : ∀ {n : Nat}, p < n → (∀ k, k < n → 0 ≤ f k) → f p ≤ sn f n
  | 0, h, _ => absurd h (Nat.not_lt_zero p)
  | n + 1, h, hk => by
    have a := sn_nn (n := n) fun k hk2 => hk k (by omega)
    have b := hk n (by omega)
    simp only [sn]
    by_cases e : p = n
    · subst e; omega
    · have := sn_ge (n := n) (p := p) (by omega) fun k hk2 => hk k (by omega)
      omega
/-! what holds of pages, so many legs being in them; x is a leaf that may be too full -/
def wt (G : PG) : Nat → Int := fun p => if gf G p = 0 then (gc G p : Int) - 2 else 0
def lfB (G : PG) : Nat → Bool := fun p => decide (gf G p = 0)
def W1 (G : PG) (x : Nat) : Prop := (1 ≤ gm G ∧ gm G % 2 = 1) ∧ (∀ p, p < gm G → gf G p ≠ 0 → (p < gf G p ∧ gf G p + 1 < gm G) ∧ gf G p % 2 = 1 ∧ gc G p = 5) ∧ (∀ p, p < gm G → gf G p = 0 → gc G p ≤ 4 ∨ (p = x ∧ gc G p = 5)) ∧ ∀ p, p < gm G → 0 < p → 2 ≤ gc G p
def W2 (G : PG) : Prop := (∀ p q, p < gm G → q < gm G → gf G p ≠ 0 → gf G p = gf G q → p = q) ∧ (∀ p, p < gm G → 0 < p → ∃ q, q < gm G ∧ gf G q ≠ 0 ∧ (p = gf G q ∨ p = gf G q + 1)) ∧ gp G 0 = 1 ∧ ∀ p, p < gm G → gf G p ≠ 0 → gp G (gf G p) = gp G p + 1 ∧ gp G (gf G p + 1) = gp G p + 1
def W3 (L : Nat → Bx) (G : PG) (n : Nat) : Prop := (∀ p, p < gm G → 0 < gc G p → bok (gb G p)) ∧ (∀ p, p < gm G → gf G p ≠ 0 → bsub (gb G (gf G p)) (gb G p) ∧ bsub (gb G (gf G p + 1)) (gb G p)) ∧ ∀ p, p < gm G → ∀ i, i < gc G p → gh G p i < n ∧ bsub (L (gh G p i)) (gb G p)
def W4 (G : PG) (n : Nat) : Prop := 2 * ct (lfB G) (gm G) = (gm G : Int) + 1 ∧ sn (wt G) (gm G) = (n : Int) - ((gm G : Int) + 1)
def WF (L : Nat → Bx) (G : PG) (n x : Nat) : Prop := W1 G x ∧ W2 G ∧ W3 L G n ∧ W4 G n
theorem root_fork {G : PG} {x : Nat} (h1 : W1 G x) (h2 : W2 G) (h : 1 < gm G) : gf G 0 ≠ 0 := by
  obtain ⟨q, q1, q2, q3⟩ := h2.2.1 1 h (by omega)
  have a := (h1.2.1 q q1 q2).1
  have e : q = 0 := by omega
  subst e
  exact q2
