/-! rows come, change and go -/
def repV (V : TV) (p : Nat) (m x y : Int) : TV := (tn V, tk V, sv (tm V) p m, sv (tx V) p x, sv (ty V) p y)
def insV (V : TV) (p : Nat) (m x y : Int) : TV := (tn V + 1, tk V, ins (tm V) p m, ins (tx V) p x, ins (ty V) p y)
def del (f : Nat → Int) (r : Nat) : Nat → Int := fun i => if i < r then f i else f (i + 1)
def delV (V : TV) (r : Nat) : TV := (tn V - 1, tk V, del (tm V) r, del (tx V) r, del (ty V) r)
theorem del_lt {f : Nat → Int} {r i : Nat} (h : i < r) : del f r i = f i := by simp [del, h]
theorem del_ge {f : Nat → Int} {r i : Nat} (h : r ≤ i) : del f r i = f (i + 1) := by
  unfold del
  rw [if_neg (by omega)]
theorem repV_tok {V : TV} {p : Nat} {m x y : Int} (hV : tok V) (hp : p < tn V) (hm : tm V p = m) (hx : 0 ≤ x ∧ x < 100) (hy : 0 ≤ y ∧ y < 100) : tok (repV V p m x y) := by
  obtain ⟨h1, h2, h3, h4⟩ := hV
  have e : sv (tm V) p m = tm V := by
    funext i
    by_cases z : i = p
    · subst z; rw [sv_at, hm]
    · rw [sv_ne z]
  unfold repV
  rw [e]
  refine ⟨h1, h2, fun i hi => ?_, h4⟩
  have g := h3 i hi
  show (0 ≤ tm V i ∧ tm V i < 200) ∧ (0 ≤ sv (tx V) p x i ∧ sv (tx V) p x i < 100) ∧ (0 ≤ sv (ty V) p y i ∧ sv (ty V) p y i < 100)
  by_cases z : i = p
  · subst z; rw [sv_at, sv_at]; exact ⟨g.1, hx, hy⟩
  · rw [sv_ne z, sv_ne z]; exact g
theorem insV_tok {V : TV} {p : Nat} {m x y : Int} (hV : tok V) (hn : tn V < 24) (hp : isF V m p) (hne : p < tn V → tm V p ≠ m) (hm : 0 ≤ m ∧ m < 200) (hx : 0 ≤ x ∧ x < 100) (hy : 0 ≤ y ∧ y < 100) : tok (insV V p m x y) := by
  obtain ⟨h1, h2, h3, h4⟩ := hV
  obtain ⟨p1, p2, p3⟩ := hp
  refine ⟨hn, h2, fun i hi => ?_, fun i j hij hj => ?_⟩
  · have hi : i < tn V + 1 := hi
    show (0 ≤ ins (tm V) p m i ∧ ins (tm V) p m i < 200) ∧ (0 ≤ ins (tx V) p x i ∧ ins (tx V) p x i < 100) ∧ (0 ≤ ins (ty V) p y i ∧ ins (ty V) p y i < 100)
    rcases Nat.lt_trichotomy i p with z | z | z
    · rw [ins_lt z, ins_lt z, ins_lt z]; exact h3 i (by omega)
    · subst z; rw [ins_at, ins_at, ins_at]; exact ⟨hm, hx, hy⟩
    · rw [ins_gt z, ins_gt z, ins_gt z]; exact h3 (i - 1) (by omega)
  · have hj : j < tn V + 1 := hj
    show ins (tm V) p m i < ins (tm V) p m j
    have up : ∀ k, p ≤ k → k < tn V → m < tm V k := fun k hk hk2 => by
      have a := p3 (by omega)
      have b := hne (by omega)
      rcases Nat.lt_or_ge p k with w | w
      · have := h4 p k w hk2; omega
      · rw [show k = p by omega]; omega
    rcases Nat.lt_trichotomy j p with z | z | z
    · rw [ins_lt z, ins_lt (by omega)]; exact h4 i j hij (by omega)
    · subst z; rw [ins_at, ins_lt hij]; exact p2 i hij
    · rw [ins_gt z]
      rcases Nat.lt_trichotomy i p with w | w | w
      · rw [ins_lt w]
        have a := p2 i w
        have b := up (j - 1) (by omega) (by omega)
        omega
      · subst w; rw [ins_at]; exact up (j - 1) (by omega) (by omega)
      · rw [ins_gt w]; exact h4 (i - 1) (j - 1) (by omega) (by omega)
theorem delV_tok {V : TV} {r : Nat} (hV : tok V) (hr : r < tn V) : tok (delV V r) := by
  obtain ⟨h1, h2, h3, h4⟩ := hV
  have gd : ∀ f : Nat → Int, ∀ i, ∃ j, (j = i ∨ j = i + 1) ∧ del f r i = f j ∧ (i < r → j = i) ∧ (r ≤ i → j = i + 1) := fun f i => by
    rcases Nat.lt_or_ge i r with z | z
    · exact ⟨i, Or.inl rfl, del_lt z, fun _ => rfl, fun w => absurd z (by omega)⟩
    · exact ⟨i + 1, Or.inr rfl, del_ge z, fun w => absurd z (by omega), fun _ => rfl⟩
  refine ⟨by show tn V - 1 ≤ 24; omega, h2, fun i hi => ?_, fun i j hij hj => ?_⟩
  · have hi : i < tn V - 1 := hi
    show (0 ≤ del (tm V) r i ∧ del (tm V) r i < 200) ∧ (0 ≤ del (tx V) r i ∧ del (tx V) r i < 100) ∧ (0 ≤ del (ty V) r i ∧ del (ty V) r i < 100)
    rcases Nat.lt_or_ge i r with z | z
    · rw [del_lt z, del_lt z, del_lt z]; exact h3 i (by omega)
    · rw [del_ge z, del_ge z, del_ge z]; exact h3 (i + 1) (by omega)
  · have hj : j < tn V - 1 := hj
    show del (tm V) r i < del (tm V) r j
    obtain ⟨a, a1, a2, a3, a4⟩ := gd (tm V) i
    obtain ⟨b, b1, b2, b3, b4⟩ := gd (tm V) j
    rw [a2, b2]
    exact h4 a b (by omega) (by omega)
section CROWS
variable {σ : Mem} {K : Mem → Prop} {V : TV} {t : Nat}
theorem c_has {A B : Mem → Prop} {m : Int} {a : Nat} (ha : isT a) (hC : CT σ a V) (hV : tok V) (hm : R32 m) (h1 : ∀ p, p < tn V → tm V p = m → isF V m p → A σ) (h0 : ∀ p, isF V m p → (p < tn V → tm V p ≠ m) → B σ) : CC m_X8_hasRowAt [vR a, vI m] σ (PZ A B) := by
  have hn := hV.1
  refine e_X8_hasRowAt a ha _ (c_lastRow ha hC hV hm fun lo l1 l2 l3 => ⟨by omega, fun z => ?_, fun z => ?_⟩)
  · refine h0 lo ⟨l1, fun i hi => absurd hi (by omega), fun w => by have := l3 w; omega⟩ fun w => by have := l3 w; omega
  · have e : ((lo : Int) - 1).toNat = lo - 1 := by omega
    have b := hV.2.2.1 (lo - 1) (by omega)
    rw [e, (hC.2.2 (lo - 1) (by omega)).1]
    refine ⟨by omega, by omega, hm, fun w => h0 lo ⟨l1, fun i hi => ?_, fun w => by have := l3 w; omega⟩ fun w => by have := l3 w; omega, fun w => h1 (lo - 1) (by omega) w ⟨by omega, fun i hi => ?_, fun _ => by omega⟩⟩
    · have c := l2 (lo - 1) (by omega)
      rcases Nat.lt_or_ge i (lo - 1) with u | u
      · have := hV.2.2.2 i (lo - 1) u (by omega); omega
      · rw [show i = lo - 1 by omega]; omega
    · have := hV.2.2.2 i (lo - 1) hi (by omega); omega
theorem c_put75 {s : Mem} {W : TV} {p : Nat} {m x y : Int} (ht : t < 10) (hp : p < 24) (h0 : s (34 + 4 * t) 3 = (tn W : Int)) (h4 : s (34 + 4 * t) 4 = tk W) (hr : ∀ i, i < tn W → i ≠ p → s (34 + 4 * t + 1) i = tm W i ∧ s (34 + 4 * t + 2) i = tx W i ∧ s (34 + 4 * t + 3) i = ty W i) (hw : tm W p = m ∧ tx W p = x ∧ ty W p = y) (hf : ∀ b, (b < 34 + 4 * t ∨ 34 + 4 * t + 4 ≤ b) → s b = σ b) (hK : ∀ σ', CT σ' (34 + 4 * t) W → (∀ b, (b < 34 + 4 * t ∨ 34 + 4 * t + 4 ≤ b) → σ' b = σ b) → K σ') : TT m_X8_put 75 [vR (34 + 4 * t), vI m, vI x, vI y, vI (p : Int), vU] [] s (PN K) := by
  refine w_X8_put_75 _ ⟨t, ht, rfl⟩ _ _ _ _ ⟨by omega, fun s12 e12 s14 e14 s16 e16 => ?_⟩
  rw [Int.toNat_natCast] at e12 e14 e16
  refine hK s16 ⟨?_, ?_, fun i hi => ?_⟩ fun b hb => ?_
  · rw [e16, up_o1 (by omega), e14, up_o1 (by omega), e12, up_o1 (by omega)]; exact h0
  · rw [e16, up_o1 (by omega), e14, up_o1 (by omega), e12, up_o1 (by omega)]; exact h4
  · by_cases z : i = p
    · subst z
      rw [e16, up_o1 (by omega), up_o1 (by omega), up_at, e14, up_o1 (by omega), up_at, e12, up_at]
      exact ⟨hw.1.symm, hw.2.1.symm, hw.2.2.symm⟩
    · rw [e16, up_o2 z, up_o2 z, up_o2 z, e14, up_o2 z, up_o2 z, up_o2 z, e12, up_o2 z, up_o2 z, up_o2 z]
      exact hr i hi z
  · rw [e16, up_cell (by omega), e14, up_cell (by omega), e12, up_cell (by omega)]; exact hf b hb
theorem c_copy {s : Mem} {i j : Nat} {u v w : Int} (ht : t < 10) (hi : i < 24) (hj : j < 24) (h : s (34 + 4 * t + 1) i = u ∧ s (34 + 4 * t + 2) i = v ∧ s (34 + 4 * t + 3) i = w) (hK : ∀ s', (∀ b, (b < 34 + 4 * t + 1 ∨ 34 + 4 * t + 4 ≤ b) → s' b = s b) → (s' (34 + 4 * t + 1) j = u ∧ s' (34 + 4 * t + 2) j = v ∧ s' (34 + 4 * t + 3) j = w) → (∀ b k, k ≠ j → s' b k = s b k) → K s') : CC m_X8_copyRow [vR (34 + 4 * t), vI (i : Int), vI (j : Int)] s (PN K) := by
  refine e_X8_copyRow _ ⟨t, ht, rfl⟩ _ _ ?_
  simp only [Int.toNat_natCast]
  refine ⟨by omega, by omega, fun s3 e3 s5 e5 s7 e7 => ?_⟩
  rw [h.1] at e3
  rw [e3, up_o1 (by omega), h.2.1] at e5
  rw [e5, up_o1 (by omega), up_o1 (by omega), h.2.2] at e7
  refine hK s7 (fun b hb => ?_) ?_ fun b k hk => ?_
  · rw [e7, up_cell (by omega), up_cell (by omega), up_cell (by omega)]
  · rw [e7, up_o1 (by omega), up_o1 (by omega), up_at, up_o1 (by omega), up_at, up_at]
    exact ⟨rfl, rfl, rfl⟩
  · rw [e7, up_o2 hk, up_o2 hk, up_o2 hk]
theorem c_putE {p : Nat} {m x y : Int} (ht : t < 10) (hC : CT σ (34 + 4 * t) V) (hV : tok V) (hm : R32 m) (hp : p < tn V) (hpm : tm V p = m) (hK : ∀ σ', CT σ' (34 + 4 * t) (repV V p m x y) → (∀ b, (b < 34 + 4 * t ∨ 34 + 4 * t + 4 ≤ b) → σ' b = σ b) → K σ') : CC m_X8_put [vR (34 + 4 * t), vI m, vI x, vI y] σ (PN K) := by
  have hn := hV.1
  have ha : isT (34 + 4 * t) := ⟨t, ht, rfl⟩
  refine e_X8_put _ ha _ _ _ (c_lastRow ha hC hV hm fun lo l1 l2 l3 => ?_)
  have hlo : lo = p + 1 := by
    rcases Nat.lt_trichotomy lo (p + 1) with z | z | z
    · have a := l3 (by omega)
      rcases Nat.lt_or_ge lo p with w | w
      · have := hV.2.2.2 lo p w hp; omega
      · rw [show lo = p by omega] at a; omega
    · exact z
    · have a := l2 (p + 1) z
      have := hV.2.2.2 p (p + 1) (by omega) (by omega); omega
  rw [hlo, show ((p + 1 : Nat) : Int) - 1 = (p : Int) by omega, Int.toNat_natCast, (hC.2.2 p hp).1]
  refine ⟨by omega, fun z => absurd z (by omega), fun _ => ⟨by omega, by omega, hm, fun _ => ?_, fun z => absurd hpm z⟩⟩
  refine c_put75 (W := repV V p m x y) ht (by omega) hC.1 hC.2.1 (fun i hi hne => ?_) ⟨sv_at, sv_at, sv_at⟩ (fun _ _ => rfl) hK
  show _ = sv _ _ _ i ∧ _ = sv _ _ _ i ∧ _ = sv _ _ _ i
  rw [sv_ne hne, sv_ne hne, sv_ne hne]
  exact hC.2.2 i hi
theorem c_putN {p : Nat} {m x y : Int} (ht : t < 10) (hC : CT σ (34 + 4 * t) V) (hV : tok V) (hm : R32 m) (hn : tn V < 24) (hp : isF V m p) (hne : p < tn V → tm V p ≠ m) (hK : ∀ σ', CT σ' (34 + 4 * t) (insV V p m x y) → (∀ b, (b < 34 + 4 * t ∨ 34 + 4 * t + 4 ≤ b) → σ' b = σ b) → K σ') : CC m_X8_put [vR (34 + 4 * t), vI m, vI x, vI y] σ (PN K) := by
  have ha : isT (34 + 4 * t) := ⟨t, ht, rfl⟩
  have p1 := hp.1
  have loop : ∀ (d j : Nat) (s : Mem), p + d = j → j ≤ tn V → s (34 + 4 * t) = σ (34 + 4 * t) → (∀ b, (b < 34 + 4 * t ∨ 34 + 4 * t + 4 ≤ b) → s b = σ b) → (∀ i, i < j → s (34 + 4 * t + 1) i = tm V i ∧ s (34 + 4 * t + 2) i = tx V i ∧ s (34 + 4 * t + 3) i = ty V i) → (∀ i, j < i → i ≤ tn V → s (34 + 4 * t + 1) i = tm V (i - 1) ∧ s (34 + 4 * t + 2) i = tx V (i - 1) ∧ s (34 + 4 * t + 3) i = ty V (i - 1)) → TT m_X8_put 42 [vR (34 + 4 * t), vI m, vI x, vI y, vI (p : Int), vI (j : Int)] [] s (PN K) := by
    intro d
    induction d with
    | zero =>
      intro j s hj hjn h0 hf h1 h2
      have hj : j = p := by omega
      subst hj
      refine w_X8_put_42 _ ha _ _ _ _ _ ⟨by omega, by omega, fun _ s21 e21 => ?_, fun z => absurd (Int.le_refl _) z⟩
      rw [h0, hC.1] at e21
      refine c_put75 (σ := σ) (W := insV V j m x y) ht (by omega) (by rw [e21, up_at]; rfl) (by rw [e21, up_o2 (by decide), h0]; exact hC.2.1) (fun i hi hij => ?_) ⟨ins_at, ins_at, ins_at⟩ (fun b hb => by rw [e21, up_cell (by omega)]; exact hf b hb) hK
      have hi : i < tn V + 1 := hi
      rw [e21, up_o1 (by omega), up_o1 (by omega), up_o1 (by omega)]
      show _ = ins _ _ _ i ∧ _ = ins _ _ _ i ∧ _ = ins _ _ _ i
      rcases Nat.lt_or_ge i j with z | z
      · rw [ins_lt z, ins_lt z, ins_lt z]; exact h1 i z
      · have z : j < i := by omega
        rw [ins_gt z, ins_gt z, ins_gt z]; exact h2 i z (by omega)
    | succ d ih =>
      intro j s hj hjn h0 hf h1 h2
      refine w_X8_put_42 _ ha _ _ _ _ _ ⟨by omega, by omega, fun z => absurd z (by omega), fun _ => ?_⟩
      rw [show (j : Int) - 1 = ((j - 1 : Nat) : Int) by omega, show (j : Int) + -1 = ((j - 1 : Nat) : Int) by omega]
      refine c_copy ht (by omega) (by omega) (h1 (j - 1) (by omega)) fun s' f1 f2 f3 => ?_
      refine ih (j - 1) s' (by omega) (by omega) (by rw [f1 _ (by omega)]; exact h0) (fun b hb => by rw [f1 b (by omega)]; exact hf b hb) (fun i hi => ?_) (fun i hi hi2 => ?_)
      · rw [f3 _ i (by omega), f3 _ i (by omega), f3 _ i (by omega)]; exact h1 i (by omega)
      · by_cases z : i = j
        · subst z; exact f2
        · rw [f3 _ i z, f3 _ i z, f3 _ i z]; exact h2 i (by omega) hi2
  have start : ∀ lo : Nat, lo ≤ tn V → (∀ i, i < lo → tm V i ≤ m) → (lo < tn V → m < tm V lo) → lo = p := by
    intro lo l1 l2 l3
    refine isF_one (V := V) (t := m) ⟨l1, fun i hi => ?_, fun w => by have := l3 w; omega⟩ hp
    have := l2 i hi
    rcases Nat.lt_or_ge i p with z | z
    · exact hp.2.1 i z
    · have a := hp.2.2 (by omega)
      have b := hne (by omega)
      rcases Nat.lt_or_ge p i with w | w
      · have := hV.2.2.2 p i w (by omega); omega
      · rw [show i = p by omega] at this; omega
  have go : TT m_X8_put 23 [vR (34 + 4 * t), vI m, vI x, vI y, vI ((p : Int) - 1), vU] [] σ (PN K) := by
    refine w_X8_put_23 _ ha _ _ _ _ ?_
    rw [hC.1, show (p : Int) - 1 + 1 = (p : Int) by omega]
    exact ⟨by omega, fun _ => loop (tn V - p) (tn V) σ (by omega) (Nat.le_refl _) rfl (fun _ _ => rfl) hC.2.2 (fun i h1 h2 => absurd h1 (by omega)), fun z => absurd z (by omega)⟩
  refine e_X8_put _ ha _ _ _ (c_lastRow ha hC hV hm fun lo l1 l2 l3 => ?_)
  have hlo := start lo l1 l2 l3
  subst hlo
  refine ⟨by omega, fun _ => go, fun z => ?_⟩
  have b := hV.2.2.1 (lo - 1) (by omega)
  have c := hp.2.1 (lo - 1) (by omega)
  rw [show ((lo : Int) - 1).toNat = lo - 1 by omega, (hC.2.2 (lo - 1) (by omega)).1]
  exact ⟨by omega, by omega, hm, fun w => absurd w (by omega), fun _ => go⟩
theorem c_drop {r : Nat} (ht : t < 10) (hC : CT σ (34 + 4 * t) V) (hV : tok V) (hr : r < tn V) (hK : ∀ σ', CT σ' (34 + 4 * t) (delV V r) → (∀ b, (b < 34 + 4 * t ∨ 34 + 4 * t + 4 ≤ b) → σ' b = σ b) → K σ') : CC m_X8_drop [vR (34 + 4 * t), vI (r : Int)] σ (PN K) := by
  have hn := hV.1
  have ha : isT (34 + 4 * t) := ⟨t, ht, rfl⟩
  have loop : ∀ (d j : Nat) (s : Mem), j + 1 + d = tn V → r ≤ j → s (34 + 4 * t) = σ (34 + 4 * t) → (∀ b, (b < 34 + 4 * t ∨ 34 + 4 * t + 4 ≤ b) → s b = σ b) → (∀ i, i < j → s (34 + 4 * t + 1) i = del (tm V) r i ∧ s (34 + 4 * t + 2) i = del (tx V) r i ∧ s (34 + 4 * t + 3) i = del (ty V) r i) → (∀ i, j < i → i < tn V → s (34 + 4 * t + 1) i = tm V i ∧ s (34 + 4 * t + 2) i = tx V i ∧ s (34 + 4 * t + 3) i = ty V i) → TT m_X8_drop 2 [vR (34 + 4 * t), vU, vI (j : Int)] [] s (PN K) := by
    intro d
    induction d with
    | zero =>
      intro j s hj hrj h0 hf h1 h2
      refine w_X8_drop_2 _ ha _ ?_
      rw [h0, hC.1]
      refine ⟨by omega, by omega, fun _ s4 e4 => ?_, fun z => absurd z (by omega)⟩
      refine hK s4 ⟨by rw [e4, up_at]; show _ = ((tn V - 1 : Nat) : Int); omega, by rw [e4, up_o2 (by decide), h0]; exact hC.2.1, fun i hi => ?_⟩ fun b hb => by rw [e4, up_cell (by omega)]; exact hf b hb
      have hi : i < tn V - 1 := hi
      rw [e4, up_o1 (by omega), up_o1 (by omega), up_o1 (by omega)]
      exact h1 i (by omega)
    | succ d ih =>
      intro j s hj hrj h0 hf h1 h2
      refine w_X8_drop_2 _ ha _ ?_
      rw [h0, hC.1, show (j : Int) + 1 = ((j + 1 : Nat) : Int) by omega]
      refine ⟨by omega, by omega, fun z => absurd z (by omega), fun _ => ?_⟩
      refine c_copy ht (by omega) (by omega) (h2 (j + 1) (by omega) (by omega)) fun s' f1 f2 f3 => ?_
      refine ih (j + 1) s' (by omega) (by omega) (by rw [f1 _ (by omega)]; exact h0) (fun b hb => by rw [f1 b (by omega)]; exact hf b hb) (fun i hi => ?_) (fun i hi hi2 => ?_)
      · by_cases z : i = j
        · subst z; rw [del_ge hrj, del_ge hrj, del_ge hrj]; exact f2
        · rw [f3 _ i z, f3 _ i z, f3 _ i z]; exact h1 i (by omega)
      · rw [f3 _ i (by omega), f3 _ i (by omega), f3 _ i (by omega)]; exact h2 i (by omega) hi2
  exact e_X8_drop _ ha _ (loop (tn V - (r + 1)) r σ (by omega) (Nat.le_refl r) rfl (fun _ _ => rfl) (fun i hi => by rw [del_lt hi, del_lt hi, del_lt hi]; exact hC.2.2 i (by omega)) (fun i _ hi => hC.2.2 i hi))
end CROWS
