def mrow (σ σ' : Mem) (t : Nat) : Prop := (∀ b, b ≠ 80 → b ≠ 81 → b ≠ 82 → b ≠ 83 → b ≠ 84 → σ' b = σ b) ∧ (∀ i, i ≠ 5 → σ' 80 i = σ 80 i) ∧ (∀ s, s ≠ t → σ' 81 s = σ 81 s) ∧ (∀ b i, (b = 82 ∨ b = 83 ∨ b = 84) → (i < 24 * t ∨ 24 * t + 24 ≤ i) → σ' b i = σ b i)
section DROWS
variable {σ : Mem} {V : TV} {t : Nat}
theorem d_move {K : Mem → Prop} {s : Mem} {i j : Nat} {u v w : Int} (ht : t < 10) (hi : i < 24) (hj : j < 24) (h : s 82 (24 * t + i) = u ∧ s 83 (24 * t + i) = v ∧ s 84 (24 * t + i) = w) (hK : ∀ s', (∀ b, b ≠ 82 → b ≠ 83 → b ≠ 84 → s' b = s b) → (s' 82 (24 * t + j) = u ∧ s' 83 (24 * t + j) = v ∧ s' 84 (24 * t + j) = w) → (∀ b k, k ≠ 24 * t + j → s' b k = s b k) → K s') : CC m_X10_move [vR 80, vI (t : Int), vI (i : Int), vI (j : Int)] s (PN K) := by
  refine e_X10_move _ _ _ ?_
  have e1 : (24 * (t : Int) + (i : Int)).toNat = 24 * t + i := by omega
  have e2 : (24 * (t : Int) + (j : Int)).toNat = 24 * t + j := by omega
  rw [e1, e2]
  refine ⟨by omega, by omega, fun s3 e3 s5 e5 s7 e7 => ?_⟩
  rw [h.1] at e3
  rw [e3, up_o1 (by decide), h.2.1] at e5
  rw [e5, up_o1 (by decide), up_o1 (by decide), h.2.2] at e7
  refine hK s7 (fun b b1 b2 b3 => ?_) ?_ fun b k hk => ?_
  · rw [e7, up_cell b3, up_cell b2, up_cell b1]
  · rw [e7, up_o1 (by decide), up_o1 (by decide), up_at, up_o1 (by decide), up_at, up_at]
    exact ⟨rfl, rfl, rfl⟩
  · rw [e7, up_o2 hk, up_o2 hk, up_o2 hk]
theorem d_say171 {K : Int → Mem → Prop} {s : Mem} {W : TV} {p : Nat} {m x y x6 : Int} (ht : t < 10) (hp : p < 24) (h6 : x6 = 0 ∨ x6 = 1) (hn : tn W = tn V + (if x6 = 0 then 1 else 0)) (hk : tk W = tk V) (hM : MT σ t V) (hf : (∀ b, b ≠ 82 → b ≠ 83 → b ≠ 84 → s b = σ b)) (hf2 : ∀ b i, (b = 82 ∨ b = 83 ∨ b = 84) → (i < 24 * t ∨ 24 * t + 24 ≤ i) → s b i = σ b i) (hr : ∀ i, i < tn W → i ≠ p → s 82 (24 * t + i) = tm W i ∧ s 83 (24 * t + i) = tx W i ∧ s 84 (24 * t + i) = ty W i) (hw : tm W p = m ∧ tx W p = x ∧ ty W p = y) (hK : ∀ σ', MT σ' t W → mrow σ σ' t → σ' 80 5 = σ 80 5 + (if x6 = 0 then 0 else 1) → K (tn W : Int) σ') : TT m_X10_say 171 [vR 80, vI (t : Int), vI m, vI x, vI y, vI (p : Int), vI x6, vU] [] s (PI K) := by
  refine w_X10_say_171 _ _ _ _ _ _ ?_
  have e1 : (24 * (t : Int) + (p : Int)).toNat = 24 * t + p := by omega
  rw [e1, Int.toNat_natCast]
  refine ⟨by omega, fun s54 e54 s56 e56 s58 e58 => ⟨by omega, fun s63 e63 => ⟨by omega, fun s68 e68 => ?_⟩⟩⟩
  have c80 : s58 80 = σ 80 := by rw [e58, up_cell (by decide), e56, up_cell (by decide), e54, up_cell (by decide)]; exact hf 80 (by decide) (by decide) (by decide)
  have c81 : s63 81 = σ 81 := by rw [e63, up_cell (by decide), e58, up_cell (by decide), e56, up_cell (by decide), e54, up_cell (by decide)]; exact hf 81 (by decide) (by decide) (by decide)
  have v81 : s68 81 t = (tn W : Int) := by
    rw [e68, up_at, c81, hM.1, hn]
    split <;> omega
  have row : ∀ b, b ≠ 81 → b ≠ 80 → s68 b = s58 b := fun b b1 b2 => by rw [e68, up_cell b1, e63, up_cell b2]
  rw [v81]
  refine hK s68 ⟨v81, ?_, fun i hi => ?_⟩ ⟨fun b b0 b1 b2 b3 b4 => ?_, fun i hi => ?_, fun s' hs' => ?_, fun b i hb hi => ?_⟩ ?_
  · rw [row 85 (by decide) (by decide), e58, up_o1 (by decide), e56, up_o1 (by decide), e54, up_o1 (by decide), hf 85 (by decide) (by decide) (by decide), hk]; exact hM.2.1
  · rw [row 82 (by decide) (by decide), row 83 (by decide) (by decide), row 84 (by decide) (by decide)]
    by_cases z : i = p
    · subst z
      rw [e58, up_o1 (by decide), up_o1 (by decide), up_at, e56, up_o1 (by decide), up_at, e54, up_at]
      exact ⟨hw.1.symm, hw.2.1.symm, hw.2.2.symm⟩
    · have z2 : 24 * t + i ≠ 24 * t + p := by omega
      rw [e58, up_o2 z2, up_o2 z2, up_o2 z2, e56, up_o2 z2, up_o2 z2, up_o2 z2, e54, up_o2 z2, up_o2 z2, up_o2 z2]
      exact hr i hi z
  · rw [row b b1 b0, e58, up_cell b4, e56, up_cell b3, e54, up_cell b2]; exact hf b b2 b3 b4
  · rw [e68, up_o1 (by decide), e63, up_o2 hi, c80]
  · rw [e68, up_o2 hs', c81]
  · have z2 : i ≠ 24 * t + p := by omega
    rw [row b (by omega) (by omega), e58, up_o2 z2, e56, up_o2 z2, e54, up_o2 z2]; exact hf2 b i hb hi
  · rw [e68, up_o1 (by decide), e63, up_at, c80]
theorem d_say48 {K : Int → Mem → Prop} {m x y : Int} (ht : t < 10) (hM : MT σ t V) (hV : tok V) (hm : R32 m) (hE : ∀ p, p < tn V → tm V p = m → isF V m p → ∀ σ', MT σ' t (repV V p m x y) → mrow σ σ' t → σ' 80 5 = σ 80 5 + 1 → K (tn V : Int) σ') (hN : ∀ p, isF V m p → (p < tn V → tm V p ≠ m) → tn V < 24 → ∀ σ', MT σ' t (insV V p m x y) → mrow σ σ' t → σ' 80 5 = σ 80 5 → K ((tn V : Int) + 1) σ') (hF : ∀ p, isF V m p → (p < tn V → tm V p ≠ m) → tn V = 24 → K (-900004) σ) : TT m_X10_say 48 [vR 80, vI (t : Int), vI m, vI x, vI y, vI 0, vU, vU] [] σ (PI K) := by
  have hn := hV.1
  have en : ∀ j : Nat, (24 * (t : Int) + (j : Int)).toNat = 24 * t + j := fun j => by omega
  have shift : ∀ p, isF V m p → (p < tn V → tm V p ≠ m) → tn V < 24 → ∀ (d j : Nat) (s : Mem), p + d = j → j ≤ tn V → (∀ b, b ≠ 82 → b ≠ 83 → b ≠ 84 → s b = σ b) → (∀ b i, (b = 82 ∨ b = 83 ∨ b = 84) → (i < 24 * t ∨ 24 * t + 24 ≤ i) → s b i = σ b i) → (∀ i, i < j → s 82 (24 * t + i) = tm V i ∧ s 83 (24 * t + i) = tx V i ∧ s 84 (24 * t + i) = ty V i) → (∀ i, j < i → i ≤ tn V → s 82 (24 * t + i) = tm V (i - 1) ∧ s 83 (24 * t + i) = tx V (i - 1) ∧ s 84 (24 * t + i) = ty V (i - 1)) → TT m_X10_say 142 [vR 80, vI (t : Int), vI m, vI x, vI y, vI (p : Int), vI 0, vI (j : Int)] [] s (PI K) := by
    intro p hp hne h24 d
    have p1 := hp.1
    induction d with
    | zero =>
      intro j s hj hjn hf hf2 h1 h2
      have hj : j = p := by omega
      subst hj
      refine w_X10_say_142 _ _ _ _ _ _ _ ⟨by omega, by omega, fun _ => ?_, fun z => absurd (Int.le_refl _) z⟩
      refine d_say171 (W := insV V j m x y) ht (by omega) (Or.inl rfl) rfl rfl hM hf hf2 (fun i hi hij => ?_) ⟨ins_at, ins_at, ins_at⟩ fun σ' a b c => ?_
      · have hi : i < tn V + 1 := hi
        show _ = ins _ _ _ i ∧ _ = ins _ _ _ i ∧ _ = ins _ _ _ i
        rcases Nat.lt_or_ge i j with z | z
        · rw [ins_lt z, ins_lt z, ins_lt z]; exact h1 i z
        · have z : j < i := by omega
          rw [ins_gt z, ins_gt z, ins_gt z]; exact h2 i z (by omega)
      · rw [if_pos rfl, Int.add_zero] at c
        exact hN j hp hne h24 σ' a b c
    | succ d ih =>
      intro j s hj hjn hf hf2 h1 h2
      refine w_X10_say_142 _ _ _ _ _ _ _ ⟨by omega, by omega, fun z => absurd z (by omega), fun _ => ⟨by decide, fun z => absurd rfl z, fun _ => ?_⟩⟩
      rw [show (j : Int) - 1 = ((j - 1 : Nat) : Int) by omega, show (j : Int) + -1 = ((j - 1 : Nat) : Int) by omega]
      refine d_move ht (by omega) (by omega) (h1 (j - 1) (by omega)) fun s' f1 f2 f3 => ?_
      refine ih (j - 1) s' (by omega) (by omega) (fun b b1 b2 b3 => by rw [f1 b b1 b2 b3]; exact hf b b1 b2 b3) (fun b i hb hi => by rw [f3 b i (by omega)]; exact hf2 b i hb hi) (fun i hi => ?_) (fun i hi hi2 => ?_)
      · rw [f3 _ (24 * t + i) (by omega), f3 _ (24 * t + i) (by omega), f3 _ (24 * t + i) (by omega)]; exact h1 i (by omega)
      · by_cases z : i = j
        · subst z; exact f2
        · rw [f3 _ (24 * t + i) (by omega), f3 _ (24 * t + i) (by omega), f3 _ (24 * t + i) (by omega)]; exact h2 i (by omega) hi2
  have fin : ∀ p, isF V m p → TT m_X10_say 81 [vR 80, vI (t : Int), vI m, vI x, vI y, vI (p : Int), vU, vU] [] σ (PI K) := by
    intro p hp
    have p1 := hp.1
    refine w_X10_say_81 _ _ _ _ _ ?_
    rw [en, Int.toNat_natCast]
    have h81 := hM.1
    refine ⟨by omega, by omega, by omega, fun z => ?_, fun v41 e41 => ?_⟩
    · have b := hV.2.2.1 p (by omega)
      have c := (hM.2.2 p (by omega)).1
      exact ⟨by omega, by omega, hm⟩
    · rw [hM.1] at e41 ⊢
      by_cases z : p < tn V ∧ tm V p = m
      · have e41 : v41 = 1 := by
          rw [e41, if_neg (by omega), if_neg (not_not_intro (by rw [(hM.2.2 p z.1).1]; exact z.2))]
        subst e41
        refine ⟨fun _ => ?_, fun w => absurd w (by decide)⟩
        refine w_X10_say_142 _ _ _ _ _ _ _ ⟨by omega, by omega, fun w => absurd w (by omega), fun _ => ⟨by decide, fun _ => ?_, fun w => absurd w (by decide)⟩⟩
        refine d_say171 (W := repV V p m x y) ht (by omega) (Or.inr rfl) rfl rfl hM (fun _ _ _ _ => rfl) (fun _ _ _ _ => rfl) (fun i hi hij => ?_) ⟨sv_at, sv_at, sv_at⟩ fun σ' a b c => ?_
        · show _ = sv _ _ _ i ∧ _ = sv _ _ _ i ∧ _ = sv _ _ _ i
          rw [sv_ne hij, sv_ne hij, sv_ne hij]
          exact hM.2.2 i hi
        · rw [if_neg (by decide)] at c
          exact hE p z.1 z.2 hp σ' a b c
      · have e41 : v41 = 0 := by
          rw [e41]
          by_cases w : (tn V : Int) ≤ p
          · rw [if_pos w]
          · rw [if_neg w, if_pos]
            rw [(hM.2.2 p (by omega)).1]
            exact fun u => z ⟨by omega, u⟩
        subst e41
        have hne : p < tn V → tm V p ≠ m := fun a b => z ⟨a, b⟩
        refine ⟨fun w => absurd rfl w, fun _ => ⟨fun w => ?_, fun w => hF p hp hne (by omega)⟩⟩
        exact shift p hp hne (by omega) (tn V - p) (tn V) σ (by omega) (Nat.le_refl _) (fun _ _ _ _ => rfl) (fun _ _ _ _ => rfl) hM.2.2 (fun i a b => absurd a (by omega))
  have loop : ∀ (d p : Nat), p + d = tn V → (∀ i, i < p → tm V i < m) → TT m_X10_say 48 [vR 80, vI (t : Int), vI m, vI x, vI y, vI (p : Int), vU, vU] [] σ (PI K) := by
    intro d
    induction d with
    | zero =>
      intro p hp hl
      refine w_X10_say_48 _ _ _ _ _ ?_
      rw [en, Int.toNat_natCast, hM.1]
      exact ⟨by omega, by omega, by omega, fun _ => fin p ⟨by omega, hl, fun z => absurd z (by omega)⟩, fun z => absurd z (by omega)⟩
    | succ d ih =>
      intro p hp hl
      have b := hV.2.2.1 p (by omega)
      refine w_X10_say_48 _ _ _ _ _ ?_
      rw [en, Int.toNat_natCast, hM.1, (hM.2.2 p (by omega)).1]
      refine ⟨by omega, by omega, by omega, fun z => absurd z (by omega), fun _ => ⟨by omega, by omega, hm, fun z => fin p ⟨by omega, hl, fun _ => z⟩, fun z => ?_⟩⟩
      refine ih (p + 1) (by omega) fun i hi => ?_
      rcases Nat.lt_or_ge i p with w | w
      · exact hl i w
      · rw [show i = p by omega]; omega
  exact loop (tn V) 0 (by omega) fun i h => absurd h (by omega)
theorem d_drop {K : Mem → Prop} {r : Nat} (ht : t < 10) (hM : MT σ t V) (hV : tok V) (hr : r < tn V) (hK : ∀ σ', MT σ' t (delV V r) → mrow σ σ' t → σ' 80 = σ 80 → K σ') : CC m_X10_drop [vR 80, vI (t : Int), vI (r : Int)] σ (PN K) := by
  have hn := hV.1
  refine e_X10_drop _ _ ?_
  rw [Int.toNat_natCast, hM.1]
  refine ⟨by omega, fun s2 e2 => ?_⟩
  have loop : ∀ (d j : Nat) (s : Mem), j + 1 + d = tn V → r ≤ j → (∀ b, b ≠ 82 → b ≠ 83 → b ≠ 84 → s b = s2 b) → (∀ b i, (b = 82 ∨ b = 83 ∨ b = 84) → (i < 24 * t ∨ 24 * t + 24 ≤ i) → s b i = σ b i) → (∀ i, i < j → s 82 (24 * t + i) = del (tm V) r i ∧ s 83 (24 * t + i) = del (tx V) r i ∧ s 84 (24 * t + i) = del (ty V) r i) → (∀ i, j < i → i < tn V → s 82 (24 * t + i) = tm V i ∧ s 83 (24 * t + i) = tx V i ∧ s 84 (24 * t + i) = ty V i) → TT m_X10_drop 12 [vR 80, vI (t : Int), vU, vI (j : Int)] [] s (PN K) := by
    intro d
    induction d with
    | zero =>
      intro j s hj hrj hf hf2 h1 h2
      have s81 : s 81 = s2 81 := hf 81 (by decide) (by decide) (by decide)
      have v81 : s 81 t = (tn V : Int) - 1 := by rw [s81, e2, up_at]
      refine w_X10_drop_12 _ _ ?_
      rw [Int.toNat_natCast, v81]
      refine ⟨by omega, by omega, by omega, fun _ => ?_, fun z => absurd z (by omega)⟩
      refine hK s ⟨by rw [v81]; show _ = ((tn V - 1 : Nat) : Int); omega, ?_, fun i hi => ?_⟩ ⟨fun b b0 b1 b2 b3 b4 => by rw [hf b b2 b3 b4, e2, up_cell b1], fun i hi => by rw [hf 80 (by decide) (by decide) (by decide), e2, up_cell (by decide)], fun s' hs' => by rw [s81, e2, up_o2 hs'], hf2⟩ (by rw [hf 80 (by decide) (by decide) (by decide), e2, up_cell (by decide)])
      · rw [hf 85 (by decide) (by decide) (by decide), e2, up_o1 (by decide)]; exact hM.2.1
      · have hi : i < tn V - 1 := hi
        exact h1 i (by omega)
    | succ d ih =>
      intro j s hj hrj hf hf2 h1 h2
      have s81 : s 81 = s2 81 := hf 81 (by decide) (by decide) (by decide)
      have v81 : s 81 t = (tn V : Int) - 1 := by rw [s81, e2, up_at]
      refine w_X10_drop_12 _ _ ?_
      rw [Int.toNat_natCast, v81, show (j : Int) + 1 = ((j + 1 : Nat) : Int) by omega]
      refine ⟨by omega, by omega, by omega, fun z => absurd z (by omega), fun _ => ?_⟩
      refine d_move ht (by omega) (by omega) (h2 (j + 1) (by omega) (by omega)) fun s' f1 f2 f3 => ?_
      refine ih (j + 1) s' (by omega) (by omega) (fun b b1 b2 b3 => by rw [f1 b b1 b2 b3]; exact hf b b1 b2 b3) (fun b i hb hi => by rw [f3 b i (by omega)]; exact hf2 b i hb hi) (fun i hi => ?_) (fun i hi hi2 => ?_)
      · by_cases z : i = j
        · subst z; rw [del_ge hrj, del_ge hrj, del_ge hrj]; exact f2
        · rw [f3 _ (24 * t + i) (by omega), f3 _ (24 * t + i) (by omega), f3 _ (24 * t + i) (by omega)]; exact h1 i (by omega)
      · rw [f3 _ (24 * t + i) (by omega), f3 _ (24 * t + i) (by omega), f3 _ (24 * t + i) (by omega)]; exact h2 i (by omega) hi2
  have f2 : ∀ b, b ≠ 81 → s2 b = σ b := fun b hb => by rw [e2, up_cell hb]
  refine loop (tn V - (r + 1)) r s2 (by omega) (Nat.le_refl r) (fun _ _ _ _ => rfl) (fun b i hb hi => by rw [f2 b (by omega)]) (fun i hi => ?_) (fun i _ hi => ?_)
  · rw [del_lt hi, del_lt hi, del_lt hi, f2 82 (by decide), f2 83 (by decide), f2 84 (by decide)]; exact hM.2.2 i (by omega)
  · rw [f2 82 (by decide), f2 83 (by decide), f2 84 (by decide)]; exact hM.2.2 i hi
end DROWS
/-- the rows of one thing are changed in both -/
theorem row_both {σ s s2 : Mem} {T : Nat → TV} {i : Nat} {W : TV} (hi : i < 10) (hT : oks T) (hC : CA σ T) (hM : MA σ T) (hW : tok W) (hCT : CT s (34 + 4 * i) W) (hsf : ∀ b, b ≠ 0 → (b < 34 + 4 * i ∨ 34 + 4 * i + 4 ≤ b) → s b = σ b) (hMT : MT s2 i W) (hm : mrow s s2 i) : oks (setT T i W) ∧ CA s2 (setT T i W) ∧ MA s2 (setT T i W) ∧ (∀ b, ((74 ≤ b ∧ b < 80) ∨ b = 100) → s2 b = σ b) ∧ s2 0 = s 0 ∧ s2 80 29 = σ 80 29 ∧ s2 80 30 = σ 80 30 := by
  obtain ⟨m1, m2, m3, m4⟩ := hm
  have al : ∀ b, b ≠ 80 → b ≠ 81 → b ≠ 82 → b ≠ 83 → b ≠ 84 → s2 b = s b := m1
  refine ⟨hT.set hW, hC.set ?_ fun c h1 h2 h3 => ?_, hM.set hT hMT (fun s' hs' => ?_) (fun s' hs' => ?_) fun c k hc hk => ?_, fun b hb => ?_, ?_, ?_, ?_⟩
  · exact hCT.same (al _ (by omega) (by omega) (by omega) (by omega) (by omega)) (al _ (by omega) (by omega) (by omega) (by omega) (by omega)) (al _ (by omega) (by omega) (by omega) (by omega) (by omega)) (al _ (by omega) (by omega) (by omega) (by omega) (by omega))
  · rw [al c (by omega) (by omega) (by omega) (by omega) (by omega), hsf c (by omega) h3]
  · rw [m3 s' hs', hsf 81 (by decide) (by omega)]
  · rw [al 85 (by decide) (by decide) (by decide) (by decide) (by decide), hsf 85 (by decide) (by omega)]
  · rw [m4 c k hc hk, hsf c (by omega) (by omega)]
  · rw [al b (by omega) (by omega) (by omega) (by omega) (by omega), hsf b (by omega) (by omega)]
  · exact al 0 (by decide) (by decide) (by decide) (by decide) (by decide)
  · rw [m2 29 (by decide), hsf 80 (by decide) (by omega)]
  · rw [m2 30 (by decide), hsf 80 (by decide) (by omega)]
theorem MT.off {σ s : Mem} {t i : Nat} {V : TV} (h : MT σ t V) (hi : i < 10) (hsf : ∀ b, b ≠ 0 → (b < 34 + 4 * i ∨ 34 + 4 * i + 4 ≤ b) → s b = σ b) : MT s t V := h.same (hsf _ (by decide) (by omega)) (hsf _ (by decide) (by omega)) (hsf _ (by decide) (by omega)) (hsf _ (by decide) (by omega)) (hsf _ (by decide) (by omega))
section ROPS
variable {σ : Mem} {T : Nat → TV} {K : Int → Int → Mem → Prop}
theorem op_say {t m x y : Int} (ht : R32 t) (hm : R32 m) (hx : R32 x) (hy : R32 y) (hT : oks T) (hC : CA σ T) (hM : MA σ T) (hK : ∀ v σ', R32 v → qm σ σ' → K v v σ') (hK2 : ∀ v σ' T' d, R32 v → oks T' → CA σ' T' → MA σ' T' → wq σ σ' → σ' 0 10 = 1 → (d = 0 ∨ d = 1) → σ' 0 12 = σ 0 12 + d → σ' 80 5 = σ 80 5 + d → K v v σ') :
    CC m_X9_say [vR 0, vI t, vI m, vI x, vI y] σ (PI fun v s => CC m_X10_say [vR 80, vI t, vI m, vI x, vI y] s (PI fun v2 s2 => K v v2 s2)) := by
  have out : ∀ v : Int, R32 v → K v v σ := fun v hv => hK v σ hv (qm_of cq.rf mq.rf)
  have no : 0 ≤ t ∧ t < 10 → ¬ ((0 ≤ m ∧ m < 200) ∧ (0 ≤ x ∧ x ≤ 99) ∧ (0 ≤ y ∧ y ≤ 99)) → CC m_X10_say [vR 80, vI t, vI m, vI x, vI y] σ (PI fun v2 s2 => K (-900002) v2 s2) := by
    intro q h
    exact e_X10_say _ _ _ _ (d_isThing ht (fun _ => d_isMinute hm (fun q1 => ⟨hx, d_in (r64 hx) (by decide) (by decide) (fun q2 => ⟨hy, d_in (r64 hy) (by decide) (by decide) (fun q3 => absurd ⟨q1, q2, q3⟩ h) (fun _ => out _ (by decide))⟩) (fun _ => out _ (by decide))⟩) (fun _ => out _ (by decide))) (fun z => absurd q z))
  refine e_X9_say _ _ _ _ (c_isThing ht (fun q => c_isMinute hm (fun q1 => c_isWithin hx (by decide) (by decide) (fun q2 => c_isWithin hy (by decide) (by decide) (fun q3 => ⟨q, ?_⟩) (fun z => no q fun w => z w.2.2)) (fun z => no q fun w => z w.2.1)) (fun z => no q fun w => z w.1)) (fun q => ?_))
  · obtain ⟨i, rfl, hi⟩ := nat_of q
    have hi : i < 10 := by omega
    have hCi := hC i hi
    have hV := hT i hi
    have hn := hV.1
    rw [trkN] at hCi ⊢
    have model : ∀ s (K' : Int → Mem → Prop), TT m_X10_say 48 [vR 80, vI (i : Int), vI m, vI x, vI y, vI 0, vU, vU] [] s (PI K') → CC m_X10_say [vR 80, vI (i : Int), vI m, vI x, vI y] s (PI K') := fun s K' h => e_X10_say _ _ _ _ (d_isThing ht (fun _ => d_isMinute hm (fun _ => ⟨hx, d_in (r64 hx) (by decide) (by decide) (fun _ => ⟨hy, d_in (r64 hy) (by decide) (by decide) (fun _ => h) (fun z => absurd q3 z)⟩) (fun z => absurd q2 z)⟩) (fun z => absurd q1 z)) (fun z => absurd q z))
    refine c_has ⟨i, hi, rfl⟩ hCi hV hm (fun p hp hpm hpF s23 e23 => ?_) (fun p hpF hne => ?_)
    · have hC23 : CT s23 (34 + 4 * i) (T i) := hCi.same (by rw [e23, up_cell (by omega)]) (by rw [e23, up_cell (by omega)]) (by rw [e23, up_cell (by omega)]) (by rw [e23, up_cell (by omega)])
      refine w_X9_say_84 _ _ _ _ ⟨i, hi, rfl⟩ (c_putE hi hC23 hV hm hp hpm fun s33 hC33 hf33 s34 e34 => ?_)
      have hC34 : CT s34 (34 + 4 * i) (repV (T i) p m x y) := hC33.same (by rw [e34, up_cell (by omega)]) (by rw [e34, up_cell (by omega)]) (by rw [e34, up_cell (by omega)]) (by rw [e34, up_cell (by omega)])
      have hsf : ∀ b, b ≠ 0 → (b < 34 + 4 * i ∨ 34 + 4 * i + 4 ≤ b) → s34 b = σ b := fun b b0 hb => by rw [e34, up_cell b0, hf33 b hb, e23, up_cell b0]
      rw [hC34.1]
      refine model s34 _ (d_say48 hi ((hM i hi).off hi hsf) hV hm (fun p' hp' hpm' hpF' s2 hMT hmr h5 => ?_) (fun p' hpF' hne' _ => absurd hpm (by rw [isF_one hpF hpF'] at hp ⊢; exact hne' hp)) (fun p' hpF' hne' _ => absurd hpm (by rw [isF_one hpF hpF'] at hp ⊢; exact hne' hp)))
      rw [isF_one hpF' hpF] at hMT
      obtain ⟨a1, a2, a3, a4, a5, a6, a7⟩ := row_both hi hT hC hM (repV_tok (x := x) (y := y) hV hp hpm (by omega) (by omega)) hC34 hsf hMT hmr
      have z0 : ∀ k, k ≠ 10 → k ≠ 12 → s2 0 k = σ 0 k := fun k h1 h2 => by rw [a5, e34, up_o2 h1, hf33 0 (by omega), e23, up_o2 h2]
      refine hK2 _ s2 _ 1 (by show R32 (tn (T i) : Int); omega) a1 a2 a3 ⟨a4, z0 11 (by decide) (by decide), z0 13 (by decide) (by decide), a6, a7⟩ (by rw [a5, e34, up_at]) (Or.inr rfl) ?_ ?_
      · rw [a5, e34, up_o2 (by decide), hf33 0 (by omega), e23, up_at]
      · rw [h5, hsf 80 (by decide) (by omega)]
    · rw [hCi.1]
      refine ⟨by omega, fun z => ?_, fun z => ?_⟩
      · refine w_X9_say_84 _ _ _ _ ⟨i, hi, rfl⟩ (c_putN hi hCi hV hm (by omega) hpF hne fun s33 hC33 hf33 s34 e34 => ?_)
        have hC34 : CT s34 (34 + 4 * i) (insV (T i) p m x y) := hC33.same (by rw [e34, up_cell (by omega)]) (by rw [e34, up_cell (by omega)]) (by rw [e34, up_cell (by omega)]) (by rw [e34, up_cell (by omega)])
        have hsf : ∀ b, b ≠ 0 → (b < 34 + 4 * i ∨ 34 + 4 * i + 4 ≤ b) → s34 b = σ b := fun b b0 hb => by rw [e34, up_cell b0, hf33 b hb]
        rw [hC34.1]
        refine model s34 _ (d_say48 hi ((hM i hi).off hi hsf) hV hm (fun p' hp' hpm' hpF' => absurd hpm' (by rw [isF_one hpF' hpF] at hp' ⊢; exact hne hp')) (fun p' hpF' hne' _ s2 hMT hmr h5 => ?_) (fun p' hpF' hne' w => absurd w (by omega)))
        rw [isF_one hpF' hpF] at hMT
        obtain ⟨a1, a2, a3, a4, a5, a6, a7⟩ := row_both hi hT hC hM (insV_tok (x := x) (y := y) hV (by omega) hpF hne q1 (by omega) (by omega)) hC34 hsf hMT hmr
        have z0 : ∀ k, k ≠ 10 → s2 0 k = σ 0 k := fun k h1 => by rw [a5, e34, up_o2 h1, hf33 0 (by omega)]
        refine hK2 _ s2 _ 0 (by show R32 ((tn (T i) : Int) + 1); omega) a1 a2 a3 ⟨a4, z0 11 (by decide), z0 13 (by decide), a6, a7⟩ (by rw [a5, e34, up_at]) (Or.inl rfl) ?_ ?_
        · rw [z0 12 (by decide), Int.add_zero]
        · rw [h5, hsf 80 (by decide) (by omega), Int.add_zero]
      · exact model σ _ (d_say48 hi (hM i hi) hV hm (fun p' hp' hpm' hpF' => absurd hpm' (by rw [isF_one hpF' hpF] at hp' ⊢; exact hne hp')) (fun p' hpF' hne' w => absurd w (by omega)) (fun p' hpF' hne' w => out _ (by decide)))
  · exact e_X10_say _ _ _ _ (d_isThing ht (fun z => absurd z q) (fun _ => out _ (by decide)))
theorem op_forget {t r : Int} (ht : R32 t) (hr : R32 r) (hT : oks T) (hC : CA σ T) (hM : MA σ T) (hK : ∀ v σ', R32 v → qm σ σ' → K v v σ') (hK2 : ∀ v σ' T', R32 v → oks T' → CA σ' T' → MA σ' T' → wq σ σ' → σ' 0 10 = 1 → σ' 0 12 = σ 0 12 → σ' 80 5 = σ 80 5 → K v v σ') :
    CC m_X9_forget [vR 0, vI t, vI r] σ (PI fun v s => CC m_X10_forget [vR 80, vI t, vI r] s (PI fun v2 s2 => K v v2 s2)) := by
  have rn : ∀ q : 0 ≤ t ∧ t < 10, σ (trk t) 3 = (tn (T t.toNat) : Int) ∧ σ 81 t.toNat = (tn (T t.toNat) : Int) ∧ tn (T t.toNat) ≤ 24 := fun q => by
    obtain ⟨i, rfl, hi⟩ := nat_of q
    have hi : i < 10 := by omega
    exact ⟨(hC i hi).1, (hM i hi).1, (hT i hi).1⟩
  refine e_X9_forget _ _ (c_isRow ht hr (fun q => by have := rn q; omega) (fun q q2 => ⟨q, ?_⟩) (fun z => ?_))
  · obtain ⟨i, rfl, hi⟩ := nat_of q
    have hi : i < 10 := by omega
    have hCi := hC i hi
    have hV := hT i hi
    have hn := hV.1
    rw [hCi.1] at q2
    rw [trkN] at hCi ⊢
    obtain ⟨k, rfl, hk⟩ := nat_of q2
    refine c_drop hi hCi hV (by omega) fun s8 hC8 hf8 s9 e9 => ?_
    have hC9 : CT s9 (34 + 4 * i) (delV (T i) k) := hC8.same (by rw [e9, up_cell (by omega)]) (by rw [e9, up_cell (by omega)]) (by rw [e9, up_cell (by omega)]) (by rw [e9, up_cell (by omega)])
    have hsf : ∀ b, b ≠ 0 → (b < 34 + 4 * i ∨ 34 + 4 * i + 4 ≤ b) → s9 b = σ b := fun b b0 hb => by rw [e9, up_cell b0, hf8 b hb]
    have hM9 := (hM i hi).off hi hsf
    rw [hC9.1]
    have h9 : s9 81 ((i : Int)).toNat = (tn (T i) : Int) := by rw [Int.toNat_natCast]; exact hM9.1
    refine e_X10_forget _ _ (d_isRow ht hr (fun _ => by rw [h9]; omega) (fun _ _ => ?_) (fun z => absurd ⟨q, by rw [h9]; exact q2⟩ z))
    refine d_drop hi hM9 hV (by omega) fun s6 hMT hmr h80 => ⟨q, ?_⟩
    rw [Int.toNat_natCast, hMT.1]
    obtain ⟨a1, a2, a3, a4, a5, a6, a7⟩ := row_both hi hT hC hM (delV_tok hV (r := k) (by omega)) hC9 hsf hMT hmr
    have z0 : ∀ k, k ≠ 10 → s6 0 k = σ 0 k := fun k h1 => by rw [a5, e9, up_o2 h1, hf8 0 (by omega)]
    exact hK2 _ s6 _ (by show R32 ((tn (T i) - 1 : Nat) : Int); omega) a1 a2 a3 ⟨a4, z0 11 (by decide), z0 13 (by decide), a6, a7⟩ (by rw [a5, e9, up_at]) (z0 12 (by decide)) (by rw [h80, hsf 80 (by decide) (by omega)])
  · refine e_X10_forget _ _ (d_isRow ht hr (fun q => by have := rn q; omega) (fun q q2 => absurd ⟨q, ?_⟩ z) (fun _ => hK _ _ (by decide) (qm_of cq.rf mq.rf)))
    have := rn q
    omega
theorem op_row {t r w : Int} (ht : R32 t) (hr : R32 r) (hw : R32 w) (hT : oks T) (hC : CA σ T) (hM : MA σ T) (hK : ∀ v σ', R32 v → qm σ σ' → K v v σ') :
    CC m_X9_row [vR 0, vI t, vI r, vI w] σ (PI fun v s => CC m_X10_row [vR 80, vI t, vI r, vI w] s (PI fun v2 s2 => K v v2 s2)) := by
  have rn : ∀ q : 0 ≤ t ∧ t < 10, σ (trk t) 3 = (tn (T t.toNat) : Int) ∧ σ 81 t.toNat = (tn (T t.toNat) : Int) ∧ tn (T t.toNat) ≤ 24 := fun q => by
    obtain ⟨i, rfl, hi⟩ := nat_of q
    have hi : i < 10 := by omega
    exact ⟨(hC i hi).1, (hM i hi).1, (hT i hi).1⟩
  have out : ∀ v : Int, R32 v → K v v σ := fun v hv => hK v σ hv (qm_of cq.rf mq.rf)
  refine e_X9_row _ _ _ (c_isRow ht hr (fun q => by have := rn q; omega) (fun q q2 => ?_) (fun z => ?_))
  · have rnq := rn q
    have go : ∀ v, (R32 w ∧ (¬ w = 0 → (¬ w = 1 → (w = 2 → (0 ≤ 24 * t + r ∧ 24 * t + r < 240))) ∧ (w = 1 → (0 ≤ 24 * t + r ∧ 24 * t + r < 240))) ∧ (w = 0 → (0 ≤ 24 * t + r ∧ 24 * t + r < 240)) ∧ K v (if ¬ w = 0 then (if ¬ w = 1 then (if ¬ w = 2 then (-900002) else (σ 84 (24 * t + r).toNat) : Int) else (σ 83 (24 * t + r).toNat) : Int) else (σ 82 (24 * t + r).toNat) : Int) σ) → CC m_X10_row [vR 80, vI t, vI r, vI w] σ (PI fun v2 s2 => K v v2 s2) := fun v h => e_X10_row _ _ _ (d_isRow ht hr (fun q => by have := rn q; omega) (fun _ _ => h) (fun z => absurd ⟨q, by omega⟩ z))
    have go : ∀ v, R32 v → v = (if ¬ w = 0 then (if ¬ w = 1 then (if ¬ w = 2 then (-900002) else (σ 84 (24 * t + r).toNat) : Int) else (σ 83 (24 * t + r).toNat) : Int) else (σ 82 (24 * t + r).toNat) : Int) → CC m_X10_row [vR 80, vI t, vI r, vI w] σ (PI fun v2 s2 => K v v2 s2) := fun v hv e => go v ⟨hw, fun _ => ⟨fun _ _ => by omega, fun _ => by omega⟩, fun _ => by omega, by rw [← e]; exact out v hv⟩
    obtain ⟨i, rfl, hi⟩ := nat_of q
    have hi : i < 10 := by omega
    rw [Int.toNat_natCast] at rnq
    rw [rnq.1] at q2
    obtain ⟨k, rfl, hk⟩ := nat_of q2
    have c1 := (hC i hi).2.2 k (by omega)
    have c2 := (hM i hi).2.2 k (by omega)
    have bd := (hT i hi).2.2.1 k (by omega)
    have e1 : (24 * (i : Int) + (k : Int)).toNat = 24 * i + k := by omega
    rw [e1] at go
    rw [Int.toNat_natCast]
    refine ⟨q, hw, fun z => ⟨by omega, go _ ?_ ?_⟩, fun z => ⟨by omega, go _ ?_ ?_⟩, fun z => ⟨by omega, go _ ?_ ?_⟩, fun z => go _ (by decide) ?_⟩
    · rw [c1.1]; omega
    · rw [if_neg (not_not_intro z), c1.1, c2.1]
    · rw [c1.2.1]; omega
    · rw [if_pos (by omega), if_neg (not_not_intro z), c1.2.1, c2.2.1]
    · rw [c1.2.2]; omega
    · rw [if_pos (by omega), if_pos (by omega), if_neg (not_not_intro z), c1.2.2, c2.2.2]
    · rw [if_pos (by omega), if_pos (by omega), if_pos (by omega)]
  · refine e_X10_row _ _ _ (d_isRow ht hr (fun q => by have := rn q; omega) (fun q q2 => absurd ⟨q, ?_⟩ z) (fun _ => out _ (by decide)))
    have := rn q
    omega
/-- only a kind changes -/
def kq (σ σ' : Mem) : Prop := ∀ b, (b < 34 ∨ 74 ≤ b) → b ≠ 85 → σ' b = σ b
def same3 (T T' : Nat → TV) : Prop := ∀ s, tn (T' s) = tn (T s) ∧ tm (T' s) = tm (T s) ∧ tx (T' s) = tx (T s) ∧ ty (T' s) = ty (T s)
theorem op_kind {t w : Int} (ht : R32 t) (hw : R32 w) (hT : oks T) (hC : CA σ T) (hM : MA σ T) (hK : ∀ v σ', R32 v → qm σ σ' → K v v σ') (hK2 : ∀ v σ' T', R32 v → oks T' → CA σ' T' → MA σ' T' → kq σ σ' → same3 T T' → K v v σ') :
    CC m_X9_kind [vR 0, vI t, vI w] σ (PI fun v s => CC m_X10_kind [vR 80, vI t, vI w] s (PI fun v2 s2 => K v v2 s2)) := by
  have out : ∀ v : Int, R32 v → K v v σ := fun v hv => hK v σ hv (qm_of cq.rf mq.rf)
  refine e_X9_kind _ _ (c_isThing ht (fun q => c_isWithin hw (by decide) (by decide) (fun q2 => ⟨q, ?_⟩) (fun z => ?_)) (fun z => ?_))
  · obtain ⟨i, rfl, hi⟩ := nat_of q
    have hi : i < 10 := by omega
    have hCi := hC i hi
    have hMi := hM i hi
    have hV := hT i hi
    have hk := hV.2.1
    rw [trkN] at hCi ⊢
    rw [hCi.2.1]
    refine ⟨by omega, fun v14 e14 => ⟨hw, fun s20 e20 => ?_⟩⟩
    have ev : v14 = tk (T i) := by
      rw [e14]
      rcases hk with z | z
      · rw [if_pos z, z]
      · rw [if_neg (by omega), z]
    have ew : (if ¬ w = 1 then 0 else 1 : Int) = w := by
      by_cases z : w = 1
      · rw [if_neg (not_not_intro z), z]
      · rw [if_pos z]; omega
    rw [ew] at e20
    refine e_X10_kind _ _ (d_isThing ht (fun _ => ⟨hw, d_in (r64 hw) (by decide) (by decide) (fun _ => ⟨q, fun s11 e11 => ?_⟩) (fun z => absurd q2 z)⟩) (fun z => absurd q z))
    rw [Int.toNat_natCast] at e11 ⊢
    have e85 : s20 85 i = tk (T i) := by rw [e20, up_o1 (by omega)]; exact hMi.2.1
    rw [e85, ev]
    have hf : ∀ b, b ≠ 34 + 4 * i → b ≠ 85 → s11 b = σ b := fun b b1 b2 => by rw [e11, up_cell b2, e20, up_cell b1]
    refine hK2 _ s11 (setT T i (tn (T i), w, tm (T i), tx (T i), ty (T i))) (by omega) (hT.set ⟨hV.1, by show w = 0 ∨ w = 1; omega, hV.2.2.1, hV.2.2.2⟩) ?_ ?_ (fun b hb hb2 => hf b (by omega) hb2) fun s => ?_
    · refine hC.set ⟨?_, ?_, fun k hk => ?_⟩ fun c h1 h2 h3 => hf c (by omega) (by omega)
      · rw [e11, up_o1 (by omega), e20, up_o2 (by decide)]; exact hCi.1
      · rw [e11, up_o1 (by omega), e20, up_at]
      · rw [hf _ (by omega) (by omega), hf _ (by omega) (by omega), hf _ (by omega) (by omega)]; exact hCi.2.2 k hk
    · refine hM.set hT ⟨?_, ?_, fun k hk => ?_⟩ (fun s hs => ?_) (fun s hs => ?_) fun c k hc hk => ?_
      · rw [hf 81 (by omega) (by decide)]; exact hMi.1
      · rw [e11, up_at]
      · rw [hf _ (by omega) (by omega), hf _ (by omega) (by omega), hf _ (by omega) (by omega)]; exact hMi.2.2 k hk
      · rw [hf 81 (by omega) (by decide)]
      · rw [e11, up_o2 hs, e20, up_o1 (by omega)]
      · rw [hf c (by omega) (by omega)]
    · by_cases z : s = i
      · subst z; rw [setT_at]; exact ⟨rfl, rfl, rfl, rfl⟩
      · rw [setT_ne z]; exact ⟨rfl, rfl, rfl, rfl⟩
  · exact e_X10_kind _ _ (d_isThing ht (fun _ => ⟨hw, d_in (r64 hw) (by decide) (by decide) (fun w => absurd w z) (fun _ => out _ (by decide))⟩) (fun u => absurd (by assumption) u))
  · exact e_X10_kind _ _ (d_isThing ht (fun w => absurd w z) (fun _ => out _ (by decide)))
theorem op_mended (h : R32 (σ 0 12)) (he : σ 0 12 = σ 80 5) (hK : ∀ v σ', R32 v → qm σ σ' → K v v σ') :
    CC m_X9_mended [vR 0] σ (PI fun v s => CC m_X10_mended [vR 80] s (PI fun v2 s2 => K v v2 s2)) := by
  refine e_X9_mended (e_X10_mended ?_)
  rw [← he]
  exact hK _ _ h (qm_of cq.rf mq.rf)
end ROPS
