/-! one thing's rows change -/
def setT (T : Nat → TV) (t : Nat) (V : TV) : Nat → TV := fun s => if s = t then V else T s
theorem setT_at {T : Nat → TV} {t : Nat} {V : TV} : setT T t V t = V := by simp [setT]
theorem setT_ne {T : Nat → TV} {t s : Nat} {V : TV} (h : s ≠ t) : setT T t V s = T s := by simp [setT, h]
theorem oks.set {T : Nat → TV} {t : Nat} {V : TV} (h : oks T) (hV : tok V) : oks (setT T t V) := fun s hs => by
  by_cases z : s = t
  · subst z; rw [setT_at]; exact hV
  · rw [setT_ne z]; exact h s hs
theorem trkN (t : Nat) : trk (t : Int) = 34 + 4 * t := by unfold trk; omega
theorem CA.set {σ σ' : Mem} {T : Nat → TV} {t : Nat} {V : TV} (h : CA σ T) (hV : CT σ' (34 + 4 * t) V) (hf : ∀ c, 34 ≤ c → c < 74 → (c < 34 + 4 * t ∨ 34 + 4 * t + 4 ≤ c) → σ' c = σ c) : CA σ' (setT T t V) := fun s hs => by
  by_cases z : s = t
  · subst z; rw [setT_at, trkN]; exact hV
  · rw [setT_ne z]
    have := h s hs
    rw [trkN] at this ⊢
    exact this.same (hf _ (by omega) (by omega) (by omega)) (hf _ (by omega) (by omega) (by omega)) (hf _ (by omega) (by omega) (by omega)) (hf _ (by omega) (by omega) (by omega))
theorem MA.set {σ σ' : Mem} {T : Nat → TV} {t : Nat} {V : TV} (hT : oks T) (h : MA σ T) (hV : MT σ' t V) (h1 : ∀ s, s ≠ t → σ' 81 s = σ 81 s) (h5 : ∀ s, s ≠ t → σ' 85 s = σ 85 s) (hf : ∀ c i, (c = 82 ∨ c = 83 ∨ c = 84) → (i < 24 * t ∨ 24 * t + 24 ≤ i) → σ' c i = σ c i) : MA σ' (setT T t V) := fun s hs => by
  by_cases z : s = t
  · subst z; rw [setT_at]; exact hV
  · rw [setT_ne z]
    obtain ⟨a, b, c⟩ := h s hs
    have hn := (hT s hs).1
    refine ⟨by rw [h1 s z]; exact a, by rw [h5 s z]; exact b, fun i hi => ?_⟩
    rw [hf 82 _ (by omega) (by omega), hf 83 _ (by omega) (by omega), hf 84 _ (by omega) (by omega)]
    exact c i hi
/-- what stays when rows change -/
def wq (σ σ' : Mem) : Prop := (∀ b, ((74 ≤ b ∧ b < 80) ∨ b = 100) → σ' b = σ b) ∧ σ' 0 11 = σ 0 11 ∧ σ' 0 13 = σ 0 13 ∧ σ' 80 29 = σ 80 29 ∧ σ' 80 30 = σ 80 30
def sub (V : TV) (R : Nat × (Nat → Int)) : TV := (R.1, tk V, fun i => tm V (R.2 i).toNat, fun i => tx V (R.2 i).toNat, fun i => ty V (R.2 i).toNat)
theorem sub_tok {V : TV} {c : Nat → Nat → Bool} (hV : tok V) : tok (sub V (KS c (tn V))) := by
  obtain ⟨h1, h2, h3, h4⟩ := KS_spec c (tn V)
  have hn := hV.1
  refine ⟨by show (KS c (tn V)).1 ≤ 24; omega, hV.2.1, fun i hi => ?_, fun i j hij hj => ?_⟩
  · have g := h3 i hi
    exact hV.2.2.1 ((KS c (tn V)).2 i).toNat (by omega)
  · have hj : j < (KS c (tn V)).1 := hj
    have g := h3 i (by omega)
    have g2 := h3 j hj
    have g3 := h4 i j hij hj
    exact hV.2.2.2 ((KS c (tn V)).2 i).toNat ((KS c (tn V)).2 j).toNat (by omega) (by omega)
section TOPS
variable {σ : Mem} {T : Nat → TV} {K : Int → Int → Mem → Prop}
theorem d_mayThin {K : Int → Mem → Prop} {t m : Int} (ht : R32 t) (hm : R32 m) (h1 : (0 ≤ t ∧ t < 10) → (0 ≤ m ∧ m < 100) → K 0 σ) (h2 : ¬ (0 ≤ t ∧ t < 10) → K (-900001) σ) (h3 : (0 ≤ t ∧ t < 10) → ¬ (0 ≤ m ∧ m < 100) → K (-900002) σ) : CC m_X10_mayThin [vR 80, vI t, vI m] σ (PI K) :=
  e_X10_mayThin t m (d_isThing ht (fun q => ⟨hm, d_in (r64 hm) (by decide) (by decide) (fun q2 => h1 q (by omega)) (fun q2 => h3 q (by omega))⟩) h2)
theorem op_thin {t e : Int} (ht : R32 t) (he : R32 e) (hT : oks T) (hC : CA σ T) (hM : MA σ T) (hK : ∀ v σ', R32 v → qm σ σ' → K v v σ') :
    CC m_X9_thin [vR 0, vI t, vI e] σ (PI fun v s => CC m_X10_thin [vR 80, vI t, vI e] s (PI fun v2 s2 => K v v2 s2)) := by
  refine e_X9_thin _ _ (c_refuseThinning ht he (fun q q2 => ⟨by decide, fun _ => ⟨q, ?_⟩, fun z => absurd rfl z⟩) (fun q => ⟨by decide, fun z => absurd z (by decide), fun _ => ?_⟩) (fun q q2 => ⟨by decide, fun z => absurd z (by decide), fun _ => ?_⟩))
  · obtain ⟨i, rfl, hi⟩ := nat_of q
    have hi : i < 10 := by omega
    refine c_plan (isT_trk q) (hC i hi) (hT i hi) q2 fun s8 F hF ht8 hf8 => ?_
    rw [ht8.1]
    refine e_X10_thin _ _ (d_mayThin ht he (fun _ _ => ⟨by decide, fun _ => ?_, fun z => absurd (by decide) z⟩) (fun z => absurd q z) (fun _ z => absurd q2 z))
    refine d_lay hi ((hM.cq hf8.cq) i hi) (hT i hi) q2 fun s6 G hG _ hf6 => ?_
    rw [KS_FW hG hF]
    have g := (KS_spec (cnd (T i) e F) (tn (T i))).1
    have hn := (hT i hi).1
    exact hK _ _ (by omega) (qm_of hf8.cq hf6.mq)
  · exact e_X10_thin _ _ (d_mayThin ht he (fun z _ => absurd z q) (fun _ => ⟨by decide, fun z => absurd z (by decide), fun _ => hK _ _ (by decide) (qm_of cq.rf mq.rf)⟩) (fun z _ => absurd z q))
  · exact e_X10_thin _ _ (d_mayThin ht he (fun _ z => absurd z q2) (fun z => absurd q z) (fun _ _ => ⟨by decide, fun z => absurd z (by decide), fun _ => hK _ _ (by decide) (qm_of cq.rf mq.rf)⟩))
theorem op_kept {t e k : Int} (ht : R32 t) (he : R32 e) (hk : R32 k) (hT : oks T) (hC : CA σ T) (hM : MA σ T) (hK : ∀ v σ', R32 v → qm σ σ' → K v v σ') :
    CC m_X9_kept [vR 0, vI t, vI e, vI k] σ (PI fun v s => CC m_X10_kept [vR 80, vI t, vI e, vI k] s (PI fun v2 s2 => K v v2 s2)) := by
  refine e_X9_kept _ _ _ (c_refuseThinning ht he (fun q q2 => ⟨by decide, fun _ => ⟨q, ?_⟩, fun z => absurd rfl z⟩) (fun q => ⟨by decide, fun z => absurd z (by decide), fun _ => ?_⟩) (fun q q2 => ⟨by decide, fun z => absurd z (by decide), fun _ => ?_⟩))
  · obtain ⟨i, rfl, hi⟩ := nat_of q
    have hi : i < 10 := by omega
    refine c_plan (isT_trk q) (hC i hi) (hT i hi) q2 fun s8 F hF ht8 hf8 => ?_
    rw [ht8.1]
    obtain ⟨g1, g2, g3, g4⟩ := KS_spec (cnd (T i) e F) (tn (T i))
    have hn := (hT i hi).1
    have fin : ∀ v, R32 v → (0 ≤ k ∧ k < ((KS (cnd (T i) e F) (tn (T i))).1 : Int) → v = (KS (cnd (T i) e F) (tn (T i))).2 k.toNat) → (¬ (0 ≤ k ∧ k < ((KS (cnd (T i) e F) (tn (T i))).1 : Int)) → v = -900009) → CC m_X10_kept [vR 80, vI (i : Int), vI e, vI k] s8 (PI fun v2 s2 => K v v2 s2) := by
      intro v hv hv1 hv0
      refine e_X10_kept _ _ _ (d_mayThin ht he (fun _ _ => ⟨by decide, fun _ => ?_, fun z => absurd (by decide) z⟩) (fun z => absurd q z) (fun _ z => absurd q2 z))
      refine d_lay hi ((hM.cq hf8.cq) i hi) (hT i hi) q2 fun s6 G hG h99 hf6 => ?_
      rw [KS_FW hG hF] at h99 ⊢
      refine ⟨hk, by omega, d_in (by omega) (by decide) (by omega) (fun z => ⟨by omega, ?_⟩) (fun z => ?_)⟩
      · rw [h99 k.toNat (by omega), ← hv1 (by omega)]
        exact hK _ _ hv (qm_of hf8.cq hf6.mq)
      · rw [← hv0 (by omega)]
        exact hK _ _ hv (qm_of hf8.cq hf6.mq)
    refine c_isWithin hk (by decide) (by omega) (fun z => ⟨by omega, ?_⟩) (fun z => fin _ (by decide) (fun w => absurd w (by omega)) (fun _ => rfl))
    rw [ht8.2 k.toNat (by omega)]
    have g := g3 k.toNat (by omega)
    exact fin _ (by omega) (fun _ => rfl) (fun w => absurd (by omega) w)
  · exact e_X10_kept _ _ _ (d_mayThin ht he (fun z _ => absurd z q) (fun _ => ⟨by decide, fun z => absurd z (by decide), fun _ => hK _ _ (by decide) (qm_of cq.rf mq.rf)⟩) (fun z _ => absurd z q))
  · exact e_X10_kept _ _ _ (d_mayThin ht he (fun _ z => absurd z q2) (fun z => absurd q z) (fun _ _ => ⟨by decide, fun z => absurd z (by decide), fun _ => hK _ _ (by decide) (qm_of cq.rf mq.rf)⟩))
/-- rows moved down in their own order -/
theorem c_only {K : Mem → Prop} {t : Nat} {V : TV} {c : Nat → Nat → Bool} (ht : t < 10) (hC : CT σ (34 + 4 * t) V) (hV : tok V) (hs : tpC σ (KS c (tn V))) (hK : ∀ σ', CT σ' (34 + 4 * t) (sub V (KS c (tn V))) → (∀ b, (b < 34 + 4 * t ∨ 34 + 4 * t + 4 ≤ b) → σ' b = σ b) → K σ') : CC m_X8_keepOnly [vR (34 + 4 * t), vR 30, vI ((KS c (tn V)).1 : Int)] σ (PN K) := by
  have ha : isT (34 + 4 * t) := ⟨t, ht, rfl⟩
  obtain ⟨g1, g2, g3, g4⟩ := KS_spec c (tn V)
  have hn := hV.1
  have loop : ∀ (d j : Nat) (s : Mem), j + d = (KS c (tn V)).1 → s (34 + 4 * t) = σ (34 + 4 * t) → (∀ b, (b < 34 + 4 * t ∨ 34 + 4 * t + 4 ≤ b) → s b = σ b) → (∀ i, i < j → s (34 + 4 * t + 1) i = tm V ((KS c (tn V)).2 i).toNat ∧ s (34 + 4 * t + 2) i = tx V ((KS c (tn V)).2 i).toNat ∧ s (34 + 4 * t + 3) i = ty V ((KS c (tn V)).2 i).toNat) → (∀ i, j ≤ i → i < tn V → s (34 + 4 * t + 1) i = tm V i ∧ s (34 + 4 * t + 2) i = tx V i ∧ s (34 + 4 * t + 3) i = ty V i) → TT m_X8_keepOnly 2 [vR (34 + 4 * t), vR 30, vI ((KS c (tn V)).1 : Int), vI (j : Int)] [] s (PN K) := by
    intro d
    induction d with
    | zero =>
      intro j s hj h0 hf h1 h2
      have hj : j = (KS c (tn V)).1 := by omega
      refine w_X8_keepOnly_2 _ ha _ _ ⟨by omega, by omega, fun _ s4 e4 => ?_, fun z => absurd z (by omega)⟩
      refine hK s4 ⟨by rw [e4, up_at]; rfl, ?_, fun i hi => ?_⟩ fun b hb => by rw [e4, up_cell (by omega)]; exact hf b hb
      · rw [e4, up_o2 (by decide), h0]; exact hC.2.1
      · have hi : i < (KS c (tn V)).1 := hi
        rw [e4, up_o1 (by omega), up_o1 (by omega), up_o1 (by omega)]
        exact h1 i (by omega)
    | succ d ih =>
      intro j s hj h0 hf h1 h2
      have g := g3 j (by omega)
      have ej : (j : Int) + 1 = ((j + 1 : Nat) : Int) := by omega
      obtain ⟨l, hl⟩ : ∃ l : Nat, (KS c (tn V)).2 j = (l : Int) := ⟨((KS c (tn V)).2 j).toNat, by omega⟩
      refine w_X8_keepOnly_2 _ ha _ _ ?_
      rw [Int.toNat_natCast, hf 30 (by omega), hs.2 j (by omega), ej, hl]
      refine ⟨by omega, by omega, fun z => absurd z (by omega), fun _ => ⟨by omega, ?_⟩⟩
      refine e_X8_copyRow _ ha _ _ ?_
      simp only [Int.toNat_natCast]
      have hl1 := h2 l (by omega) (by omega)
      refine ⟨by omega, by omega, fun s3 e3 s5 e5 s7 e7 => ?_⟩
      rw [hl1.1] at e3
      rw [e3, up_o1 (by omega), hl1.2.1] at e5
      rw [e5, up_o1 (by omega), up_o1 (by omega), hl1.2.2] at e7
      refine ih (j + 1) s7 (by omega) (by rw [e7, up_cell (by omega), up_cell (by omega), up_cell (by omega)]; exact h0) (fun b hb => by rw [e7, up_cell (by omega), up_cell (by omega), up_cell (by omega)]; exact hf b hb) (fun i hi => ?_) (fun i hi hi2 => ?_)
      · by_cases w : i = j
        · subst w
          rw [hl, Int.toNat_natCast, e7, up_o1 (by omega), up_o1 (by omega), up_at, up_o1 (by omega), up_at, up_at]
          exact ⟨rfl, rfl, rfl⟩
        · rw [e7, up_o2 w, up_o2 w, up_o2 w, up_o2 w, up_o2 w, up_o2 w, up_o2 w, up_o2 w, up_o2 w]
          exact h1 i (by omega)
      · have w : i ≠ j := by omega
        rw [e7, up_o2 w, up_o2 w, up_o2 w, up_o2 w, up_o2 w, up_o2 w, up_o2 w, up_o2 w, up_o2 w]
        exact h2 i (by omega) hi2
  exact e_X8_keepOnly _ ha _ (loop (KS c (tn V)).1 0 σ (by omega) rfl (fun _ _ => rfl) (fun i h => absurd h (by omega)) (fun i _ hi => hC.2.2 i hi))
theorem d_only {K : Int → Mem → Prop} {t : Nat} {V : TV} {c : Nat → Nat → Bool} {x4 : Int} (ht : t < 10) (hM : MT σ t V) (hV : tok V) (hs : ∀ j, j < (KS c (tn V)).1 → σ 99 j = (KS c (tn V)).2 j) (hK : ∀ σ', MT σ' t (sub V (KS c (tn V))) → (∀ b, b ≠ 81 → b ≠ 82 → b ≠ 83 → b ≠ 84 → σ' b = σ b) → (∀ s, s ≠ t → σ' 81 s = σ 81 s) → (∀ b i, (b = 82 ∨ b = 83 ∨ b = 84) → (i < 24 * t ∨ 24 * t + 24 ≤ i) → σ' b i = σ b i) → K (x4 - ((KS c (tn V)).1 : Int)) σ') : TT m_X10_thinned 32 [vR 80, vI (t : Int), vU, vU, vI x4, vI ((KS c (tn V)).1 : Int), vI 0] [] σ (PI K) := by
  obtain ⟨g1, g2, g3, g4⟩ := KS_spec c (tn V)
  have hn := hV.1
  have loop : ∀ (d j : Nat) (s : Mem), j + d = (KS c (tn V)).1 → (∀ b, b ≠ 82 → b ≠ 83 → b ≠ 84 → s b = σ b) → (∀ b i, (b = 82 ∨ b = 83 ∨ b = 84) → (i < 24 * t ∨ 24 * t + 24 ≤ i) → s b i = σ b i) → (∀ i, i < j → s 82 (24 * t + i) = tm V ((KS c (tn V)).2 i).toNat ∧ s 83 (24 * t + i) = tx V ((KS c (tn V)).2 i).toNat ∧ s 84 (24 * t + i) = ty V ((KS c (tn V)).2 i).toNat) → (∀ i, j ≤ i → i < tn V → s 82 (24 * t + i) = tm V i ∧ s 83 (24 * t + i) = tx V i ∧ s 84 (24 * t + i) = ty V i) → TT m_X10_thinned 32 [vR 80, vI (t : Int), vU, vU, vI x4, vI ((KS c (tn V)).1 : Int), vI (j : Int)] [] s (PI K) := by
    intro d
    induction d with
    | zero =>
      intro j s hj hf hf2 h1 h2
      refine w_X10_thinned_32 _ _ _ _ ?_
      rw [Int.toNat_natCast]
      refine ⟨by omega, by omega, fun _ => ⟨by omega, fun s4 e4 => ?_⟩, fun z => absurd z (by omega)⟩
      refine hK s4 ⟨by rw [e4, up_at]; rfl, ?_, fun i hi => ?_⟩ (fun b b1 b2 b3 b4 => by rw [e4, up_cell b1]; exact hf b b2 b3 b4) (fun s' hs' => by rw [e4, up_o2 hs', hf 81 (by decide) (by decide) (by decide)]) (fun b i hb hi => by rw [e4, up_o1 (by omega)]; exact hf2 b i hb hi)
      · rw [e4, up_o1 (by decide), hf 85 (by decide) (by decide) (by decide)]; exact hM.2.1
      · have hi : i < (KS c (tn V)).1 := hi
        rw [e4, up_o1 (by decide), up_o1 (by decide), up_o1 (by decide)]
        exact h1 i (by omega)
    | succ d ih =>
      intro j s hj hf hf2 h1 h2
      have g := g3 j (by omega)
      have ej : (j : Int) + 1 = ((j + 1 : Nat) : Int) := by omega
      obtain ⟨l, hl⟩ : ∃ l : Nat, (KS c (tn V)).2 j = (l : Int) := ⟨((KS c (tn V)).2 j).toNat, by omega⟩
      refine w_X10_thinned_32 _ _ _ _ ?_
      simp only [Int.toNat_natCast]
      rw [hf 99 (by decide) (by decide) (by decide), hs j (by omega), ej, hl]
      refine ⟨by omega, by omega, fun z => absurd z (by omega), fun _ => ⟨by omega, ?_⟩⟩
      refine e_X10_move _ _ _ ?_
      have e1 : (24 * (t : Int) + (l : Int)).toNat = 24 * t + l := by omega
      have e2 : (24 * (t : Int) + (j : Int)).toNat = 24 * t + j := by omega
      rw [e1, e2]
      have hl1 := h2 l (by omega) (by omega)
      refine ⟨by omega, by omega, fun s3 e3 s5 e5 s7 e7 => ?_⟩
      rw [hl1.1] at e3
      rw [e3, up_o1 (by decide), hl1.2.1] at e5
      rw [e5, up_o1 (by decide), up_o1 (by decide), hl1.2.2] at e7
      refine ih (j + 1) s7 (by omega) (fun b b1 b2 b3 => by rw [e7, up_cell b3, up_cell b2, up_cell b1]; exact hf b b1 b2 b3) (fun b i hb hi => ?_) (fun i hi => ?_) (fun i hi hi2 => ?_)
      · have w : i ≠ 24 * t + j := by omega
        rw [e7, up_o2 w, up_o2 w, up_o2 w]
        exact hf2 b i hb hi
      · by_cases w : i = j
        · subst w
          rw [hl, Int.toNat_natCast, e7, up_o1 (by decide), up_o1 (by decide), up_at, up_o1 (by decide), up_at, up_at]
          exact ⟨rfl, rfl, rfl⟩
        · have w : 24 * t + i ≠ 24 * t + j := by omega
          rw [e7, up_o2 w, up_o2 w, up_o2 w, up_o2 w, up_o2 w, up_o2 w, up_o2 w, up_o2 w, up_o2 w]
          exact h1 i (by omega)
      · have w : 24 * t + i ≠ 24 * t + j := by omega
        rw [e7, up_o2 w, up_o2 w, up_o2 w, up_o2 w, up_o2 w, up_o2 w, up_o2 w, up_o2 w, up_o2 w]
        exact h2 i (by omega) hi2
  exact loop (KS c (tn V)).1 0 σ (by omega) (fun _ _ _ _ => rfl) (fun _ _ _ _ => rfl) (fun i h => absurd h (by omega)) (fun i _ hi => hM.2.2 i hi)
theorem op_thinned {t e : Int} (ht : R32 t) (he : R32 e) (hT : oks T) (hC : CA σ T) (hM : MA σ T) (hK : ∀ v σ', R32 v → qm σ σ' → K v v σ') (hK2 : ∀ v σ' T', R32 v → oks T' → CA σ' T' → MA σ' T' → wq σ σ' → σ' 0 10 = 1 → σ' 0 12 = σ 0 12 → σ' 80 5 = σ 80 5 → K v v σ') :
    CC m_X9_thinned [vR 0, vI t, vI e] σ (PI fun v s => CC m_X10_thinned [vR 80, vI t, vI e] s (PI fun v2 s2 => K v v2 s2)) := by
  refine e_X9_thinned _ _ (c_refuseThinning ht he (fun q q2 => ⟨by decide, fun _ => ⟨q, ?_⟩, fun z => absurd rfl z⟩) (fun q => ⟨by decide, fun z => absurd z (by decide), fun _ => ?_⟩) (fun q q2 => ⟨by decide, fun z => absurd z (by decide), fun _ => ?_⟩))
  · obtain ⟨i, rfl, hi⟩ := nat_of q
    have hi : i < 10 := by omega
    have hCi := hC i hi
    have hV := hT i hi
    rw [trkN] at hCi ⊢
    refine c_plan ⟨i, hi, rfl⟩ hCi hV q2 fun s8 F hF ht8 hf8 => ?_
    obtain ⟨g1, g2, g3, g4⟩ := KS_spec (cnd (T i) e F) (tn (T i))
    rw [ht8.1]
    refine c_only hi (hCi.same (hf8 _ (by omega) (by omega) (by omega)) (hf8 _ (by omega) (by omega) (by omega)) (hf8 _ (by omega) (by omega) (by omega)) (hf8 _ (by omega) (by omega) (by omega))) hV ht8 fun s10 hC10 hf10 s11 e11 => ?_
    have hC11 : CT s11 (34 + 4 * i) (sub (T i) (KS (cnd (T i) e F) (tn (T i)))) := hC10.same (by rw [e11, up_cell (by omega)]) (by rw [e11, up_cell (by omega)]) (by rw [e11, up_cell (by omega)]) (by rw [e11, up_cell (by omega)])
    have far : ∀ b, b ≠ 0 → b ≠ 29 → b ≠ 30 → b ≠ 31 → (b < 34 + 4 * i ∨ 34 + 4 * i + 4 ≤ b) → s11 b = σ b := fun b b0 b1 b2 b3 hb => by rw [e11, up_cell b0, hf10 b hb, hf8 b b1 b2 b3]
    have z0 : ∀ k, k ≠ 10 → s11 0 k = σ 0 k := fun k hk => by rw [e11, up_o2 hk, hf10 0 (by omega), hf8 0 (by decide) (by decide) (by decide)]
    rw [hCi.1, hC11.1]
    refine e_X10_thinned _ _ (d_mayThin ht he (fun _ _ => ⟨by decide, fun _ => ⟨q, ?_⟩, fun z => absurd (by decide) z⟩) (fun z => absurd q z) (fun _ z => absurd q2 z))
    have hM11 : MA s11 T := fun s hs => (hM s hs).same (far _ (by decide) (by decide) (by decide) (by decide) (by omega)) (far _ (by decide) (by decide) (by decide) (by decide) (by omega)) (far _ (by decide) (by decide) (by decide) (by decide) (by omega)) (far _ (by decide) (by decide) (by decide) (by decide) (by omega)) (far _ (by decide) (by decide) (by decide) (by decide) (by omega))
    refine d_lay hi (hM11 i hi) hV q2 fun s7 G hG h99 hf7 => ?_
    rw [KS_FW hG hF] at h99 ⊢
    rw [Int.toNat_natCast, (hM11 i hi).1]
    refine d_only hi ((hM11 i hi).f89 hf7) hV h99 fun s12 hM12 hf12 h81 h82 => ?_
    have al : ∀ b, b ≠ 81 → b ≠ 82 → b ≠ 83 → b ≠ 84 → b ≠ 98 → b ≠ 99 → s12 b = s11 b := fun b b1 b2 b3 b4 b5 b6 => by rw [hf12 b b1 b2 b3 b4, hf7 b b5 b6]
    refine hK2 _ s12 (setT T i (sub (T i) (KS (cnd (T i) e F) (tn (T i))))) ?_ (hT.set (sub_tok hV)) ?_ ?_ ?_ ?_ ?_ ?_
    · have hn := hV.1
      show R32 ((tn (T i) : Int) - ((KS (cnd (T i) e F) (tn (T i))).1 : Int))
      omega
    · refine hC.set ?_ fun c h1 h2 h3 => by rw [al c (by omega) (by omega) (by omega) (by omega) (by omega) (by omega), far c (by omega) (by omega) (by omega) (by omega) h3]
      exact hC11.same (al _ (by omega) (by omega) (by omega) (by omega) (by omega) (by omega)) (al _ (by omega) (by omega) (by omega) (by omega) (by omega) (by omega)) (al _ (by omega) (by omega) (by omega) (by omega) (by omega) (by omega)) (al _ (by omega) (by omega) (by omega) (by omega) (by omega) (by omega))
    · refine hM.set hT hM12 (fun s hs => by rw [h81 s hs, hf7 81 (by decide) (by decide), far 81 (by decide) (by decide) (by decide) (by decide) (by omega)]) (fun s hs => by rw [al 85 (by decide) (by decide) (by decide) (by decide) (by decide) (by decide), far 85 (by decide) (by decide) (by decide) (by decide) (by omega)]) fun c k hc hk => ?_
      rw [h82 c k hc hk, hf7 c (by omega) (by omega), far c (by omega) (by omega) (by omega) (by omega) (by omega)]
    · have e80 : s12 80 = σ 80 := by rw [al 80 (by decide) (by decide) (by decide) (by decide) (by decide) (by decide), far 80 (by decide) (by decide) (by decide) (by decide) (by omega)]
      refine ⟨fun b hb => by rw [al b (by omega) (by omega) (by omega) (by omega) (by omega) (by omega), far b (by omega) (by omega) (by omega) (by omega) (by omega)], ?_, ?_, by rw [e80], by rw [e80]⟩
      · rw [al 0 (by decide) (by decide) (by decide) (by decide) (by decide) (by decide), z0 11 (by decide)]
      · rw [al 0 (by decide) (by decide) (by decide) (by decide) (by decide) (by decide), z0 13 (by decide)]
    · rw [al 0 (by decide) (by decide) (by decide) (by decide) (by decide) (by decide), e11, up_at]
    · rw [al 0 (by decide) (by decide) (by decide) (by decide) (by decide) (by decide), z0 12 (by decide)]
    · rw [al 80 (by decide) (by decide) (by decide) (by decide) (by decide) (by decide), far 80 (by decide) (by decide) (by decide) (by decide) (by omega)]
  · exact e_X10_thinned _ _ (d_mayThin ht he (fun z _ => absurd z q) (fun _ => ⟨by decide, fun z => absurd z (by decide), fun _ => hK _ _ (by decide) (qm_of cq.rf mq.rf)⟩) (fun z _ => absurd z q))
  · exact e_X10_thinned _ _ (d_mayThin ht he (fun _ z => absurd z q2) (fun z => absurd q z) (fun _ _ => ⟨by decide, fun z => absurd z (by decide), fun _ => hK _ _ (by decide) (qm_of cq.rf mq.rf)⟩))
end TOPS
