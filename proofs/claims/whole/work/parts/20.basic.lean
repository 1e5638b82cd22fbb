/-! contracts of the small tests -/
section SMALL
variable {σ : Mem} {A B : Mem → Prop} {K : Int → Mem → Prop}
theorem c_isWithin {v a b : Int} (hv : R32 v) (ha : R32 a) (hb : R32 b) (h1 : a ≤ v ∧ v ≤ b → A σ) (h0 : ¬ (a ≤ v ∧ v ≤ b) → B σ) : CC m_X9_isWithin [vI v, vI a, vI b] σ (PZ A B) :=
  e_X9_isWithin v a b ⟨hv, ha, fun q => h0 (by omega), fun q => ⟨hb, fun q2 => h0 (by omega), fun q2 => h1 (by omega)⟩⟩
theorem c_isThing {v : Int} (hv : R32 v) (h1 : 0 ≤ v ∧ v < 10 → A σ) (h0 : ¬ (0 ≤ v ∧ v < 10) → B σ) : CC m_X9_isThing [vI v] σ (PZ A B) :=
  e_X9_isThing v (c_isWithin hv (by decide) (by decide) (fun q => h1 (by omega)) (fun q => h0 (by omega)))
theorem c_isMinute {v : Int} (hv : R32 v) (h1 : 0 ≤ v ∧ v < 200 → A σ) (h0 : ¬ (0 ≤ v ∧ v < 200) → B σ) : CC m_X9_isMinute [vI v] σ (PZ A B) :=
  e_X9_isMinute v (c_isWithin hv (by decide) (by decide) (fun q => h1 (by omega)) (fun q => h0 (by omega)))
def spanOK (a b : Int) : Prop := -2000 ≤ a ∧ b ≤ 2000 ∧ a ≤ b
theorem c_isSpan {a b : Int} (ha : R32 a) (hb : R32 b) (h1 : spanOK a b → A σ) (h0 : ¬ spanOK a b → B σ) : CC m_X9_isSpan [vI a, vI b] σ (PZ A B) := by
  unfold spanOK at h1 h0
  exact e_X9_isSpan a b ⟨ha, fun q => h0 (by omega), fun q => ⟨hb, fun q2 => h0 (by omega), fun q2 => ⟨fun q3 => h0 (by omega), fun q3 => h1 (by omega)⟩⟩⟩
theorem c_isPlace {a b c d : Int} (ha : R32 a) (hb : R32 b) (hc : R32 c) (hd : R32 d) (h1 : spanOK a b ∧ spanOK c d → A σ) (h0 : ¬ (spanOK a b ∧ spanOK c d) → B σ) : CC m_X9_isPlace [vI a, vI b, vI c, vI d] σ (PZ A B) :=
  e_X9_isPlace a b c d (c_isSpan ha hb (fun q => c_isSpan hc hd (fun q2 => h1 ⟨q, q2⟩) (fun q2 => h0 fun z => q2 z.2)) (fun q => h0 fun z => q z.1))
def blurOK (b s : Int) : Prop := 1 ≤ b ∧ b ≤ 20 ∧ 0 ≤ s ∧ s < b
theorem c_isBlur {b s : Int} (hb : R32 b) (hs : R32 s) (h1 : blurOK b s → A σ) (h0 : ¬ blurOK b s → B σ) : CC m_X9_isBlur [vI b, vI s] σ (PZ A B) := by
  unfold blurOK at h1 h0
  exact e_X9_isBlur b s (c_isWithin hb (by decide) (by decide) (fun q => c_isWithin hs (by decide) (by omega) (fun q2 => h1 (by omega)) (fun q2 => h0 (by omega))) (fun q => h0 (by omega)))
theorem c_isRow {t r : Int} (ht : R32 t) (hr : R32 r) (hn : 0 ≤ t ∧ t < 10 → R32 (σ (trk t) 3 - 1)) (h1 : 0 ≤ t ∧ t < 10 → 0 ≤ r ∧ r < σ (trk t) 3 → A σ) (h0 : ¬ ((0 ≤ t ∧ t < 10) ∧ 0 ≤ r ∧ r < σ (trk t) 3) → B σ) : CC m_X9_isRow [vR 0, vI t, vI r] σ (PZ A B) :=
  e_X9_isRow t r (c_isThing ht (fun q => ⟨q, c_isWithin hr (by decide) (hn q) (fun q2 => h1 q (by omega)) (fun q2 => h0 (by omega))⟩) (fun q => h0 fun z => q z.1))
theorem c_isStand {s : Int} (hs : R32 s) (hn : R32 (σ 0 11 - 1)) (h1 : 0 ≤ s ∧ s < σ 0 11 → A σ) (h0 : ¬ (0 ≤ s ∧ s < σ 0 11) → B σ) : CC m_X9_isStand [vR 0, vI s] σ (PZ A B) :=
  e_X9_isStand s (c_isWithin hs (by decide) hn (fun q => h1 (by omega)) (fun q => h0 (by omega)))
theorem c_refuseMoment {t m : Int} (ht : R32 t) (hm : R32 m) (h1 : (0 ≤ t ∧ t < 10) → (0 ≤ m ∧ m < 200) → K 0 σ) (h2 : ¬ (0 ≤ t ∧ t < 10) → K (-900001) σ) (h3 : (0 ≤ t ∧ t < 10) → ¬ (0 ≤ m ∧ m < 200) → K (-900002) σ) : CC m_X9_refuseMoment [vI t, vI m] σ (PI K) :=
  e_X9_refuseMoment t m (c_isThing ht (fun q => c_isMinute hm (fun q2 => h1 q q2) (fun q2 => h3 q q2)) h2)
theorem c_refuseVisit {t a b c d : Int} (ht : R32 t) (ha : R32 a) (hb : R32 b) (hc : R32 c) (hd : R32 d) (h1 : (0 ≤ t ∧ t < 10) → (spanOK a b ∧ spanOK c d) → K 0 σ) (h2 : ¬ (0 ≤ t ∧ t < 10) → K (-900001) σ) (h3 : (0 ≤ t ∧ t < 10) → ¬ (spanOK a b ∧ spanOK c d) → K (-900002) σ) : CC m_X9_refuseVisit [vI t, vI a, vI b, vI c, vI d] σ (PI K) :=
  e_X9_refuseVisit t a b c d (c_isThing ht (fun q => c_isPlace ha hb hc hd (fun q2 => h1 q q2) (fun q2 => h3 q q2)) h2)
theorem c_refuseThinning {t m : Int} (ht : R32 t) (hm : R32 m) (h1 : (0 ≤ t ∧ t < 10) → (0 ≤ m ∧ m < 100) → K 0 σ) (h2 : ¬ (0 ≤ t ∧ t < 10) → K (-900001) σ) (h3 : (0 ≤ t ∧ t < 10) → ¬ (0 ≤ m ∧ m < 100) → K (-900002) σ) : CC m_X9_refuseThinning [vI t, vI m] σ (PI K) :=
  e_X9_refuseThinning t m (c_isThing ht (fun q => c_isWithin hm (by decide) (by decide) (fun q2 => h1 q (by omega)) (fun q2 => h3 q (by omega))) h2)
theorem c_refuseChange {s m : Int} (hs : R32 s) (hm : R32 m) (hn : R32 (σ 0 11 - 1)) (h1 : (0 ≤ s ∧ s < σ 0 11) → (0 ≤ m ∧ m < 200) → K 0 σ) (h2 : ¬ (0 ≤ s ∧ s < σ 0 11) → K (-900001) σ) (h3 : (0 ≤ s ∧ s < σ 0 11) → ¬ (0 ≤ m ∧ m < 200) → K (-900002) σ) : CC m_X9_refuseChange [vR 0, vI s, vI m] σ (PI K) :=
  e_X9_refuseChange s m (c_isStand hs hn (fun q => c_isMinute hm (fun q2 => h1 q q2) (fun q2 => h3 q q2)) h2)
theorem c_refuseMeeting {a b r : Int} (ha : R32 a) (hb : R32 b) (hr : R32 r) (h1 : (0 ≤ a ∧ a < 10) → (0 ≤ b ∧ b < 10) → (0 ≤ r ∧ r ≤ 200) → a ≠ b → K 0 σ) (h2 : ¬ ((0 ≤ a ∧ a < 10) ∧ (0 ≤ b ∧ b < 10)) → K (-900001) σ) (h3 : (0 ≤ a ∧ a < 10) → (0 ≤ b ∧ b < 10) → ¬ (0 ≤ r ∧ r ≤ 200) → K (-900002) σ) (h4 : (0 ≤ a ∧ a < 10) → (0 ≤ b ∧ b < 10) → (0 ≤ r ∧ r ≤ 200) → a = b → K (-900003) σ) : CC m_X9_refuseMeeting [vI a, vI b, vI r] σ (PI K) :=
  e_X9_refuseMeeting a b r (c_isThing ha (fun q => c_isThing hb (fun q2 => c_isWithin hr (by decide) (by decide) (fun q3 => ⟨ha, hb, by
    by_cases e : a = b
    · rw [if_neg (not_not_intro e)]; exact h4 q q2 q3 e
    · rw [if_pos e]; exact h1 q q2 q3 e⟩) (fun q3 => h3 q q2 q3)) (fun q2 => h2 fun z => q2 z.2)) (fun q => h2 fun z => q z.1))
/-! the reference's own -/
theorem d_in {v a b : Int} (hv : R64 v) (ha : R64 a) (hb : R64 b) (h1 : a ≤ v ∧ v ≤ b → A σ) (h0 : ¬ (a ≤ v ∧ v ≤ b) → B σ) : CC m_X10_in [vL v, vL a, vL b] σ (PZ A B) :=
  e_X10_in v a b ⟨hv, ha, fun q => h0 (by omega), fun q => ⟨hb, fun q2 => h0 (by omega), fun q2 => h1 (by omega)⟩⟩
theorem r64 {x : Int} (h : R32 x) : R64 x := ⟨by have := h.1; omega, by have := h.2; omega⟩
theorem d_isThing {v : Int} (hv : R32 v) (h1 : 0 ≤ v ∧ v < 10 → A σ) (h0 : ¬ (0 ≤ v ∧ v < 10) → B σ) : CC m_X10_isThing [vI v] σ (PZ A B) :=
  e_X10_isThing v ⟨hv, d_in (r64 hv) (by decide) (by decide) (fun q => h1 (by omega)) (fun q => h0 (by omega))⟩
theorem d_isMinute {v : Int} (hv : R32 v) (h1 : 0 ≤ v ∧ v < 200 → A σ) (h0 : ¬ (0 ≤ v ∧ v < 200) → B σ) : CC m_X10_isMinute [vI v] σ (PZ A B) :=
  e_X10_isMinute v ⟨hv, d_in (r64 hv) (by decide) (by decide) (fun q => h1 (by omega)) (fun q => h0 (by omega))⟩
theorem d_isRow {t r : Int} (ht : R32 t) (hr : R32 r) (hn : 0 ≤ t ∧ t < 10 → R32 (σ 81 t.toNat - 1)) (h1 : 0 ≤ t ∧ t < 10 → 0 ≤ r ∧ r < σ 81 t.toNat → A σ) (h0 : ¬ ((0 ≤ t ∧ t < 10) ∧ 0 ≤ r ∧ r < σ 81 t.toNat) → B σ) : CC m_X10_isRow [vR 80, vI t, vI r] σ (PZ A B) :=
  e_X10_isRow t r (d_isThing ht (fun q => ⟨hr, q, hn q, d_in (r64 hr) (by decide) (r64 (hn q)) (fun q2 => h1 q (by omega)) (fun q2 => h0 (by omega))⟩) (fun q => h0 fun z => q z.1))
theorem d_isSpan {a b : Int} (ha : R32 a) (hb : R32 b) (h1 : spanOK a b → A σ) (h0 : ¬ spanOK a b → B σ) : CC m_X10_isSpan [vI a, vI b] σ (PZ A B) := by
  unfold spanOK at h1 h0
  exact e_X10_isSpan a b ⟨ha, d_in (r64 ha) (by decide) (by decide) (fun q => ⟨hb, d_in (r64 hb) (r64 ha) (by decide) (fun q2 => h1 (by omega)) (fun q2 => h0 (by omega))⟩) (fun q => h0 (by omega))⟩
theorem d_isBlur {b s : Int} (hb : R32 b) (hs : R32 s) (h1 : blurOK b s → A σ) (h0 : ¬ blurOK b s → B σ) : CC m_X10_isBlur [vI b, vI s] σ (PZ A B) := by
  unfold blurOK at h1 h0
  exact e_X10_isBlur b s ⟨hb, d_in (r64 hb) (by decide) (by decide) (fun q => ⟨hs, by omega, d_in (r64 hs) (by decide) (by omega) (fun q2 => h1 (by omega)) (fun q2 => h0 (by omega))⟩) (fun q => h0 (by omega))⟩
end SMALL
/-! memories -/
theorem up_at {σ : Mem} {a i : Nat} {v : Int} : up σ a i v a i = v := by simp [up]
theorem up_o1 {σ : Mem} {a i b j : Nat} {v : Int} (h : b ≠ a) : up σ a i v b j = σ b j := by simp [up, h]
theorem up_o2 {σ : Mem} {a i b j : Nat} {v : Int} (h : j ≠ i) : up σ a i v b j = σ b j := by simp [up, h]
theorem up_cell {σ : Mem} {a i b : Nat} {v : Int} (h : b ≠ a) : up σ a i v b = σ b := up_ne b h
/-! a thing's rows: how many, kind, minutes, x, y -/
abbrev TV : Type := Nat × Int × (Nat → Int) × (Nat → Int) × (Nat → Int)
abbrev tn (V : TV) : Nat := V.1
abbrev tk (V : TV) : Int := V.2.1
abbrev tm (V : TV) : Nat → Int := V.2.2.1
abbrev tx (V : TV) : Nat → Int := V.2.2.2.1
abbrev ty (V : TV) : Nat → Int := V.2.2.2.2
def CT (σ : Mem) (a : Nat) (V : TV) : Prop := σ a 3 = (tn V : Int) ∧ σ a 4 = tk V ∧ ∀ i, i < tn V → σ (a + 1) i = tm V i ∧ σ (a + 2) i = tx V i ∧ σ (a + 3) i = ty V i
def MT (σ : Mem) (t : Nat) (V : TV) : Prop := σ 81 t = (tn V : Int) ∧ σ 85 t = tk V ∧ ∀ i, i < tn V → σ 82 (24 * t + i) = tm V i ∧ σ 83 (24 * t + i) = tx V i ∧ σ 84 (24 * t + i) = ty V i
def tok (V : TV) : Prop := tn V ≤ 24 ∧ (tk V = 0 ∨ tk V = 1) ∧ (∀ i, i < tn V → (0 ≤ tm V i ∧ tm V i < 200) ∧ (0 ≤ tx V i ∧ tx V i < 100) ∧ (0 ≤ ty V i ∧ ty V i < 100)) ∧ ∀ i j, i < j → j < tn V → tm V i < tm V j
theorem CT.same {σ σ' : Mem} {a : Nat} {V : TV} (h : CT σ a V) (h0 : σ' a = σ a) (h1 : σ' (a + 1) = σ (a + 1)) (h2 : σ' (a + 2) = σ (a + 2)) (h3 : σ' (a + 3) = σ (a + 3)) : CT σ' a V := by
  unfold CT
  rw [h0, h1, h2, h3]
  exact h
theorem MT.same {σ σ' : Mem} {t : Nat} {V : TV} (h : MT σ t V) (h1 : σ' 81 = σ 81) (h2 : σ' 82 = σ 82) (h3 : σ' 83 = σ 83) (h4 : σ' 84 = σ 84) (h5 : σ' 85 = σ 85) : MT σ' t V := by
  unfold MT
  rw [h1, h2, h3, h4, h5]
  exact h
/-- what the calls that only ask may write: the asked place, spots, runs, ranking, thinning, columns -/
def cs (b : Nat) : Prop := (3 ≤ b ∧ b ≤ 12) ∨ (29 ≤ b ∧ b ≤ 33)
def cq (σ σ' : Mem) : Prop := ∀ b, ¬ cs b → σ' b = σ b
theorem cq.rf {σ : Mem} : cq σ σ := fun _ _ => rfl
theorem cq.tr {σ σ' σ'' : Mem} (h : cq σ σ') (h2 : cq σ' σ'') : cq σ σ'' := fun b hb => (h2 b hb).trans (h b hb)
theorem cq.up {σ : Mem} {a i : Nat} {v : Int} (h : cs a) : cq σ (up σ a i v) := fun b hb => up_cell fun e => hb (e ▸ h)
/-- what the reference's asking calls may write -/
def mq (σ σ' : Mem) : Prop := (∀ b, (b < 80 ∨ (81 ≤ b ∧ b ≤ 85) ∨ b = 100) → σ' b = σ b) ∧ σ' 80 5 = σ 80 5 ∧ σ' 80 29 = σ 80 29 ∧ σ' 80 30 = σ 80 30
theorem mq.rf {σ : Mem} : mq σ σ := ⟨fun _ _ => rfl, rfl, rfl, rfl⟩
theorem mq.tr {σ σ' σ'' : Mem} (h : mq σ σ') (h2 : mq σ' σ'') : mq σ σ'' := ⟨fun b hb => (h2.1 b hb).trans (h.1 b hb), h2.2.1.trans h.2.1, h2.2.2.1.trans h.2.2.1, h2.2.2.2.trans h.2.2.2⟩
theorem mq.upA {σ : Mem} {a i : Nat} {v : Int} (h : 86 ≤ a ∧ a ≤ 99) : mq σ (up σ a i v) := ⟨fun b hb => up_cell (by omega), up_o1 (by omega), up_o1 (by omega), up_o1 (by omega)⟩
theorem mq.upF {σ : Mem} {i : Nat} {v : Int} (h : i ≠ 5 ∧ i ≠ 29 ∧ i ≠ 30) : mq σ (up σ 80 i v) := ⟨fun b hb => up_cell (by omega), up_o2 (Ne.symm h.1), up_o2 (Ne.symm h.2.1), up_o2 (Ne.symm h.2.2)⟩
theorem CT.cq {σ σ' : Mem} {a : Nat} {V : TV} (h : CT σ a V) (hq : cq σ σ') (ha : isT a) : CT σ' a V := by
  obtain ⟨k, hk, rfl⟩ := ha
  exact h.same (hq _ (by unfold cs; omega)) (hq _ (by unfold cs; omega)) (hq _ (by unfold cs; omega)) (hq _ (by unfold cs; omega))
theorem MT.mq {σ σ' : Mem} {t : Nat} {V : TV} (h : MT σ t V) (hq : mq σ σ') : MT σ' t V := h.same (hq.1 _ (by omega)) (hq.1 _ (by omega)) (hq.1 _ (by omega)) (hq.1 _ (by omega)) (hq.1 _ (by omega))
