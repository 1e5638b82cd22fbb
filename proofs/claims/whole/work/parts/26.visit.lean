/-! visits -/
section VIS
variable {T : Nat → TV} {P : BX} {t : Nat}
def fV (T : Nat → TV) (P : BX) (t : Nat) : Nat → Bool := fun m => inb (T t) P (m : Int)
theorem c_gatherV9 {K : Mem → Prop} (ht : t < 10) (hT : oks T) (hP : bxOK P) : ∀ (k m : Nat) (σ : Mem), m + k = 200 → CA σ T → plc σ 3 P → spC σ (RU (fV T P t) m) → (∀ σ', cq σ σ' → spC σ' (RU (fV T P t) 200) → K σ') → TT m_X9_gatherVisits 9 [vR 0, vI (t : Int), vI (m : Int)] [] σ (PN K) := by
  intro k
  induction k with
  | zero =>
    intro m σ hk hC hpl hs hK
    have : m = 200 := by omega
    subst this
    exact w_X9_gatherVisits_9 _ _ ⟨by omega, fun _ => hK σ cq.rf hs, fun q => absurd q (by omega)⟩
  | succ k ih =>
    intro m σ hk hC hpl hs hK
    refine w_X9_gatherVisits_9 _ _ ⟨by omega, fun q => absurd q (by omega), fun q => ?_⟩
    refine c_isIn (Or.inl rfl) ht (by omega) hT hC hP hpl (fun hv σ' hf => ?_) (fun hv σ' hf => ?_)
    · have hs' : spC σ' (RU (fV T P t) m) := by
        unfold spC
        rw [hf 6 (by decide), hf 7 (by decide), hf 8 (by decide)]
        exact hs
      refine c_add (f := fV T P t) (by omega) hv hs' fun σ2 hs2 hf2 => ?_
      exact ih (m + 1) σ2 (by omega) ((hC.cq (cq4 hf)).cq hf2.cq) (by unfold plc; rw [hf2 3 (by decide) (by decide) (by decide), hf 3 (by decide)]; exact hpl) hs2 fun σ3 h3 => hK σ3 (((cq4 hf).tr hf2.cq).tr h3)
    · have hs' : spC σ' (RU (fV T P t) (m + 1)) := by
        rw [RU_no hv]
        unfold spC
        rw [hf 6 (by decide), hf 7 (by decide), hf 8 (by decide)]
        exact hs
      exact ih (m + 1) σ' (by omega) (hC.cq (cq4 hf)) (by unfold plc; rw [hf 3 (by decide)]; exact hpl) hs' fun σ3 h3 => hK σ3 ((cq4 hf).tr h3)
theorem c_gatherV {σ : Mem} {K : Mem → Prop} (ht : t < 10) (hT : oks T) (hC : CA σ T) (hP : bxOK P) (hpl : plc σ 3 P) (hK : ∀ σ', cq σ σ' → spC σ' (RU (fV T P t) 200) → K σ') : CC m_X9_gatherVisits [vR 0, vI (t : Int)] σ (PN K) :=
  e_X9_gatherVisits _ (c_clear (f := fV T P t) fun s2 hs2 hf2 => c_gatherV9 ht hT hP 200 0 s2 rfl (hC.cq hf2.cq) (by unfold plc; rw [hf2 3 (by decide) (by decide) (by decide)]; exact hpl) hs2 fun σ' h1 h2 => hK σ' (hf2.cq.tr h1) h2)
theorem inR.mf {σ σ' : Mem} {f : Nat → Bool} {m : Nat} (h : inR σ f m) (hf : mf σ σ') : inR σ' f m := by
  unfold inR
  rw [hf.2 10 (by decide) (by decide) (by decide)]
  exact h
theorem spM.mf {σ σ' : Mem} {R : RT3} (h : spM σ R) (hf : mf σ σ') : spM σ' R := by
  unfold spM
  rw [hf.2 9 (by decide) (by decide) (by decide), hf.1 86 (by decide), hf.1 87 (by decide)]
  exact h
theorem d_layV7 {K : Mem → Prop} (ht : t < 10) (hT : oks T) (hP : bxOK P) : ∀ (k m : Nat) (σ : Mem), m + k = 200 → MA σ T → spM σ (RU (fV T P t) m) → inR σ (fV T P t) m → (∀ σ', mq σ σ' → spM σ' (RU (fV T P t) 200) → K σ') → TT m_X10_layVisits 7 [vR 80, vI (t : Int), vI P.1, vI P.2.1, vI P.2.2.1, vI P.2.2.2, vI (m : Int)] [] σ (PN K) := by
  intro k
  induction k with
  | zero =>
    intro m σ hk hM hs hi hK
    have : m = 200 := by omega
    subst this
    exact w_X10_layVisits_7 _ _ _ _ _ _ ⟨by omega, fun _ => hK σ mq.rf hs, fun q => absurd q (by omega)⟩
  | succ k ih =>
    intro m σ hk hM hs hi hK
    refine w_X10_layVisits_7 _ _ _ _ _ _ ⟨by omega, fun q => absurd q (by omega), fun q => ?_⟩
    refine d_isIn ht (by omega) hT hM hP (fun hv σ' hf => ?_) (fun hv σ' hf => ?_)
    · refine d_meet (f := fV T P t) (by omega) (by rw [show fV T P t m = true from hv]; rfl) (hs.mf hf) (hi.mf hf) fun σ2 hs2 hi2 hf2 => ?_
      exact ih (m + 1) σ2 (by omega) ((hM.mq hf.mq).mq hf2.mq) hs2 hi2 fun σ3 h3 => hK σ3 ((hf.mq.tr hf2.mq).tr h3)
    · refine d_meet (f := fV T P t) (by omega) (by rw [show fV T P t m = false from hv]; rfl) (hs.mf hf) (hi.mf hf) fun σ2 hs2 hi2 hf2 => ?_
      exact ih (m + 1) σ2 (by omega) ((hM.mq hf.mq).mq hf2.mq) hs2 hi2 fun σ3 h3 => hK σ3 ((hf.mq.tr hf2.mq).tr h3)
theorem d_layV {σ : Mem} {K : Mem → Prop} (ht : t < 10) (hT : oks T) (hM : MA σ T) (hP : bxOK P) (hK : ∀ σ', mq σ σ' → spM σ' (RU (fV T P t) 200) → K σ') : CC m_X10_layVisits [vR 80, vI (t : Int), vI P.1, vI P.2.1, vI P.2.2.1, vI P.2.2.2] σ (PN K) :=
  e_X10_layVisits _ _ _ _ _ (d_begin (f := fV T P t) fun s2 hs2 hi2 hf2 => d_layV7 ht hT hP 200 0 s2 rfl (hM.mq hf2.mq) hs2 hi2 fun σ' h1 h2 => hK σ' (hf2.mq.tr h1) h2)
end VIS
section OPV
variable {σ : Mem} {T : Nat → TV} {K : Int → Int → Mem → Prop}
theorem op_visits {t a b c d : Int} (ht : R32 t) (ha : R32 a) (hb : R32 b) (hc : R32 c) (hd : R32 d) (hT : oks T) (hC : CA σ T) (hM : MA σ T) (hK : ∀ v σ', R32 v → qm σ σ' → K v v σ') :
    CC m_X9_visits [vR 0, vI t, vI a, vI b, vI c, vI d] σ (PI fun v s => CC m_X10_visits [vR 80, vI t, vI a, vI b, vI c, vI d] s (PI fun v2 s2 => K v v2 s2)) := by
  refine e_X9_visits _ _ _ _ _ (c_refuseVisit ht ha hb hc hd (fun q q2 => ⟨by decide, fun _ => ?_, fun z => absurd rfl z⟩) (fun q => ⟨by decide, fun z => absurd z (by decide), fun _ => ?_⟩) (fun q q2 => ⟨by decide, fun z => absurd z (by decide), fun _ => ?_⟩))
  · obtain ⟨i, rfl, hi⟩ := nat_of q
    have hi : i < 10 := by omega
    refine c_set (P := (a, b, c, d)) (Or.inl rfl) fun s6 hpl hf => ?_
    refine c_gatherV (P := (a, b, c, d)) hi hT (hC.cq (cq3 hf)) q2 hpl fun s8 hq hs => ?_
    have hcq := (cq3 hf).tr hq
    refine e_X10_visits _ _ _ _ _ (d_isThing ht (fun _ => d_isSpan ha hb (fun _ => d_isSpan hc hd (fun _ => ?_) (fun z => absurd q2.2 z)) (fun z => absurd q2.1 z)) (fun z => absurd q z))
    refine d_layV (P := (a, b, c, d)) hi hT (hM.cq hcq) q2 fun s14 hm14 hs14 => ?_
    have g := (RU_spec (fV T (a, b, c, d) i) 200).2.2.1
    rw [hs.1, hs14.1]
    exact hK _ _ (by omega) (qm_of hcq hm14)
  · exact e_X10_visits _ _ _ _ _ (d_isThing ht (fun z => absurd z q) (fun _ => hK _ _ (by decide) (qm_of cq.rf mq.rf)))
  · exact e_X10_visits _ _ _ _ _ (d_isThing ht (fun _ => d_isSpan ha hb (fun z1 => d_isSpan hc hd (fun z2 => absurd ⟨z1, z2⟩ q2) (fun _ => hK _ _ (by decide) (qm_of cq.rf mq.rf))) (fun _ => hK _ _ (by decide) (qm_of cq.rf mq.rf))) (fun z => absurd q z))
theorem op_visit {t a b c d i w : Int} (ht : R32 t) (ha : R32 a) (hb : R32 b) (hc : R32 c) (hd : R32 d) (hi : R32 i) (hw : R32 w) (hT : oks T) (hC : CA σ T) (hM : MA σ T) (hK : ∀ v σ', R32 v → qm σ σ' → K v v σ') :
    CC m_X9_visit [vR 0, vI t, vI a, vI b, vI c, vI d, vI i, vI w] σ (PI fun v s => CC m_X10_visit [vR 80, vI t, vI a, vI b, vI c, vI d, vI i, vI w] s (PI fun v2 s2 => K v v2 s2)) := by
  refine e_X9_visit _ _ _ _ _ _ _ (c_refuseVisit ht ha hb hc hd (fun q q2 => ⟨by decide, fun _ => ?_, fun z => absurd rfl z⟩) (fun q => ⟨by decide, fun z => absurd z (by decide), fun _ => ?_⟩) (fun q q2 => ⟨by decide, fun z => absurd z (by decide), fun _ => ?_⟩))
  · obtain ⟨j, rfl, hj⟩ := nat_of q
    have hj : j < 10 := by omega
    refine c_set (P := (a, b, c, d)) (Or.inl rfl) fun s6 hpl hf => ?_
    refine c_gatherV (P := (a, b, c, d)) hj hT (hC.cq (cq3 hf)) q2 hpl fun s8 hq hs => ?_
    have hcq := (cq3 hf).tr hq
    obtain ⟨-, -, g, g4⟩ := RU_spec (fV T (a, b, c, d) j) 200
    rw [hs.1]
    refine c_isWithin hi (by decide) (by omega) (fun z => ?_) (fun z => ?_)
    · obtain ⟨r, rfl⟩ : ∃ r : Nat, i = (r : Int) := ⟨i.toNat, by omega⟩
      have er : (r : Int).toNat = r := by omega
      have hr : r < (RU (fV T (a, b, c, d) j) 200).1 := by omega
      have b4 := g4 r hr
      rw [er, (hs.2 r hr).1, (hs.2 r hr).2]
      refine ⟨hw, fun _ => by omega, fun _ => by omega, ?_⟩
      refine e_X10_visit _ _ _ _ _ _ _ (d_isThing ht (fun _ => d_isSpan ha hb (fun _ => d_isSpan hc hd (fun _ => ?_) (fun z => absurd q2.2 z)) (fun z => absurd q2.1 z)) (fun z => absurd q z))
      refine d_layV (P := (a, b, c, d)) hj hT (hM.cq hcq) q2 fun s14 hm14 hs14 => ?_
      rw [hs14.1]
      refine ⟨hi, by omega, d_in (r64 hi) (by decide) (by omega) (fun _ => ?_) (fun z2 => absurd z z2)⟩
      rw [er, (hs14.2 r hr).1, (hs14.2 r hr).2]
      exact ⟨hw, fun _ => by omega, fun _ => by omega, hK _ _ (by split <;> omega) (qm_of hcq hm14)⟩
    · refine e_X10_visit _ _ _ _ _ _ _ (d_isThing ht (fun _ => d_isSpan ha hb (fun _ => d_isSpan hc hd (fun _ => ?_) (fun z => absurd q2.2 z)) (fun z => absurd q2.1 z)) (fun z => absurd q z))
      refine d_layV (P := (a, b, c, d)) hj hT (hM.cq hcq) q2 fun s14 hm14 hs14 => ?_
      rw [hs14.1]
      exact ⟨hi, by omega, d_in (r64 hi) (by decide) (by omega) (fun z2 => absurd z2 z) (fun _ => hK _ _ (by decide) (qm_of hcq hm14))⟩
  · exact e_X10_visit _ _ _ _ _ _ _ (d_isThing ht (fun z => absurd z q) (fun _ => hK _ _ (by decide) (qm_of cq.rf mq.rf)))
  · exact e_X10_visit _ _ _ _ _ _ _ (d_isThing ht (fun _ => d_isSpan ha hb (fun z1 => d_isSpan hc hd (fun z2 => absurd ⟨z1, z2⟩ q2) (fun _ => hK _ _ (by decide) (qm_of cq.rf mq.rf))) (fun _ => hK _ _ (by decide) (qm_of cq.rf mq.rf))) (fun z => absurd q z))
end OPV
