section REFR
variable {σ : Mem}
theorem c_setLeg {K : Mem → Prop} {l ax r3 r : Nat} {u v : Int} (hr3 : r3 < N0 ∧ SH r3 = (20, 24)) (hax : ax < 3) (hl : l < 230) (hr : r + 1 < 24) (e1 : σ r3 r = u) (e2 : σ r3 (r + 1) = v) (hu : R32 u) (hv : R32 v) (hK : ∀ σ', σ' 15 (6 * l + 2 * ax) = min u v → σ' 15 (6 * l + (2 * ax + 1)) = max u v → (∀ c i, (c = 15 → i ≠ 6 * l + 2 * ax ∧ i ≠ 6 * l + (2 * ax + 1)) → σ' c i = σ c i) → K σ') : CC m_X2_setLegAxis [vR 13, vI (l : Int), vI (ax : Int), vR r3, vI (r : Int)] σ (PN K) := by
  have n14 := n14
  refine e_X2_setLegAxis _ _ _ hr3 _ ?_
  rw [Int.toNat_natCast, show ((r : Int) + 1).toNat = r + 1 by omega, e1, e2]
  exact ⟨by omega, by omega, hu, hv, c_setAxis (q0 := l) hax b14 (by omega) hK⟩
theorem c_takeLeg {K : Int → Mem → Prop} {L : Nat → Bx} {G : PG} {V : TV} {c r t : Nat} (h : WF L G c (gm G)) (hc : c + 1 ≤ 230) (ht : t < 10) (hV : tok V) (hC : CT σ (34 + 4 * t) V) (hr : r + 1 < tn V) (hLc : L c = lbox V r) (h11 : σ 13 11 = (c : Int)) (hL : LgC σ L c) (hG : PgC σ G) (hK : ∀ σ', PgC σ' (tkL L G c).2 → LgC σ' L (c + 1) → σ' 13 11 = (c : Int) + 1 → (∀ b, (b < 13 ∨ 29 ≤ b) → σ' b = σ b) → K ((tkL L G c).1 : Int) σ') : CC m_X2_takeLeg [vR 13, vR (34 + 4 * t), vI (r : Int)] σ (PI K) := by
  have ha : isT (34 + 4 * t) := ⟨t, ht, rfl⟩
  have hm := WF_bd h (by omega)
  have hn := hV.1
  obtain ⟨-, -, hrow⟩ := hC
  have v1 := hrow r (by omega)
  have v2 := hrow (r + 1) hr
  have d1 := hV.2.2.1 r (by omega)
  have d2 := hV.2.2.1 (r + 1) hr
  have lb := lbox_ok hV hr
  have la := lbox_all V r
  refine e_X2_takeLeg _ ha _ ?_
  rw [h11]
  refine ⟨by omega, fun _ s3 e3 => ?_, fun z => absurd (by omega) z⟩
  have o3 : ∀ b, b ≠ 13 → s3 b = σ b := fun b hb => by rw [e3, up_cell hb]
  refine c_setLeg (l := c) (ax := 0) (u := tx V r) (v := tx V (r + 1)) ⟨ltT2 ha, shT2 ha⟩ (by decide) (by omega) (by omega) (by rw [o3 _ (by omega)]; exact v1.2.1) (by rw [o3 _ (by omega)]; exact v2.2.1) (by omega) (by omega) fun s6 p6 q6 f6 => ?_
  refine c_setLeg (l := c) (ax := 1) (u := ty V r) (v := ty V (r + 1)) ⟨ltT3 ha, shT3 ha⟩ (by decide) (by omega) (by omega) (by rw [f6 _ _ (fun e => absurd e (by omega)), o3 _ (by omega)]; exact v1.2.2) (by rw [f6 _ _ (fun e => absurd e (by omega)), o3 _ (by omega)]; exact v2.2.2) (by omega) (by omega) fun s8 p8 q8 f8 => ?_
  refine c_setLeg (l := c) (ax := 2) (u := tm V r) (v := tm V (r + 1)) ⟨ltT1 ha, shT1 ha⟩ (by decide) (by omega) (by omega) (by rw [f8 _ _ (fun e => absurd e (by omega)), f6 _ _ (fun e => absurd e (by omega)), o3 _ (by omega)]; exact v1.1) (by rw [f8 _ _ (fun e => absurd e (by omega)), f6 _ _ (fun e => absurd e (by omega)), o3 _ (by omega)]; exact v2.1) (by omega) (by omega) fun s10 p10 q10 f10 => ?_
  have o10 : ∀ b, b ≠ 15 → s10 b = s3 b := fun b hb => funext fun i => by rw [f10 b i (fun e => absurd e hb), f8 b i (fun e => absurd e hb), f6 b i (fun e => absurd e hb)]
  have hL10 : LgC s10 L (c + 1) := by
    intro l hl j hj
    by_cases z : l = c
    · subst z
      rw [hLc]
      have : j = 0 ∨ j = 1 ∨ j = 2 ∨ j = 3 ∨ j = 4 ∨ j = 5 := by omega
      rcases this with e | e | e | e | e | e <;> subst e
      · rw [f10 15 _ (fun _ => by omega), f8 15 _ (fun _ => by omega)]; exact p6
      · rw [f10 15 _ (fun _ => by omega), f8 15 _ (fun _ => by omega)]; exact q6
      · rw [f10 15 _ (fun _ => by omega)]; exact p8
      · rw [f10 15 _ (fun _ => by omega)]; exact q8
      · exact p10
      · exact q10
    · rw [f10 15 _ (fun _ => by omega), f8 15 _ (fun _ => by omega), f6 15 _ (fun _ => by omega), o3 15 (by decide)]
      exact hL l (by omega) j hj
  have hG10 : PgC s10 (wb G (gb G)) := hG.same (by rw [o10 13 (by decide), e3, up_o2 (by decide)]) (by rw [o10 17 (by decide), o3 17 (by decide)]) (by rw [o10 18 (by decide), o3 18 (by decide)]) (by rw [o10 19 (by decide), o3 19 (by decide)]) (by rw [o10 20 (by decide), o3 20 (by decide)])
  have t11 : s10 13 11 = (c : Int) + 1 := by rw [o10 13 (by decide), e3, up_at]
  have := c_down (σ := s10) (K := K) (l := c) (k := c + 1) (R := dsc (gf G) (L c) 230 0 (gb G)) h (Nat.le_refl _) hm hc (by omega) (by rw [hLc]; exact lb) (fun σ' hG' hf' => ?_) 230 0 (gb G) s10 (JD_start h) (by have := h.1.1.1; omega) (by omega) (by omega) rfl hG10 hL10 fun _ _ => rfl
  · exact this
  · refine hK σ' hG' (hL10.same (hf' 15 (by decide) (by decide) (by decide))) (by rw [hf' 13 (by decide) (by decide) (by decide)]; exact t11) fun b hb => ?_
    rw [hf' b (by omega) (by omega) (by omega), o10 b (by omega), o3 b (by omega)]
variable {T : Nat → TV}
theorem c_refresh {K : Mem → Prop} (hT : oks T) (hC : CA σ T) (hP : σ 0 10 = 1 ∨ (σ 0 10 = 0 ∧ TrC σ T)) (hK : ∀ σ', TrC σ' T → σ' 0 10 = 0 → (∀ b, b ≠ 0 → (b < 13 ∨ 29 ≤ b) → σ' b = σ b) → (∀ i, i ≠ 10 → σ' 0 i = σ 0 i) → K σ') : CC m_X9_refreshTree [vR 0] σ (PN K) := by
  have hfn := FN_bd hT
  have hfl := FL_ok hT
  have rows : ∀ (t : Nat), t < 10 → (∀ s, s 13 11 = ((lgT T (t + 1)).1 : Int) → LgC s (FL T) (lgT T (t + 1)).1 → PgC s (bld (FL T) (lgT T (t + 1)).1) → (∀ b, (b < 13 ∨ 29 ≤ b) → s b = σ b) → TT m_X9_refreshTree 17 [vR 0, vI ((t : Int) + 1), vU, vU, vU] [] s (PN K)) → ∀ (d r : Nat) (s : Mem), r + d = tn (T t) - 1 → s 13 11 = ((lgR (T t) (lgT T t) r).1 : Int) → LgC s (FL T) (lgR (T t) (lgT T t) r).1 → PgC s (bld (FL T) (lgR (T t) (lgT T t) r).1) → (∀ b, (b < 13 ∨ 29 ≤ b) → s b = σ b) → TT m_X9_refreshTree 32 [vR 0, vI (t : Int), vR (34 + 4 * t), vI (r : Int), vU] [] s (PN K) := by
    intro t ht next d
    have hn := (hT t ht).1
    induction d with
    | zero =>
      intro r s hr h11 hL hG hf
      have hr : r = tn (T t) - 1 := by omega
      subst hr
      have hCs : CT s (34 + 4 * t) (T t) := by
        have := hC t ht
        rw [trkN] at this
        exact this.same (hf _ (by omega)) (hf _ (by omega)) (hf _ (by omega)) (hf _ (by omega))
      refine w_X9_refreshTree_32 _ _ ⟨t, ht, rfl⟩ _ ?_
      rw [hCs.1]
      exact ⟨by omega, by omega, fun _ => next s h11 hL hG hf, fun z => absurd (by omega) z⟩
    | succ d ih =>
      intro r s hr h11 hL hG hf
      have hCs : CT s (34 + 4 * t) (T t) := by
        have := hC t ht
        rw [trkN] at this
        exact this.same (hf _ (by omega)) (hf _ (by omega)) (hf _ (by omega)) (hf _ (by omega))
      have le := lg_end (T := T) (t := t) (r := r) ht (by omega)
      have lec : (lgR (T t) (lgT T t) r).1 ≤ FN T := le.1
      have wf := bld_wf (L := FL T) (n := FN T) hfl hfn (lgR (T t) (lgT T t) r).1 lec
      refine w_X9_refreshTree_32 _ _ ⟨t, ht, rfl⟩ _ ?_
      rw [hCs.1]
      refine ⟨by omega, by omega, fun z => absurd z (by omega), fun _ => ?_⟩
      refine c_isLeg ⟨t, ht, rfl⟩ hCs (hT t ht) (by omega) (fun r' er' hr' hg => ?_) (fun hno => ?_)
      · have er' : r' = r := by omega
        subst er'
        have fa := FL_at ht hr' hg
        have el : (lgR (T t) (lgT T t) (r' + 1)).1 = (lgR (T t) (lgT T t) r').1 + 1 := by simp only [lgR]; rw [if_pos hg]
        have ih := ih (r' + 1)
        rw [el] at ih
        generalize (lgR (T t) (lgT T t) r').1 = c at h11 hL hG lec wf fa ih
        have tw := tkL_wf wf (by omega) (hfl c (by omega))
        refine c_takeLeg wf (by omega) ht (hT t ht) hCs hr' fa.1 h11 hL hG fun s19 hG19 hL19 h19 hf19 => ?_
        refine c_cut tw.1 (by omega) (fun l hl => hfl l (by omega)) tw.2.1 tw.2.2.1 hG19 hL19 fun s21 hG21 hf21 h21 => ?_
        refine ih s21 (by omega) (by rw [h21 11 (by decide), h19]; rfl) (hL19.same (hf21 15 (by decide))) hG21 fun b hb => ?_
        rw [hf21 b (by omega), hf19 b hb, hf b hb]
      · have hg : ¬ tm (T t) (r + 1) - tm (T t) r ≤ 16 := fun z => hno r rfl ⟨by omega, z⟩
        have el : lgR (T t) (lgT T t) (r + 1) = lgR (T t) (lgT T t) r := by simp only [lgR]; rw [if_neg hg]
        exact ih (r + 1) s (by omega) (by rw [el]; exact h11) (by rw [el]; exact hL) (by rw [el]; exact hG) hf
  have things : ∀ (d t : Nat) (s : Mem), t + d = 10 → s 13 11 = ((lgT T t).1 : Int) → LgC s (FL T) (lgT T t).1 → PgC s (bld (FL T) (lgT T t).1) → (∀ b, (b < 13 ∨ 29 ≤ b) → s b = σ b) → TT m_X9_refreshTree 17 [vR 0, vI (t : Int), vU, vU, vU] [] s (PN K) := by
    intro d
    induction d with
    | zero =>
      intro t s ht h11 hL hG hf
      have ht : t = 10 := by omega
      subst ht
      refine w_X9_refreshTree_17 _ ⟨by decide, fun _ s7 e7 => ?_, fun z => absurd (by decide) z⟩
      have o7 : ∀ b, b ≠ 0 → s7 b = s b := fun b hb => by rw [e7, up_cell hb]
      refine hK s7 ⟨by rw [o7 13 (by decide)]; exact h11, hL.same (o7 15 (by decide)), hG.same (by rw [o7 13 (by decide)]) (o7 17 (by decide)) (o7 18 (by decide)) (o7 19 (by decide)) (o7 20 (by decide))⟩ (by rw [e7, up_at]) (fun b b0 hb => by rw [o7 b b0, hf b hb]) fun i hi => by rw [e7, up_o2 hi, hf 0 (by omega)]
    | succ d ih =>
      intro t s ht h11 hL hG hf
      refine w_X9_refreshTree_17 _ ⟨by omega, fun z => absurd z (by omega), fun _ => ⟨by omega, ?_⟩⟩
      rw [trkN]
      exact rows t (by omega) (fun s2 a b c e => ih (t + 1) s2 (by omega) a b c e) (tn (T t) - 1) 0 s (by omega) h11 hL hG hf
  refine e_X9_refreshTree ⟨by omega, fun z => ?_, fun z => ?_⟩
  · refine e_X2_clear fun s1 e1 s3 e3 => ?_
    refine c_addLeaf (m := 0) (by rw [e3, up_at]; rfl) (by decide) ?_
    refine things 10 0 _ rfl ?_ (fun l hl => absurd hl (Nat.not_lt_zero l)) ⟨?_, fun p hp => ?_⟩ fun b hb => ?_
    · rw [up_o2 (by decide), up_o1 (by decide), up_o1 (by decide), e3, up_o2 (by decide), e1, up_at]; rfl
    · rw [up_at]; rfl
    · have hp : p < 1 := hp
      have hp : p = 0 := by omega
      subst hp
      refine ⟨⟨?_, ?_⟩, fun i hi => absurd hi (Nat.not_lt_zero i), fun h0 => absurd h0 (Nat.lt_irrefl 0)⟩
      · rw [up_o1 (by decide), up_o1 (by decide), up_at]; rfl
      · rw [up_o1 (by decide), up_at]; rfl
    · rw [up_cell (by omega), up_cell (by omega), up_cell (by omega), e3, up_cell (by omega), e1, up_cell (by omega)]
  · rcases hP with w | w
    · exact absurd (w.symm.trans z) (by decide)
    · exact hK σ w.2 z (fun _ _ _ => rfl) fun _ _ => rfl
end REFR
