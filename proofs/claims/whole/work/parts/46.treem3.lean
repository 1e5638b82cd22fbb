def TrM (σ : Mem) (T : Nat → TV) : Prop := σ 80 15 = (FN T : Int) ∧ LgM σ (FL T) (FN T) ∧ PgM σ (bld (FL T) (FN T))
def mt (σ σ' : Mem) : Prop := (∀ b, (b < 80 ∨ (81 ≤ b ∧ b ≤ 87) ∨ 97 ≤ b) → σ' b = σ b) ∧ ∀ i, i ≠ 15 → i ≠ 17 → σ' 80 i = σ 80 i
section LAYM
variable {σ : Mem} {T : Nat → TV}
theorem d_span {K : Mem → Prop} {c j : Nat} {u v : Int} (h : σ 80 15 = (c : Int)) (hc : c < 230) (hj : j ≤ 4) (hu : R32 u) (hv : R32 v) (hK : ∀ σ', σ' 88 (6 * c + j) = min u v → σ' 88 (6 * c + (j + 1)) = max u v → (∀ b i, (b = 88 → i ≠ 6 * c + j ∧ i ≠ 6 * c + (j + 1)) → σ' b i = σ b i) → K σ') : CC m_X10_span [vR 80, vI (j : Int), vI u, vI v] σ (PN K) := by
  refine e_X10_span _ _ _ ?_
  rw [h, show (6 * (c : Int) + (j : Int)).toNat = 6 * c + j by omega]
  refine ⟨hu, hv, by omega, fun s6 e6 => ?_⟩
  have h6 : s6 80 15 = (c : Int) := by rw [e6, up_o1 (by decide)]; exact h
  rw [h6, show (6 * (c : Int) + (j : Int) + 1).toNat = 6 * c + (j + 1) by omega]
  refine ⟨by omega, fun s11 e11 => hK s11 ?_ ?_ fun b i hi => ?_⟩
  · rw [e11, up_o2 (by omega), e6, up_at]; split <;> omega
  · rw [e11, up_at]; split <;> omega
  · rw [e11]
    by_cases z : b = 88
    · have := hi z
      rw [up_o2 this.2, e6, up_o2 this.1]
    · rw [up_o1 z, e6, up_o1 z]
theorem d_layLegs {K : Mem → Prop} (hT : oks T) (hM : MA σ T) (hK : ∀ σ', σ' 80 15 = (FN T : Int) → LgM σ' (FL T) (FN T) → (∀ b, b ≠ 80 → b ≠ 88 → σ' b = σ b) → (∀ i, i ≠ 15 → σ' 80 i = σ 80 i) → K σ') : CC m_X10_layLegs [vR 80] σ (PN K) := by
  have hfn := FN_bd hT
  have rows : ∀ (t : Nat), t < 10 → (∀ s, s 80 15 = ((lgT T (t + 1)).1 : Int) → LgM s (FL T) (lgT T (t + 1)).1 → (∀ b, b ≠ 80 → b ≠ 88 → s b = σ b) → (∀ i, i ≠ 15 → s 80 i = σ 80 i) → TT m_X10_layLegs 7 [vR 80, vI ((t : Int) + 1), vU, vU] [] s (PN K)) → ∀ (d r : Nat) (s : Mem), r + d = tn (T t) - 1 → s 80 15 = ((lgR (T t) (lgT T t) r).1 : Int) → LgM s (FL T) (lgR (T t) (lgT T t) r).1 → (∀ b, b ≠ 80 → b ≠ 88 → s b = σ b) → (∀ i, i ≠ 15 → s 80 i = σ 80 i) → TT m_X10_layLegs 15 [vR 80, vI (t : Int), vI ((r : Int) + 1), vU] [] s (PN K) := by
    intro t ht next d
    have hn := (hT t ht).1
    induction d with
    | zero =>
      intro r s hr h15 hL hf hi
      have hr : r = tn (T t) - 1 := by omega
      subst hr
      have h81 : s 81 t = (tn (T t) : Int) := by rw [hf 81 (by decide) (by decide)]; exact (hM t ht).1
      refine w_X10_layLegs_15 _ _ ?_
      rw [Int.toNat_natCast, h81]
      exact ⟨by omega, by omega, by omega, fun _ => next s h15 hL hf hi, fun z => absurd (by omega) z⟩
    | succ d ih =>
      intro r s hr h15 hL hf hi
      have hMs : MT s t (T t) := (hM t ht).same (hf 81 (by decide) (by decide)) (hf 82 (by decide) (by decide)) (hf 83 (by decide) (by decide)) (hf 84 (by decide) (by decide)) (hf 85 (by decide) (by decide))
      have le := lg_end (T := T) (t := t) (r := r) ht (by omega)
      have lec : (lgR (T t) (lgT T t) r).1 ≤ FN T := le.1
      refine w_X10_layLegs_15 _ _ ?_
      rw [Int.toNat_natCast, hMs.1]
      refine ⟨by omega, by omega, by omega, fun z => absurd z (by omega), fun _ => ?_⟩
      rw [show (r : Int) + 1 = ((r + 1 : Nat) : Int) by omega, show (24 * (t : Int) + ((r + 1 : Nat) : Int) - 1).toNat = 24 * t + r by omega, show (24 * (t : Int) + ((r + 1 : Nat) : Int)).toNat = 24 * t + (r + 1) by omega]
      refine d_isLeg ht hMs (hT t ht) rfl (by omega) (fun _ hg => ⟨by omega, by omega, ?_⟩) (fun hno => ?_)
      · have hg : tm (T t) (r + 1) - tm (T t) r ≤ 16 := hg
        have fa := FL_at ht (by omega) hg
        have el : (lgR (T t) (lgT T t) (r + 1)).1 = (lgR (T t) (lgT T t) r).1 + 1 := by simp only [lgR]; rw [if_pos hg]
        have ih := ih (r + 1)
        rw [el] at ih
        generalize (lgR (T t) (lgT T t) r).1 = c at h15 hL lec fa ih
        have v1 := hMs.2.2 r (by omega)
        have v2 := hMs.2.2 (r + 1) (by omega)
        have d1 := (hT t ht).2.2.1 r (by omega)
        have d2 := (hT t ht).2.2.1 (r + 1) (by omega)
        rw [v1.2.1, v2.2.1]
        refine d_span (c := c) (j := 0) h15 (by omega) (by decide) (by omega) (by omega) fun s16 p16 q16 f16 => ?_
        rw [f16 84 _ (fun e => absurd e (by decide)), f16 84 _ (fun e => absurd e (by decide)), v1.2.2, v2.2.2]
        refine d_span (c := c) (j := 2) (by rw [f16 80 _ (fun e => absurd e (by decide))]; exact h15) (by omega) (by decide) (by omega) (by omega) fun s18 p18 q18 f18 => ?_
        rw [f18 82 _ (fun e => absurd e (by decide)), f18 82 _ (fun e => absurd e (by decide)), f16 82 _ (fun e => absurd e (by decide)), f16 82 _ (fun e => absurd e (by decide)), v1.1, v2.1]
        refine d_span (c := c) (j := 4) (by rw [f18 80 _ (fun e => absurd e (by decide)), f16 80 _ (fun e => absurd e (by decide))]; exact h15) (by omega) (by decide) (by omega) (by omega) fun s20 p20 q20 f20 s21 e21 => ?_
        have o20 : ∀ b, b ≠ 88 → s20 b = s b := fun b hb => funext fun i => by rw [f20 b i (fun e => absurd e hb), f18 b i (fun e => absurd e hb), f16 b i (fun e => absurd e hb)]
        have h20 : s20 80 15 = (c : Int) := by rw [o20 80 (by decide)]; exact h15
        rw [h20] at e21
        refine ih s21 (by omega) (by rw [e21, up_at]; rfl) (fun l hl j hj => ?_) (fun b b1 b2 => by rw [e21, up_cell b1, o20 b b2]; exact hf b b1 b2) (fun i hi2 => by rw [e21, up_o2 hi2, o20 80 (by decide)]; exact hi i hi2)
        rw [e21, up_o1 (by decide)]
        by_cases z : l = c
        · subst z
          rw [fa.1]
          have : j = 0 ∨ j = 1 ∨ j = 2 ∨ j = 3 ∨ j = 4 ∨ j = 5 := by omega
          rcases this with e | e | e | e | e | e <;> subst e
          · rw [f20 88 _ (fun _ => by omega), f18 88 _ (fun _ => by omega)]; exact p16
          · rw [f20 88 _ (fun _ => by omega), f18 88 _ (fun _ => by omega)]; exact q16
          · rw [f20 88 _ (fun _ => by omega)]; exact p18
          · rw [f20 88 _ (fun _ => by omega)]; exact q18
          · exact p20
          · exact q20
        · rw [f20 88 _ (fun _ => by omega), f18 88 _ (fun _ => by omega), f16 88 _ (fun _ => by omega)]
          exact hL l (by omega) j hj
      · have hg : ¬ tm (T t) (r + 1) - tm (T t) r ≤ 16 := fun z => hno ⟨by omega, z⟩
        have el : lgR (T t) (lgT T t) (r + 1) = lgR (T t) (lgT T t) r := by simp only [lgR]; rw [if_neg hg]
        exact ih (r + 1) s (by omega) (by rw [el]; exact h15) (by rw [el]; exact hL) hf hi
  have things : ∀ (d t : Nat) (s : Mem), t + d = 10 → s 80 15 = ((lgT T t).1 : Int) → LgM s (FL T) (lgT T t).1 → (∀ b, b ≠ 80 → b ≠ 88 → s b = σ b) → (∀ i, i ≠ 15 → s 80 i = σ 80 i) → TT m_X10_layLegs 7 [vR 80, vI (t : Int), vU, vU] [] s (PN K) := by
    intro d
    induction d with
    | zero =>
      intro t s ht h15 hL hf hi
      have ht : t = 10 := by omega
      subst ht
      exact w_X10_layLegs_7 _ ⟨by decide, fun _ => hK s h15 hL hf hi, fun z => absurd (by decide) z⟩
    | succ d ih =>
      intro t s ht h15 hL hf hi
      refine w_X10_layLegs_7 _ ⟨by omega, fun z => absurd z (by omega), fun _ => ?_⟩
      exact rows t (by omega) (fun s2 a b c e => ih (t + 1) s2 (by omega) a b c e) (tn (T t) - 1) 0 s (by omega) h15 hL hf hi
  refine e_X10_layLegs fun s1 e1 => ?_
  exact things 10 0 s1 rfl (by rw [e1, up_at]; rfl) (fun l hl => absurd hl (Nat.not_lt_zero l)) (fun b b1 _ => by rw [e1, up_cell b1]) (fun i hi => by rw [e1, up_o2 hi])
theorem d_addLeg {K : Mem → Prop} {L : Nat → Bx} {G : PG} {n k : Nat} (h : WF L G n (gm G)) (hk : k ≤ 230) (hn : n < k) (hLb : ∀ l, l < k → bok (L l)) (hG : PgM σ G) (hL : LgM σ L k) (hK : ∀ σ', PgM σ' (addG L G n) → (∀ b, (b ≠ 80 ∧ b ≠ 89 ∧ b ≠ 90 ∧ b ≠ 91 ∧ b ≠ 92 ∧ b ≠ 93 ∧ b ≠ 94 ∧ b ≠ 95 ∧ b ≠ 96) → σ' b = σ b) → (∀ i, i ≠ 17 → σ' 80 i = σ 80 i) → K σ') : CC m_X10_addLeg [vR 80, vI (n : Int)] σ (PN K) := by
  have hm := WF_bd h (by omega)
  have tw := tkL_wf h (by omega) (hLb n hn)
  refine e_X10_addLeg _ ?_
  have := d_down (σ := σ) (K := K) (l := n) (k := k) (R := dsc (gf G) (L n) 230 0 (gb G)) h (Nat.le_refl _) hm hk hn (hLb n hn) (fun σ' hG' hf' hr hrf => ?_) 230 0 (gb G) σ (JD_start h) (by have := h.1.1.1; omega) (by omega) rfl hG hL fun _ _ _ => rfl
  · exact this
  · have hG' : PgM σ' (tkL L G n).2 := hG'
    have h93 : σ' 93 (tkL L G n).1 = (gc (tkL L G n).2 (tkL L G n).1 : Int) := by rw [(hG'.2 _ tw.2.1).1.1.2, if_pos tw.2.2.1]
    have c5 := tw.1.1.c5 _ tw.2.1
    show R32 (σ' 93 (tkL L G n).1) ∧ ((¬ σ' 93 (tkL L G n).1 = 5 → K σ') ∧ (σ' 93 (tkL L G n).1 = 5 → CC m_X10_cut [vR 80, vI ((tkL L G n).1 : Int)] σ' (PN fun s9 => K s9)))
    rw [h93]
    refine ⟨by omega, fun z => ?_, fun z => ?_⟩
    · refine hK σ' ?_ (fun b hb => hf' b hb.2.1 hb.2.2.1 hb.2.2.2.2.2.1 hb.2.2.2.2.2.2.1) (fun i _ => by rw [hf' 80 (by decide) (by decide) (by decide) (by decide)])
      unfold addG
      rw [if_neg (by omega)]
      exact hG'
    · refine d_cut tw.1 (by omega) (fun l hl => hLb l (by omega)) tw.2.1 tw.2.2.1 (by omega) hG' (fun l hl => (hL.same (hf' 88 (by decide) (by decide) (by decide) (by decide))) l (by omega)) fun s9 hG9 hf9 h9 => ?_
      refine hK s9 ?_ (fun b hb => by rw [hf9 b hb, hf' b hb.2.1 hb.2.2.1 hb.2.2.2.2.2.1 hb.2.2.2.2.2.2.1]) (fun i hi => by rw [h9 i hi, hf' 80 (by decide) (by decide) (by decide) (by decide)])
      unfold addG
      rw [if_pos (by omega)]
      exact hG9
theorem d_layPages {K : Mem → Prop} (hT : oks T) (hM : MA σ T) (hK : ∀ σ', TrM σ' T → mt σ σ' → K σ') : CC m_X10_layPages [vR 80] σ (PN K) := by
  have hfn := FN_bd hT
  have hfl := FL_ok hT
  refine e_X10_layPages (d_layLegs hT hM fun s2 h15 hL hf hi s3 e3 => ?_)
  refine d_newPage (m := 0) (by rw [e3, up_at]; rfl) (by decide) fun s6 e6 => ?_
  have o6 : ∀ b, b ≠ 80 → b ≠ 90 → b ≠ 91 → b ≠ 92 → b ≠ 93 → s6 b = s2 b := fun b b0 b1 b2 b3 b4 => by rw [e6, up_cell b0, up_cell b4, up_cell b3, up_cell b2, up_cell b1, e3, up_cell b0]
  have i6 : ∀ i, i ≠ 17 → s6 80 i = s2 80 i := fun i hi => by rw [e6, up_o2 hi, up_o1 (by decide), up_o1 (by decide), up_o1 (by decide), up_o1 (by decide), e3, up_o2 hi]
  have p6 : PgM s6 (bld (FL T) 0) := by
    refine ⟨by rw [e6, up_at]; rfl, fun p hp => ?_⟩
    have hp : p < 1 := hp
    have hp : p = 0 := by omega
    subst hp
    refine ⟨⟨⟨?_, ?_⟩, ?_, ?_⟩, fun _ i hi => absurd hi (Nat.not_lt_zero i), fun h0 => absurd h0 (Nat.lt_irrefl 0)⟩
    · rw [e6, up_o1 (by decide), up_o1 (by decide), up_o1 (by decide), up_at]; rfl
    · rw [e6, up_o1 (by decide), up_at]; rfl
    · rw [e6, up_o1 (by decide), up_o1 (by decide), up_o1 (by decide), up_o1 (by decide), up_at]; rfl
    · rw [e6, up_o1 (by decide), up_o1 (by decide), up_at]; rfl
  have loop : ∀ (d c : Nat) (s : Mem), c + d = FN T → PgM s (bld (FL T) c) → (∀ b, (b ≠ 80 ∧ b ≠ 89 ∧ b ≠ 90 ∧ b ≠ 91 ∧ b ≠ 92 ∧ b ≠ 93 ∧ b ≠ 94 ∧ b ≠ 95 ∧ b ≠ 96) → s b = s6 b) → (∀ i, i ≠ 17 → s 80 i = s6 80 i) → TT m_X10_layPages 17 [vR 80, vU, vI (c : Int)] [] s (PN K) := by
    intro d
    induction d with
    | zero =>
      intro c s hc hP hfs his
      have hc : c = FN T := by omega
      subst hc
      have h15s : s 80 15 = (FN T : Int) := by rw [his 15 (by decide), i6 15 (by decide)]; exact h15
      refine w_X10_layPages_17 _ ?_
      rw [h15s]
      refine ⟨by omega, by omega, fun _ => hK s ⟨h15s, ?_, hP⟩ ⟨fun b hb => ?_, fun i i1 i2 => ?_⟩, fun z => absurd (Int.le_refl _) z⟩
      · exact (hL.same (o6 88 (by decide) (by decide) (by decide) (by decide) (by decide))).same (hfs 88 (by decide))
      · rw [hfs b (by omega), o6 b (by omega) (by omega) (by omega) (by omega) (by omega), hf b (by omega) (by omega)]
      · rw [his i i2, i6 i i2, hi i i1]
    | succ d ih =>
      intro c s hc hP hfs his
      have h15s : s 80 15 = (FN T : Int) := by rw [his 15 (by decide), i6 15 (by decide)]; exact h15
      refine w_X10_layPages_17 _ ?_
      rw [h15s]
      refine ⟨by omega, by omega, fun z => absurd z (by omega), fun _ => ?_⟩
      refine d_addLeg (k := FN T) (bld_wf hfl hfn c (by omega)) hfn (by omega) hfl hP ((hL.same (o6 88 (by decide) (by decide) (by decide) (by decide) (by decide))).same (hfs 88 (by decide))) fun s11 hP11 hf11 hi11 => ?_
      exact ih (c + 1) s11 (by omega) hP11 (fun b hb => by rw [hf11 b hb, hfs b hb]) (fun i hi => by rw [hi11 i hi, his i hi])
  exact loop (FN T) 0 s6 (by omega) p6 (fun _ _ => rfl) (fun _ _ => rfl)
end LAYM
