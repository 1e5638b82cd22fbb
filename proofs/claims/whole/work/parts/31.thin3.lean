def tpC (σ : Mem) (R : Nat × (Nat → Int)) : Prop := σ 29 2 = (R.1 : Int) ∧ ∀ j, j < R.1 → σ 30 j = R.2 j
def f9 (σ σ' : Mem) : Prop := ∀ c, c ≠ 29 → c ≠ 30 → c ≠ 31 → σ' c = σ c
theorem f9.cq {σ σ' : Mem} (h : f9 σ σ') : cq σ σ' := fun b hb => h b (fun e => hb (by subst e; unfold cs; omega)) (fun e => hb (by subst e; unfold cs; omega)) (fun e => hb (by subst e; unfold cs; omega))
section PLAN
variable {σ : Mem} {V : TV} {e : Int}
theorem c_keep {K : Mem → Prop} {c : Nat → Nat → Bool} {r : Nat} (hr : r < 24) (hs : tpC σ (KS c r)) (hc : r = 0 ∨ c ((KS c r).2 ((KS c r).1 - 1)).toNat r = true) (hK : ∀ σ', tpC σ' (KS c (r + 1)) → (∀ c, c ≠ 29 → c ≠ 30 → σ' c = σ c) → K σ') : CC m_X7_keep [vR 29, vI (r : Int)] σ (PN K) := by
  have g := (KS_spec c r).1
  refine e_X7_keep _ ?_
  rw [hs.1]
  refine ⟨by omega, fun s2 e2 s4 e4 => ?_⟩
  have a1 : s2 29 2 = ((KS c r).1 : Int) := by rw [e2, up_o1 (by decide)]; exact hs.1
  rw [a1] at e4
  rw [Int.toNat_natCast] at e2
  refine hK s4 ?_ fun c c1 c2 => by rw [e4, up_cell c1, e2, up_cell c2]
  rw [KS_y hc]
  refine ⟨by rw [e4, up_at]; rfl, fun j hj => ?_⟩
  have hj : j < (KS c r).1 + 1 := hj
  show s4 30 j = sv _ _ _ j
  rw [e4, up_o1 (by decide), e2]
  by_cases w : j = (KS c r).1
  · subst w; rw [up_at, sv_at]
  · rw [up_o2 w, sv_ne w]; exact hs.2 j (by omega)
theorem c_plan {K : Mem → Prop} {a : Nat} (ha : isT a) (hC : CT σ a V) (hV : tok V) (he : 0 ≤ e ∧ e < 100) (hK : ∀ σ' F, isFW V e F 0 → tpC σ' (KS (cnd V e F) (tn V)) → f9 σ σ' → K σ') : CC m_X7_plan [vR 29, vR a, vI e] σ (PN K) := by
  have hn := hV.1
  have hat : ∀ b, 29 ≤ b → b ≤ 31 → a ≠ b ∧ a + 1 ≠ b ∧ a + 2 ≠ b ∧ a + 3 ≠ b := by obtain ⟨k, hk, rfl⟩ := ha; intro b; omega
  have hat29 := hat 29 (by decide) (by decide)
  have hat30 := hat 30 (by decide) (by decide)
  have hat31 := hat 31 (by decide) (by decide)
  have loop : ∀ F, isFW V e F 0 → ∀ (d r : Nat) (s : Mem), r + d = tn V → 1 ≤ r → s 31 = F → tpC s (KS (cnd V e F) r) → f9 σ s → TT m_X7_plan 26 [vR 29, vR a, vI e, vI (r : Int), vU] [] s (PN K) := by
    intro F hF d
    induction d with
    | zero =>
      intro r s hr h1 h31 hs hf
      have hr : r = tn V := by omega
      subst hr
      have hCs : CT s a V := hC.same (hf _ hat29.1 hat30.1 hat31.1) (hf _ hat29.2.1 hat30.2.1 hat31.2.1) (hf _ hat29.2.2.1 hat30.2.2.1 hat31.2.2.1) (hf _ hat29.2.2.2 hat30.2.2.2 hat31.2.2.2)
      refine w_X7_plan_26 a ha _ _ ?_
      rw [hCs.1]
      exact ⟨by omega, by omega, fun _ => hK s F hF hs hf, fun z => absurd (Int.le_refl _) z⟩
    | succ d ih =>
      intro r s hr h1 h31 hs hf
      have hCs : CT s a V := hC.same (hf _ hat29.1 hat30.1 hat31.1) (hf _ hat29.2.1 hat30.2.1 hat31.2.1) (hf _ hat29.2.2.1 hat30.2.2.1 hat31.2.2.1) (hf _ hat29.2.2.2 hat30.2.2.2 hat31.2.2.2)
      obtain ⟨g1, g2, g3, g4⟩ := KS_spec (cnd V e F) r
      have g2 := g2 (by omega)
      have g3 := g3 ((KS (cnd V e F) r).1 - 1) (by omega)
      have er : (r : Int) + 1 = ((r + 1 : Nat) : Int) := by omega
      have ek : (((KS (cnd V e F) r).1 : Int) - 1).toNat = (KS (cnd V e F) r).1 - 1 := by omega
      have fr := (hF r (by omega) (by omega)).1
      generalize hl : ((KS (cnd V e F) r).2 ((KS (cnd V e F) r).1 - 1)).toNat = l at *
      have fl := (hF l (by omega) (by omega)).1
      have hl2 : (KS (cnd V e F) r).2 ((KS (cnd V e F) r).1 - 1) = (l : Int) := by omega
      refine w_X7_plan_26 a ha _ _ ?_
      rw [hCs.1, hs.1, ek, hs.2 _ (by omega), hl2, er, h31]
      simp only [Int.toNat_natCast]
      have no : ∀ s2, s2 = s → ¬ (F r + 1 = F l ∧ may V e l r) → TT m_X7_plan 26 [vR 29, vR a, vI e, vI ((r + 1 : Nat) : Int), vU] [] s2 (PN K) := by
        intro s2 e2 z
        subst e2
        exact ih (r + 1) s2 (by omega) (by omega) h31 (by rw [KS_n (by omega) (by rw [hl]; exact cnd_f z)]; exact hs) hf
      refine ⟨by omega, by omega, fun z => absurd z (by omega), fun _ => ⟨by omega, by omega, by omega, by omega, by omega, fun z => no s rfl fun w => by omega, fun z => ?_⟩⟩
      refine c_may ha hCs hV he (by omega) (by omega) (fun m => ?_) (fun m => no s rfl fun w => m w.2)
      refine c_keep (c := cnd V e F) (by omega) hs (Or.inr (by rw [hl]; exact cnd_t (by omega) m)) fun s23 t23 f23 => ?_
      exact ih (r + 1) s23 (by omega) (by omega) (by rw [f23 31 (by decide) (by decide)]; exact h31) t23 fun c c1 c2 c3 => by rw [f23 c c1 c2, hf c c1 c2 c3]
  refine e_X7_plan a ha _ fun s1 e1 => ?_
  have hf1 : ∀ c, c ≠ 29 → s1 c = σ c := fun c hc => by rw [e1, up_cell hc]
  have hC1 : CT s1 a V := hC.same (hf1 _ hat29.1) (hf1 _ hat29.2.1) (hf1 _ hat29.2.2.1) (hf1 _ hat29.2.2.2)
  rw [hC1.1]
  have h0 : s1 29 2 = 0 := by rw [e1, up_at]
  refine ⟨by omega, fun z => ?_, fun z => ?_⟩
  · refine c_back ha hC1 hV he (by omega) fun s6 hF hf6 => ?_
    refine c_keep (c := cnd V e (s6 31)) (r := 0) (by decide) ⟨by rw [hf6 29 (by decide)]; exact h0, fun j h => absurd h (Nat.not_lt_zero j)⟩ (Or.inl rfl) fun s8 t8 f8 => ?_
    exact loop (s6 31) hF (tn V - 1) 1 s8 (by omega) (by omega) (f8 31 (by decide) (by decide)) t8 fun c c1 c2 c3 => by rw [f8 c c1 c2, hf6 c c3, hf1 c c1]
  · have z0 : tn V = 0 := by omega
    refine hK s1 (fun _ => 0) (fun r _ h => absurd h (by omega)) ?_ fun c c1 _ _ => hf1 c c1
    rw [z0]
    exact ⟨h0, fun j h => absurd h (Nat.not_lt_zero j)⟩
def f89 (σ σ' : Mem) : Prop := ∀ c, c ≠ 98 → c ≠ 99 → σ' c = σ c
theorem f89.mq {σ σ' : Mem} (h : f89 σ σ') : mq σ σ' := ⟨fun b hb => h b (by omega) (by omega), by rw [h 80 (by decide) (by decide)], by rw [h 80 (by decide) (by decide)], by rw [h 80 (by decide) (by decide)]⟩
theorem MT.f89 {σ σ' : Mem} {t : Nat} {V : TV} (h : MT σ t V) (hf : f89 σ σ') : MT σ' t V := h.mq hf.mq
theorem d_lay {K : Int → Mem → Prop} {t : Nat} (ht : t < 10) (hM : MT σ t V) (hV : tok V) (he : 0 ≤ e ∧ e < 100) (hK : ∀ σ' F, isFW V e F 0 → (∀ j, j < (KS (cnd V e F) (tn V)).1 → σ' 99 j = (KS (cnd V e F) (tn V)).2 j) → f89 σ σ' → K ((KS (cnd V e F) (tn V)).1 : Int) σ') : CC m_X10_layThin [vR 80, vI (t : Int), vI e] σ (PI K) := by
  have hn := hV.1
  have scan : ∀ F, isFW V e F 0 → ∀ d : Nat, (∀ (r : Nat) (s : Mem), r ≤ tn V → 2 * (tn V - r) < d → (r = 0 ∨ r = tn V ∨ cnd V e F ((KS (cnd V e F) r).2 ((KS (cnd V e F) r).1 - 1)).toNat r = true) → (∀ i, i < tn V → s 98 i = F i) → (∀ j, j < (KS (cnd V e F) r).1 → s 99 j = (KS (cnd V e F) r).2 j) → f89 σ s → TT m_X10_layThin 124 [vR 80, vI (t : Int), vI e, vI ((KS (cnd V e F) r).1 : Int), vI (r : Int), vU] [] s (PI K)) ∧ (∀ (j l : Nat) (s : Mem), j ≤ tn V → 0 < j → 2 * (tn V - j) + 1 < d → (KS (cnd V e F) j).2 ((KS (cnd V e F) j).1 - 1) = (l : Int) → (∀ i, i < tn V → s 98 i = F i) → (∀ i, i < (KS (cnd V e F) j).1 → s 99 i = (KS (cnd V e F) j).2 i) → f89 σ s → TT m_X10_layThin 152 [vR 80, vI (t : Int), vI e, vI ((KS (cnd V e F) j).1 : Int), vI (l : Int), vI (j : Int)] [] s (PI K)) := by
    intro F hF d
    induction d with
    | zero => exact ⟨fun r s _ h => absurd h (by omega), fun j l s _ _ h => absurd h (by omega)⟩
    | succ d ih =>
      refine ⟨fun r s hr hd hc h98 h99 hf => ?_, fun j l s hj hj0 hd hl h98 h99 hf => ?_⟩
      · have hMs := hM.f89 hf
        have g := (KS_spec (cnd V e F) r).1
        refine w_X10_layThin_124 _ _ _ _ ?_
        simp only [Int.toNat_natCast]
        rw [hMs.1]
        refine ⟨by omega, by omega, by omega, fun z => ?_, fun z => ⟨by omega, fun s16 e16 => ?_⟩⟩
        · have hr : r = tn V := by omega
          subst hr
          exact hK s F hF h99 hf
        · have hk := KS_y (c := cnd V e F) (r := r) (by
            rcases hc with w | w | w
            · exact Or.inl w
            · omega
            · exact Or.inr w)
          have e1 : ((KS (cnd V e F) r).1 : Int) + 1 = ((KS (cnd V e F) (r + 1)).1 : Int) := by rw [hk]; rfl
          rw [e1]
          refine ih.2 (r + 1) r s16 (by omega) (by omega) (by omega) ?_ (fun i hi => ?_) (fun i hi => ?_) fun c c1 c2 => by rw [e16, up_cell c2, hf c c1 c2]
          · rw [hk]
            show sv _ _ _ ((KS (cnd V e F) r).1 + 1 - 1) = _
            rw [Nat.add_sub_cancel, sv_at]
          · rw [e16, up_o1 (by decide)]; exact h98 i hi
          · rw [hk] at hi ⊢
            have hi : i < (KS (cnd V e F) r).1 + 1 := hi
            show s16 99 i = sv _ _ _ i
            rw [e16]
            by_cases w : i = (KS (cnd V e F) r).1
            · subst w; rw [up_at, sv_at]
            · rw [up_o2 w, sv_ne w]; exact h99 i (by omega)
      · have hMs := hM.f89 hf
        obtain ⟨g1, g2, g3, g4⟩ := KS_spec (cnd V e F) j
        have g3 := g3 ((KS (cnd V e F) j).1 - 1) (by have := g2 hj0; omega)
        rw [hl] at g3
        refine w_X10_layThin_152 _ _ _ _ _ ?_
        simp only [Int.toNat_natCast]
        rw [hMs.1]
        refine ⟨by omega, by omega, by omega, fun z => ?_, fun z => ?_⟩
        · exact ih.1 j s hj (by omega) (by omega) h98 h99 hf
        · have fj := (hF j (by omega) (by omega)).1
          have fl := (hF l (by omega) (by omega)).1
          have no : ¬ (F j + 1 = F l ∧ may V e l j) → TT m_X10_layThin 152 [vR 80, vI (t : Int), vI e, vI ((KS (cnd V e F) j).1 : Int), vI (l : Int), vI ((j : Int) + 1)] [] s (PI K) := by
            intro z2
            have hk := KS_n (c := cnd V e F) (r := j) (by omega) (by rw [hl, Int.toNat_natCast]; exact cnd_f z2)
            have := ih.2 (j + 1) l s (by omega) (by omega) (by omega) (by rw [hk]; exact hl) h98 (by rw [hk]; exact h99) hf
            rw [hk] at this
            exact this
          refine d_may ht hMs hV he (by omega) (by omega) (fun m => ?_) (fun m => no fun w => m w.2)
          rw [h98 j (by omega), h98 l (by omega)]
          refine ⟨by omega, by omega, by omega, by omega, fun z2 => ?_, fun z2 => no fun w => z2 w.1⟩
          exact ih.1 j s hj (by omega) (Or.inr (Or.inr (by rw [hl, Int.toNat_natCast]; exact cnd_t z2 m))) h98 h99 hf
  have inner : ∀ (r : Nat), r < tn V → (∀ s, isFW V e (s 98) r → f89 σ s → TT m_X10_layThin 9 [vR 80, vI (t : Int), vI e, vI ((r : Int) - 1), vU, vU] [] s (PI K)) → ∀ (d j : Nat) (s : Mem), j + d = tn V → r + 1 ≤ j → isFW V e (s 98) (r + 1) → f89 σ s → (r + 1 = tn V → s 98 r = 1) → (r + 1 < tn V → (s 98 r = 100000000 ∧ j = r + 1) ∨ ((∃ q, r < q ∧ q < j ∧ may V e r q ∧ s 98 r = s 98 q + 1) ∧ ∀ q, r < q → q < j → may V e r q → s 98 r ≤ s 98 q + 1)) → TT m_X10_layThin 42 [vR 80, vI (t : Int), vI e, vI (r : Int), vI (j : Int), vU] [] s (PI K) := by
    intro r hr next d
    induction d with
    | zero =>
      intro j s hj hrj hF hf h1 h2
      have hj : j = tn V := by omega
      subst hj
      have hMs := hM.f89 hf
      refine w_X10_layThin_42 _ _ _ _ ?_
      simp only [Int.toNat_natCast]
      rw [hMs.1]
      refine ⟨by omega, by omega, by omega, fun _ => ?_, fun z => absurd (Int.le_refl _) z⟩
      refine next s (fun r' l1 l2 => ?_) hf
      by_cases w : r' = r
      · subst w
        by_cases w2 : r' + 1 = tn V
        · rw [h1 w2]
          exact ⟨by omega, fun _ => rfl, fun z => absurd z (by omega)⟩
        · rcases h2 (by omega) with z | ⟨⟨q, q1, q2, q3, q4⟩, z⟩
          · omega
          · have g := (hF q (by omega) q2).1
            exact ⟨by omega, fun z => absurd z w2, fun _ => ⟨⟨q, q1, q2, q3, q4⟩, z⟩⟩
      · exact hF r' (by omega) l2
    | succ d ih =>
      intro j s hj hrj hF hf h1 h2
      have hMs := hM.f89 hf
      have h2 := h2 (by omega)
      have fj := (hF j (by omega) (by omega)).1
      have br : 2 ≤ s 98 r ∧ s 98 r ≤ 100000000 := by
        rcases h2 with z | ⟨⟨q, q1, q2, q3, q4⟩, z⟩
        · omega
        · have g := (hF q (by omega) (by omega)).1
          omega
      have step : ∀ (s2 : Mem) (x : Int), s2 = up s 98 r x → ((∃ q, r < q ∧ q < j + 1 ∧ may V e r q ∧ x = s 98 q + 1) ∧ ∀ q, r < q → q < j + 1 → may V e r q → x ≤ s 98 q + 1) → TT m_X10_layThin 42 [vR 80, vI (t : Int), vI e, vI (r : Int), vI ((j : Int) + 1), vU] [] s2 (PI K) := by
        intro s2 x e2 hx
        have er : s2 98 r = x := by rw [e2, up_at]
        have oth : ∀ q, r < q → s2 98 q = s 98 q := fun q hq => by rw [e2, up_o2 (by omega)]
        refine ih (j + 1) s2 (by omega) (by omega) (isFW_cong hF fun i i1 i2 => oth i (by omega)) (fun c c1 c2 => by rw [e2, up_cell c1, hf c c1 c2]) (fun z => absurd z (by omega)) (fun _ => Or.inr ?_)
        rw [er]
        obtain ⟨⟨q, q1, q2, q3, q4⟩, z⟩ := hx
        exact ⟨⟨q, q1, q2, q3, by rw [oth q q1]; exact q4⟩, fun q' a b c => by rw [oth q' a]; exact z q' a b c⟩
      refine w_X10_layThin_42 _ _ _ _ ?_
      simp only [Int.toNat_natCast]
      rw [hMs.1]
      refine ⟨by omega, by omega, by omega, fun z => absurd z (by omega), fun _ => ?_⟩
      refine d_may ht hMs hV he (by omega) (by omega) (fun m => ⟨by omega, by omega, by omega, by omega, fun s32 e32 => step s32 _ e32 ?_⟩) (fun m => ⟨by omega, fun s36 e36 => step s36 _ e36 ?_⟩)
      · by_cases w : s 98 r ≤ s 98 j + 1
        · rw [if_pos w]
          rcases h2 with z | ⟨⟨q, q1, q2, q3, q4⟩, z⟩
          · omega
          · refine ⟨⟨q, q1, by omega, q3, q4⟩, fun q' a b c => ?_⟩
            rcases Nat.lt_or_ge q' j with u | u
            · exact z q' a u c
            · rw [show q' = j by omega]; exact w
        · rw [if_neg w]
          refine ⟨⟨j, by omega, by omega, m, rfl⟩, fun q' a b c => ?_⟩
          rcases Nat.lt_or_ge q' j with u | u
          · rcases h2 with z | ⟨-, z⟩
            · omega
            · have := z q' a u c; omega
          · rw [show q' = j by omega]; exact Int.le_refl _
      · rcases h2 with z | ⟨⟨q, q1, q2, q3, q4⟩, z⟩
        · exact absurd (Or.inl (by omega)) m
        · refine ⟨⟨q, q1, by omega, q3, q4⟩, fun q' a b c => ?_⟩
          rcases Nat.lt_or_ge q' j with u | u
          · exact z q' a u c
          · exact absurd (by rw [show j = q' by omega]; exact c) m
  have outer : ∀ (r : Nat), r ≤ tn V → ∀ s, isFW V e (s 98) r → f89 σ s → TT m_X10_layThin 9 [vR 80, vI (t : Int), vI e, vI ((r : Int) - 1), vU, vU] [] s (PI K) := by
    intro r
    induction r with
    | zero =>
      intro h s hF hf
      refine w_X10_layThin_9 _ _ _ ⟨by decide, fun _ => ?_, fun z => absurd (by decide) z⟩
      exact (scan (s 98) hF (2 * tn V + 1)).1 0 s (by omega) (by omega) (Or.inl rfl) (fun i _ => rfl) (fun j h => absurd h (Nat.not_lt_zero j)) hf
    | succ r ih =>
      intro h s hF hf
      have hMs := hM.f89 hf
      have e0 : ((r + 1 : Nat) : Int) - 1 = (r : Int) := by omega
      rw [e0]
      refine w_X10_layThin_9 _ _ _ ?_
      have h81 := hMs.1
      simp only [Int.toNat_natCast]
      refine ⟨by omega, fun z => absurd z (by omega), fun _ => ⟨by omega, by omega, by omega, fun s9 e9 => ?_⟩⟩
      refine inner r (by omega) (ih (by omega)) (tn V - (r + 1)) (r + 1) s9 (by omega) (by omega) (isFW_cong hF fun i i1 i2 => by rw [e9, up_o2 (by omega)]) (fun c c1 c2 => by rw [e9, up_cell c1, hf c c1 c2]) (fun z => ?_) (fun z => Or.inl ⟨?_, rfl⟩)
      · rw [e9, up_at, if_neg (not_not_intro (by omega))]
      · rw [e9, up_at, if_pos (by omega)]
  refine e_X10_layThin _ _ ?_
  rw [Int.toNat_natCast, hM.1]
  exact ⟨by omega, outer (tn V) (Nat.le_refl _) σ (fun r h1 h2 => absurd h1 (by omega)) fun _ _ _ => rfl⟩
end PLAN
