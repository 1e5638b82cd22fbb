/-! runs of minutes -/
abbrev RT3 : Type := Nat × (Nat → Int) × (Nat → Int)
def sv (f : Nat → Int) (k : Nat) (v : Int) : Nat → Int := fun j => if j = k then v else f j
theorem sv_at {f : Nat → Int} {k : Nat} {v : Int} : sv f k v k = v := by simp [sv]
theorem sv_ne {f : Nat → Int} {k j : Nat} {v : Int} (h : j ≠ k) : sv f k v j = f j := by simp [sv, h]
def RU (f : Nat → Bool) : Nat → RT3
  | 0 => (0, fun _ => 0, fun _ => 0)
  | t + 1 => if f t = true then (if 0 < t ∧ f (t - 1) = true then ((RU f t).1, (RU f t).2.1, sv (RU f t).2.2 ((RU f t).1 - 1) t) else ((RU f t).1 + 1, sv (RU f t).2.1 (RU f t).1 t, sv (RU f t).2.2 (RU f t).1 t)) else RU f t
theorem RU_no {f : Nat → Bool} {t : Nat} (h : f t = false) : RU f (t + 1) = RU f t := by
  rw [RU, if_neg (by rw [h]; decide)]
theorem RU_on {f : Nat → Bool} {t : Nat} (h : f t = true) (h2 : 0 < t ∧ f (t - 1) = true) : RU f (t + 1) = ((RU f t).1, (RU f t).2.1, sv (RU f t).2.2 ((RU f t).1 - 1) t) := by
  rw [RU, if_pos h, if_pos h2]
theorem RU_new {f : Nat → Bool} {t : Nat} (h : f t = true) (h2 : ¬ (0 < t ∧ f (t - 1) = true)) : RU f (t + 1) = ((RU f t).1 + 1, sv (RU f t).2.1 (RU f t).1 t, sv (RU f t).2.2 (RU f t).1 t) := by
  rw [RU, if_pos h, if_neg h2]
/-- the last run ends at the last yes; runs are apart -/
theorem RU_spec (f : Nat → Bool) : ∀ t : Nat, (0 < t ∧ f (t - 1) = true → 0 < (RU f t).1 ∧ (RU f t).2.2 ((RU f t).1 - 1) = (t : Int) - 1) ∧ (¬ (0 < t ∧ f (t - 1) = true) → (0 < (RU f t).1 → (RU f t).2.2 ((RU f t).1 - 1) < (t : Int) - 1) ∧ 2 * (RU f t).1 ≤ t) ∧ 2 * (RU f t).1 ≤ t + 1 ∧ ∀ j, j < (RU f t).1 → (0 ≤ (RU f t).2.1 j ∧ (RU f t).2.1 j ≤ (RU f t).2.2 j) ∧ (RU f t).2.2 j < (t : Int)
  | 0 => ⟨fun h => absurd h.1 (by omega), fun _ => ⟨fun h => absurd h (by simp [RU]), by simp [RU]⟩, by simp [RU], fun j h => absurd h (by simp [RU])⟩
  | t + 1 => by
    obtain ⟨h1, h2, h3, h4⟩ := RU_spec f t
    have e : t + 1 - 1 = t := by omega
    rw [e]
    cases hf : f t with
    | false =>
      rw [RU_no hf]
      refine ⟨fun h => by simp at h, fun _ => ⟨fun h => ?_, by omega⟩, by omega, fun j hj => ⟨(h4 j hj).1, by have := (h4 j hj).2; omega⟩⟩
      by_cases c : 0 < t ∧ f (t - 1) = true
      · have := h1 c; omega
      · have := (h2 c).1 h; omega
    | true =>
      by_cases c : 0 < t ∧ f (t - 1) = true
      · rw [RU_on hf c]
        have g1 := h1 c
        refine ⟨fun _ => ⟨g1.1, by show sv _ _ _ ((RU f t).1 - 1) = _; rw [sv_at]; omega⟩, fun h => absurd ⟨by omega, rfl⟩ h, by show 2 * (RU f t).1 ≤ _; omega, fun j hj => ?_⟩
        have hj : j < (RU f t).1 := hj
        have g4 := h4 j hj
        show (0 ≤ (RU f t).2.1 j ∧ (RU f t).2.1 j ≤ sv (RU f t).2.2 ((RU f t).1 - 1) t j) ∧ sv (RU f t).2.2 ((RU f t).1 - 1) t j < _
        by_cases z : j = (RU f t).1 - 1
        · rw [z, sv_at, ← z]; omega
        · rw [sv_ne z]; omega
      · rw [RU_new hf c]
        have g2 := h2 c
        refine ⟨fun _ => ⟨by show 0 < (RU f t).1 + 1; omega, by show sv _ _ _ ((RU f t).1 + 1 - 1) = _; rw [show (RU f t).1 + 1 - 1 = (RU f t).1 by omega, sv_at]; omega⟩, fun h => absurd ⟨by omega, rfl⟩ h, by show 2 * ((RU f t).1 + 1) ≤ _; omega, fun j hj => ?_⟩
        have hj : j < (RU f t).1 + 1 := hj
        show (0 ≤ sv (RU f t).2.1 (RU f t).1 t j ∧ sv (RU f t).2.1 (RU f t).1 t j ≤ sv (RU f t).2.2 (RU f t).1 t j) ∧ sv (RU f t).2.2 (RU f t).1 t j < _
        by_cases z : j = (RU f t).1
        · rw [z, sv_at, sv_at]; omega
        · have g4 := h4 j (by omega)
          rw [sv_ne z, sv_ne z]; omega
def spC (σ : Mem) (R : RT3) : Prop := σ 6 2 = (R.1 : Int) ∧ ∀ j, j < R.1 → σ 7 j = R.2.1 j ∧ σ 8 j = R.2.2 j
def spM (σ : Mem) (R : RT3) : Prop := σ 80 9 = (R.1 : Int) ∧ ∀ j, j < R.1 → σ 86 j = R.2.1 j ∧ σ 87 j = R.2.2 j
def f678 (σ σ' : Mem) : Prop := ∀ c, c ≠ 6 → c ≠ 7 → c ≠ 8 → σ' c = σ c
theorem f678.cq {σ σ' : Mem} (h : f678 σ σ') : cq σ σ' := fun b hb => h b (fun e => hb (by subst e; unfold cs; omega)) (fun e => hb (by subst e; unfold cs; omega)) (fun e => hb (by subst e; unfold cs; omega))
section RUNS
variable {σ : Mem} {K : Mem → Prop} {f : Nat → Bool} {t : Nat}
theorem c_add (ht : t < 200) (hf : f t = true) (hs : spC σ (RU f t)) (h : ∀ σ', spC σ' (RU f (t + 1)) → f678 σ σ' → K σ') : CC m_X5_add [vR 6, vI (t : Int)] σ (PN K) := by
  obtain ⟨g1, g2, g3, g4⟩ := RU_spec f t
  have e0 : (((RU f t).1 : Int)).toNat = (RU f t).1 := by omega
  have fresh : ¬ (0 < t ∧ f (t - 1) = true) → TT m_X5_add 39 [vR 6, vI (t : Int)] [] σ (PN K) := by
    intro c
    have k2 := g2 c
    refine w_X5_add_39 _ ?_
    rw [hs.1, e0]
    refine ⟨by omega, fun q => absurd q (by omega), fun q => ⟨by omega, fun s12 e12 => ?_⟩⟩
    have a1 : s12 6 2 = ((RU f t).1 : Int) := by rw [e12, up_o1 (by decide)]; exact hs.1
    rw [a1, e0]
    refine ⟨by omega, fun s15 e15 s17 e17 => ?_⟩
    have a2 : s15 6 2 = ((RU f t).1 : Int) := by rw [e15, up_o1 (by decide)]; exact a1
    rw [a2] at e17
    refine h s17 ⟨?_, fun j hj => ?_⟩ fun c c6 c7 c8 => ?_
    · rw [RU_new hf c, e17, up_at]; rfl
    · rw [RU_new hf c] at hj ⊢
      have hj : j < (RU f t).1 + 1 := hj
      show s17 7 j = sv _ _ _ j ∧ s17 8 j = sv _ _ _ j
      rw [e17, up_o1 (by decide), up_o1 (by decide), e15, up_o1 (by decide), e12]
      by_cases z : j = (RU f t).1
      · subst z
        rw [up_at, up_at, sv_at, sv_at]
        exact ⟨rfl, rfl⟩
      · rw [up_o2 z, up_o2 z, up_o1 (by decide), sv_ne z, sv_ne z]
        exact hs.2 j (by omega)
    · rw [e17, up_cell c6, e15, up_cell c8, e12, up_cell c7]
  refine e_X5_add _ ?_
  rw [hs.1]
  refine ⟨by omega, fun q => fresh fun c => ?_, fun q => ?_⟩
  · have := (g1 c).1; omega
  · have e1 : (((RU f t).1 : Int) - 1).toNat = (RU f t).1 - 1 := by omega
    rw [e1, (hs.2 ((RU f t).1 - 1) (by omega)).2]
    have b4 := g4 ((RU f t).1 - 1) (by omega)
    refine ⟨by omega, by omega, by omega, fun z => fresh fun c => z ?_, fun z s7 e7 => ?_⟩
    · exact (g1 c).2
    · have c : 0 < t ∧ f (t - 1) = true := by
        by_cases c : 0 < t ∧ f (t - 1) = true
        · exact c
        · have := (g2 c).1 (by omega); omega
      refine h s7 ⟨?_, fun j hj => ?_⟩ fun c c6 c7 c8 => ?_
      · rw [RU_on hf c, e7, up_o1 (by decide)]; exact hs.1
      · rw [RU_on hf c] at hj ⊢
        have hj : j < (RU f t).1 := hj
        show s7 7 j = _ ∧ s7 8 j = sv _ _ _ j
        rw [e7, up_o1 (by decide)]
        by_cases z : j = (RU f t).1 - 1
        · subst z
          rw [up_at, sv_at]
          exact ⟨(hs.2 _ hj).1, rfl⟩
        · rw [up_o2 z, sv_ne z]
          exact hs.2 j hj
      · rw [e7, up_cell c8]
theorem c_clear (h : ∀ σ', spC σ' (RU f 0) → f678 σ σ' → K σ') : CC m_X5_clear [vR 6] σ (PN K) :=
  e_X5_clear fun s1 e1 => h s1 ⟨by rw [e1, up_at]; rfl, fun j hj => absurd hj (by simp [RU])⟩ fun c c6 _ _ => by rw [e1, up_cell c6]
/-- the reference's runs: where it stands in a run -/
def inR (σ : Mem) (f : Nat → Bool) (t : Nat) : Prop := (0 < t ∧ f (t - 1) = true → (0 ≤ σ 80 10 ∧ σ 80 10 < 200)) ∧ (¬ (0 < t ∧ f (t - 1) = true) → σ 80 10 = -900009)
def fMR (σ σ' : Mem) : Prop := (∀ c, c ≠ 80 → c ≠ 86 → c ≠ 87 → σ' c = σ c) ∧ ∀ i, i ≠ 9 → i ≠ 10 → σ' 80 i = σ 80 i
theorem fMR.mq {σ σ' : Mem} (h : fMR σ σ') : mq σ σ' := ⟨fun b hb => h.1 b (by omega) (by omega) (by omega), h.2 _ (by decide) (by decide), h.2 _ (by decide) (by decide), h.2 _ (by decide) (by decide)⟩
theorem d_begin (h : ∀ σ', spM σ' (RU f 0) → inR σ' f 0 → fMR σ σ' → K σ') : CC m_X10_beginRuns [vR 80] σ (PN K) :=
  e_X10_beginRuns fun s1 e1 s3 e3 => h s3 ⟨by rw [e3, up_o2 (by decide), e1, up_at]; rfl, fun j hj => absurd hj (by simp [RU])⟩ ⟨fun z => absurd z.1 (by omega), fun _ => by rw [e3, up_at]⟩ ⟨fun c c1 _ _ => by rw [e3, up_cell c1, e1, up_cell c1], fun i i1 i2 => by rw [e3, up_o2 i2, e1, up_o2 i1]⟩
theorem d_meet {x : Int} (ht : t < 200) (hx : x = if f t = true then 1 else 0) (hs : spM σ (RU f t)) (hi : inR σ f t) (h : ∀ σ', spM σ' (RU f (t + 1)) → inR σ' f (t + 1) → fMR σ σ' → K σ') : CC m_X10_meet [vR 80, vI (t : Int), vI x] σ (PN K) := by
  obtain ⟨g1, g2, g3, g4⟩ := RU_spec f t
  have e0 : (((RU f t).1 : Int)).toNat = (RU f t).1 := by omega
  have et : t + 1 - 1 = t := by omega
  cases hf : f t with
  | false =>
    rw [hf] at hx
    have hx : x = 0 := hx
    subst hx
    refine e_X10_meet _ _ ⟨by decide, fun _ => w_X10_meet_38 _ _ ⟨by decide, fun _ => w_X10_meet_54 _ ⟨by decide, fun s20 e20 => ?_⟩, fun q => absurd rfl q⟩, fun q => absurd rfl q⟩
    rw [if_pos rfl] at e20
    refine h s20 ?_ ⟨fun z => ?_, fun _ => by rw [e20, up_at]⟩ ⟨fun c c1 _ _ => by rw [e20, up_cell c1], fun i i1 i2 => by rw [e20, up_o2 i2]⟩
    · rw [RU_no hf]
      refine ⟨by rw [e20, up_o2 (by decide)]; exact hs.1, fun j hj => ?_⟩
      rw [e20, up_o1 (by decide), up_o1 (by decide)]
      exact hs.2 j hj
    · rw [et, hf] at z; exact absurd z.2 (by decide)
  | true =>
    rw [hf] at hx
    have hx : x = 1 := hx
    subst hx
    -- what follows once the run stands
    have tail : ∀ s : Mem, s 80 9 = ((RU f (t + 1)).1 : Int) → (RU f (t + 1)).2.2 = sv (RU f t).2.2 ((RU f (t + 1)).1 - 1) t → (∀ j, j < (RU f (t + 1)).1 → s 86 j = (RU f (t + 1)).2.1 j) → (∀ j, j < (RU f (t + 1)).1 - 1 → s 87 j = (RU f t).2.2 j) → (0 ≤ s 80 10 ∧ s 80 10 < 200) → 0 < (RU f (t + 1)).1 → fMR σ s → TT m_X10_meet 38 [vR 80, vI (t : Int), vI 1] [] s (PN K) := by
      intro s k1 k2 k3 k4 k5 k6 k7
      obtain ⟨_, _, l3, _⟩ := RU_spec f (t + 1)
      refine w_X10_meet_38 _ _ ⟨by decide, fun q => absurd q (by decide), fun _ => ?_⟩
      have e1 : (((RU f (t + 1)).1 : Int) - 1).toNat = (RU f (t + 1)).1 - 1 := by omega
      rw [k1, e1]
      refine ⟨by omega, fun s15 e15 => w_X10_meet_54 _ ⟨by decide, fun s20 e20 => ?_⟩⟩
      rw [if_neg (by decide)] at e20
      have e20' : ∀ c j, s20 c j = s15 c j := by
        intro c j
        rw [e20]
        by_cases z : c = 80 ∧ j = 10
        · rw [z.1, z.2, up_at]
        · simp [up, z]
      refine h s20 ⟨?_, fun j hj => ?_⟩ ⟨fun _ => ?_, fun z => absurd ⟨by omega, by rw [et]; exact hf⟩ z⟩ ⟨fun c c1 c2 c3 => ?_, fun i i1 i2 => ?_⟩
      · rw [e20', e15, up_o1 (by decide)]; exact k1
      · rw [e20', e20', e15, up_o1 (by decide), k2]
        by_cases z : j = (RU f (t + 1)).1 - 1
        · subst z
          rw [up_at, sv_at]
          exact ⟨k3 _ hj, rfl⟩
        · rw [up_o2 z, sv_ne z]
          exact ⟨k3 j hj, k4 j (by omega)⟩
      · rw [e20', e15, up_o1 (by decide)]; exact k5
      · funext j
        rw [e20', e15, up_o1 c3, k7.1 c c1 c2 c3]
      · rw [e20', e15, up_o1 (by decide)]; exact k7.2 i i1 i2
    refine e_X10_meet _ _ ⟨by decide, fun q => absurd q (by decide), fun _ => ?_⟩
    by_cases c : 0 < t ∧ f (t - 1) = true
    · have r0 := hi.1 c
      refine ⟨by omega, fun _ => ?_, fun q => absurd q (by omega)⟩
      have eR := RU_on hf c
      have g1c := g1 c
      refine tail σ ?_ ?_ ?_ ?_ r0 ?_ ⟨fun _ _ _ _ => rfl, fun _ _ _ => rfl⟩
      · rw [eR]; exact hs.1
      · rw [eR]
      · rw [eR]; exact fun j hj => (hs.2 j hj).1
      · rw [eR]; exact fun j hj => (hs.2 j (by have hj : j < (RU f t).1 - 1 := hj; omega)).2
      · rw [eR]; exact g1c.1
    · have r0 := hi.2 c
      refine ⟨by omega, fun q => absurd r0 q, fun _ s5 e5 => ?_⟩
      have eR := RU_new hf c
      have g2c := g2 c
      have a1 : s5 80 9 = ((RU f t).1 : Int) := by rw [e5, up_o2 (by decide)]; exact hs.1
      rw [a1, e0]
      refine ⟨by omega, fun s8 e8 s10 e10 => ?_⟩
      have a2 : s8 80 9 = ((RU f t).1 : Int) := by rw [e8, up_o1 (by decide)]; exact a1
      rw [a2] at e10
      refine tail s10 ?_ ?_ ?_ ?_ ?_ ?_ ⟨fun c c1 c2 c3 => ?_, fun i i1 i2 => ?_⟩
      · rw [eR, e10, up_at]; rfl
      · rw [eR]; rfl
      · rw [eR]
        intro j hj
        have hj : j < (RU f t).1 + 1 := hj
        show s10 86 j = sv _ _ _ j
        rw [e10, up_o1 (by decide), e8]
        by_cases z : j = (RU f t).1
        · subst z; rw [up_at, sv_at]
        · rw [up_o2 z, sv_ne z, e5, up_o1 (by decide)]
          exact (hs.2 j (by omega)).1
      · rw [eR]
        intro j hj
        have hj : j < (RU f t).1 + 1 - 1 := hj
        rw [e10, up_o1 (by decide), e8, up_o1 (by decide), e5, up_o1 (by decide)]
        exact (hs.2 j (by omega)).2
      · rw [e10, up_o2 (by decide), e8, up_o1 (by decide), e5, up_at]; omega
      · rw [eR]; show 0 < (RU f t).1 + 1; omega
      · rw [e10, up_cell c1, e8, up_cell c2, e5, up_cell c1]
      · rw [e10, up_o2 i1, e8, up_o1 (by decide), e5, up_o2 i2]
end RUNS
