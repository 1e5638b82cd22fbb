/-! entering a method, calling one -/
def entL : List PV → List PV
  | [] => []
  | .inr (.inl x) :: r => .inr (.inl x) :: vU :: entL r
  | v :: r => v :: entL r
def ent (M : MI) (as : List PV) : List PV := entL as ++ List.replicate (miL M - (entL as).length) vU
theorem lvl_unset (E : En) : ∀ (k j : Nat), lvl E j (List.replicate k vU) = []
  | 0, _ => rfl
  | k + 1, j => by
    show lvl E j (vU :: List.replicate k vU) = []
    exact lvl_unset E k (j + 1)
theorem ent_sub (E : En) (k : Nat) : ∀ (as : List PV) (j : Nat) (q : Nat × Value), q ∈ lvl E j (entL as ++ List.replicate k vU) → q ∈ lv_args j (as.map (real E))
  | [], j, q, h => by
    rw [show entL [] ++ List.replicate k vU = List.replicate k vU from rfl, lvl_unset] at h
    cases h
  | v :: as, j, q, h => by
    rcases v with x | x | x | x
    · rcases List.mem_cons.mp h with h | h
      · exact List.mem_cons.mpr (Or.inl h)
      · exact List.mem_cons_of_mem _ (ent_sub E k as (j + 1) q h)
    · rcases List.mem_cons.mp h with h | h
      · exact List.mem_cons.mpr (Or.inl h)
      · exact List.mem_cons_of_mem _ (ent_sub E k as (j + 2) q h)
    · rcases List.mem_cons.mp h with h | h
      · exact List.mem_cons.mpr (Or.inl h)
      · exact List.mem_cons_of_mem _ (ent_sub E k as (j + 1) q h)
    · cases x
      · exact List.mem_cons_of_mem _ (ent_sub E k as (j + 1) q h)
      · rcases List.mem_cons.mp h with h | h
        · exact List.mem_cons.mpr (Or.inl h)
        · exact List.mem_cons_of_mem _ (ent_sub E k as (j + 1) q h)
theorem ent_len (E : En) : ∀ (as : List PV), (lg_sl (as.map (real E))).length = (entL as).length
  | [] => rfl
  | v :: as => by
    have ih := ent_len E as
    rcases v with x | x | x | x
    all_goals
      simp only [lg_sl, List.map_cons, List.flatMap_cons, List.length_append, entL, List.length_cons] at ih ⊢
      rw [ih]
      simp [real, Value.category]
      try omega
def bg0 (M : MI) : Option (Nat × Nat) := if miI M = true then some (miK M, miM M) else none
theorem Con_of {M : MI} {as : List PV} {h : HS} {Q : Option PV → HS → Prop} (hp : plainName (miY M).cls = true) (ho : (miY M).cls = miO M) (hW : miW M = false) (hi : miI M = true → (miY M).name = "<init>") (hln : (entL as).length ≤ miL M) (k : T M 0 (ent M as) [] (bg0 M) h Q) : Con M as h Q := by
  intro l E
  refine Met.ofW (cc := miC M) (maxL := miL M) (ret := miR M) hp rfl ?_
  intro p e s m args below meth c s₁ B hml hv
  obtain ⟨rfl, ⟨hP, hsz, hex⟩, hK⟩ := hv
  have hx := B.exec
  have hb := B.bytes
  have hr := B.returns
  have hts := atoms_spec (ws := wsY M) B.pre
  have hown : s.vm.findClass (miY M).cls = some m.cls := findClass_of_methodNamed B.named
  have hlocks := B.notSynchronized
  have hl := lv_entry (as.map (real E)) (n := miL M) (by rw [ent_len]; exact hln)
  rw [lg_entry_eq]
  generalize (lg_sl (as.map (real E)) ++ List.replicate (miL M - (lg_sl (as.map (real E))).length) Slot.unset).toArray = la at hl ⊢
  have hbg : bgC (bg0 M) ≤ miK M ∧ bgS (bg0 M) ≤ miM M := by
    unfold bg0
    split <;> simp [bgC, bgS]
  refine k E p l e _ s m _ below meth c _ s.heap [] 0 0 la ⟨hx, hb, hml, by rw [← ho]; exact hown, fun w hw => hts w (List.mem_cons_of_mem _ hw), fun q => ?_, Nat.le_refl _, Nat.le_refl _, hK, hsz, fun q => by rw [hW] at q; cases q⟩ ?_ ⟨hP, fun q => ?_⟩ va_S.rf ?_ ?_ (lv_mono hl fun q hq => ent_sub E _ as 0 q hq)
  · rw [← hi q]
    exact (name_of_methodNamed B.named B.method).1
  · intro r h' H' locs cells slots pc la' hq hP' hex' hS' hc hs hd hok
    have hQc : ∀ (t : State) (o : Outcome), t.heap = H' → o = .returned (r.map (real E)) → QcY M E Q (as.map (real E)).toArray s o t := fun t o ht ho => ⟨r, h', hq, ho, ⟨by rw [ht]; exact hP', by rw [ht]; exact Nat.le_trans hsz hS'.1, fun q => by rw [ht]; exact hex' q⟩, hS'.F ht⟩
    refine W.widen (k := miK M) (n := miM M) hc hs ?_
    revert hr hd hok
    generalize miR M = rt
    intro hr hd hok
    cases rt with
    | none =>
      cases r with
      | none => exact W.vret hx hb hr (fun t ht _ => hQc t _ ht rfl) hS'.2.2 hd
      | some v => cases hok
    | some ty =>
      cases r with
      | none => cases ty <;> cases hok
      | some v =>
        cases ty <;> (try (cases hok; done)) <;> rcases v with x | x | x | x <;> (try (cases hok; done))
        · exact W.iret hx hb hr (fun t ht _ => hQc t _ ht rfl) hS'.2.2 hd
        · exact W.lret hx hb hr (fun t ht _ => hQc t _ ht rfl) hS'.2.2 hd
        · rcases hok with rfl | rfl
          · exact W.zret (ty := .boolean) hx hb hr rfl (fun t ht _ => hQc t _ ht rfl) hS'.2.2 hd
          · exact W.zret (ty := .boolean) hx hb hr rfl (fun t ht _ => hQc t _ ht rfl) hS'.2.2 hd
  · refine hex ?_
    unfold bg0 at q
    split at q
    · assumption
    · exact absurd rfl q
  · show 0 + bgC (bg0 M) ≤ miK M
    omega
  · show 0 + bgS (bg0 M) ≤ miM M
    omega
/-- what a method's name must say in the tables, with so many arguments (the receiver apart) -/
def MOK (M : MI) (na : Nat) : Prop := Cond.code (miY M) (miC M) (miL M) (miR M) ∈ TS ∧ Cond.initialized (miY M).cls ∈ TS ∧ ((miY M).cls ≠ "java/lang/invoke/MethodHandle" ∧ (miY M).cls ≠ "java/lang/invoke/VarHandle" ∧ (parseMethodDescriptor (miY M).desc).map (fun d => d.parameters.length) = some na)
theorem wsY_good {M : MI} {na : Nat} (h : MOK M na) : GoodIn TS (wsY M) := fun w hw => by
  rcases List.mem_cons.mp hw with rfl | hw
  · exact ⟨h.1, TS_good _ h.1⟩
  · exact ⟨hw, TS_good _ hw⟩
section RUN
variable {p : Program} {l : Launch} {e : Env} {R : Room} {s : State} {m : MethodId} {args : Array Value} {below : List Frame} {meth : Method} {c : Code} {H : Heap} {locs : List Loc} {cells slots mc ms pc : Nat} {la : Array Slot} {st0 rest : List Value} {Z : State → Prop} {M' : MI} {E : En} {a : Array Value}
theorem run_go {Q' : Option PV → HS → Prop} (hr : va_Run p l e R s m args below meth c H locs cells slots mc ms (F0 m pc la st0) rest (QcY M' E Q' a) (fun q => enB E ≤ q)) (hS : va_S (fun q => enB E ≤ q) s.heap H locs)
    (kk : ∀ (r : Option PV) (h' : HS) (H1 : Heap) (locs1 : List Loc), Q' r h' → va_P (enD E) vwCl (world E h') H1 → (miI M' = true → H1.size = enB E + h'.1) → va_S (fun q => enB E ≤ q) s.heap H1 locs1 → W p l e R s m args below meth c H1 locs1 (cells + mc) (slots + ms) Z (F0 m (pc + 3) la (r.toList.map (real E) ++ rest))) : W p l e R s m args below meth c H locs cells slots Z (F0 m pc la st0) := by
  intro T9 hT X
  obtain ⟨v, st₀, t, T', L, h0, X', hL, e1, e2, ⟨r, h', hq, hv, ⟨hP, hb, hex⟩, hF⟩, st⟩ := hr T9 hT X
  have hv : v = r.map (real E) := by cases hv; rfl
  subst hv
  obtain ⟨hz, hk⟩ := hF
  rw [h0] at hz hk
  obtain ⟨t2, a1, b1⟩ := kk r h' T'.heap (locs ++ L) hq (by rw [e1]; exact hP) (fun q => by rw [e1]; exact hex q) ⟨Nat.le_trans hS.1 (by rw [e1]; exact hz), fun q h1 h2 => by rw [e1, hk q (Nat.lt_of_lt_of_le h1 hS.1) h2]; exact hS.2.1 q h1 h2, fun q hq => by
      rcases List.mem_append.mp hq with h | h
      · exact hS.2.2 q h
      · exact hL q h⟩ T' rfl X'
  refine ⟨t2, st t2 ?_, b1⟩
  cases r <;> exact a1
end RUN
theorem PcY_blind {M' : MI} {E : En} {as : List PV} {h : HS} : FrameBlind (PcY M' E as h) := fun a U g mk q => ⟨q.1, q.2.1, Kx.same rfl q.2.2⟩
section CALL
variable {M M' : MI} {pc idx na : Nat} {ls st as rest : List PV} {h : HS} {Q : Option PV → HS → Prop} {a : Nat}
theorem T_callV {cc nf : Nat} {U : u_T} (hd : decode (miC M) pc = .ok (.invokevirtual idx, 3)) (hm : MOK M' na) (hw : Cond.methodLink (miO M) idx (miY M') ∈ TS) (hi : Cond.instanceMethod (miY M') ∈ TS) (hse : Cond.selects (miY M').cls (miY M') (miY M') ∈ TS) (hF : miF M' + 1 ≤ miF M) (hV : 8 + (miL M' + 11) + miV M' ≤ miV M) (hk : miK M' = 0 ∧ miM M' = 0 ∧ miI M' = false) (hst : st = as.reverse ++ vR a :: rest) (hn : as.length = na) (hr : (rest.map pcat).sum ≤ 8) (ha : a < h.1) (hsh : h.2.1 a = (cc, nf)) (hc : vwCl[cc]? = some ((miY M').cls, U, nf)) (hc20 : cc < 20)
    (k : Con M' (vR a :: as) h (fun r h' => T M (pc + 3) ls (r.toList ++ rest) none h' Q)) : T M pc ls st none h Q := by
  intro E p l e R s m args below meth c Z H locs cells slots la hC hR hH hS h1 h2 hl
  subst hst
  have hts := hC.2.2.2.2.1
  have hw9 := world_at E h ha
  rw [cell_obj hsh hc20] at hw9
  simp only [bgC, bgS] at h1 h2
  refine run_go (rest := rest.map (real E)) (va_runV (As := as.map (real E)) (b := enB E + a) ⟨hC.1, hC.2.1, hC.2.2.1, hC.2.2.2.1, hts⟩ (k l E) (C := (miY M').cls) (n := na) ⟨callB_of na hts (wsY_good hm) rfl rfl rfl (hts _ hm.2.1) (hts _ hw) hm.2.2 ⟨Nat.le_trans hF hC.2.2.2.2.2.2.1, Nat.le_trans hV hC.2.2.2.2.2.2.2.1⟩, hts _ hi, hts _ hse⟩ ⟨PcY_blind, va_recv hC.2.2.2.2.2.2.2.2.1.1 hH.1 hc hw9, fun U' hU hW => ⟨by simp [real], ⟨by rw [hU]; exact hH.1, by rw [hU]; exact Nat.le_trans hC.2.2.2.2.2.2.2.2.2.1 hS.1, fun q => by rw [hk.2.2] at q; cases q⟩, Kx.moved hW hC.2.2.2.2.2.2.2.2.1⟩⟩ rfl (by simpa using hn) hl.1 (by simp [real]) (lv_room (by rw [rest_cat]; exact hr)) hd ⟨by rw [hk.1]; omega, by rw [hk.2.1]; omega⟩) hS ?_
  intro r h' H1 locs1 hq hP hex hS1
  have := hq E p l e R s m args below meth c Z H1 locs1 (cells + miK M') (slots + miM M') la hC hR ⟨hP, fun q => absurd rfl q⟩ hS1 (by simp only [bgC]; rw [hk.1]; omega) (by simp only [bgS]; rw [hk.2.1]; omega) hl
  rw [List.map_append] at this
  exact this
theorem T_callS (hd : decode (miC M) pc = .ok (.invokestatic idx, 3)) (hm : MOK M' na) (hw : Cond.methodLink (miO M) idx (miY M') ∈ TS) (hi : Cond.static (miY M') ∈ TS) (hF : miF M' + 1 ≤ miF M) (hV : 8 + (miL M' + 11) + miV M' ≤ miV M) (hk : miK M' = 0 ∧ miM M' = 0 ∧ miI M' = false) (hst : st = as.reverse ++ rest) (hn : as.length = na) (hr : (rest.map pcat).sum ≤ 8)
    (k : Con M' as h (fun r h' => T M (pc + 3) ls (r.toList ++ rest) none h' Q)) : T M pc ls st none h Q := by
  intro E p l e R s m args below meth c Z H locs cells slots la hC hR hH hS h1 h2 hl
  subst hst
  have hts := hC.2.2.2.2.1
  simp only [bgC, bgS] at h1 h2
  refine run_go (rest := rest.map (real E)) (va_runS (As := as.map (real E)) ⟨hC.1, hC.2.1, hC.2.2.1, hC.2.2.2.1, hts⟩ (k l E) (n := na) ⟨callB_of na hts (wsY_good hm) rfl rfl rfl (hts _ hm.2.1) (hts _ hw) hm.2.2 ⟨Nat.le_trans hF hC.2.2.2.2.2.2.1, Nat.le_trans hV hC.2.2.2.2.2.2.2.1⟩, hts _ hi⟩ ⟨PcY_blind, fun U' hU hW => ⟨rfl, ⟨by rw [hU]; exact hH.1, by rw [hU]; exact Nat.le_trans hC.2.2.2.2.2.2.2.2.2.1 hS.1, fun q => by rw [hk.2.2] at q; cases q⟩, Kx.moved hW hC.2.2.2.2.2.2.2.2.1⟩⟩ rfl (by simpa using hn) hl.1 (by simp) (lv_room (by rw [rest_cat]; exact hr)) hd ⟨by rw [hk.1]; omega, by rw [hk.2.1]; omega⟩) hS ?_
  intro r h' H1 locs1 hq hP hex hS1
  have := hq E p l e R s m args below meth c Z H1 locs1 (cells + miK M') (slots + miM M') la hC hR ⟨hP, fun q => absurd rfl q⟩ hS1 (by simp only [bgC]; rw [hk.1]; omega) (by simp only [bgS]; rw [hk.2.1]; omega) hl
  rw [List.map_append] at this
  exact this
theorem T_callSN (hd : decode (miC M) pc = .ok (.invokestatic idx, 3)) (hm : MOK M' na) (hw : (miO M, idx, miY M') ∈ nestW) (hi : Cond.static (miY M') ∈ TS) (hF : miF M' + 1 ≤ miF M) (hV : 8 + (miL M' + 11) + miV M' ≤ miV M) (hk : miK M' = 0 ∧ miM M' = 0 ∧ miI M' = false) (hst : st = as.reverse ++ rest) (hn : as.length = na) (hr : (rest.map pcat).sum ≤ 8)
    (k : Con M' as h (fun r h' => T M (pc + 3) ls (r.toList ++ rest) none h' Q)) : T M pc ls st none h Q := by
  intro E p l e R s m args below meth c Z H locs cells slots la hC hR hH hS h1 h2 hl
  subst hst
  have hts := hC.2.2.2.2.1
  simp only [bgC, bgS] at h1 h2
  refine run_go (rest := rest.map (real E)) (va_runSN (As := as.map (real E)) ⟨hC.1, hC.2.1, hC.2.2.1, hC.2.2.2.1, hts⟩ (k l E) (n := na) ⟨va_cnB na hts (wsY_good hm) rfl rfl rfl (hC.2.2.2.2.2.2.2.2.1.2.2 _ hw) (hts _ hm.2.1) hm.2.2 ⟨Nat.le_trans hF hC.2.2.2.2.2.2.1, Nat.le_trans hV hC.2.2.2.2.2.2.2.1⟩, hts _ hi, trivial⟩ ⟨PcY_blind, fun U' hU hW => ⟨rfl, ⟨by rw [hU]; exact hH.1, by rw [hU]; exact Nat.le_trans hC.2.2.2.2.2.2.2.2.2.1 hS.1, fun q => by rw [hk.2.2] at q; cases q⟩, Kx.moved hW hC.2.2.2.2.2.2.2.2.1⟩⟩ rfl (by simpa using hn) hl.1 (by simp) (lv_room (by rw [rest_cat]; exact hr)) hd ⟨by rw [hk.1]; omega, by rw [hk.2.1]; omega⟩) hS ?_
  intro r h' H1 locs1 hq hP hex hS1
  have := hq E p l e R s m args below meth c Z H1 locs1 (cells + miK M') (slots + miM M') la hC hR ⟨hP, fun q => absurd rfl q⟩ hS1 (by simp only [bgC]; rw [hk.1]; omega) (by simp only [bgS]; rw [hk.2.1]; omega) hl
  rw [List.map_append] at this
  exact this
theorem T_callI {bc bs : Nat} (hd : decode (miC M) pc = .ok (.invokespecial idx, 3)) (hm : MOK M' na) (hw : Cond.methodLink (miO M) idx (miY M') ∈ TS ∨ (miO M, idx, miY M') ∈ nestW) (hi : Cond.instanceMethod (miY M') ∈ TS) (hnm : (miY M').name = "<init>") (hrt : miR M' = none) (hF : miF M' + 1 ≤ miF M) (hV : 8 + (miL M' + 11) + miV M' ≤ miV M) (hst : st = as.reverse ++ vR a :: rest) (hn : as.length = na) (hr : (rest.map pcat).sum ≤ 8) (hI : miI M' = true)
    (k : Con M' (vR a :: as) h (fun r h' => T M (pc + 3) ls (r.toList ++ rest) (some (bc, bs)) h' Q)) : T M pc ls st (some (bc + miK M', bs + miM M')) h Q := by
  intro E p l e R s m args below meth c Z H locs cells slots la hC hR hH hS h1 h2 hl
  subst hst
  have hts := hC.2.2.2.2.1
  simp only [bgC, bgS] at h1 h2
  have hpre : PreS s H (PcY M' E (vR a :: as) h) (.ref (enB E + a) :: as.map (real E)) := ⟨PcY_blind, fun U' hU hW => ⟨by simp [real], ⟨by rw [hU]; exact hH.1, by rw [hU]; exact Nat.le_trans hC.2.2.2.2.2.2.2.2.2.1 hS.1, fun q => by rw [hU]; exact hH.2 (by simp)⟩, Kx.moved hW hC.2.2.2.2.2.2.2.2.1⟩⟩
  have fin : ∀ (r : Option PV) (h' : HS) (H1 : Heap) (locs1 : List Loc), (T M (pc + 3) ls (r.toList ++ rest) (some (bc, bs)) h' Q) → va_P (enD E) vwCl (world E h') H1 → (miI M' = true → H1.size = enB E + h'.1) → va_S (fun q => enB E ≤ q) s.heap H1 locs1 → W p l e R s m args below meth c H1 locs1 (cells + miK M') (slots + miM M') Z (F0 m (pc + 3) la (r.toList.map (real E) ++ rest.map (real E))) := by
    intro r h' H1 locs1 hq hP hex hS1
    have := hq E p l e R s m args below meth c Z H1 locs1 (cells + miK M') (slots + miM M') la hC hR ⟨hP, fun _ => hex hI⟩ hS1 (by simp only [bgC]; omega) (by simp only [bgS]; omega) hl
    rw [List.map_append] at this
    exact this
  have hmR := hm.1
  rw [hrt] at hmR
  have hrm : wsY M' = Cond.code (miY M') (miC M') (miL M') none :: TS := by unfold wsY; rw [hrt]
  rcases hw with hw | hw
  · exact run_go (rest := rest.map (real E)) (va_runI (As := as.map (real E)) (b := enB E + a) ⟨hC.1, hC.2.1, hC.2.2.1, hC.2.2.2.1, hts⟩ (k l E) (n := na) ⟨callB_of na hts (wsY_good hm) hrm rfl rfl (hts _ hm.2.1) (hts _ hw) hm.2.2 ⟨Nat.le_trans hF hC.2.2.2.2.2.2.1, Nat.le_trans hV hC.2.2.2.2.2.2.2.1⟩, hnm, hts _ hi⟩ hpre rfl (by simpa using hn) hl.1 (by simp [real]) (lv_room (by rw [rest_cat]; exact hr)) hd ⟨by omega, by omega⟩) hS fin
  · exact run_go (rest := rest.map (real E)) (va_runIN (As := as.map (real E)) (b := enB E + a) ⟨hC.1, hC.2.1, hC.2.2.1, hC.2.2.2.1, hts⟩ (k l E) (n := na) ⟨va_cnB na hts (wsY_good hm) hrm rfl rfl (hC.2.2.2.2.2.2.2.2.1.2.2 _ hw) (hts _ hm.2.1) hm.2.2 ⟨Nat.le_trans hF hC.2.2.2.2.2.2.1, Nat.le_trans hV hC.2.2.2.2.2.2.2.1⟩, hnm, hts _ hi⟩ hpre rfl (by simpa using hn) hl.1 (by simp [real]) (lv_room (by rw [rest_cat]; exact hr)) hd ⟨by omega, by omega⟩) hS fin
end CALL
