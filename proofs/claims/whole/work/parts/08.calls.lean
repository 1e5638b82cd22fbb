/-! making cells, entering and calling methods -/
def shp (sh : Nat → Nat × Nat) (n : Nat) (kd : Nat × Nat) : Nat → Nat × Nat := fun k => if k = n then kd else sh k
def zer (σ : Mem) (n : Nat) (v : Int) : Mem := fun b j => if b = n then v else σ b j
theorem world_push (E : En) {n : Nat} {sh : Nat → Nat × Nat} {σ : Mem} {kd : Nat × Nat} {f : Nat → Int} {σ' : Mem} (h1 : ∀ b, b ≠ n → σ' b = σ b) (h2 : σ' n = f) : world E (n, sh, σ) ++ [(enB E + n, cellE E kd f)] = world E (n + 1, shp sh n kd, σ') := by
  apply List.ext_getElem?
  intro j
  by_cases hj : j < n
  · rw [List.getElem?_append_left (by simpa [world] using hj), world_at E (n, sh, σ) hj, world_at E (n + 1, shp sh n kd, σ') (by show j < n + 1; omega)]
    show some (enB E + j, cellE E (sh j) (σ j)) = some (enB E + j, cellE E (shp sh n kd j) (σ' j))
    rw [h1 j (by omega), shp, if_neg (by omega)]
  · rw [List.getElem?_append_right (by simp [world]; omega)]
    by_cases hn : j = n
    · subst hn
      rw [world_at E (j + 1, shp sh j kd, σ') (by show j < j + 1; omega)]
      simp [world, shp, h2]
    · have e1 : (world E (n + 1, shp sh n kd, σ'))[j]? = none := by simp [world]; omega
      rw [e1]
      have : j - (world E (n, sh, σ)).length = (j - n - 1) + 1 := by simp [world]; omega
      rw [this]
      rfl
section CALLS
variable {M : MI} {pc : Nat} {ls st : List PV} {bg : Option (Nat × Nat)} {n : Nat} {sh : Nat → Nat × Nat} {σ : Mem} {Q : Option PV → HS → Prop} {a : Nat}
theorem va_S.grow {A : Nat → Prop} {H0 H H1 : Heap} {locs : List Loc} (h : va_S A H0 H locs) (z : H1.size = H.size + 1) (o : ∀ q, q < H.size → H1[q]? = H[q]?) : va_S A H0 H1 locs := ⟨by have := h.1; omega, fun q h1 h2 => (o q (Nat.lt_of_lt_of_le h1 h.1)).trans (h.2.1 q h1 h2), h.2.2⟩
theorem T_newarr {kd : Nat} {atype : ArrayType} {len : Nat} {bc bs : Nat} (hd : decode (miC M) pc = .ok (.newarray atype, 2)) (ht : (kd = 20 ∧ atype = .int) ∨ (kd = 21 ∧ atype = .long) ∨ (kd = 22 ∧ atype = .boolean)) (hln : len < 65536) (kk : T M (pc + 2) ls (vR n :: st) (some (bc, bs)) (n + 1, shp sh n (kd, len), zer σ n 0) Q) : T M pc ls (vI len :: st) (some (bc + 1, bs + len)) (n, sh, σ) Q := by
  intro E p l e R s m args below meth c Z H locs cells slots la hC hR hH hS h1 h2 hl
  have hr : R32 (len : Int) := ⟨by omega, by omega⟩
  have z1 : ¬ Int32.ofInt (len : Int) < 0 := fun q => absurd ((i_lt hr R32_0).mp q) (by omega)
  have z2 : (Int32.ofInt (len : Int)).toNatClampNeg = len := by show (Int32.ofInt (len : Int)).toInt.toNat = _; rw [i_to hr]; rfl
  simp only [bgC, bgS] at h1 h2
  have hsz := hH.2 (by simp)
  have hK := hC.2.2.2.2.2.2.2.2.1.1
  have fin : ∀ (ty : FieldType) (ca : ClassId), newarray.typeOf atype = ty → enA E kd = ca → (∀ H' : Heap, H'[enB E + n]? = some (arrV (enA E kd) len (fun _ => defaultValue ty)) → H'.size = H.size + 1 → (∀ q, q < H.size → H'[q]? = H[q]?) → va_at (enD E) vwCl (enB E + n, cellE E (kd, len) (fun _ => 0)) H') → (∀ (cA : ClassId), s.vm.findClass ("[" ++ ty.toString) = some cA → cA = enA E kd) → (Cond.arrayClass ty).before args s = true → len * componentBytes ty ≤ 536870912 → W p l e R s m args below meth c H locs cells slots Z (F0 m pc la ((vI len :: st).map (real E))) := by
    intro ty ca hty hca hat hcls hac hby
    subst hty
    refine va_newaK (N := len) (h := enB E + n) hC.1 hC.2.1 hac rfl hd rfl z1 z2 hby (by omega) (by omega) hsz fun H' cA e1 e2 e3 e4 e5 => ?_
    have hcA := hcls cA e5
    subst hcA
    rw [← hsz] at e2 e3
    refine kk E p l e R s m args below meth c Z H' locs (cells + 1) (slots + len) la hC hR ⟨?_, fun _ => by rw [e2, hsz]; rfl⟩ (hS.grow e2 e3) (by simp only [bgC]; omega) (by simp only [bgS]; omega) hl
    rw [← world_push E (σ := σ) (kd := (kd, len)) (f := fun _ => 0) (fun b hb => by funext j; simp [zer, hb]) (by funext j; simp [zer])]
    refine (hH.1.kept fun k q hq => e3 q.1 ?_).app ?_
    · exact (hH.1 k q hq).lt
    · intro k q hq
      have hz : k < 1 := (List.getElem?_eq_some_iff.mp hq).1
      rw [show k = 0 by omega] at hq
      cases hq
      exact hat H' e1 e2 e3
  have uniq : ∀ (t : Nat) (ca : ClassId) (ty : FieldType), (tysE E)[t]? = some (ca, ty) → (∀ C, ty ≠ .object C) → ∀ cA, s.vm.findClass ("[" ++ ty.toString) = some cA → cA = ca := by
    intro t ca ty ht hno cA hcA
    have h9 := (hK.2 t _ ht).2
    have h8 : s.vm.findClass ("[" ++ ty.toString) = some ca := by
      cases ty <;> first | exact h9 | exact absurd rfl (hno _)
    exact Option.some.inj (hcA.symm.trans h8)
  rcases ht with ⟨rfl, rfl⟩ | ⟨rfl, rfl⟩ | ⟨rfl, rfl⟩
  · exact fin .int _ rfl rfl (fun H' e1 _ _ => by rw [cell_int rfl]; exact e1) (uniq 0 _ _ rfl (fun C q => by cases q)) (hC.2.2.2.2.1 _ ac_int) (by show len * 4 ≤ _; omega)
  · exact fin .long _ rfl rfl (fun H' e1 _ _ => by rw [cell_long rfl]; exact e1) (uniq 1 _ _ rfl (fun C q => by cases q)) (hC.2.2.2.2.1 _ ac_long) (by show len * 8 ≤ _; omega)
  · exact fin .boolean _ rfl rfl (fun H' e1 _ _ => by rw [cell_bool rfl]; exact e1) (uniq 2 _ _ rfl (fun C q => by cases q)) (hC.2.2.2.2.1 _ ac_boolean) (by show len * 1 ≤ _; omega)
theorem T_anew {kd idx len bc bs : Nat} (hd : decode (miC M) pc = .ok (.anewarray idx, 3)) (ht : (kd = 23 ∧ Cond.classLink (miO M) idx RX8 ∈ TS) ∨ (kd = 24 ∧ Cond.classLink (miO M) idx RX3 ∈ TS)) (hln : len < 65536) (kk : T M (pc + 3) ls (vR n :: st) (some (bc, bs)) (n + 1, shp sh n (kd, len), zer σ n (-1)) Q) : T M pc ls (vI len :: st) (some (bc + 1, bs + len)) (n, sh, σ) Q := by
  intro E p l e R s m args below meth c Z H locs cells slots la hC hR hH hS h1 h2 hl
  have hr : R32 (len : Int) := ⟨by omega, by omega⟩
  have z1 : ¬ Int32.ofInt (len : Int) < 0 := fun q => absurd ((i_lt hr R32_0).mp q) (by omega)
  have z2 : (Int32.ofInt (len : Int)).toNatClampNeg = len := by show (Int32.ofInt (len : Int)).toInt.toNat = _; rw [i_to hr]; rfl
  simp only [bgC, bgS] at h1 h2
  have hsz := hH.2 (by simp)
  have hK := hC.2.2.2.2.2.2.2.2.1.1
  have fin : ∀ (C : String), Cond.classLink (miO M) idx C ∈ TS → (Cond.arrayOver (.object C)).before args s = true → (∀ cA, s.vm.findClass ("[" ++ (FieldType.object C).toString) = some cA → cA = enA E kd) → (kd = 23 ∨ kd = 24) → W p l e R s m args below meth c H locs cells slots Z (F0 m pc la ((vI len :: st).map (real E))) := by
    intro C hcl hov hun hkd
    refine W.anew hC.1 hC.2.1 hC.2.2.2.1 (hC.2.2.2.2.1 _ hcl) hov rfl hd rfl z1 (by rw [z2]; omega) (by omega) (by rw [z2]; omega) fun cA kA comp f1 f2 f3 f4 => ?_
    have hcA := hun cA f1
    subst hcA
    rw [z2]
    generalize hH1 : H.push ({ cls := enA E kd, slots := Array.replicate len .null, vm := .none } : Cell) = H'
    have e2 : H'.size = H.size + 1 := by rw [← hH1, Array.size_push]
    have e1 : H'[enB E + n]? = some (arrV (enA E kd) len (fun _ => .null)) := by rw [← hsz, ← hH1, Array.getElem?_push_size, ← arrV_new]
    have e3 : ∀ q : Nat, q < H.size → H'[q]? = H[q]? := fun q hq => by rw [← hH1, Array.getElem?_push, if_neg (Nat.ne_of_lt hq)]
    have hk := kk E p l e R s m args below meth c Z H' locs (cells + 1) (slots + len) la hC hR ⟨?_, fun _ => by rw [e2, hsz]; rfl⟩ (hS.grow e2 e3) (by simp only [bgC]; omega) (by simp only [bgS]; omega) hl
    · rw [hsz]
      exact hk
    rw [← world_push E (σ := σ) (kd := (kd, len)) (f := fun _ => -1) (fun b hb => by funext j; simp [zer, hb]) (by funext j; simp [zer])]
    refine (hH.1.kept fun k q hq => e3 q.1 (hH.1 k q hq).lt).app ?_
    intro k q hq
    have hz : k < 1 := (List.getElem?_eq_some_iff.mp hq).1
    rw [show k = 0 by omega] at hq
    cases hq
    rcases hkd with rfl | rfl
    · rw [cell_track rfl]; exact e1
    · rw [cell_place rfl]; exact e1
  have uniq : ∀ (t : Nat) (ca : ClassId) (C : String), (tysE E)[t]? = some (ca, .object C) → ∀ cA, s.vm.findClass ("[" ++ (FieldType.object C).toString) = some cA → cA = ca := by
    intro t ca C ht cA hcA
    obtain ⟨_, _, _, _, _, h8⟩ := (hK.2 t _ ht).2
    exact Option.some.inj (hcA.symm.trans h8)
  rcases ht with ⟨rfl, q⟩ | ⟨rfl, q⟩
  · exact fin RX8 q (va_AO.use hC.2.2.2.2.2.2.2.2.1.2.1.1) (uniq 3 _ _ rfl) (Or.inl rfl)
  · exact fin RX3 q (va_AO.use hC.2.2.2.2.2.2.2.2.1.2.1.2) (uniq 4 _ _ rfl) (Or.inr rfl)
def dfl (c j : Nat) : Int := if isRefT (tyC c j) = true then -1 else 0
def obj (σ : Mem) (n c : Nat) : Mem := fun b j => if b = n then dfl c j else σ b j
def okT : FieldType → Bool
  | .int => true
  | .long => true
  | .boolean => true
  | .object _ => true
  | .array _ => true
  | _ => false
def Cls (own : String) (idx c n : Nat) : Prop := ∃ (C : String) (U : u_T), vwCl[c]? = some (C, U, n) ∧ c < 20 ∧ (∀ w ∈ u_ws C U n, w ∈ TS) ∧ (∀ j, j < n → parseFieldDescriptor (U j).2.2.1 = some (tyC c j)) ∧ Cond.classLink own idx C ∈ TS ∧ Cond.instantiable C n ∈ TS ∧ Cond.initialized C ∈ TS ∧ ∀ j, j < n → okT (tyC c j) = true
theorem rv_dfl (E : En) {c j : Nat} (h : okT (tyC c j) = true) : defaultValue (tyC c j) = rv E (tyC c j) (dfl c j) := by
  unfold dfl
  cases hq : tyC c j <;> first | rfl | (rw [hq] at h; cases h)
theorem T_new {idx c nf bc bs : Nat} (hd : decode (miC M) pc = .ok (.new idx, 3)) (hc : Cls (miO M) idx c nf) (kk : T M (pc + 3) ls (vR n :: st) (some (bc, bs)) (n + 1, shp sh n (c, nf), obj σ n c) Q) : T M pc ls st (some (bc + 1, bs + nf)) (n, sh, σ) Q := by
  intro E p l e R s m args below meth c0 Z H locs cells slots la hC hR hH hS h1 h2 hl
  obtain ⟨C, U, f1, f2, f3, f4, f5, f6, f7, f8⟩ := hc
  simp only [bgC, bgS] at h1 h2
  have hsz := hH.2 (by simp)
  have hts := hC.2.2.2.2.1
  have hKn := hC.2.2.2.2.2.2.2.2.1.1.1 c _ f1
  refine W.newcK (h := enB E + n) hC.1 hC.2.1 hC.2.2.2.1 (hts _ f5) (hts _ f6) (hts _ f7) rfl hd (by omega) (by omega) hKn.2.1 hsz fun H' kC hkC e1 e2 e3 => ?_
  rw [← hsz] at e2 e3
  refine kk E p l e R s m args below meth c0 Z H' locs (cells + 1) (slots + nf) la hC hR ⟨?_, fun _ => by rw [e2, hsz]; rfl⟩ (hS.grow e2 e3) (by simp only [bgC]; omega) (by simp only [bgS]; omega) hl
  rw [← world_push E (σ := σ) (kd := (c, nf)) (f := fun j => dfl c j) (fun b hb => by funext j; simp [obj, hb]) (by funext j; simp [obj])]
  refine (hH.1.kept fun k q hq => e3 q.1 (hH.1 k q hq).lt).app ?_
  intro k q hq
  have hz : k < 1 := (List.getElem?_eq_some_iff.mp hq).1
  rw [show k = 0 by omega] at hq
  cases hq
  rw [cell_obj rfl f2]
  refine ⟨_, f1, (u_born (tyC c) hts f3 hKn hkC e1 f4).to fun j hj => ?_⟩
  rw [rv_dfl E (f8 j hj)]
  simp [vp_V, hj]
theorem T_aast {kd c nf len v : Nat} {i : Int} (hd : decode (miC M) pc = .ok (.aastore, 1)) (hk : (kd = 23 ∧ c = 8) ∨ (kd = 24 ∧ c = 3)) (ha : a < n) (hs : sh a = (kd, len)) (hv : v < n) (hsv : sh v = (c, nf)) (hln : len < 2147483648) (i0 : 0 ≤ i) (i1 : i < len) (kk : T M (pc + 1) ls st bg (n, sh, up σ a i.toNat v) Q) : T M pc ls (vR v :: vI i :: vR a :: st) bg (n, sh, σ) Q := by
  intro E p l e R s m args below meth c0 Z H locs cells slots la hC hR hH hS h1 h2 hl
  have hK := hC.2.2.2.2.2.2.2.2.1.1
  have hw := world_at E (n, sh, σ) ha
  have hwv := world_at E (n, sh, σ) hv
  rw [show cellE E (((n, sh, σ) : HS).2.1 v) (((n, sh, σ) : HS).2.2 v) = _ from cell_obj hsv (by omega)] at hwv
  obtain ⟨x1, x2⟩ := i_ix i0 i1 hln
  have hlt : (Int32.ofInt i).toNatClampNeg < len := by rw [x2]; omega
  have h0 : ¬ Int32.ofInt i < 0 := fun q => x1 (Or.inl q)
  obtain ⟨r', hr', cellV, g1, g2, g3, -⟩ := hH.1 v _ hwv
  have fin : ∀ (t0 : Nat) (C : String) (U : u_T) (nf' : Nat), vwCl[c]? = some (C, U, nf') → (tysE E)[t0]? = some (enA E kd, .object C) → (∀ f, cellE E (kd, len) f = .inl (enA E kd, len, .inr (.inr (.inr (.inr (fun i => rn E (f i))))))) → W p l e R s m args below meth c0 H locs cells slots Z (F0 m pc la ((vR v :: vI i :: vR a :: st).map (real E))) := by
    intro t0 C U nf' hc ht hcell
    rw [show cellE E (((n, sh, σ) : HS).2.1 a) (((n, sh, σ) : HS).2.2 a) = cellE E (kd, len) (σ a) by rw [show ((n, sh, σ) : HS).2.1 a = sh a from rfl, hs], hcell] at hw
    have hcls := (hK.1 c _ hc).2
    obtain ⟨kA, comp, k1, k2, k3, -⟩ := (hK.2 t0 _ ht).2
    have hcomp : comp = (enD E).1 c := Option.some.inj (k3.symm.trans hcls.1)
    subst hcomp
    obtain ⟨kC, hkC, -⟩ := hcls.2
    refine W.aast hC.1 hC.2.1 (hH.1 a _ hw) (fun q h => by cases h) (fun h => by cases h) k1 k2 rfl hkC ⟨h0, by show _ < (arrV _ _ _).slots.size; rw [arrV_size]; exact hlt⟩ g1 (fun q h => by rw [g3] at h; cases h) (by rw [g2]; exact hkC) (by rw [g2]; exact va_assign hcls) rfl rfl hd fun H1 e1 z oq => ?_
    have hPn := hH.1.set (world_D E (n, sh, σ)) hw (H1 := H1) (e := .inl (enA E kd, len, .inr (.inr (.inr (.inr (fun j => rn E (up σ a i.toNat v a j))))))) (by
      show H1[enB E + a]? = some (vp_cell _ _)
      rw [e1]
      show some ((vp_cell (enA E kd) (len, _)).setSlot _ _) = _
      rw [vp_cell_q, vp_cell_q, arrV_store, x2]
      congr 2
      funext q
      by_cases hq : q = i.toNat
      · subst hq
        have h0 : ¬ (v : Int) < 0 := by omega
        simp [updV, up_eq, rn, va_rf, h0]
      · simp [updV, up_eq, hq]) oq
    rw [world_set (σ' := up σ a i.toNat v) ha up_ne (by rw [hs, hcell])] at hPn
    exact kk E p l e R s m args below meth c0 Z H1 _ cells slots la hC hR ⟨hPn, fun q => by rw [z]; exact hH.2 q⟩ (hS.put z oq (Nat.le_add_right _ _)) h1 h2 hl
  rcases hk with ⟨rfl, rfl⟩ | ⟨rfl, rfl⟩
  · exact fin 3 _ _ _ rfl rfl (fun f => cell_track rfl)
  · exact fin 4 _ _ _ rfl rfl (fun f => cell_place rfl)
theorem T_oinit {idx : Nat} {h : HS} (hd : decode (miC M) pc = .ok (.invokespecial idx, 3)) (hw : Cond.methodLink (miO M) idx objectInit ∈ TS) (hF : 1 ≤ miF M) (hV : (st.map pcat).sum + 12 ≤ miV M) (kk : T M (pc + 3) ls st bg h Q) : T M pc ls (vR a :: st) bg h Q := by
  intro E p l e R s m args below meth c Z H locs cells slots la hC hR hH hS h1 h2 hl
  have hts := hC.2.2.2.2.1
  refine W.objInit hC.1 hC.2.1 hC.2.2.2.1 (hts _ hw) (hts _ im_Object_initV) (hts _ co_Object_initV) rfl (hl.1.trans hC.2.2.1.symm) rfl hd (Nat.le_trans hF hC.2.2.2.2.2.2.1) ?_ (kk E p l e R s m args below meth c Z H locs cells slots la hC hR hH hS h1 h2 hl)
  have := hC.2.2.2.2.2.2.2.1
  rw [show (F0 m pc la ((vR a :: st).map (real E))).monitorRoom = 0 from rfl, rest_cat]
  omega
end CALLS
