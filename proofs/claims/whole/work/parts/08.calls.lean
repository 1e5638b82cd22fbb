/-! making cells, entering and calling methods -/
def shp (sh : Nat → Nat × Nat) (n : Nat) (kd : Nat × Nat) : Nat → Nat × Nat := fun k => if k = n then kd else sh k
def zer (σ : Mem) (n : Nat) (v : Int) : Mem := fun b j => if b = n then v else σ b j
theorem world_push (E : En) {n : Nat} {sh : Nat → Nat × Nat} {σ : Mem} {kd : Nat × Nat} {f : Nat → Int} {σ' : Mem} (h1 : ∀ b, b ≠ n → σ' b = σ b) (h2 : σ' n = f) : world E (n, sh, σ) ++ [(enB E + n, cellE E kd f)] = world E (n + 1, shp sh n kd, σ') := by
  apply List.ext_getElem?
  intro j
  by_cases hj : j < n
  · rw [List.getElem?_append_left (by simpa [world] using hj), world_at E (n, sh, σ) hj, world_at E (n + 1, shp sh n kd, σ') (by show j < n + 1; omega)]
    show some (enB E + j, cellE E (sh j) (σ j)) = some (enB E + j, cellE E (shp sh n kd j) (σ' j))
    rw [h1 j (by omega), shp, if_neg (by omega)]
  · rw [List.getElem?_append_right (by simp [world]; omega)]
    by_cases hn : j = n
    · subst hn
      rw [world_at E (j + 1, shp sh j kd, σ') (by show j < j + 1; omega)]
      simp [world, shp, h2]
    · have e1 : (world E (n + 1, shp sh n kd, σ'))[j]? = none := by simp [world]; omega
      rw [e1]
      have : j - (world E (n, sh, σ)).length = (j - n - 1) + 1 := by simp [world]; omega
      rw [this]
      rfl
section CALLS
variable {M : MI} {pc : Nat} {ls st : List PV} {bg : Option (Nat × Nat)} {n : Nat} {sh : Nat → Nat × Nat} {σ : Mem} {Q : Option PV → HS → Prop} {a : Nat}
theorem va_S.grow {A : Nat → Prop} {H0 H H1 : Heap} {locs : List Loc} (h : va_S A H0 H locs) (z : H1.size = H.size + 1) (o : ∀ q, q < H.size → H1[q]? = H[q]?) : va_S A H0 H1 locs := ⟨by have := h.1; omega, fun q h1 h2 => (o q (Nat.lt_of_lt_of_le h1 h.1)).trans (h.2.1 q h1 h2), h.2.2⟩
theorem T_newarr {kd : Nat} {atype : ArrayType} {len : Nat} {bc bs : Nat} (hd : decode (miC M) pc = .ok (.newarray atype, 2)) (ht : (kd = 20 ∧ atype = .int) ∨ (kd = 21 ∧ atype = .long) ∨ (kd = 22 ∧ atype = .boolean)) (hln : len < 65536) (kk : T M (pc + 2) ls (vR n :: st) (some (bc, bs)) (n + 1, shp sh n (kd, len), zer σ n 0) Q) : T M pc ls (vI len :: st) (some (bc + 1, bs + len)) (n, sh, σ) Q := by
  intro E p l e R s m args below meth c Z H locs cells slots la hC hR hH hS h1 h2 hl
  have hr : R32 (len : Int) := ⟨by omega, by omega⟩
  have z1 : ¬ Int32.ofInt (len : Int) < 0 := fun q => absurd ((i_lt hr R32_0).mp q) (by omega)
  have z2 : (Int32.ofInt (len : Int)).toNatClampNeg = len := by show (Int32.ofInt (len : Int)).toInt.toNat = _; rw [i_to hr]; rfl
  simp only [bgC, bgS] at h1 h2
  have hsz := hH.2 (by simp)
  have hK := hC.2.2.2.2.2.2.2.2.1.1
  have fin : ∀ (ty : FieldType) (ca : ClassId), newarray.typeOf atype = ty → enA E kd = ca → (∀ H' : Heap, H'[enB E + n]? = some (arrV (enA E kd) len (fun _ => defaultValue ty)) → H'.size = H.size + 1 → (∀ q, q < H.size → H'[q]? = H[q]?) → va_at (enD E) vwCl (enB E + n, cellE E (kd, len) (fun _ => 0)) H') → (∀ (cA : ClassId), s.vm.findClass ("[" ++ ty.toString) = some cA → cA = enA E kd) → (Cond.arrayClass ty).before args s = true → len * componentBytes ty ≤ 536870912 → W p l e R s m args below meth c H locs cells slots Z (F0 m pc la ((vI len :: st).map (real E))) := by
    intro ty ca hty hca hat hcls hac hby
    subst hty
    refine va_newaK (N := len) (h := enB E + n) hC.1 hC.2.1 hac rfl hd rfl z1 z2 hby (by omega) (by omega) hsz fun H' cA e1 e2 e3 e4 e5 => ?_
    have hcA := hcls cA e5
    subst hcA
    rw [← hsz] at e2 e3
    refine kk E p l e R s m args below meth c Z H' locs (cells + 1) (slots + len) la hC hR ⟨?_, fun _ => by rw [e2, hsz]; rfl⟩ (hS.grow e2 e3) (by simp only [bgC]; omega) (by simp only [bgS]; omega) hl
    rw [← world_push E (σ := σ) (kd := (kd, len)) (f := fun _ => 0) (fun b hb => by funext j; simp [zer, hb]) (by funext j; simp [zer])]
    refine (hH.1.kept fun k q hq => e3 q.1 ?_).app ?_
    · exact (hH.1 k q hq).lt
    · intro k q hq
      have hz : k < 1 := (List.getElem?_eq_some_iff.mp hq).1
      rw [show k = 0 by omega] at hq
      cases hq
      exact hat H' e1 e2 e3
  have uniq : ∀ (t : Nat) (ca : ClassId) (ty : FieldType), (tysE E)[t]? = some (ca, ty) → (∀ C, ty ≠ .object C) → ∀ cA, s.vm.findClass ("[" ++ ty.toString) = some cA → cA = ca := by
    intro t ca ty ht hno cA hcA
    have h9 := (hK.2 t _ ht).2
    have h8 : s.vm.findClass ("[" ++ ty.toString) = some ca := by
      cases ty <;> first | exact h9 | exact absurd rfl (hno _)
    exact Option.some.inj (hcA.symm.trans h8)
  rcases ht with ⟨rfl, rfl⟩ | ⟨rfl, rfl⟩ | ⟨rfl, rfl⟩
  · exact fin .int _ rfl rfl (fun H' e1 _ _ => by rw [cell_int rfl]; exact e1) (uniq 0 _ _ rfl (fun C q => by cases q)) (hC.2.2.2.2.1 _ ac_int) (by show len * 4 ≤ _; omega)
  · exact fin .long _ rfl rfl (fun H' e1 _ _ => by rw [cell_long rfl]; exact e1) (uniq 1 _ _ rfl (fun C q => by cases q)) (hC.2.2.2.2.1 _ ac_long) (by show len * 8 ≤ _; omega)
  · exact fin .boolean _ rfl rfl (fun H' e1 _ _ => by rw [cell_bool rfl]; exact e1) (uniq 2 _ _ rfl (fun C q => by cases q)) (hC.2.2.2.2.1 _ ac_boolean) (by show len * 1 ≤ _; omega)
end CALLS
