/-! the rules that touch cells -/
def up (σ : Mem) (a i : Nat) (v : Int) : Mem := fun b j => if b = a ∧ j = i then v else σ b j
theorem world_set {E : En} {n : Nat} {sh : Nat → Nat × Nat} {σ σ' : Mem} {k : Nat} (hk : k < n) (ho : ∀ b, b ≠ k → σ' b = σ b) {e : va_E} (he : e = cellE E (sh k) (σ' k)) : (world E (n, sh, σ)).set k (enB E + k, e) = world E (n, sh, σ') := by
  subst he
  apply List.ext_getElem?
  intro j
  by_cases hj : j = k
  · subst hj
    rw [List.getElem?_set_self (by simpa [world] using hk), world_at E (n, sh, σ') hk]
  · rw [List.getElem?_set_ne (fun q => hj q.symm)]
    by_cases hn : j < n
    · rw [world_at E (n, sh, σ) hn, world_at E (n, sh, σ') hn]
      show some (enB E + j, cellE E (sh j) (σ j)) = some (enB E + j, cellE E (sh j) (σ' j))
      rw [ho j hj]
    · have h1 : (world E (n, sh, σ))[j]? = none := by simpa [world] using hn
      have h2 : (world E (n, sh, σ'))[j]? = none := by simpa [world] using hn
      rw [h1, h2]
theorem up_ne {σ : Mem} {a i : Nat} {v : Int} : ∀ b, b ≠ a → up σ a i v b = σ b := fun b hb => by
  funext j
  simp [up, hb]
theorem up_eq {σ : Mem} {a i : Nat} {v : Int} (j : Nat) : up σ a i v a j = if j = i then v else σ a j := by
  simp [up]
theorem cell_int {E : En} {kd : Nat × Nat} {f : Nat → Int} {n : Nat} (h : kd = (20, n)) : cellE E kd f = .inl (enA E 20, n, .inl (fun i => Int32.ofInt (f i))) := by subst h; simp [cellE]
theorem cell_bool {E : En} {kd : Nat × Nat} {f : Nat → Int} {n : Nat} (h : kd = (22, n)) : cellE E kd f = .inl (enA E 22, n, .inl (fun i => Int32.ofInt (f i))) := by subst h; simp [cellE]
theorem cell_long {E : En} {kd : Nat × Nat} {f : Nat → Int} {n : Nat} (h : kd = (21, n)) : cellE E kd f = .inl (enA E 21, n, .inr (.inl (fun i => Int64.ofInt (f i)))) := by subst h; simp [cellE]
theorem cell_track {E : En} {kd : Nat × Nat} {f : Nat → Int} {n : Nat} (h : kd = (23, n)) : cellE E kd f = .inl (enA E 23, n, .inr (.inr (.inr (.inr (fun i => rn E (f i)))))) := by subst h; simp [cellE]
theorem cell_place {E : En} {kd : Nat × Nat} {f : Nat → Int} {n : Nat} (h : kd = (24, n)) : cellE E kd f = .inl (enA E 24, n, .inr (.inr (.inr (.inr (fun i => rn E (f i)))))) := by subst h; simp [cellE]
theorem cell_obj {E : En} {kd : Nat × Nat} {f : Nat → Int} {c n : Nat} (h : kd = (c, n)) (hc : c < 20) : cellE E kd f = .inr (c, (List.range n).map (fun j => rv E (tyC c j) (f j))) := by
  subst h
  have h1 : ¬ (c = 20 ∨ c = 22) := by omega
  have h2 : ¬ c = 21 := by omega
  have h3 : ¬ (c = 23 ∨ c = 24) := by omega
  simp [cellE, h1, h2, h3]
/-- a field of a class: which class, which slot, its name's link in the class 'own' -/
def Fld (own : String) (idx c k n : Nat) : Prop := ∃ (C : String) (U : u_T), vwCl[c]? = some (C, U, n) ∧ c < 20 ∧ k < n ∧ (∀ w ∈ u_ws C U n, w ∈ TS) ∧ (∀ j, j < n → parseFieldDescriptor (U j).2.2.1 = some (tyC c j)) ∧ (∀ a, a < n → ∀ b, b < n → a ≠ b → (U a).2.1 ≠ (U b).2.1) ∧ Cond.fieldLink own idx (U k).1 (U k).2.1 (U k).2.2.1 ∈ TS ∧ (U k).1 = C
section HEAP
variable {M : MI} {pc : Nat} {ls st : List PV} {bg : Option (Nat × Nat)} {n : Nat} {sh : Nat → Nat × Nat} {σ : Mem} {Q : Option PV → HS → Prop} {a : Nat}
theorem T_get {idx c k nf : Nat} {v : PV} (hd : decode (miC M) pc = .ok (.getfield idx, 3)) (hf : Fld (miO M) idx c k nf) (ha : a < n) (hs : sh a = (c, nf)) (hv : ∀ E : En, rv E (tyC c k) (σ a k) = real E v) (kk : T M (pc + 3) ls (v :: st) bg (n, sh, σ) Q) : T M pc ls (vR a :: st) bg (n, sh, σ) Q := by
  intro E p l e R s m args below meth c0 Z H locs cells slots la hC hR hH hS h1 h2 hl
  obtain ⟨C, U, f1, f2, f3, f4, f5, f6, f7, f8⟩ := hf
  have hw := world_at E (n, sh, σ) ha
  rw [show cellE E (((n, sh, σ) : HS).2.1 a) (((n, sh, σ) : HS).2.2 a) = _ from cell_obj hs f2] at hw
  refine va_get (D := enD E) (cl := vwCl) (tys := tysE E) (ci := c) (v := real E v) hC.1 hC.2.1 hC.2.2.2.2.1 f4 hC.2.2.2.1 hC.2.2.2.2.2.2.2.2.1.1 hH.1 a hw f1 k f3 (hC.2.2.2.2.1 _ f7) (fun _ h9 => h9) ?_ hd (kk E p l e R s m args below meth c0 Z H locs cells slots la hC hR hH hS h1 h2 hl)
  rw [List.getElem?_map, List.getElem?_range f3, Option.map_some, hv E]
end HEAP
