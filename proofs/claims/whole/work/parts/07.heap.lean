/-! the rules that touch cells -/
def up (σ : Mem) (a i : Nat) (v : Int) : Mem := fun b j => if b = a ∧ j = i then v else σ b j
theorem world_set {E : En} {n : Nat} {sh : Nat → Nat × Nat} {σ σ' : Mem} {k : Nat} (hk : k < n) (ho : ∀ b, b ≠ k → σ' b = σ b) {e : va_E} (he : e = cellE E (sh k) (σ' k)) : (world E (n, sh, σ)).set k (enB E + k, e) = world E (n, sh, σ') := by
  subst he
  apply List.ext_getElem?
  intro j
  by_cases hj : j = k
  · subst hj
    rw [List.getElem?_set_self (by simpa [world] using hk), world_at E (n, sh, σ') hk]
  · rw [List.getElem?_set_ne (fun q => hj q.symm)]
    by_cases hn : j < n
    · rw [world_at E (n, sh, σ) hn, world_at E (n, sh, σ') hn]
      show some (enB E + j, cellE E (sh j) (σ j)) = some (enB E + j, cellE E (sh j) (σ' j))
      rw [ho j hj]
    · have h1 : (world E (n, sh, σ))[j]? = none := by simpa [world] using hn
      have h2 : (world E (n, sh, σ'))[j]? = none := by simpa [world] using hn
      rw [h1, h2]
theorem up_ne {σ : Mem} {a i : Nat} {v : Int} : ∀ b, b ≠ a → up σ a i v b = σ b := fun b hb => by
  funext j
  simp [up, hb]
theorem up_eq {σ : Mem} {a i : Nat} {v : Int} (j : Nat) : up σ a i v a j = if j = i then v else σ a j := by
  simp [up]
theorem cell_int {E : En} {kd : Nat × Nat} {f : Nat → Int} {n : Nat} (h : kd = (20, n)) : cellE E kd f = .inl (enA E 20, n, .inl (fun i => Int32.ofInt (f i))) := by subst h; simp [cellE]
theorem cell_bool {E : En} {kd : Nat × Nat} {f : Nat → Int} {n : Nat} (h : kd = (22, n)) : cellE E kd f = .inl (enA E 22, n, .inl (fun i => Int32.ofInt (f i))) := by subst h; simp [cellE]
theorem cell_long {E : En} {kd : Nat × Nat} {f : Nat → Int} {n : Nat} (h : kd = (21, n)) : cellE E kd f = .inl (enA E 21, n, .inr (.inl (fun i => Int64.ofInt (f i)))) := by subst h; simp [cellE]
theorem cell_track {E : En} {kd : Nat × Nat} {f : Nat → Int} {n : Nat} (h : kd = (23, n)) : cellE E kd f = .inl (enA E 23, n, .inr (.inr (.inr (.inr (fun i => rn E (f i)))))) := by subst h; simp [cellE]
theorem cell_place {E : En} {kd : Nat × Nat} {f : Nat → Int} {n : Nat} (h : kd = (24, n)) : cellE E kd f = .inl (enA E 24, n, .inr (.inr (.inr (.inr (fun i => rn E (f i)))))) := by subst h; simp [cellE]
theorem cell_obj {E : En} {kd : Nat × Nat} {f : Nat → Int} {c n : Nat} (h : kd = (c, n)) (hc : c < 20) : cellE E kd f = .inr (c, (List.range n).map (fun j => rv E (tyC c j) (f j))) := by
  subst h
  have h1 : ¬ (c = 20 ∨ c = 22) := by omega
  have h2 : ¬ c = 21 := by omega
  have h3 : ¬ (c = 23 ∨ c = 24) := by omega
  simp [cellE, h1, h2, h3]
/-- a field of a class: which class, which slot, its name's link in the class 'own' -/
def Fld (own : String) (idx c k n : Nat) (fin : Bool) : Prop := ∃ (C : String) (U : u_T), vwCl[c]? = some (C, U, n) ∧ c < 20 ∧ k < n ∧ (∀ w ∈ u_ws C U n, w ∈ TS) ∧ (∀ j, j < n → parseFieldDescriptor (U j).2.2.1 = some (tyC c j)) ∧ (∀ a, a < n → ∀ b, b < n → a ≠ b → (U a).2.1 ≠ (U b).2.1) ∧ Cond.fieldLink own idx (U k).1 (U k).2.1 (U k).2.2.1 ∈ TS ∧ (U k).1 = C ∧ (U k).2.2.2 = fin
section HEAP
variable {M : MI} {pc : Nat} {ls st : List PV} {bg : Option (Nat × Nat)} {n : Nat} {sh : Nat → Nat × Nat} {σ : Mem} {Q : Option PV → HS → Prop} {a : Nat}
theorem T_get {idx c k nf : Nat} {fin : Bool} {v : PV} (hd : decode (miC M) pc = .ok (.getfield idx, 3)) (hf : Fld (miO M) idx c k nf fin) (ha : a < n) (hs : sh a = (c, nf)) (hv : ∀ E : En, rv E (tyC c k) (σ a k) = real E v) (kk : T M (pc + 3) ls (v :: st) bg (n, sh, σ) Q) : T M pc ls (vR a :: st) bg (n, sh, σ) Q := by
  intro E p l e R s m args below meth c0 Z H locs cells slots la hC hR hH hS h1 h2 hl
  obtain ⟨C, U, f1, f2, f3, f4, f5, f6, f7, -, -⟩ := hf
  have hw := world_at E (n, sh, σ) ha
  rw [show cellE E (((n, sh, σ) : HS).2.1 a) (((n, sh, σ) : HS).2.2 a) = _ from cell_obj hs f2] at hw
  refine va_get (D := enD E) (cl := vwCl) (tys := tysE E) (ci := c) (v := real E v) hC.1 hC.2.1 hC.2.2.2.2.1 f4 hC.2.2.2.1 hC.2.2.2.2.2.2.2.2.1.1 hH.1 a hw f1 k f3 (hC.2.2.2.2.1 _ f7) (fun _ h9 => h9) ?_ hd (kk E p l e R s m args below meth c0 Z H locs cells slots la hC hR hH hS h1 h2 hl)
  rw [List.getElem?_map, List.getElem?_range f3, Option.map_some, hv E]
theorem T_getI {idx c k nf : Nat} {fin : Bool} (hd : decode (miC M) pc = .ok (.getfield idx, 3)) (hf : Fld (miO M) idx c k nf fin) (hty : tyC c k = .int ∨ tyC c k = .boolean) (ha : a < n) (hs : sh a = (c, nf)) (kk : T M (pc + 3) ls (vI (σ a k) :: st) bg (n, sh, σ) Q) : T M pc ls (vR a :: st) bg (n, sh, σ) Q :=
  T_get hd hf ha hs (fun E => by rcases hty with q | q <;> rw [q] <;> rfl) kk
theorem T_getJ {idx c k nf : Nat} {fin : Bool} (hd : decode (miC M) pc = .ok (.getfield idx, 3)) (hf : Fld (miO M) idx c k nf fin) (hty : tyC c k = .long) (ha : a < n) (hs : sh a = (c, nf)) (kk : T M (pc + 3) ls (vL (σ a k) :: st) bg (n, sh, σ) Q) : T M pc ls (vR a :: st) bg (n, sh, σ) Q :=
  T_get hd hf ha hs (fun E => by rw [hty]; rfl) kk
def isRefT : FieldType → Bool
  | .object _ => true
  | .array _ => true
  | _ => false
theorem rv_ref {E : En} {ty : FieldType} (h : isRefT ty = true) {x : Int} {r : Nat} (hx : x = (r : Int)) : rv E ty x = real E (vR r) := by
  subst hx
  have e : va_rf (rn E (r : Int)) = real E (vR r) := by
    have h0 : ¬ (r : Int) < 0 := by omega
    simp [rn, va_rf, real, h0]
  cases ty <;> first | exact e | cases h
theorem T_getR {idx c k nf : Nat} {fin : Bool} {r : Nat} (hd : decode (miC M) pc = .ok (.getfield idx, 3)) (hf : Fld (miO M) idx c k nf fin) (hty : isRefT (tyC c k) = true) (ha : a < n) (hs : sh a = (c, nf)) (hr : σ a k = (r : Int)) (kk : T M (pc + 3) ls (vR r :: st) bg (n, sh, σ) Q) : T M pc ls (vR a :: st) bg (n, sh, σ) Q :=
  T_get hd hf ha hs (fun E => rv_ref hty hr) kk
theorem T_put {idx c k nf : Nat} {fin : Bool} {v : PV} {x : Int} (hd : decode (miC M) pc = .ok (.putfield idx, 3)) (hf : Fld (miO M) idx c k nf fin) (hfin : fin = true → miI M = true ∧ vwCl[c]?.map (·.1) = some (miO M)) (ha : a < n) (hs : sh a = (c, nf)) (hv : ∀ E : En, rv E (tyC c k) x = real E v) (hn : ∀ E : En, narrow (tyC c k) (real E v) = real E v) (hfit : ∀ E : En, fits (tyC c k) (real E v) = true) (kk : T M (pc + 3) ls st bg (n, sh, up σ a k x) Q) : T M pc ls (v :: vR a :: st) bg (n, sh, σ) Q := by
  intro E p l e R s m args below meth c0 Z H locs cells slots la hC hR hH hS h1 h2 hl
  obtain ⟨C, U, f1, f2, f3, f4, f5, f6, f7, f8, f9⟩ := hf
  have hts := hC.2.2.2.2.1
  have hown := hC.2.2.2.1
  have hK := hC.2.2.2.2.2.2.2.2.1.1
  have hw := world_at E (n, sh, σ) ha
  rw [show cellE E (((n, sh, σ) : HS).2.1 a) (((n, sh, σ) : HS).2.2 a) = _ from cell_obj hs f2] at hw
  have hap := va_apart (own := miO M) hts f4 (tyC c) f5 f6 hK f1
  obtain ⟨r, g1, cell, q1, q2, q3, q4⟩ := hH.1 a _ hw
  have hr : r = (C, U, nf) := Option.some.inj (g1.symm.trans f1)
  subst hr
  obtain ⟨hSl, hfc, kC, hkC, hkind⟩ := hK.1 c _ f1
  obtain ⟨cf, kf, fi, f, hi, hsl⟩ := hSl k f3
  have hlay := hts _ (f4 _ (u_in_lay f3))
  have hst := (u_facts hfc hkC (u_lays hts f4 f3) hi).1
  have fin' : ∀ H' : Heap, H'[enB E + a]? = some (cell.setSlot f.slot (real E v)) → H'.size = H.size → (∀ q, q ≠ enB E + a → H'[q]? = H[q]?) → W p l e R s m args below meth c0 H' (locs ++ [⟨enB E + a, f.slot⟩]) cells slots Z (F0 m (pc + 3) la (st.map (real E))) := by
    intro H' e1 e2 e3
    rw [hsl] at e1
    have hl9 : k < ((List.range nf).map (fun j => rv E (tyC c j) (σ a j))).length := by simpa using f3
    have hPn := hH.1.set (world_D E (n, sh, σ)) hw (H1 := H') (e := .inr (c, ((List.range nf).map (fun j => rv E (tyC c j) (σ a j))).set k (real E v))) ⟨_, f1, t_OB.to (V := updV (vp_V ((List.range nf).map (fun j => rv E (tyC c j) (σ a j)))) k (real E v)) ⟨_, e1, q2, q3, t_set q4 hap f3 (real E v)⟩ (fun j _ => vp_updV_set hl9 (real E v) j)⟩ e3
    rw [world_set (σ' := up σ a k x) ha up_ne (by
      rw [cell_obj hs f2]
      congr 2
      apply List.ext_getElem?
      intro j
      by_cases hj : j = k
      · subst hj
        rw [List.getElem?_set_self hl9]
        simp [f3, up_eq, hv E]
      · rw [List.getElem?_set_ne (fun q => hj q.symm)]
        by_cases hjn : j < nf
        · simp [hjn, up_eq, hj]
        · simp [hjn])] at hPn
    exact kk E p l e R s m args below meth c0 Z H' _ cells slots la hC hR ⟨hPn, fun q => by rw [e2]; exact hH.2 q⟩ (hS.put e2 e3 (Nat.le_add_right _ _)) h1 h2 hl
  cases fin with
  | false =>
    unfold u_lay at hlay
    rw [if_neg (by rw [f9]; decide)] at hlay
    exact W.putK hC.1 hC.2.1 (f := f) ⟨hown, hts _ f7, ⟨_, _, _, hi⟩, hst⟩ (by rw [q2]; exact u_store hfc hkC hkind hlay hi (f5 k f3) (hn E) (hfit E)) q1 q3 (by rw [hsl]; exact k2_hasslot (q4 k f3)) rfl rfl hd fin'
  | true =>
    obtain ⟨w1, w2⟩ := hfin rfl
    unfold u_lay at hlay
    rw [if_pos f9] at hlay
    have hco : C = miO M := by rw [f1] at w2; exact Option.some.inj w2
    have hcf : m.cls = cf := by
      obtain ⟨_, _, c', _, _, _, -, -, hf', -, -, -, hown2, -⟩ := Cond.laysFinal_spec hlay
      have e1 : c' = cf := by have := hi.symm.trans hf'; simp at this; exact this.1.symm
      rw [f8, hco] at hown2
      rw [← e1]; exact Option.some.inj (hown.symm.trans hown2)
    exact W.putFinK hC.1 hC.2.1 hown (hts _ f7) hi hst hcf (hC.2.2.2.2.2.1 w1) (by rw [q2]; exact u_fits hfc hkC hkind (Or.inr hlay) hi (f5 k f3) (hn E) (hfit E)) q1 q3 (by rw [hsl]; exact k2_hasslot (q4 k f3)) rfl rfl hd fin'
theorem T_putI {idx c k nf : Nat} {x : Int} (hd : decode (miC M) pc = .ok (.putfield idx, 3)) (hf : Fld (miO M) idx c k nf false) (hty : tyC c k = .int) (ha : a < n) (hs : sh a = (c, nf)) (kk : T M (pc + 3) ls st bg (n, sh, up σ a k x) Q) : T M pc ls (vI x :: vR a :: st) bg (n, sh, σ) Q :=
  T_put hd hf (fun q => by cases q) ha hs (fun E => by rw [hty]; rfl) (fun E => by rw [hty]; rfl) (fun E => by rw [hty]; rfl) kk
theorem T_putZ {idx c k nf : Nat} {x : Int} (hd : decode (miC M) pc = .ok (.putfield idx, 3)) (hf : Fld (miO M) idx c k nf false) (hty : tyC c k = .boolean) (hx : x = 0 ∨ x = 1) (ha : a < n) (hs : sh a = (c, nf)) (kk : T M (pc + 3) ls st bg (n, sh, up σ a k x) Q) : T M pc ls (vI x :: vR a :: st) bg (n, sh, σ) Q :=
  T_put hd hf (fun q => by cases q) ha hs (fun E => by rw [hty]; rfl) (fun E => by rw [hty]; rcases hx with rfl | rfl <;> rfl) (fun E => by rw [hty]; rcases hx with rfl | rfl <;> rfl) kk
theorem T_putJ {idx c k nf : Nat} {x : Int} (hd : decode (miC M) pc = .ok (.putfield idx, 3)) (hf : Fld (miO M) idx c k nf false) (hty : tyC c k = .long) (ha : a < n) (hs : sh a = (c, nf)) (kk : T M (pc + 3) ls st bg (n, sh, up σ a k x) Q) : T M pc ls (vL x :: vR a :: st) bg (n, sh, σ) Q :=
  T_put hd hf (fun q => by cases q) ha hs (fun E => by rw [hty]; rfl) (fun E => by rw [hty]; rfl) (fun E => by rw [hty]; rfl) kk
theorem T_putR {idx c k nf r : Nat} {fin : Bool} (hd : decode (miC M) pc = .ok (.putfield idx, 3)) (hf : Fld (miO M) idx c k nf fin) (hty : isRefT (tyC c k) = true) (hfin : fin = true → miI M = true ∧ vwCl[c]?.map (·.1) = some (miO M)) (ha : a < n) (hs : sh a = (c, nf)) (kk : T M (pc + 3) ls st bg (n, sh, up σ a k r) Q) : T M pc ls (vR r :: vR a :: st) bg (n, sh, σ) Q :=
  T_put hd hf hfin ha hs (fun E => rv_ref hty rfl) (fun E => by cases h9 : tyC c k <;> first | rfl | (rw [h9] at hty; cases hty)) (fun E => by cases h9 : tyC c k <;> first | rfl | (rw [h9] at hty; cases hty)) kk
/-! arrays -/
theorem T_iald {len : Nat} {i : Int} (hd : decode (miC M) pc = .ok (.iaload, 1)) (ha : a < n) (hs : sh a = (20, len)) (hln : len < 2147483648) (i0 : 0 ≤ i) (i1 : i < len) (kk : T M (pc + 1) ls (vI (σ a i.toNat) :: st) bg (n, sh, σ) Q) : T M pc ls (vI i :: vR a :: st) bg (n, sh, σ) Q := by
  intro E p l e R s m args below meth c Z H locs cells slots la hC hR hH hS h1 h2 hl
  have hw := world_at E (n, sh, σ) ha
  rw [show cellE E (((n, sh, σ) : HS).2.1 a) (((n, sh, σ) : HS).2.2 a) = _ from cell_int hs] at hw
  obtain ⟨x1, x2⟩ := i_ix i0 i1 hln
  refine va_iald (D := enD E) (cl := vwCl) (tys := tysE E) hC.1 hC.2.1 hC.2.2.2.2.2.2.2.2.1.1 hH.1 a 0 hw rfl x1 hd ?_
  rw [x2]
  exact kk E p l e R s m args below meth c Z H locs cells slots la hC hR hH hS h1 h2 hl
theorem T_zald {len : Nat} {i : Int} (hd : decode (miC M) pc = .ok (.baload, 1)) (ha : a < n) (hs : sh a = (22, len)) (hln : len < 2147483648) (i0 : 0 ≤ i) (i1 : i < len) (kk : T M (pc + 1) ls (vI (σ a i.toNat) :: st) bg (n, sh, σ) Q) : T M pc ls (vI i :: vR a :: st) bg (n, sh, σ) Q := by
  intro E p l e R s m args below meth c Z H locs cells slots la hC hR hH hS h1 h2 hl
  have hw := world_at E (n, sh, σ) ha
  rw [show cellE E (((n, sh, σ) : HS).2.1 a) (((n, sh, σ) : HS).2.2 a) = _ from cell_bool hs] at hw
  obtain ⟨x1, x2⟩ := i_ix i0 i1 hln
  refine va_zald (D := enD E) (cl := vwCl) (tys := tysE E) hC.1 hC.2.1 hC.2.2.2.2.2.2.2.2.1.1 hH.1 a 2 hw rfl x1 hd ?_
  rw [x2]
  exact kk E p l e R s m args below meth c Z H locs cells slots la hC hR hH hS h1 h2 hl
theorem T_lald {len : Nat} {i : Int} (hd : decode (miC M) pc = .ok (.laload, 1)) (ha : a < n) (hs : sh a = (21, len)) (hln : len < 2147483648) (i0 : 0 ≤ i) (i1 : i < len) (kk : T M (pc + 1) ls (vL (σ a i.toNat) :: st) bg (n, sh, σ) Q) : T M pc ls (vI i :: vR a :: st) bg (n, sh, σ) Q := by
  intro E p l e R s m args below meth c Z H locs cells slots la hC hR hH hS h1 h2 hl
  have hw := world_at E (n, sh, σ) ha
  rw [show cellE E (((n, sh, σ) : HS).2.1 a) (((n, sh, σ) : HS).2.2 a) = _ from cell_long hs] at hw
  obtain ⟨x1, x2⟩ := i_ix i0 i1 hln
  refine va_lald (D := enD E) (cl := vwCl) (tys := tysE E) hC.1 hC.2.1 hC.2.2.2.2.2.2.2.2.1.1 hH.1 a 1 hw rfl x1 hd ?_
  rw [x2]
  exact kk E p l e R s m args below meth c Z H locs cells slots la hC hR hH hS h1 h2 hl
theorem T_aald {len kd r : Nat} {i : Int} (hd : decode (miC M) pc = .ok (.aaload, 1)) (hk : kd = 23 ∨ kd = 24) (ha : a < n) (hs : sh a = (kd, len)) (hln : len < 2147483648) (i0 : 0 ≤ i) (i1 : i < len) (hr : σ a i.toNat = (r : Int)) (kk : T M (pc + 1) ls (vR r :: st) bg (n, sh, σ) Q) : T M pc ls (vI i :: vR a :: st) bg (n, sh, σ) Q := by
  intro E p l e R s m args below meth c Z H locs cells slots la hC hR hH hS h1 h2 hl
  have hw := world_at E (n, sh, σ) ha
  obtain ⟨x1, x2⟩ := i_ix i0 i1 hln
  have h0 : ¬ (r : Int) < 0 := by omega
  have hv : va_rf (rn E (σ a i.toNat)) = real E (vR r) := by rw [hr]; simp [rn, va_rf, real, h0]
  rcases hk with rfl | rfl
  · rw [show cellE E (((n, sh, σ) : HS).2.1 a) (((n, sh, σ) : HS).2.2 a) = _ from cell_track hs] at hw
    refine va_aldq (D := enD E) (cl := vwCl) (tys := tysE E) (C := RX8) hC.1 hC.2.1 hC.2.2.2.2.2.2.2.2.1.1 hH.1 a 3 hw rfl x1 hd ?_
    rw [x2]
    show W _ _ _ _ _ _ _ _ _ _ _ _ _ _ _ (F0 m (pc + 1) la (va_rf (rn E (σ a i.toNat)) :: _))
    rw [hv]
    exact kk E p l e R s m args below meth c Z H locs cells slots la hC hR hH hS h1 h2 hl
  · rw [show cellE E (((n, sh, σ) : HS).2.1 a) (((n, sh, σ) : HS).2.2 a) = _ from cell_place hs] at hw
    refine va_aldq (D := enD E) (cl := vwCl) (tys := tysE E) (C := RX3) hC.1 hC.2.1 hC.2.2.2.2.2.2.2.2.1.1 hH.1 a 4 hw rfl x1 hd ?_
    rw [x2]
    show W _ _ _ _ _ _ _ _ _ _ _ _ _ _ _ (F0 m (pc + 1) la (va_rf (rn E (σ a i.toNat)) :: _))
    rw [hv]
    exact kk E p l e R s m args below meth c Z H locs cells slots la hC hR hH hS h1 h2 hl
theorem T_alen {len kd : Nat} (hd : decode (miC M) pc = .ok (.arraylength, 1)) (hk : kd = 20) (ha : a < n) (hs : sh a = (kd, len)) (kk : T M (pc + 1) ls (vI len :: st) bg (n, sh, σ) Q) : T M pc ls (vR a :: st) bg (n, sh, σ) Q := by
  intro E p l e R s m args below meth c Z H locs cells slots la hC hR hH hS h1 h2 hl
  subst hk
  have hw := world_at E (n, sh, σ) ha
  rw [show cellE E (((n, sh, σ) : HS).2.1 a) (((n, sh, σ) : HS).2.2 a) = _ from cell_int hs] at hw
  exact va_alen (D := enD E) (cl := vwCl) (tys := tysE E) hC.1 hC.2.1 hC.2.2.2.2.2.2.2.2.1.1 hH.1 a 0 hw (ty := .int) rfl (v := Int32.ofInt len) rfl hd (kk E p l e R s m args below meth c Z H locs cells slots la hC hR hH hS h1 h2 hl)
theorem T_iast {len : Nat} {i x : Int} (hd : decode (miC M) pc = .ok (.iastore, 1)) (ha : a < n) (hs : sh a = (20, len)) (hln : len < 2147483648) (i0 : 0 ≤ i) (i1 : i < len) (kk : T M (pc + 1) ls st none (n, sh, up σ a i.toNat x) Q) : T M pc ls (vI x :: vI i :: vR a :: st) none (n, sh, σ) Q := by
  intro E p l e R s m args below meth c Z H locs cells slots la hC hR hH hS h1 h2 hl
  have hw := world_at E (n, sh, σ) ha
  rw [show cellE E (((n, sh, σ) : HS).2.1 a) (((n, sh, σ) : HS).2.2 a) = _ from cell_int hs] at hw
  obtain ⟨x1, x2⟩ := i_ix i0 i1 hln
  refine va_iast (D := enD E) (cl := vwCl) (tys := tysE E) (x := Int32.ofInt x) hC.1 hC.2.1 hC.2.2.2.2.2.2.2.2.1.1 hH.1 (world_D E (n, sh, σ)) hS a 0 hw rfl x1 hd fun H1 locs1 hP _ hS1 => ?_
  rw [x2, world_set (σ' := up σ a i.toNat x) ha up_ne (by
    rw [cell_int hs]
    congr 4
    funext j
    by_cases hj : j = i.toNat <;> simp [upd, up_eq, hj])] at hP
  exact kk E p l e R s m args below meth c Z H1 locs1 cells slots la hC hR ⟨hP, fun q => absurd rfl q⟩ hS1 h1 h2 hl
theorem T_zast {len : Nat} {i x : Int} (hd : decode (miC M) pc = .ok (.bastore, 1)) (hx : x = 0 ∨ x = 1) (ha : a < n) (hs : sh a = (22, len)) (hln : len < 2147483648) (i0 : 0 ≤ i) (i1 : i < len) (kk : T M (pc + 1) ls st none (n, sh, up σ a i.toNat x) Q) : T M pc ls (vI x :: vI i :: vR a :: st) none (n, sh, σ) Q := by
  intro E p l e R s m args below meth c Z H locs cells slots la hC hR hH hS h1 h2 hl
  have hw := world_at E (n, sh, σ) ha
  rw [show cellE E (((n, sh, σ) : HS).2.1 a) (((n, sh, σ) : HS).2.2 a) = _ from cell_bool hs] at hw
  obtain ⟨x1, x2⟩ := i_ix i0 i1 hln
  have hx9 : vp_nar .boolean (Int32.ofInt x) = Int32.ofInt x := by rcases hx with rfl | rfl <;> rfl
  refine va_zast (D := enD E) (cl := vwCl) (tys := tysE E) (x := Int32.ofInt x) hC.1 hC.2.1 hC.2.2.2.2.2.2.2.2.1.1 hH.1 (world_D E (n, sh, σ)) hS a 2 hw rfl x1 hd fun H1 locs1 hP _ hS1 => ?_
  rw [x2, hx9, world_set (σ' := up σ a i.toNat x) ha up_ne (by
    rw [cell_bool hs]
    congr 4
    funext j
    by_cases hj : j = i.toNat <;> simp [upd, up_eq, hj])] at hP
  exact kk E p l e R s m args below meth c Z H1 locs1 cells slots la hC hR ⟨hP, fun q => absurd rfl q⟩ hS1 h1 h2 hl
theorem T_last {len : Nat} {i x : Int} (hd : decode (miC M) pc = .ok (.lastore, 1)) (ha : a < n) (hs : sh a = (21, len)) (hln : len < 2147483648) (i0 : 0 ≤ i) (i1 : i < len) (kk : T M (pc + 1) ls st none (n, sh, up σ a i.toNat x) Q) : T M pc ls (vL x :: vI i :: vR a :: st) none (n, sh, σ) Q := by
  intro E p l e R s m args below meth c Z H locs cells slots la hC hR hH hS h1 h2 hl
  have hw := world_at E (n, sh, σ) ha
  rw [show cellE E (((n, sh, σ) : HS).2.1 a) (((n, sh, σ) : HS).2.2 a) = _ from cell_long hs] at hw
  obtain ⟨x1, x2⟩ := i_ix i0 i1 hln
  refine va_last (D := enD E) (cl := vwCl) (tys := tysE E) (x := Int64.ofInt x) hC.1 hC.2.1 hC.2.2.2.2.2.2.2.2.1.1 hH.1 (world_D E (n, sh, σ)) hS a 1 hw rfl x1 hd fun H1 locs1 hP _ hS1 => ?_
  rw [x2, world_set (σ' := up σ a i.toNat x) ha up_ne (by
    rw [cell_long hs]
    congr 5
    funext j
    by_cases hj : j = i.toNat <;> simp [vp_updL, up_eq, hj])] at hP
  exact kk E p l e R s m args below meth c Z H1 locs1 cells slots la hC hR ⟨hP, fun q => absurd rfl q⟩ hS1 h1 h2 hl
def mcpy (σ : Mem) (a b sp dp m : Nat) : Mem := fun c j => if c = b ∧ dp ≤ j ∧ j < dp + m then σ a (sp + (j - dp)) else σ c j
theorem T_copy {idx len len2 b : Nat} {sp dp m9 : Int} (hd : decode (miC M) pc = .ok (.invokestatic idx, 3)) (hw9 : Cond.methodLink (miO M) idx arraycopyName ∈ TS) (hF : 1 ≤ miF M) (hV : (st.map pcat).sum + (nativeFrameWords "java/lang/System" "arraycopy" 5 + 11) ≤ miV M) (ha : a < n) (hs : sh a = (20, len)) (hb : b < n) (hsb : sh b = (20, len2)) (hln : len < 2147483648) (hln2 : len2 < 2147483648) (s0 : 0 ≤ sp) (d0 : 0 ≤ dp) (m0 : 0 ≤ m9) (s1 : sp + m9 ≤ len) (d1 : dp + m9 ≤ len2) (kk : T M (pc + 3) ls st none (n, sh, mcpy σ a b sp.toNat dp.toNat m9.toNat) Q) : T M pc ls (vI m9 :: vI dp :: vR b :: vI sp :: vR a :: st) none (n, sh, σ) Q := by
  intro E p l e R s m args below meth c Z H locs cells slots la hC hR hH hS h1 h2 hl
  have hw := world_at E (n, sh, σ) ha
  rw [show cellE E (((n, sh, σ) : HS).2.1 a) (((n, sh, σ) : HS).2.2 a) = _ from cell_int hs] at hw
  have hwb := world_at E (n, sh, σ) hb
  rw [show cellE E (((n, sh, σ) : HS).2.1 b) (((n, sh, σ) : HS).2.2 b) = _ from cell_int hsb] at hwb
  have nn : ∀ z : Int, 0 ≤ z → z < 2147483648 → ¬ Int32.ofInt z < 0 ∧ (Int32.ofInt z).toNatClampNeg = z.toNat := by
    intro z z0 z1
    have hz : R32 z := ⟨by omega, z1⟩
    exact ⟨fun q => absurd ((i_lt hz R32_0).mp q) (by omega), by show (Int32.ofInt z).toInt.toNat = _; rw [i_to hz]⟩
  obtain ⟨a1, a2⟩ := nn sp s0 (by omega)
  obtain ⟨b1, b2⟩ := nn dp d0 (by omega)
  obtain ⟨c1, c2⟩ := nn m9 m0 (by omega)
  refine va_copyi (D := enD E) (cl := vwCl) (tys := tysE E) (ty := .int) hC.1 hC.2.1 (hC.2.2.1.trans hl.1.symm) hC.2.2.2.1 (hC.2.2.2.2.1 _ hw9) (hC.2.2.2.2.1 _ nat_System_arraycopyLj) (hC.2.2.2.2.1 _ sm_System_arraycopyLj) (hC.2.2.2.2.1 _ ini_System) hC.2.2.2.2.2.2.2.2.1.1 hH.1 (world_D E (n, sh, σ)) hS a b 0 0 hw hwb rfl rfl rfl a1 b1 c1 (by rw [a2, c2]; omega) (by rw [b2, c2]; omega) (fun _ _ => rfl) (Nat.le_trans hF hC.2.2.2.2.2.2.1) (Nat.le_trans (by rw [List.map_map]; exact Nat.le_trans (Nat.le_of_eq (by congr 2; congr 1; funext v; exact real_cat E v)) hV) hC.2.2.2.2.2.2.2.1) hd fun H1 locs1 hP _ hS1 => ?_
  rw [a2, b2, c2, world_set (σ' := mcpy σ a b sp.toNat dp.toNat m9.toNat) hb (fun x hx => by funext j; simp [mcpy, hx]) (by
    rw [cell_int hsb]
    congr 4
    funext j
    simp only [va_cpy, mcpy, true_and]
    split <;> rfl)] at hP
  exact kk E p l e R s m args below meth c Z H1 locs1 cells slots la hC hR ⟨hP, fun q => absurd rfl q⟩ hS1 h1 h2 hl
/-! the script -/
theorem T_sald {i : Int} (hd : decode (miC M) pc = .ok (.iaload, 1)) (hW : miW M = true) (hln : (miX M).1 < 2147483648) (i0 : 0 ≤ i) (i1 : i < (miX M).1) (kk : T M (pc + 1) ls (vI ((miX M).2 i.toNat) :: st) bg (n, sh, σ) Q) : T M pc ls (vI i :: vS :: st) bg (n, sh, σ) Q := by
  intro E p l e R s m args below meth c Z H locs cells slots la hC hR hH hS h1 h2 hl
  obtain ⟨x1, x2⟩ := i_ix i0 i1 hln
  obtain ⟨g1, g2, g3, g4, g5⟩ := hC.2.2.2.2.2.2.2.2.2.2 hW
  refine va_sld hC.1 hC.2.1 g1 g2 (A := fun q => enB E ≤ q) (Nat.not_le.mpr g3) hS (by rw [g4]; exact x1) hd ?_
  rw [x2, g5]
  exact kk E p l e R s m args below meth c Z H locs cells slots la hC hR hH hS h1 h2 hl
theorem T_slen (hd : decode (miC M) pc = .ok (.arraylength, 1)) (hW : miW M = true) (kk : T M (pc + 1) ls (vI ((miX M).1 : Int) :: st) bg (n, sh, σ) Q) : T M pc ls (vS :: st) bg (n, sh, σ) Q := by
  intro E p l e R s m args below meth c Z H locs cells slots la hC hR hH hS h1 h2 hl
  obtain ⟨g1, g2, g3, g4, g5⟩ := hC.2.2.2.2.2.2.2.2.2.2 hW
  refine va_slen hC.1 hC.2.1 g1 g2 (A := fun q => enB E ≤ q) (Nat.not_le.mpr g3) hS hd ?_
  rw [g4]
  exact kk E p l e R s m args below meth c Z H locs cells slots la hC hR hH hS h1 h2 hl
/-! leaving the allocating mode -/
theorem T_drop {b : Nat × Nat} {h : HS} (kk : T M pc ls st none h Q) : T M pc ls st (some b) h Q := by
  intro E p l e R s m args below meth c Z H locs cells slots la hC hR hH hS h1 h2 hl
  exact kk E p l e R s m args below meth c Z H locs cells slots la hC hR ⟨hH.1, fun q => absurd rfl q⟩ hS (by simp only [bgC] at h1 ⊢; omega) (by simp only [bgS] at h2 ⊢; omega) hl
/-! returns -/
theorem T_vret {h : HS} (hd : decode (miC M) pc = .ok (.return_, 1)) (hr : miR M = none) (hm : bg ≠ none ∨ miI M = false) (hq : Q none h) : T M pc ls [] bg h Q := by
  intro E p l e R s m args below meth c Z H locs cells slots la hC hR hH hS h1 h2 hl
  refine hR none h H locs cells slots pc la hq hH.1 (fun q => ?_) hS (by omega) (by omega) (by rw [hr]; exact hd) (by rw [hr]; trivial)
  rcases hm with hm | hm
  · exact hH.2 hm
  · rw [hm] at q; cases q
theorem T_iret {h : HS} {x : Int} (hd : decode (miC M) pc = .ok (.ireturn, 1)) (hr : miR M = some .int) (hm : miI M = false) (hq : Q (some (vI x)) h) : T M pc ls [vI x] bg h Q := by
  intro E p l e R s m args below meth c Z H locs cells slots la hC hR hH hS h1 h2 hl
  exact hR (some (vI x)) h H locs cells slots pc la hq hH.1 (fun q => by rw [hm] at q; cases q) hS (by omega) (by omega) (by rw [hr]; exact hd) (by rw [hr]; trivial)
theorem T_zret {h : HS} {x : Int} (hd : decode (miC M) pc = .ok (.ireturn, 1)) (hr : miR M = some .boolean) (hm : miI M = false) (hx : x = 0 ∨ x = 1) (hq : Q (some (vI x)) h) : T M pc ls [vI x] bg h Q := by
  intro E p l e R s m args below meth c Z H locs cells slots la hC hR hH hS h1 h2 hl
  exact hR (some (vI x)) h H locs cells slots pc la hq hH.1 (fun q => by rw [hm] at q; cases q) hS (by omega) (by omega) (by rw [hr]; exact hd) (by rw [hr]; exact hx)
theorem T_lret {h : HS} {x : Int} (hd : decode (miC M) pc = .ok (.lreturn, 1)) (hr : miR M = some .long) (hm : miI M = false) (hq : Q (some (vL x)) h) : T M pc ls [vL x] bg h Q := by
  intro E p l e R s m args below meth c Z H locs cells slots la hC hR hH hS h1 h2 hl
  exact hR (some (vL x)) h H locs cells slots pc la hq hH.1 (fun q => by rw [hm] at q; cases q) hS (by omega) (by omega) (by rw [hr]; exact hd) (by rw [hr]; trivial)
/-! the library's own methods -/
theorem rest_cat (E : En) (st : List PV) : ((st.map (real E)).map fun v => v.category).sum = (st.map pcat).sum := by
  rw [List.map_map]
  congr 2
  funext v
  exact real_cat E v
theorem T_max {h : HS} {idx : Nat} {x y : Int} (hd : decode (miC M) pc = .ok (.invokestatic idx, 3)) (hw : Cond.methodLink (miO M) idx Lib.Math.max.name ∈ TS) (hF : 1 ≤ miF M) (hV : (st.map pcat).sum + 13 ≤ miV M) (hx : R32 x) (hy : R32 y) (kk : T M (pc + 3) ls (vI (max x y) :: st) bg h Q) : T M pc ls (vI y :: vI x :: st) bg h Q := by
  intro E p l e R s m args below meth c Z H locs cells slots la hC hR hH hS h1 h2 hl
  refine va_mmax hC.1 hC.2.1 (hC.2.2.1.trans hl.1.symm) hC.2.2.2.1 (hC.2.2.2.2.1 _ hw) (hC.2.2.2.2.1 _ sm_Math_maxII) (hC.2.2.2.2.1 _ ini_Math) (hC.2.2.2.2.1 _ co_Math_maxII) (Nat.le_trans hF hC.2.2.2.2.2.2.1) (Nat.le_trans (by rw [rest_cat]; exact hV) hC.2.2.2.2.2.2.2.1) (by omega) (by omega) hd ?_
  have e9 : (if Int32.ofInt x < Int32.ofInt y then Int32.ofInt y else Int32.ofInt x) = Int32.ofInt (max x y) := by
    by_cases q : x < y
    · rw [if_pos ((i_lt hx hy).mpr q)]; congr 1; omega
    · rw [if_neg (fun z => q ((i_lt hx hy).mp z))]; congr 1; omega
  rw [e9]
  exact kk E p l e R s m args below meth c Z H locs cells slots la hC hR hH hS h1 h2 hl
theorem T_min {h : HS} {idx : Nat} {x y : Int} (hd : decode (miC M) pc = .ok (.invokestatic idx, 3)) (hw : Cond.methodLink (miO M) idx Lib.Math.min.name ∈ TS) (hF : 1 ≤ miF M) (hV : (st.map pcat).sum + 13 ≤ miV M) (hx : R32 x) (hy : R32 y) (kk : T M (pc + 3) ls (vI (min x y) :: st) bg h Q) : T M pc ls (vI y :: vI x :: st) bg h Q := by
  intro E p l e R s m args below meth c Z H locs cells slots la hC hR hH hS h1 h2 hl
  refine va_mmin hC.1 hC.2.1 (hC.2.2.1.trans hl.1.symm) hC.2.2.2.1 (hC.2.2.2.2.1 _ hw) (hC.2.2.2.2.1 _ sm_Math_minII) (hC.2.2.2.2.1 _ ini_Math) (hC.2.2.2.2.1 _ co_Math_minII) (Nat.le_trans hF hC.2.2.2.2.2.2.1) (Nat.le_trans (by rw [rest_cat]; exact hV) hC.2.2.2.2.2.2.2.1) (by omega) (by omega) hd ?_
  have e9 : (if Int32.ofInt y < Int32.ofInt x then Int32.ofInt y else Int32.ofInt x) = Int32.ofInt (min x y) := by
    by_cases q : y < x
    · rw [if_pos ((i_lt hy hx).mpr q)]; congr 1; omega
    · rw [if_neg (fun z => q ((i_lt hy hx).mp z))]; congr 1; omega
  rw [e9]
  exact kk E p l e R s m args below meth c Z H locs cells slots la hC hR hH hS h1 h2 hl
def iabs (x : Int) : Int := if 0 ≤ x then x else -x
theorem T_abs {h : HS} {idx : Nat} {x : Int} (hd : decode (miC M) pc = .ok (.invokestatic idx, 3)) (hw : Cond.methodLink (miO M) idx Lib.Math.abs.name ∈ TS) (hF : 1 ≤ miF M) (hV : (st.map pcat).sum + 13 ≤ miV M) (hx : R32 x) (kk : T M (pc + 3) ls (vI (iabs x) :: st) bg h Q) : T M pc ls (vI x :: st) bg h Q := by
  intro E p l e R s m args below meth c Z H locs cells slots la hC hR hH hS h1 h2 hl
  refine va_mabs hC.1 hC.2.1 (hC.2.2.1.trans hl.1.symm) hC.2.2.2.1 (hC.2.2.2.2.1 _ hw) (hC.2.2.2.2.1 _ sm_Math_absI) (hC.2.2.2.2.1 _ ini_Math) (hC.2.2.2.2.1 _ co_Math_absI) (Nat.le_trans hF hC.2.2.2.2.2.2.1) (Nat.le_trans (by rw [rest_cat]; omega) hC.2.2.2.2.2.2.2.1) (by omega) (by omega) hd ?_
  have e9 : (if 0 ≤ Int32.ofInt x then Int32.ofInt x else 0 - Int32.ofInt x) = Int32.ofInt (iabs x) := by
    unfold iabs
    rw [show (0 : Int32) = Int32.ofInt 0 from rfl]
    by_cases q : 0 ≤ x
    · rw [if_pos ((i_le R32_0 hx).mpr q), if_pos q]
    · rw [if_neg (fun z => q ((i_le R32_0 hx).mp z)), if_neg q]
      rw [i_sub]
      congr 1; omega
  rw [e9]
  exact kk E p l e R s m args below meth c Z H locs cells slots la hC hR hH hS h1 h2 hl
theorem T_labs {h : HS} {idx : Nat} {x : Int} (hd : decode (miC M) pc = .ok (.invokestatic idx, 3)) (hw : Cond.methodLink (miO M) idx Lib.MathLoose.abs_long.x ∈ TS) (hF : 1 ≤ miF M) (hV : (st.map pcat).sum + 13 ≤ miV M) (hx : R64 x) (kk : T M (pc + 3) ls (vL (iabs x) :: st) bg h Q) : T M pc ls (vL x :: st) bg h Q := by
  intro E p l e R s m args below meth c Z H locs cells slots la hC hR hH hS h1 h2 hl
  refine va_mabs_long hC.1 hC.2.1 (hC.2.2.1.trans hl.1.symm) hC.2.2.2.1 (hC.2.2.2.2.1 _ hw) (hC.2.2.2.2.1 _ sm_Math_absJ) (hC.2.2.2.2.1 _ ini_Math) (hC.2.2.2.2.1 _ co_Math_absJ) (Nat.le_trans hF hC.2.2.2.2.2.2.1) (Nat.le_trans (by rw [rest_cat]; omega) hC.2.2.2.2.2.2.2.1) (by omega) (by omega) hd ?_
  have e9 : (if 0 < Int64.ofInt x then Int64.ofInt x else -Int64.ofInt x) = Int64.ofInt (iabs x) := by
    unfold iabs
    rw [show (0 : Int64) = Int64.ofInt 0 from rfl]
    have z0 : R64 0 := by decide
    by_cases q : 0 < x
    · rw [if_pos ((l_lt z0 hx).mpr q), if_pos (by omega)]
    · rw [if_neg (fun z => q ((l_lt z0 hx).mp z)), l_neg]
      by_cases q2 : 0 ≤ x
      · rw [if_pos q2]; congr 1; omega
      · rw [if_neg q2]
  rw [e9]
  exact kk E p l e R s m args below meth c Z H locs cells slots la hC hR hH hS h1 h2 hl
end HEAP
