/-! BASE: a picture of the machine in whole numbers: values, cells by small numbers, one judgement T (a method's frame comes to its end with Q), one contract Con -/
abbrev PV : Type := Int ⊕ (Int ⊕ (Nat ⊕ Bool))
abbrev vI (x : Int) : PV := .inl x
abbrev vL (x : Int) : PV := .inr (.inl x)
abbrev vR (k : Nat) : PV := .inr (.inr (.inl k))
abbrev vU : PV := .inr (.inr (.inr false))
abbrev vS : PV := .inr (.inr (.inr true))
abbrev Mem : Type := Nat → Nat → Int
abbrev HS : Type := Nat × (Nat → Nat × Nat) × Mem
/-- where the cells begin; the script's cell, length, ints; the classes; the array classes -/
abbrev En : Type := Nat × Nat × Nat × (Nat → Int32) × va_G × (Nat → ClassId)
abbrev enB (E : En) : Nat := E.1
abbrev enS (E : En) : Nat := E.2.1
abbrev enL (E : En) : Nat := E.2.2.1
abbrev enX (E : En) : Nat → Int32 := E.2.2.2.1
abbrev enD (E : En) : va_G := E.2.2.2.2.1
abbrev enA (E : En) : Nat → ClassId := E.2.2.2.2.2
/-- own class, code, locals, what it returns, a constructor, the law, frames, words, cells, slots, name, the script -/
abbrev MI : Type := String × ByteArray × Nat × Option FieldType × Bool × Bool × Nat × Nat × Nat × Nat × MethodName × (Nat × (Nat → Int))
abbrev miO (M : MI) : String := M.1
abbrev miC (M : MI) : ByteArray := M.2.1
abbrev miL (M : MI) : Nat := M.2.2.1
abbrev miR (M : MI) : Option FieldType := M.2.2.2.1
abbrev miI (M : MI) : Bool := M.2.2.2.2.1
abbrev miW (M : MI) : Bool := M.2.2.2.2.2.1
abbrev miF (M : MI) : Nat := M.2.2.2.2.2.2.1
abbrev miV (M : MI) : Nat := M.2.2.2.2.2.2.2.1
abbrev miK (M : MI) : Nat := M.2.2.2.2.2.2.2.2.1
abbrev miM (M : MI) : Nat := M.2.2.2.2.2.2.2.2.2.1
abbrev miY (M : MI) : MethodName := M.2.2.2.2.2.2.2.2.2.2.1
abbrev miX (M : MI) : Nat × (Nat → Int) := M.2.2.2.2.2.2.2.2.2.2.2
def real (E : En) : PV → Value
  | .inl x => .int (Int32.ofInt x)
  | .inr (.inl x) => .long (Int64.ofInt x)
  | .inr (.inr (.inl k)) => .ref (enB E + k)
  | .inr (.inr (.inr _)) => .ref (enS E)
theorem real_I (E : En) (x : Int) : real E (.inl x) = .int (Int32.ofInt x) := rfl
theorem real_L (E : En) (x : Int) : real E (.inr (.inl x)) = .long (Int64.ofInt x) := rfl
theorem real_R (E : En) (k : Nat) : real E (.inr (.inr (.inl k))) = .ref (enB E + k) := rfl
theorem real_S (E : En) (b : Bool) : real E (.inr (.inr (.inr b))) = .ref (enS E) := rfl
def pcat : PV → Nat
  | .inr (.inl _) => 2
  | _ => 1
theorem real_cat (E : En) (v : PV) : (real E v).category = pcat v := by
  rcases v with x | x | x | x <;> rfl
def rn (E : En) (x : Int) : Option Nat := if x < 0 then none else some (enB E + x.toNat)
def rv (E : En) (ty : FieldType) (x : Int) : Value := match ty with
  | .long => .long (Int64.ofInt x)
  | .object _ => va_rf (rn E x)
  | .array _ => va_rf (rn E x)
  | _ => .int (Int32.ofInt x)
def tyC (c : Nat) : Nat → FieldType := match c with
  | 0 => tyX0
  | 1 => tyX1
  | 2 => tyX2
  | 3 => tyX3
  | 4 => tyX4
  | 5 => tyX5
  | 6 => tyX6
  | 7 => tyX7
  | 8 => tyX8
  | 9 => tyX9
  | _ => tyX10
def cellE (E : En) (kd : Nat × Nat) (f : Nat → Int) : va_E :=
  if kd.1 = 20 ∨ kd.1 = 22 then .inl (enA E kd.1, kd.2, .inl (fun i => Int32.ofInt (f i)))
  else if kd.1 = 21 then .inl (enA E kd.1, kd.2, .inr (.inl (fun i => Int64.ofInt (f i))))
  else if kd.1 = 23 ∨ kd.1 = 24 then .inl (enA E kd.1, kd.2, .inr (.inr (.inr (.inr (fun i => rn E (f i))))))
  else .inr (kd.1, (List.range kd.2).map (fun j => rv E (tyC kd.1 j) (f j)))
def world (E : En) (h : HS) : va_W := (List.range h.1).map (fun k => (enB E + k, cellE E (h.2.1 k) (h.2.2 k)))
theorem world_at (E : En) (h : HS) {k : Nat} (hk : k < h.1) : (world E h)[k]? = some (enB E + k, cellE E (h.2.1 k) (h.2.2 k)) := by
  simp [world, hk]
theorem world_inv {E : En} {h : HS} {k : Nat} {q : Nat × va_E} (hq : (world E h)[k]? = some q) : k < h.1 ∧ q = (enB E + k, cellE E (h.2.1 k) (h.2.2 k)) := by
  have hk : k < h.1 := by
    have := (List.getElem?_eq_some_iff.mp hq).1
    simpa [world] using this
  exact ⟨hk, by rw [world_at E h hk] at hq; exact (Option.some.inj hq).symm⟩
theorem world_D (E : En) (h : HS) : va_D (fun q => enB E ≤ q) (world E h) := by
  refine ⟨fun i j p q hi hj e => ?_, fun k q hk => ?_⟩
  · obtain ⟨-, rfl⟩ := world_inv hi
    obtain ⟨-, rfl⟩ := world_inv hj
    have e : enB E + i = enB E + j := e
    omega
  · obtain ⟨-, rfl⟩ := world_inv hk
    exact Nat.le_add_right _ _
def tysE (E : En) : List (ClassId × FieldType) := [(enA E 20, .int), (enA E 21, .long), (enA E 22, .boolean), (enA E 23, .object RX8), (enA E 24, .object RX3)]
def nestW : List (String × Nat × MethodName) := [(RX9, 21, yX3_init), (RX9, 28, yX6_init), (RX9, 38, yX5_init), (RX9, 45, yX4_init), (RX9, 52, yX2_init), (RX9, 59, yX7_init), (RX9, 66, yX1_init), (RX9, 85, yX8_init), (RX4, 26, yX9_isWithin), (RX1, 15, yX9_isWithin)]
def Kx (E : En) (U : State) : Prop := va_K (enD E) vwCl (tysE E) U ∧ (va_AO RX8 U ∧ va_AO RX3 U) ∧ ∀ q ∈ nestW, va_Nw (.methodLinkNest q.1 q.2.1 q.2.2 RX9) U
theorem Kx.moved {E : En} {s U : State} (hW : s.WarmedH U.vm) (h : Kx E s) : Kx E U := ⟨h.1.moved hW.alike, ⟨h.2.1.1.moved hW.alike, h.2.1.2.moved hW.alike⟩, fun q hq => va_Nw.warmM hW (h.2.2 q hq)⟩
theorem Kx.same {E : En} {s U : State} (hW : s.vm = U.vm) (h : Kx E s) : Kx E U := ⟨h.1.moved (by rw [hW]; exact Vm.Alike.refl _), ⟨h.2.1.1.moved (by rw [hW]; exact Vm.Alike.refl _), h.2.1.2.moved (by rw [hW]; exact Vm.Alike.refl _)⟩, fun q hq => va_Nw.same rfl hW (h.2.2 q hq)⟩
def Cx (M : MI) (E : En) (p : Program) (R : Room) (s : State) (m : MethodId) (args : Array Value) (meth : Method) (c : Code) : Prop :=
  p.tables.exec = Jvm.exec ∧ c.code = miC M ∧ c.maxLocals = miL M ∧ s.vm.findClass (miO M) = some m.cls ∧ (∀ w ∈ TS, w.before args s = true) ∧ (miI M = true → meth.name = "<init>") ∧ miF M ≤ R.frames ∧ miV M ≤ R.locals ∧ Kx E s ∧ enB E ≤ s.heap.size ∧ (miW M = true → va_X (enS E) (enL E) (enX E) s s.heap ∧ enS E < s.heap.size ∧ enS E < enB E ∧ enL E = (miX M).1 ∧ ∀ j, enX E j = Int32.ofInt ((miX M).2 j))
def Hp (E : En) (bg : Option (Nat × Nat)) (h : HS) (H : Heap) : Prop := va_P (enD E) vwCl (world E h) H ∧ (bg ≠ none → H.size = enB E + h.1)
def retI : Option FieldType → Jvm.ClassFile.Instr
  | none => .return_
  | some .long => .lreturn
  | some _ => .ireturn
def retOK : Option FieldType → Option PV → Prop
  | none, none => True
  | some .int, some (.inl _) => True
  | some .boolean, some (.inl x) => x = 0 ∨ x = 1
  | some .long, some (.inr (.inl _)) => True
  | _, _ => False
def Rt (M : MI) (E : En) (p : Program) (l : Launch) (e : Env) (R : Room) (s : State) (m : MethodId) (args : Array Value) (below : List Frame) (meth : Method) (c : Code) (Z : State → Prop) (Q : Option PV → HS → Prop) : Prop :=
  ∀ (r : Option PV) (h : HS) (H : Heap) (locs : List Loc) (cells slots pc : Nat) (la : Array Slot), Q r h → va_P (enD E) vwCl (world E h) H → (miI M = true → H.size = enB E + h.1) → va_S (fun q => enB E ≤ q) s.heap H locs → cells ≤ R.cells → slots ≤ R.slots → decode (miC M) pc = .ok (retI (miR M), 1) → retOK (miR M) r →
    W p l e R s m args below meth c H locs cells slots Z (F0 m pc la (r.toList.map (real E)))
/-- the locals that are held: all but the unset ones -/
def lvl (E : En) (i : Nat) : List PV → List (Nat × Value)
  | [] => []
  | .inr (.inr (.inr false)) :: ls => lvl E (i + 1) ls
  | v :: ls => (i, real E v) :: lvl E (i + 1) ls
def bgC (bg : Option (Nat × Nat)) : Nat := match bg with
  | none => 0
  | some b => b.1
def bgS (bg : Option (Nat × Nat)) : Nat := match bg with
  | none => 0
  | some b => b.2
def T (M : MI) (pc : Nat) (ls st : List PV) (bg : Option (Nat × Nat)) (h : HS) (Q : Option PV → HS → Prop) : Prop :=
  ∀ (E : En) (p : Program) (l : Launch) (e : Env) (R : Room) (s : State) (m : MethodId) (args : Array Value) (below : List Frame) (meth : Method) (c : Code) (Z : State → Prop) (H : Heap) (locs : List Loc) (cells slots : Nat) (la : Array Slot),
    Cx M E p R s m args meth c → Rt M E p l e R s m args below meth c Z Q → Hp E bg h H → va_S (fun q => enB E ≤ q) s.heap H locs → cells + bgC bg ≤ R.cells → slots + bgS bg ≤ R.slots → lv_has la (miL M) (lvl E 0 ls) →
    W p l e R s m args below meth c H locs cells slots Z (F0 m pc la (st.map (real E)))
def wsY (M : MI) : List Cond := Cond.code (miY M) (miC M) (miL M) (miR M) :: TS
def rmY (M : MI) : Room := { frames := miF M, cells := miK M, slots := miM M, locals := miV M }
def RelS (M : MI) (E : En) (h : HS) (U : State) : Prop := va_P (enD E) vwCl (world E h) U.heap ∧ enB E ≤ U.heap.size ∧ (miI M = true → U.heap.size = enB E + h.1)
def PcY (M : MI) (E : En) (as : List PV) (h : HS) : Array Value → State → Prop := va_Pc (as.map (real E)) (fun U => RelS M E h U ∧ Kx E U)
def QcY (M : MI) (E : En) (Q : Option PV → HS → Prop) : Array Value → State → Outcome → State → Prop := fun _ st oc t => ∃ (r : Option PV) (h : HS), Q r h ∧ oc = .returned (r.map (real E)) ∧ RelS M E h t ∧ va_F (fun q => enB E ≤ q) st t
/-- the contract of a method at these arguments and cells -/
def Con (M : MI) (as : List PV) (h : HS) (Q : Option PV → HS → Prop) : Prop :=
  ∀ (l : Launch) (E : En), Met l (miY M) (wsY M) (rmY M) (PcY M E as h) (QcY M E Q) (miK M) (miM M) (fun q => enB E ≤ q)
/-! numbers -/
abbrev R32 (x : Int) : Prop := -2147483648 ≤ x ∧ x < 2147483648
abbrev R64 (x : Int) : Prop := -9223372036854775808 ≤ x ∧ x < 9223372036854775808
theorem i_add (a b : Int) : Int32.ofInt a + Int32.ofInt b = Int32.ofInt (a + b) := (Int32.ofInt_add a b).symm
theorem i_sub (a b : Int) : Int32.ofInt a - Int32.ofInt b = Int32.ofInt (a - b) := (Int32.ofInt_sub a b).symm
theorem i_mul (a b : Int) : Int32.ofInt a * Int32.ofInt b = Int32.ofInt (a * b) := (Int32.ofInt_mul a b).symm
theorem i_neg (a : Int) : -Int32.ofInt a = Int32.ofInt (-a) := (Int32.ofInt_neg a).symm
theorem l_add (a b : Int) : Int64.ofInt a + Int64.ofInt b = Int64.ofInt (a + b) := (Int64.ofInt_add a b).symm
theorem l_sub (a b : Int) : Int64.ofInt a - Int64.ofInt b = Int64.ofInt (a - b) := (Int64.ofInt_sub a b).symm
theorem l_mul (a b : Int) : Int64.ofInt a * Int64.ofInt b = Int64.ofInt (a * b) := (Int64.ofInt_mul a b).symm
theorem l_neg (a : Int) : -Int64.ofInt a = Int64.ofInt (-a) := (Int64.ofInt_neg a).symm
theorem i_to {x : Int} (h : R32 x) : (Int32.ofInt x).toInt = x := Int32.toInt_ofInt_of_le h.1 h.2
theorem l_to {x : Int} (h : R64 x) : (Int64.ofInt x).toInt = x := Int64.toInt_ofInt_of_le h.1 h.2
theorem i_lt {a b : Int} (ha : R32 a) (hb : R32 b) : Int32.ofInt a < Int32.ofInt b ↔ a < b := by rw [Int32.lt_iff_toInt_lt, i_to ha, i_to hb]
theorem i_le {a b : Int} (ha : R32 a) (hb : R32 b) : Int32.ofInt a ≤ Int32.ofInt b ↔ a ≤ b := by rw [Int32.le_iff_toInt_le, i_to ha, i_to hb]
theorem i_eq {a b : Int} (ha : R32 a) (hb : R32 b) : Int32.ofInt a = Int32.ofInt b ↔ a = b := ⟨fun h => by rw [← i_to ha, ← i_to hb, h], fun h => by rw [h]⟩
theorem l_lt {a b : Int} (ha : R64 a) (hb : R64 b) : Int64.ofInt a < Int64.ofInt b ↔ a < b := by rw [Int64.lt_iff_toInt_lt, l_to ha, l_to hb]
theorem l_le {a b : Int} (ha : R64 a) (hb : R64 b) : Int64.ofInt a ≤ Int64.ofInt b ↔ a ≤ b := by rw [Int64.le_iff_toInt_le, l_to ha, l_to hb]
theorem l_eq {a b : Int} (ha : R64 a) (hb : R64 b) : Int64.ofInt a = Int64.ofInt b ↔ a = b := ⟨fun h => by rw [← l_to ha, ← l_to hb, h], fun h => by rw [h]⟩
theorem R32_0 : R32 0 := ⟨by decide, by decide⟩
theorem i_div {a b : Int} (ha : R32 a) (hb : R32 b) : Int32.ofInt a / Int32.ofInt b = Int32.ofInt (a.tdiv b) := by
  rw [← Int32.toInt_inj, Int32.toInt_div, i_to ha, i_to hb, Int32.toInt_ofInt]
theorem l_div {a b : Int} (ha : R64 a) (hb : R64 b) : Int64.ofInt a / Int64.ofInt b = Int64.ofInt (a.tdiv b) := by
  rw [← Int64.toInt_inj, Int64.toInt_div, l_to ha, l_to hb, Int64.toInt_ofInt]
theorem i_rem {a b : Int} (ha : R32 a) (hb : R32 b) : Int32.ofInt a - Int32.ofInt a / Int32.ofInt b * Int32.ofInt b = Int32.ofInt (a.tmod b) := by
  rw [i_div ha hb, i_mul, i_sub, Int.tmod_def, Int.mul_comm]
theorem l_rem {a b : Int} (ha : R64 a) (hb : R64 b) : Int64.ofInt a - Int64.ofInt a / Int64.ofInt b * Int64.ofInt b = Int64.ofInt (a.tmod b) := by
  rw [l_div ha hb, l_mul, l_sub, Int.tmod_def, Int.mul_comm]
theorem i_i2l {a : Int} (ha : R32 a) : (Int32.ofInt a).toInt64 = Int64.ofInt a := by
  rw [← Int64.toInt_inj, Int32.toInt_toInt64, i_to ha, l_to ⟨by have := ha.1; omega, by have := ha.2; omega⟩]
theorem i_l2i (a : Int) : (Int64.ofInt a).toInt32 = Int32.ofInt a := Int64.toInt32_ofInt
theorem i_ix {i : Int} {n : Nat} (h0 : 0 ≤ i) (h1 : i < n) (hn : n < 2147483648) : vp_in (Int32.ofInt i) n ∧ (Int32.ofInt i).toNatClampNeg = i.toNat := by
  have hr : R32 i := ⟨by omega, by omega⟩
  exact ⟨vp_in_iff.mpr (by rw [i_to hr]; exact ⟨h0, h1⟩), by show (Int32.ofInt i).toInt.toNat = _; rw [i_to hr]⟩
theorem i_and31 {x : Int} (h : R32 x) : Int32.ofInt x &&& 31 = Int32.ofInt (x % 32) := by
  rw [pk_and (Int32.ofInt x) (m := 31) 5 (by decide)]
  have e1 : (Int32.ofInt x).toBitVec.toNat = (x % 4294967296).toNat := by
    show (BitVec.ofInt 32 x).toNat = _
    rw [BitVec.toNat_ofInt]
    rfl
  rw [e1]
  have e2 : (((x % 4294967296).toNat % 2 ^ 5 : Nat) : Int) = x % 32 := by
    have : (0 : Int) ≤ x % 4294967296 := by omega
    omega
  show Int32.ofNat _ = _
  rw [← e2]
  rfl
