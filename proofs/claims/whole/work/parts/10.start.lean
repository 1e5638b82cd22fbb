/-! THE CLAIM OUT OF ONE WALK OF THE LAW'S BODY. Your part is whole_start (and what it stands on); all else here is the same for every law, but numbers. -/
def R_law : String := "MovingThingsLaw"
def lw_P (b : Addr) (xs : List Int32) (args : Array Value) (s : State) : Prop := args = #[.ref b] ∧ s.IntsAt b xs ∧ xs.length ≤ 4096 ∧ (Jvm.Cond.and given_1 narrow_1).before args s = true
def lw_Q (_ : Array Value) (s : State) (o : Outcome) (t : State) : Prop := o = .returned (some (.int 1)) ∧ Framed s o t [] 600000 7302250
def lw_Z (below : List Frame) (a : Array Value) (s : State) : State → Prop := fun t => ∃ o, t.status = .running ∧ Ended t below o ∧ lw_Q a s o t
/-- the law's own end, with 1 on the stack, nothing written that was there before, its room as the claim has it -/
theorem lw_ret {p : Program} {l : Launch} {e : Env} {s : State} {m : MethodId} {below : List Frame} {meth : Method} {c : Code} {b : Nat} (hx : p.tables.exec = Jvm.exec) (hb : c.code = code) (hr : meth.sig.returnType = ret) (hlocks : meth.locks = false) {pc : Nat} {H : Heap} {ls : Array Slot} (hdg : decode code pc = .ok (.ireturn, 1)) : W p l e room_1 s m #[Value.ref b] below meth c H [] 600000 7302250 (lw_Z below #[Value.ref b] s) (F0 m pc ls [.int 1]) := by
  intro T hT X
  obtain ⟨fs, hret, hrun, hended, hW, hframe⟩ := X.leave (v := some (.int 1)) (hlocks := hlocks) (fun h => by rw [hr] at h; cases h)
  have hmeth' : T.vm.method? m = some meth := X.method'
  refine ⟨T.setFrames fs, ?_, .returned (some (.int 1)), hrun, hended, rfl, ⟨_, rfl⟩, hW, hframe⟩
  jvm_step X.here [X.here.top, hx, hb, hdg, hmeth', hr, ret, narrow_b1]
  (try refine ⟨rfl, ?_⟩); (try refine ⟨rfl, ?_⟩)
  first | (intro acts; rw [hret _ acts rfl rfl rfl]) | rw [hret _ _ rfl rfl rfl]
  exact Steps.refl _
/-- what holds at the law's entry: the machine, the code, the tables' words (any of lw_tbl by 'hts w (by decide +kernel)'), the script of L ints xs at the cell b, what the Statement gives of the start (any of its parts by flat_of_before) -/
def lw_At (p : Program) (s : State) (m : MethodId) (meth : Method) (c : Code) (b L : Nat) (xs : Nat → Int32) : Prop :=
  p.tables.exec = Jvm.exec ∧ c.code = code ∧ meth.sig.returnType = ret ∧ c.maxLocals = 4 ∧ s.vm.findClass R_law = some m.cls ∧ (∀ w ∈ lw_tbl, w.before #[Value.ref b] s = true) ∧ va_X b L xs s s.heap ∧ b < s.heap.size ∧ meth.locks = false ∧ (Jvm.Cond.and given_1 narrow_1).before #[Value.ref b] s = true
theorem fb_rng9 (x : Int32) : R32 x.toInt := ⟨Int32.le_toInt x, Int32.toInt_lt x⟩
def mLaw (L : Nat) (xs : Nat → Int) : MI := (RL, cL_law, 4, some .boolean, false, true, 9, 352, 600000, 7302250, yL_law, (L, xs))
def hs0 : HS := (0, fun _ => (0, 0), fun _ _ => 0)
set_option maxHeartbeats 1000000 in
/-- the claim's walk out of the picture's walk -/
theorem start_of (hT : ∀ (L : Nat) (xs : Nat → Int), L ≤ 4096 → (∀ j, R32 (xs j)) → T (mLaw L xs) 0 [vS, vU, vU, vU] [] (some (600000, 7302250)) hs0 (fun r _ => r = some (vI 1))) {p : Program} {e : Env} {s : State} {m : MethodId} {below : List Frame} {meth : Method} {c : Code} (l : Launch) {b L : Nat} {xs : Nat → Int32} (hL : L ≤ 4096) (C0 : lw_At p s m meth c b L xs) : W p l e room_1 s m #[Value.ref b] below meth c s.heap [] 0 0 (lw_Z below #[Value.ref b] s) (entryFrame m ([Value.ref b] : List Value).toArray 4) := by
  obtain ⟨hx, hb, hr, hml, hown, htb, hX, hbl, hlocks, hgv⟩ := C0
  have hts : ∀ w ∈ TS, w.before #[Value.ref b] s = true := fun w hw => htb w (TS_tbl w hw)
  obtain ⟨c0, i0, k0⟩ := u_known (C := RX0) (T := TX0) (N := 1) (n := 1) hts inX0 (hts _ ist_X0)
  obtain ⟨c1, i1, k1⟩ := u_known (C := RX1) (T := TX1) (N := 1) (n := 1) hts inX1 (hts _ ist_X1)
  obtain ⟨c2, i2, k2⟩ := u_known (C := RX2) (T := TX2) (N := 15) (n := 15) hts inX2 (hts _ ist_X2)
  obtain ⟨c3, i3, k3⟩ := u_known (C := RX3) (T := TX3) (N := 4) (n := 4) hts inX3 (hts _ ist_X3)
  obtain ⟨c4, i4, k4⟩ := u_known (C := RX4) (T := TX4) (N := 4) (n := 4) hts inX4 (hts _ ist_X4)
  obtain ⟨c5, i5, k5⟩ := u_known (C := RX5) (T := TX5) (N := 3) (n := 3) hts inX5 (hts _ ist_X5)
  obtain ⟨c6, i6, k6⟩ := u_known (C := RX6) (T := TX6) (N := 3) (n := 3) hts inX6 (hts _ ist_X6)
  obtain ⟨c7, i7, k7⟩ := u_known (C := RX7) (T := TX7) (N := 3) (n := 3) hts inX7 (hts _ ist_X7)
  obtain ⟨c8, i8, k8⟩ := u_known (C := RX8) (T := TX8) (N := 5) (n := 5) hts inX8 (hts _ ist_X8)
  obtain ⟨c9, i9, k9⟩ := u_known (C := RX9) (T := TX9) (N := 14) (n := 14) hts inX9 (hts _ ist_X9)
  obtain ⟨c10, i10, k10⟩ := u_known (C := RX10) (T := TX10) (N := 32) (n := 32) hts inX10 (hts _ ist_X10)
  obtain ⟨aI, kI, pI, fI1, fI2, fI3⟩ := Cond.arrayClass_spec (hts _ ac_int)
  obtain ⟨aJ, kJ, pJ, fJ1, fJ2, fJ3⟩ := Cond.arrayClass_spec (hts _ ac_long)
  obtain ⟨aZ, kZ, pZ, fZ1, fZ2, fZ3⟩ := Cond.arrayClass_spec (hts _ ac_boolean)
  obtain ⟨pT, aT, kT, fT0, -, fT2, fT3, fT1⟩ := Cond.arrayOver_spec (htb _ ao_X8)
  obtain ⟨pP, aP, kP, fP0, -, fP2, fP3, fP1⟩ := Cond.arrayOver_spec (htb _ ao_X3)
  obtain ⟨E, hE⟩ : ∃ E : En, E = (s.heap.size, b, L, xs, (fun k => match k with | 0 => c0 | 1 => c1 | 2 => c2 | 3 => c3 | 4 => c4 | 5 => c5 | 6 => c6 | 7 => c7 | 8 => c8 | 9 => c9 | _ => c10, fun k => match k with | 0 => i0 | 1 => i1 | 2 => i2 | 3 => i3 | 4 => i4 | 5 => i5 | 6 => i6 | 7 => i7 | 8 => i8 | 9 => i9 | _ => i10), fun k => if k = 20 then aI else if k = 21 then aJ else if k = 22 then aZ else if k = 23 then aT else aP) := ⟨_, rfl⟩
  have hK : Kx E s := by
    subst hE
    refine ⟨⟨?_, ?_⟩, ⟨htb _ ao_X8, htb _ ao_X3⟩, List.forall_mem_cons.mpr ⟨va_Nw.of rfl (htb _ mn_X9_21), List.forall_mem_cons.mpr ⟨va_Nw.of rfl (htb _ mn_X9_28), List.forall_mem_cons.mpr ⟨va_Nw.of rfl (htb _ mn_X9_38), List.forall_mem_cons.mpr ⟨va_Nw.of rfl (htb _ mn_X9_45), List.forall_mem_cons.mpr ⟨va_Nw.of rfl (htb _ mn_X9_52), List.forall_mem_cons.mpr ⟨va_Nw.of rfl (htb _ mn_X9_59), List.forall_mem_cons.mpr ⟨va_Nw.of rfl (htb _ mn_X9_66), List.forall_mem_cons.mpr ⟨va_Nw.of rfl (htb _ mn_X9_85), List.forall_mem_cons.mpr ⟨va_Nw.of rfl (htb _ mn_X4_26), List.forall_mem_cons.mpr ⟨va_Nw.of rfl (htb _ mn_X1_15), fun _ h => absurd h List.not_mem_nil⟩⟩⟩⟩⟩⟩⟩⟩⟩⟩⟩
    · intro k q hq
      match k, hq with
      | 0, hq => cases hq; exact k0
      | 1, hq => cases hq; exact k1
      | 2, hq => cases hq; exact k2
      | 3, hq => cases hq; exact k3
      | 4, hq => cases hq; exact k4
      | 5, hq => cases hq; exact k5
      | 6, hq => cases hq; exact k6
      | 7, hq => cases hq; exact k7
      | 8, hq => cases hq; exact k8
      | 9, hq => cases hq; exact k9
      | 10, hq => cases hq; exact k10
      | k + 11, hq => simp [vwCl] at hq
    · intro k q hq
      have ar : ∀ (cA : ClassId) (kA : Class) (comp : ClassId) (ty : FieldType), s.vm.classes[cA]? = some kA → kA.kind = .array comp ty → ArrOfT s cA ty := fun cA kA comp ty h2 h3 n z => ⟨fun k h => (by cases h), kA, h2, comp, h3⟩
      match k, hq with
      | 0, hq => cases hq; exact ⟨ar _ _ _ _ fI2 fI3, fI1⟩
      | 1, hq => cases hq; exact ⟨ar _ _ _ _ fJ2 fJ3, fJ1⟩
      | 2, hq => cases hq; exact ⟨ar _ _ _ _ fZ2 fZ3, fZ1⟩
      | 3, hq => cases hq; exact ⟨ar _ _ _ _ fT2 fT3, kT, pT, fT2, fT3, fT0, fT1⟩
      | 4, hq => cases hq; exact ⟨ar _ _ _ _ fP2 fP3, kP, pP, fP2, fP3, fP0, fP1⟩
      | k + 5, hq => simp [tysE] at hq
  have hB : enB E = s.heap.size := by rw [hE]
  have hl := lv_entry ([.ref b]) (n := 4) (Nat.le_of_ble_eq_true rfl)
  rw [lg_entry_eq]
  generalize (lg_sl ([.ref b]) ++ List.replicate (4 - (lg_sl ([.ref b])).length) Slot.unset).toArray = la at hl ⊢
  refine hT L (fun j => (xs j).toInt) hL (fun j => fb_rng9 (xs j)) E p l e room_1 s m _ below meth c _ s.heap [] 0 0 la ⟨hx, hb, hml, hown, hts, fun q => (by cases q), Nat.le_refl _, Nat.le_refl _, hK, Nat.le_of_eq hB, fun _ => ⟨by rw [hE]; exact hX, by rw [hE]; exact hbl, by rw [hE]; exact hbl, by rw [hE]; rfl, fun j => by rw [hE]; exact (Int32.ofInt_toInt _).symm⟩⟩ ?_ ⟨fun k q hq => ?_, fun _ => hB.symm⟩ va_S.rf (Nat.le_of_eq (Nat.zero_add _)) (Nat.le_of_eq (Nat.zero_add _)) (lv_mono hl fun q hq => ?_)
  · intro r h H locs cells slots pc la' hq hP _ hS hc hs hd hok
    subst hq
    refine va_forget (fun q hq => by rw [← hB]; exact hS.2.2 q hq) ?_
    refine W.widen (k := 600000) (n := 7302250) hc hs ?_
    exact lw_ret hx hb hr hlocks hd
  · exact absurd hq (by simp [world, hs0])
  · have hq : q ∈ [(0, real E vS)] := hq
    rw [List.mem_singleton.mp hq, hE]
    exact List.mem_cons_self
