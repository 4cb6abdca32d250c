-- ===== end of PART A; then your names; then what follows =====
/-! THE CLAIM OUT OF ONE WALK OF THE LAW'S BODY. Your part is whole_start (and what it stands on); all else here is the same for every law, but numbers. -/
def R_law : String := "CoflowSimulatorLaw"
def lw_P (b : Addr) (xs : List Int32) (args : Array Value) (s : State) : Prop := args = #[.ref b] ∧ s.IntsAt b xs ∧ xs.length ≤ 2048 ∧ (Jvm.Cond.and given_1 narrow_1).before args s = true
def lw_Q (_ : Array Value) (s : State) (o : Outcome) (t : State) : Prop := o = .returned (some (.int 1)) ∧ Framed s o t [] 600000 7302250
def lw_Z (below : List Frame) (a : Array Value) (s : State) : State → Prop := fun t => ∃ o, t.status = .running ∧ Ended t below o ∧ lw_Q a s o t
/-- the law's own end, with 1 on the stack, nothing written that was there before, its room as the claim has it -/
theorem lw_ret {p : Program} {l : Launch} {e : Env} {s : State} {m : MethodId} {below : List Frame} {meth : Method} {c : Code} {b : Nat} (hx : p.tables.exec = Jvm.exec) (hb : c.code = code) (hr : meth.sig.returnType = ret) (hlocks : meth.locks = false) {pc : Nat} {H : Heap} {ls : Array Slot} (hdg : decode code pc = .ok (.ireturn, 1)) : W p l e room_1 s m #[Value.ref b] below meth c H [] 600000 7302250 (lw_Z below #[Value.ref b] s) (F0 m pc ls [.int 1]) := by
  intro T hT X
  obtain ⟨fs, hret, hrun, hended, hW, hframe⟩ := X.leave (v := some (.int 1)) (hlocks := hlocks) (fun h => by rw [hr] at h; cases h)
  have hmeth' : T.vm.method? m = some meth := X.method'
  refine ⟨T.setFrames fs, ?_, .returned (some (.int 1)), hrun, hended, rfl, ⟨_, rfl⟩, hW, hframe⟩
  jvm_step X.here [X.here.top, hx, hb, hdg, hmeth', hr, ret, narrow_b1]
  (try refine ⟨rfl, ?_⟩); (try refine ⟨rfl, ?_⟩)
  first | (intro acts; rw [hret _ acts rfl rfl rfl]) | rw [hret _ _ rfl rfl rfl]
  exact Steps.refl _
/-- what holds at the law's entry: the machine, the code, the tables' words (any of lw_tbl by 'hts w (by decide +kernel)'), the script of L ints xs at the cell b, what the Statement gives of the start (any of its parts by flat_of_before) -/
def lw_At (p : Program) (s : State) (m : MethodId) (meth : Method) (c : Code) (b L : Nat) (xs : Nat → Int32) : Prop :=
  p.tables.exec = Jvm.exec ∧ c.code = code ∧ meth.sig.returnType = ret ∧ c.maxLocals = 4 ∧ s.vm.findClass R_law = some m.cls ∧ (∀ w ∈ lw_tbl, w.before #[Value.ref b] s = true) ∧ va_X b L xs s s.heap ∧ b < s.heap.size ∧ meth.locks = false ∧ (Jvm.Cond.and given_1 narrow_1).before #[Value.ref b] s = true

theorem NWs_in : ∀ w ∈ NWs, w ∈ lw_tbl := by
  intro w hw
  simp only [NWs, List.mem_cons, List.not_mem_nil, or_false] at hw
  rcases hw with rfl | rfl | rfl | rfl | rfl | rfl | rfl
  · exact List.mem_of_getElem? (i := 460) (by decide +kernel)
  · exact List.mem_of_getElem? (i := 500) (by decide +kernel)
  · exact List.mem_of_getElem? (i := 579) (by decide +kernel)
  · exact List.mem_of_getElem? (i := 590) (by decide +kernel)
  · exact List.mem_of_getElem? (i := 638) (by decide +kernel)
  · exact List.mem_of_getElem? (i := 880) (by decide +kernel)
  · exact List.mem_of_getElem? (i := 666) (by decide +kernel)
theorem gl_cls {s : State} {args : Array Value} (hts : ∀ w ∈ lw_tbl, w.before args s = true) : ∀ k : Nat, ∃ z : ClassId × (Nat → Nat), ∀ q, cls_all[k]? = some q → u_Kn s q.1 q.2.1 q.2.2 z.1 z.2 := by
  have hw : ∀ w ∈ WT, w.before args s = true := fun w h => hts w (List.mem_filter.mp h).1
  intro k
  match k with
  | 0 =>
    obtain ⟨c, i, h⟩ := u_known (C := RX0) (T := TX0) (N := 5) (n := 5) hw inX0 (hts (.instantiable RX0 5) (List.mem_of_getElem? (i := 228) (by decide +kernel)))
    exact ⟨(c, i), fun q hq => by cases hq; exact h⟩
  | 1 =>
    obtain ⟨c, i, h⟩ := u_known (C := RX1) (T := TX1) (N := 6) (n := 6) hw inX1 (hts (.instantiable RX1 6) (List.mem_of_getElem? (i := 110) (by decide +kernel)))
    exact ⟨(c, i), fun q hq => by cases hq; exact h⟩
  | 2 =>
    obtain ⟨c, i, h⟩ := u_known (C := RX2) (T := TX2) (N := 4) (n := 4) hw inX2 (hts (.instantiable RX2 4) (List.mem_of_getElem? (i := 104) (by decide +kernel)))
    exact ⟨(c, i), fun q hq => by cases hq; exact h⟩
  | 3 =>
    obtain ⟨c, i, h⟩ := u_known (C := RX3) (T := TX3) (N := 7) (n := 7) hw inX3 (hts (.instantiable RX3 7) (List.mem_of_getElem? (i := 396) (by decide +kernel)))
    exact ⟨(c, i), fun q hq => by cases hq; exact h⟩
  | 4 =>
    obtain ⟨c, i, h⟩ := u_known (C := RX4) (T := TX4) (N := 6) (n := 6) hw inX4 (hts (.instantiable RX4 6) (List.mem_of_getElem? (i := 181) (by decide +kernel)))
    exact ⟨(c, i), fun q hq => by cases hq; exact h⟩
  | 5 =>
    obtain ⟨c, i, h⟩ := u_known (C := RX5) (T := TX5) (N := 3) (n := 3) hw inX5 (hts (.instantiable RX5 3) (List.mem_of_getElem? (i := 322) (by decide +kernel)))
    exact ⟨(c, i), fun q hq => by cases hq; exact h⟩
  | 6 =>
    obtain ⟨c, i, h⟩ := u_known (C := RX6) (T := TX6) (N := 1) (n := 1) hw inX6 (hts (.instantiable RX6 1) (List.mem_of_getElem? (i := 386) (by decide +kernel)))
    exact ⟨(c, i), fun q hq => by cases hq; exact h⟩
  | 7 =>
    obtain ⟨c, i, h⟩ := u_known (C := RX7) (T := TX7) (N := 12) (n := 12) hw inX7 (hts (.instantiable RX7 12) (List.mem_of_getElem? (i := 169) (by decide +kernel)))
    exact ⟨(c, i), fun q hq => by cases hq; exact h⟩
  | 8 =>
    obtain ⟨c, i, h⟩ := u_known (C := RX8) (T := TX8) (N := 11) (n := 11) hw inX8 (hts (.instantiable RX8 11) (List.mem_of_getElem? (i := 342) (by decide +kernel)))
    exact ⟨(c, i), fun q hq => by cases hq; exact h⟩
  | 9 =>
    obtain ⟨c, i, h⟩ := u_known (C := RX9) (T := TX9) (N := 6) (n := 6) hw inX9 (hts (.instantiable RX9 6) (List.mem_of_getElem? (i := 96) (by decide +kernel)))
    exact ⟨(c, i), fun q hq => by cases hq; exact h⟩
  | 10 =>
    obtain ⟨c, i, h⟩ := u_known (C := RX10) (T := TX10) (N := 20) (n := 20) hw inX10 (hts (.instantiable RX10 20) (List.mem_of_getElem? (i := 943) (by decide +kernel)))
    exact ⟨(c, i), fun q hq => by cases hq; exact h⟩
  | k + 11 => exact ⟨(default, fun _ => 0), fun q hq => by simp [cls_all] at hq⟩
theorem gl_arr {s : State} {args : Array Value} (hts : ∀ w ∈ lw_tbl, w.before args s = true) : ∃ aC : Nat → ClassId, ∀ (k : Nat) (q : ClassId × FieldType), (ab_tys aC)[k]? = some q → ArrOfT s q.1 q.2 ∧ va_RA s q.1 q.2 := by
  obtain ⟨c0, k0, m0, a0, b0, d0⟩ := Cond.arrayClass_spec (hts (.arrayClass .int) (List.mem_of_getElem? (i := 152) (by decide +kernel)))
  obtain ⟨c1, k1, m1, a1, b1, d1⟩ := Cond.arrayClass_spec (hts (.arrayClass .long) (List.mem_of_getElem? (i := 384) (by decide +kernel)))
  obtain ⟨m2, c2, k2, f2, g2, b2, d2, a2⟩ := Cond.arrayOver_spec (hts (.arrayOver (.object RX4)) (List.mem_of_getElem? (i := 180) (by decide +kernel)))
  obtain ⟨m3, c3, k3, f3, g3, b3, d3, a3⟩ := Cond.arrayOver_spec (hts (.arrayOver (.object RX7)) (List.mem_of_getElem? (i := 328) (by decide +kernel)))
  refine ⟨fun k => match k with
    | 0 => c0
    | 1 => c1
    | 2 => c2
    | _ => c3, ?_⟩
  intro k q hq
  match k with
  | 0 => cases hq; exact ⟨fun n z => ⟨fun k h => (by cases h), k0, b0, m0, d0⟩, a0⟩
  | 1 => cases hq; exact ⟨fun n z => ⟨fun k h => (by cases h), k1, b1, m1, d1⟩, a1⟩
  | 2 => cases hq; exact ⟨fun n z => ⟨fun k h => (by cases h), k2, b2, m2, d2⟩, ⟨k2, m2, b2, d2, f2, a2⟩⟩
  | 3 => cases hq; exact ⟨fun n z => ⟨fun k h => (by cases h), k3, b3, m3, d3⟩, ⟨k3, m3, b3, d3, f3, a3⟩⟩
  | k + 4 => simp [ab_tys] at hq
set_option maxHeartbeats 4000000 in
set_option maxRecDepth 100000 in
/-- the law out of its function over the abstract heap -/
theorem gl_start {p : Program} {e : Env} {s : State} {m : MethodId} {below : List Frame} {meth : Method} {c : Code} (l : Launch) {b L : Nat} {xs : Nat → Int32} (hpure : ∀ b0 : Nat, owp (f_L_law L xs (b0, fun _ => none)) (fun q => q.1 = 1)) (C0 : lw_At p s m meth c b L xs) : W p l e room_1 s m #[Value.ref b] below meth c s.heap [] 0 0 (lw_Z below #[Value.ref b] s) (entryFrame m ([Value.ref b] : List Value).toArray 4) := by
  obtain ⟨hx, hb, hr, hml, hown, hts, hX, hbl, hlocks, hgv⟩ := C0
  obtain ⟨aC, haC⟩ := gl_arr hts
  have hcl := gl_cls hts
  have hA : ∀ a : Nat, a < s.heap.size → ¬ s.heap.size ≤ a := fun a h => Nat.not_le.mpr h
  have hs := flat_of_before _ hgv
  obtain ⟨t, ht, hT⟩ := va_Tof (args := #[Value.ref b]) (s := s) (tm := .static "CoflowSimulator" "THRESHOLDS" "[I") (ty := .int) (N := 4) (f := fun j => .int (thr j)) (A := fun q => s.heap.size ≤ q) (by decide) (hs _ (by decide +kernel)) (va_eqt (hs (.eq (.length (.static "CoflowSimulator" "THRESHOLDS" "[I")) (.int 4)) (by decide +kernel))) (fun j hj => by
    match j, hj with
    | 0, _ => exact va_eqt (hs (.eq (.elem (.static "CoflowSimulator" "THRESHOLDS" "[I") (.int 0)) (.int 100)) (by decide +kernel))
    | 1, _ => exact va_eqt (hs (.eq (.elem (.static "CoflowSimulator" "THRESHOLDS" "[I") (.int 1)) (.int 1000)) (by decide +kernel))
    | 2, _ => exact va_eqt (hs (.eq (.elem (.static "CoflowSimulator" "THRESHOLDS" "[I") (.int 2)) (.int 10000)) (by decide +kernel))
    | 3, _ => exact va_eqt (hs (.eq (.elem (.static "CoflowSimulator" "THRESHOLDS" "[I") (.int 3)) (.int 100000)) (by decide +kernel))
    | j + 4, h => exact absurd h (by omega)) hA
  have hZ : va_Z RX9 "THRESHOLDS" "[I" (.ref t) (fun q => s.heap.size ≤ q) s s.heap := va_Zof (hts (.laysStatic RX9 "THRESHOLDS" "[I") (List.mem_of_getElem? (i := 667) (by decide +kernel))) (hts (.initialized RX9) (List.mem_of_getElem? (i := 81) (by decide +kernel))) ht hA
  have hKK : KK (fun k => (Classical.choose (hcl k)).1, fun k => (Classical.choose (hcl k)).2) aC t s.heap.size s s.heap := ⟨⟨fun k q h => Classical.choose_spec (hcl k) q h, haC⟩, fun w hw => va_Nw.of (NWs_on w hw) (hts w (NWs_in w hw)), ⟨va_AO.of (hts _ (List.mem_of_getElem? (i := 180) (by decide +kernel))), va_AO.of (hts _ (List.mem_of_getElem? (i := 328) (by decide +kernel)))⟩, hZ, hT⟩
  have X : CX cL_law RL 4 (fun k => (Classical.choose (hcl k)).1, fun k => (Classical.choose (hcl k)).2) aC t s.heap.size p s m #[Value.ref b] c := ⟨⟨hx, hb, hml, hown, fun w hw => hts w (List.mem_filter.mp hw).1⟩, hKK⟩
  have hl := lv_entry ([.ref b]) (n := 4) (Nat.le_of_ble_eq_true rfl)
  rw [lg_entry_eq]
  refine wk_L_law X ?_ ⟨hX, hbl, Nat.not_le.mpr hbl⟩ (s.heap.size, fun _ => none) s.heap [] _ ⟨rfl, Nat.le_refl _, fun a e h => by cases h⟩ va_S.rf hl (hpure s.heap.size)
  intro v N H locs pc ls hR hS hd hp
  have hv : v = 1 := by
    unfold rZ at hp
    split at hp
    · exact hp
    · exact hp.elim
  subst hv
  refine va_forget (fun q hq => hS.2.2 q hq) ?_
  refine W.widen (k := 600000) (n := 7302250) (Nat.le_of_ble_eq_true rfl) (Nat.le_of_ble_eq_true rfl) ?_
  exact lw_ret hx hb hr hlocks hd
