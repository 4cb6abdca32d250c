def iO (N : AH) (a c : Nat) : Option Unit := match N.2 a with
  | some (.inl o) => if o.1 = c then some () else none
  | _ => none
theorem iO_ok {N : AH} {a c : Nat} {u : Unit} (h : iO N a c = some u) : ∃ fs, N.2 a = some (.inl (c, fs)) := by
  unfold iO at h
  split at h
  · rename_i o ho
    split at h
    · rename_i hc
      exact ⟨o.2, by rw [ho, ← hc]⟩
    · cases h
  · cases h
theorem ob_rc {α : Type} {N : AH} {a c : Nat} {f : Unit → Option α} {q : α} (h : ob (iO N a c) f = some q) : ∃ fs, N.2 a = some (.inl (c, fs)) := by
  cases hi : iO N a c with
  | none => rw [hi] at h; cases h
  | some u => exact iO_ok hi
theorem owp_of {α : Type} {x : Option α} {q : α} (h : x = some q) : owp x (fun z => z = q) := by rw [h]; exact rfl
theorem rZ_0 {N : AH} {P : Int32 × AH → Prop} (h : P (0, N)) : owp (rZ 0 N) P := h
theorem rZ_1 {N : AH} {P : Int32 × AH → Prop} (h : P (1, N)) : owp (rZ 1 N) P := h
section ABC
variable {p : Program} {l : Launch} {e : Env} {R : Room} {s : State} {m : MethodId} {args : Array Value} {below : List Frame} {meth : Method} {c : Code} {H : Heap} {locs : List Loc} {cells slots : Nat} {Q : State → Prop}
variable {cc : ByteArray} {own : String} {nL : Nat} {G : va_G} {aC : Nat → ClassId} {t b0 : Nat} {N N' : AH} {pc : Nat} {ls : Array Slot} {rest : List Value}
variable {y : MethodName} {bytes : ByteArray} {maxL index n : Nat} {ret : Option FieldType} {rm : Room} {r : Option Value} {As : List Value} {b : Nat}
theorem ab_callV (X : CX cc own nL G aC t b0 p s m args c) (hR : Rp G aC b0 N H) (hS : va_S (fun q => b0 ≤ q) s.heap H locs) (hM : Ct y bytes maxL ret rm (.ref b :: As) N r N') {ci k : Nat} {C : String} {T : u_T} (hb : ∃ fs, N.2 b = some (.inl (ci, fs))) (hc : cls_all[ci]? = some (C, T, k)) (w1 : Cond.methodLink own index y ∈ WT) (w2 : Cond.instanceMethod y ∈ WT) (w3 : Cond.selects C y y ∈ WT) (w4 : Cond.initialized C ∈ WT) (w5 : Cond.code y bytes maxL ret ∈ WT)
    (hd : y.cls = C ∧ y.cls ≠ "java/lang/invoke/MethodHandle" ∧ y.cls ≠ "java/lang/invoke/VarHandle" ∧ (parseMethodDescriptor y.desc).map (fun d => d.parameters.length) = some n) (hn : As.length = n) (hls : ls.size = nL) (hW : (rest.map fun v => v.category).sum ≤ 8) (hR1 : rm.frames + 1 ≤ R.frames ∧ 8 + (maxL + 11) + rm.locals ≤ R.locals) (hcs : cells + rm.cells ≤ R.cells ∧ slots + rm.slots ≤ R.slots) {st0 : List Value} (hst : st0 = As.reverse ++ .ref b :: rest) (hdg : decode cc pc = .ok (.invokevirtual index, 3))
    (kk : ∀ (H1 : Heap) (locs1 : List Loc), Rp G aC b0 N' H1 → va_S (fun q => b0 ≤ q) s.heap H1 locs1 → W p l e R s m args below meth c H1 locs1 (cells + rm.cells) (slots + rm.slots) Q (F0 m (pc + 3) ls (r.toList ++ rest))) : W p l e R s m args below meth c H locs cells slots Q (F0 m pc ls st0) := by
  subst hst
  obtain ⟨fs, hb⟩ := hb
  obtain ⟨q', h1, cell, g1, g2, g3, -⟩ := (hR.2.2 b _ hb).2
  have hG : GoodIn WT (wsV own index C y (WS y bytes maxL ret)) := by
    intro w hw
    unfold wsV at hw
    rcases List.mem_append.mp hw with h | h
    · simp only [List.mem_cons, List.not_mem_nil, or_false] at h
      rcases h with rfl | rfl | rfl | rfl
      · exact ⟨w1, WT_good _ w1⟩
      · exact ⟨w2, WT_good _ w2⟩
      · exact ⟨w3, WT_good _ w3⟩
      · exact ⟨w4, WT_good _ w4⟩
    · exact WS_good w5 w h
  refine ab_run (va_runV (As := As) (rest := rest) (g := F0 m pc ls (As.reverse ++ .ref b :: rest)) X.1 (hM l G aC t b0) (cwV n X.1.2.2.2.2 hG rfl rfl rfl hd hR1) ⟨Cpre_blind, ⟨cell, g1, by rw [g3]; rfl, by rw [g2]; exact (X.2.1.1 ci _ hc).2.1⟩, fun U hU hW => ⟨rfl, by rw [hU]; exact hR, ab_KKc X hS hU hW⟩⟩ rfl hn hls rfl (lv_room hW) hdg hcs) hS kk
theorem ab_callS (X : CX cc own nL G aC t b0 p s m args c) (hR : Rp G aC b0 N H) (hS : va_S (fun q => b0 ≤ q) s.heap H locs) (hM : Ct y bytes maxL ret rm As N r N') (w1 : Cond.methodLink own index y ∈ WT) (w2 : Cond.static y ∈ WT) (w4 : Cond.initialized y.cls ∈ WT) (w5 : Cond.code y bytes maxL ret ∈ WT)
    (hd : y.cls ≠ "java/lang/invoke/MethodHandle" ∧ y.cls ≠ "java/lang/invoke/VarHandle" ∧ (parseMethodDescriptor y.desc).map (fun d => d.parameters.length) = some n) (hn : As.length = n) (hls : ls.size = nL) (hW : (rest.map fun v => v.category).sum ≤ 8) (hR1 : rm.frames + 1 ≤ R.frames ∧ 8 + (maxL + 11) + rm.locals ≤ R.locals) (hcs : cells + rm.cells ≤ R.cells ∧ slots + rm.slots ≤ R.slots) {st0 : List Value} (hst : st0 = As.reverse ++ rest) (hdg : decode cc pc = .ok (.invokestatic index, 3))
    (kk : ∀ (H1 : Heap) (locs1 : List Loc), Rp G aC b0 N' H1 → va_S (fun q => b0 ≤ q) s.heap H1 locs1 → W p l e R s m args below meth c H1 locs1 (cells + rm.cells) (slots + rm.slots) Q (F0 m (pc + 3) ls (r.toList ++ rest))) : W p l e R s m args below meth c H locs cells slots Q (F0 m pc ls st0) := by
  subst hst
  have hG : GoodIn WT (va_wsS own index y (WS y bytes maxL ret)) := by
    intro w hw
    unfold va_wsS at hw
    rcases List.mem_append.mp hw with h | h
    · simp only [List.mem_cons, List.not_mem_nil, or_false] at h
      rcases h with rfl | rfl | rfl
      · exact ⟨w1, WT_good _ w1⟩
      · exact ⟨w2, WT_good _ w2⟩
      · exact ⟨w4, WT_good _ w4⟩
    · exact WS_good w5 w h
  exact ab_run (va_runS (As := As) (rest := rest) (g := F0 m pc ls (As.reverse ++ rest)) X.1 (hM l G aC t b0) (va_cwS n X.1.2.2.2.2 hG rfl rfl rfl hd hR1) ⟨Cpre_blind, fun U hU hW => ⟨rfl, by rw [hU]; exact hR, ab_KKc X hS hU hW⟩⟩ rfl hn hls rfl (lv_room hW) hdg hcs) hS kk
theorem ab_callSN (X : CX cc own nL G aC t b0 p s m args c) (hR : Rp G aC b0 N H) (hS : va_S (fun q => b0 ≤ q) s.heap H locs) (hM : Ct y bytes maxL ret rm As N r N') {host : String} (w1 : Cond.methodLinkNest own index y host ∈ NWs) (w2 : Cond.static y ∈ WT) (w4 : Cond.initialized y.cls ∈ WT) (w5 : Cond.code y bytes maxL ret ∈ WT)
    (hd : y.cls ≠ "java/lang/invoke/MethodHandle" ∧ y.cls ≠ "java/lang/invoke/VarHandle" ∧ (parseMethodDescriptor y.desc).map (fun d => d.parameters.length) = some n) (hn : As.length = n) (hls : ls.size = nL) (hW : (rest.map fun v => v.category).sum ≤ 8) (hR1 : rm.frames + 1 ≤ R.frames ∧ 8 + (maxL + 11) + rm.locals ≤ R.locals) (hcs : cells + rm.cells ≤ R.cells ∧ slots + rm.slots ≤ R.slots) {st0 : List Value} (hst : st0 = As.reverse ++ rest) (hdg : decode cc pc = .ok (.invokestatic index, 3))
    (kk : ∀ (H1 : Heap) (locs1 : List Loc), Rp G aC b0 N' H1 → va_S (fun q => b0 ≤ q) s.heap H1 locs1 → W p l e R s m args below meth c H1 locs1 (cells + rm.cells) (slots + rm.slots) Q (F0 m (pc + 3) ls (r.toList ++ rest))) : W p l e R s m args below meth c H locs cells slots Q (F0 m pc ls st0) := by
  subst hst
  exact ab_run (va_runSN (As := As) (rest := rest) (g := F0 m pc ls (As.reverse ++ rest)) X.1 (hM l G aC t b0) ⟨va_cnB n X.1.2.2.2.2 (WS_good w5) rfl rfl rfl (X.2.2.1 _ w1) (X.1.2.2.2.2 _ w4) hd hR1, X.1.2.2.2.2 _ w2, trivial⟩ ⟨Cpre_blind, fun U hU hW => ⟨rfl, by rw [hU]; exact hR, ab_KKc X hS hU hW⟩⟩ rfl hn hls rfl (lv_room hW) hdg hcs) hS kk
theorem ab_callI (X : CX cc own nL G aC t b0 p s m args c) (hR : Rp G aC b0 N H) (hS : va_S (fun q => b0 ≤ q) s.heap H locs) (hM : Ct y bytes maxL none rm (.ref b :: As) N r N') (w1 : Cond.methodLink own index y ∈ WT) (w2 : Cond.instanceMethod y ∈ WT) (w4 : Cond.initialized y.cls ∈ WT) (w5 : Cond.code y bytes maxL none ∈ WT) (hy1 : y.name = "<init>")
    (hd : y.cls ≠ "java/lang/invoke/MethodHandle" ∧ y.cls ≠ "java/lang/invoke/VarHandle" ∧ (parseMethodDescriptor y.desc).map (fun d => d.parameters.length) = some n) (hn : As.length = n) (hls : ls.size = nL) (hW : (rest.map fun v => v.category).sum ≤ 8) (hR1 : rm.frames + 1 ≤ R.frames ∧ 8 + (maxL + 11) + rm.locals ≤ R.locals) (hcs : cells + rm.cells ≤ R.cells ∧ slots + rm.slots ≤ R.slots) {st0 : List Value} (hst : st0 = As.reverse ++ .ref b :: rest) (hdg : decode cc pc = .ok (.invokespecial index, 3))
    (kk : ∀ (H1 : Heap) (locs1 : List Loc), Rp G aC b0 N' H1 → va_S (fun q => b0 ≤ q) s.heap H1 locs1 → W p l e R s m args below meth c H1 locs1 (cells + rm.cells) (slots + rm.slots) Q (F0 m (pc + 3) ls (r.toList ++ rest))) : W p l e R s m args below meth c H locs cells slots Q (F0 m pc ls st0) := by
  subst hst
  exact ab_run (va_runI (As := As) (rest := rest) (g := F0 m pc ls (As.reverse ++ .ref b :: rest)) X.1 (hM l G aC t b0) (cwI n X.1.2.2.2.2 (WS_good w5) rfl rfl rfl (X.1.2.2.2.2 _ w4) (X.1.2.2.2.2 _ w1) (X.1.2.2.2.2 _ w2) hy1 hd hR1) ⟨Cpre_blind, fun U hU hW => ⟨rfl, by rw [hU]; exact hR, ab_KKc X hS hU hW⟩⟩ rfl hn hls rfl (lv_room hW) hdg hcs) hS kk
theorem ab_objI (X : CX cc own nL G aC t b0 p s m args c) (w1 : Cond.methodLink own index Lib.objectInit ∈ WT) (w2 : Cond.instanceMethod Lib.objectInit ∈ WT) (w3 : Cond.code Lib.objectInit ⟨#[0xb1]⟩ 1 none ∈ WT) (hls : ls.size = nL) (hf : 1 ≤ R.frames) (hlo : (rest.map fun v => v.category).sum + 12 ≤ R.locals) (hdg : decode cc pc = .ok (.invokespecial index, 3)) (kk : W p l e R s m args below meth c H locs cells slots Q (F0 m (pc + 3) ls rest)) : W p l e R s m args below meth c H locs cells slots Q (F0 m pc ls (.ref b :: rest)) :=
  W.objInit (g := F0 m pc ls (.ref b :: rest)) X.1.1 X.1.2.1 X.1.2.2.2.1 (X.1.2.2.2.2 _ w1) (X.1.2.2.2.2 _ w2) (X.1.2.2.2.2 _ w3) rfl (by rw [X.1.2.2.1]; exact hls) rfl hdg hf (by show 2 * 0 + _ + 12 ≤ _; omega) kk
theorem ab_copy (X : CX cc own nL G aC t b0 p s m args c) (hR : Rp G aC b0 N H) (hS : va_S (fun q => b0 ≤ q) s.heap H locs) (w1 : Cond.methodLink own index arraycopyName ∈ WT) (w2 : Cond.native arraycopyName ∈ WT) (w3 : Cond.static arraycopyName ∈ WT) (w4 : Cond.initialized "java/lang/System" ∈ WT) {a0 a1 : Nat} {sp dp k : Int32} (hv : cI N a0 sp a1 dp k = some N') (hls : ls.size = nL) (hf : 1 ≤ R.frames) (hlo : (rest.map fun v => v.category).sum + (nativeFrameWords "java/lang/System" "arraycopy" 5 + 11) ≤ R.locals) (hdg : decode cc pc = .ok (.invokestatic index, 3))
    (kk : ∀ (H1 : Heap) (locs1 : List Loc), Rp G aC b0 N' H1 → va_S (fun q => b0 ≤ q) s.heap H1 locs1 → W p l e R s m args below meth c H1 locs1 cells slots Q (F0 m (pc + 3) ls rest)) : W p l e R s m args below meth c H locs cells slots Q (F0 m pc ls (.int k :: .int dp :: .ref a1 :: .int sp :: .ref a0 :: rest)) := by
  obtain ⟨n0, f, n1, g, h0, h1, g1, g2, g3, g4, g5, h3⟩ := cI_ok hv
  subst h3
  obtain ⟨⟨hexec, hb, hml, hown, hts⟩, hK, -⟩ := X
  have nn : ∀ z : Int32, ¬ z < 0 → z.toInt = (z.toNatClampNeg : Int) := by
    intro z hz
    have hz0 : (0 : Int) ≤ z.toInt := by
      have := Int32.not_lt.mp hz
      simpa using Int32.le_iff_toInt_le.mp this
    show z.toInt = ((z.toInt.toNat : Nat) : Int)
    omega
  intro T hT X
  have hc0 : H[a0]? = some (vp_cell (aC 0) (n0, .inl f)) := (hR.2.2 a0 _ h0).2
  have hc1 : H[a1]? = some (vp_cell (aC 0) (n1, .inl g)) := (hR.2.2 a1 _ h1).2
  obtain ⟨-, k0, hk0, cm0, hkk0⟩ := (hK.2 0 _ rfl).1 n0 (fun j => .int (f j))
  obtain ⟨-, k1, hk1, cm1, hkk1⟩ := (hK.2 0 _ rfl).1 n1 (fun j => .int (g j))
  obtain ⟨vm', X', step⟩ := X.arraycopy hexec hown (hts _ w1) (hts _ w2) (hts _ w3) (hts _ w4) (src := a0) (dst := a1) (cs := vp_cell (aC 0) (n0, .inl f)) (cd := vp_cell (aC 0) (n1, .inl g)) (srcPos := sp) (destPos := dp) (n := k) (by rw [hT]; exact hc0) (by rw [hT]; exact hc1)
    (fun _ h => by cases h) (fun _ h => by cases h) (fun h => by cases h) (fun h => by cases h) hk0 hk1 hkk0 hkk1 (by simp [show refKind .int = false from rfl]) g1 g2 g3
    (by rw [nn sp g1, nn k g3]; show ¬ _ > ((arrV (aC 0) n0 (fun j => .int (f j))).slots.size : Int); rw [arrV_size]; omega)
    (by rw [nn dp g2, nn k g3]; show ¬ _ > ((arrV (aC 0) n1 (fun j => .int (g j))).slots.size : Int); rw [arrV_size]; omega)
    (fun vm₁ _ i hi => by
      have e : (vp_cell (aC 0) (n0, .inl f)).slots.getD (sp.toNatClampNeg + i) .null = .int (f (sp.toNatClampNeg + i)) := by
        show (arrV (aC 0) n0 (fun j => .int (f j))).slots.getD _ _ = _
        rw [Array.getD_eq_getD_getElem?, arrV_read _ _ (by omega)]
        rfl
      refine ⟨?_, ?_⟩
      · rw [e]
        rfl
      · rw [e]
        exact trivial)
    (g := F0 m pc ls (.int k :: .int dp :: .ref a1 :: .int sp :: .ref a0 :: rest)) rfl (by rw [hml]; exact hls) (rest := rest) rfl (by rw [hb]; exact hdg) hf (by show 2 * 0 + _ + _ ≤ _; omega)
  have e1 : copied (vp_cell (aC 0) (n0, .inl f)) (vp_cell (aC 0) (n1, .inl g)) sp dp k = vp_cell (aC 0) (n1, .inl (va_cpy f g sp.toNatClampNeg dp.toNatClampNeg k.toNatClampNeg)) := va_copied (fun z => .int z) (aC 0) (aC 0) f g g4
  rw [e1] at X' step
  have hl : a1 < H.size := (Array.getElem?_eq_some_iff.mp hc1).1
  have hheap : ((T.setVm vm').setCell a1 (vp_cell (aC 0) (n1, .inl (va_cpy f g sp.toNatClampNeg dp.toNatClampNeg k.toNatClampNeg)))).heap = H.setIfInBounds a1 (vp_cell (aC 0) (n1, .inl (va_cpy f g sp.toNatClampNeg dp.toNatClampNeg k.toNatClampNeg))) := by rw [← hT]; rfl
  have oq : ∀ q : Nat, q ≠ a1 → (H.setIfInBounds a1 (vp_cell (aC 0) (n1, .inl (va_cpy f g sp.toNatClampNeg dp.toNatClampNeg k.toNatClampNeg))))[q]? = H[q]? := fun q hq => by simp [Array.getElem?_setIfInBounds, Ne.symm hq]
  obtain ⟨t2, a2, b2⟩ := kk _ _ (hR.up h1 (show (H.setIfInBounds a1 _)[a1]? = some _ by simp [Array.getElem?_setIfInBounds, hl]) (by simp) oq) ⟨by simp; exact hS.1, fun q g1 g2 => by
      rw [oq q (fun e => g2 (by rw [e]; exact (hR.2.2 a1 _ h1).1))]
      exact hS.2.1 q g1 g2, fun q hq => by
      rcases List.mem_append.mp hq with h | h
      · exact hS.2.2 q h
      · obtain ⟨z, -, hz⟩ := List.mem_map.mp h
        rw [← hz]
        exact (hR.2.2 a1 _ h1).1⟩ _ hheap X'
  exact ⟨t2, step t2 a2, b2⟩
theorem ab_idiv (X : CX cc own nL G aC t b0 p s m args c) {x z v : Int32} (hv : dV x z = some v) (hdg : decode cc pc = .ok (.idiv, 1)) (kk : W p l e R s m args below meth c H locs cells slots Q (F0 m (pc + 1) ls (.int v :: rest))) : W p l e R s m args below meth c H locs cells slots Q (F0 m pc ls (.int z :: .int x :: rest)) := by
  obtain ⟨h1, h2⟩ := dV_ok hv
  subst h2
  exact lv_idiv X.1.1 X.1.2.1 hdg h1 kk
theorem ab_irem (X : CX cc own nL G aC t b0 p s m args c) {x z v : Int32} (hv : dM x z = some v) (hdg : decode cc pc = .ok (.irem, 1)) (kk : W p l e R s m args below meth c H locs cells slots Q (F0 m (pc + 1) ls (.int v :: rest))) : W p l e R s m args below meth c H locs cells slots Q (F0 m pc ls (.int z :: .int x :: rest)) := by
  obtain ⟨h1, h2⟩ := dM_ok hv
  subst h2
  exact lv_irem X.1.1 X.1.2.1 hdg h1 kk
theorem ab_thr (X : CX cc RX1 nL G aC t b0 p s m args c) (hS : va_S (fun q => b0 ≤ q) s.heap H locs) (hdg : decode cc pc = .ok (.getstatic 45, 3)) (kk : W p l e R s m args below meth c H locs cells slots Q (F0 m (pc + 3) ls (.ref t :: rest))) : W p l e R s m args below meth c H locs cells slots Q (F0 m pc ls rest) :=
  va_getsN (ref := RX9) (host := RX9) X.1.1 X.1.2.1 X.2.2.2.2.1 hS X.1.2.2.2.1 (va_Nw.use rfl (X.2.2.1 (.fieldLinkNest RX1 45 RX9 "THRESHOLDS" "[I" RX9) (by simp [NWs]))) (fun _ h => h) hdg kk
theorem ab_tlen (X : CX cc own nL G aC t b0 p s m args c) (hS : va_S (fun q => b0 ≤ q) s.heap H locs) (hdg : decode cc pc = .ok (.arraylength, 1)) (kk : W p l e R s m args below meth c H locs cells slots Q (F0 m (pc + 1) ls (.int 4 :: rest))) : W p l e R s m args below meth c H locs cells slots Q (F0 m pc ls (.ref t :: rest)) :=
  va_tlen X.1.1 X.1.2.1 X.2.2.2.2.2 hS rfl hdg kk
theorem ab_tld (X : CX cc own nL G aC t b0 p s m args c) (hS : va_S (fun q => b0 ≤ q) s.heap H locs) {i v : Int32} (hv : xS 4 thr i = some v) (hdg : decode cc pc = .ok (.iaload, 1)) (kk : W p l e R s m args below meth c H locs cells slots Q (F0 m (pc + 1) ls (.int v :: rest))) : W p l e R s m args below meth c H locs cells slots Q (F0 m pc ls (.int i :: .ref t :: rest)) := by
  unfold xS at hv
  split at hv
  · cases hv
  · rename_i hc
    cases hv
    exact va_ti X.1.1 X.1.2.1 X.2.2.2.2.2 hS hc rfl hdg kk
theorem ab_sld (X : CX cc own nL G aC t b0 p s m args c) (hS : va_S (fun q => b0 ≤ q) s.heap H locs) {L : Nat} {xs : Nat → Int32} (hX : va_X b L xs s s.heap ∧ b < s.heap.size ∧ ¬ b0 ≤ b) {i v : Int32} (hv : xS L xs i = some v) (hdg : decode cc pc = .ok (.iaload, 1)) (kk : W p l e R s m args below meth c H locs cells slots Q (F0 m (pc + 1) ls (.int v :: rest))) : W p l e R s m args below meth c H locs cells slots Q (F0 m pc ls (.int i :: .ref b :: rest)) := by
  unfold xS at hv
  split at hv
  · cases hv
  · rename_i hc
    cases hv
    exact va_sld (A := fun q => b0 ≤ q) X.1.1 X.1.2.1 hX.1 hX.2.1 hX.2.2 hS hc hdg kk
theorem ab_slen (X : CX cc own nL G aC t b0 p s m args c) (hS : va_S (fun q => b0 ≤ q) s.heap H locs) {L : Nat} {xs : Nat → Int32} (hX : va_X b L xs s s.heap ∧ b < s.heap.size ∧ ¬ b0 ≤ b) (hdg : decode cc pc = .ok (.arraylength, 1)) (kk : W p l e R s m args below meth c H locs cells slots Q (F0 m (pc + 1) ls (.int (Int32.ofNat L) :: rest))) : W p l e R s m args below meth c H locs cells slots Q (F0 m pc ls (.ref b :: rest)) :=
  va_slen (A := fun q => b0 ≤ q) X.1.1 X.1.2.1 hX.1 hX.2.1 hX.2.2 hS hdg kk
end ABC
/-! ends -/
def RtI (p : Program) (l : Launch) (e : Env) (R : Room) (s : State) (m : MethodId) (args : Array Value) (below : List Frame) (meth : Method) (c : Code) (cells slots : Nat) (Q : State → Prop) (cc : ByteArray) (G : va_G) (aC : Nat → ClassId) (b0 : Nat) (P : Int32 × AH → Prop) : Prop :=
  ∀ (v : Int32) (N : AH) (H : Heap) (locs : List Loc) (pc : Nat) (ls : Array Slot), Rp G aC b0 N H → va_S (fun q => b0 ≤ q) s.heap H locs → decode cc pc = .ok (.ireturn, 1) → P (v, N) → W p l e R s m args below meth c H locs cells slots Q (F0 m pc ls [.int v])
def RtZ (p : Program) (l : Launch) (e : Env) (R : Room) (s : State) (m : MethodId) (args : Array Value) (below : List Frame) (meth : Method) (c : Code) (cells slots : Nat) (Q : State → Prop) (cc : ByteArray) (G : va_G) (aC : Nat → ClassId) (b0 : Nat) (P : Int32 × AH → Prop) : Prop :=
  ∀ (v : Int32) (N : AH) (H : Heap) (locs : List Loc) (pc : Nat) (ls : Array Slot), Rp G aC b0 N H → va_S (fun q => b0 ≤ q) s.heap H locs → decode cc pc = .ok (.ireturn, 1) → owp (rZ v N) P → W p l e R s m args below meth c H locs cells slots Q (F0 m pc ls [.int v])
def RtJ (p : Program) (l : Launch) (e : Env) (R : Room) (s : State) (m : MethodId) (args : Array Value) (below : List Frame) (meth : Method) (c : Code) (cells slots : Nat) (Q : State → Prop) (cc : ByteArray) (G : va_G) (aC : Nat → ClassId) (b0 : Nat) (P : Int64 × AH → Prop) : Prop :=
  ∀ (v : Int64) (N : AH) (H : Heap) (locs : List Loc) (pc : Nat) (ls : Array Slot), Rp G aC b0 N H → va_S (fun q => b0 ≤ q) s.heap H locs → decode cc pc = .ok (.lreturn, 1) → P (v, N) → W p l e R s m args below meth c H locs cells slots Q (F0 m pc ls [.long v])
def RtV (p : Program) (l : Launch) (e : Env) (R : Room) (s : State) (m : MethodId) (args : Array Value) (below : List Frame) (meth : Method) (c : Code) (cells slots : Nat) (Q : State → Prop) (cc : ByteArray) (G : va_G) (aC : Nat → ClassId) (b0 : Nat) (P : Unit × AH → Prop) : Prop :=
  ∀ (N : AH) (H : Heap) (locs : List Loc) (pc : Nat) (ls : Array Slot), Rp G aC b0 N H → va_S (fun q => b0 ≤ q) s.heap H locs → decode cc pc = .ok (.return_, 1) → P ((), N) → W p l e R s m args below meth c H locs cells slots Q (F0 m pc ls [])
section ABE
variable {p : Program} {l : Launch} {e : Env} {R : Room} {s : State} {m : MethodId} {args : Array Value} {below : List Frame} {meth : Method} {c : Code} {cells slots : Nat} {cc : ByteArray} {G : va_G} {aC : Nat → ClassId} {b0 : Nat} {N' : AH}
theorem ab_F {H : Heap} {locs : List Loc} (hS : va_S (fun q => b0 ≤ q) s.heap H locs) {t : State} (ht : t.heap = H) : va_F (fun q => b0 ≤ q) s t := ⟨by rw [ht]; exact hS.1, fun q h1 h2 => by rw [ht]; exact hS.2.1 q h1 h2⟩
theorem RtI_met {v : Int32} (hx : p.tables.exec = Jvm.exec) (hb : c.code = cc) (hr : meth.sig.returnType = some .int) (hlocks : meth.locks = false) : RtI p l e R s m args below meth c cells slots (MQ below (Cpost G aC b0 (some (.int v)) N') args s cells slots (fun q => b0 ≤ q)) cc G aC b0 (fun z => z = (v, N')) := by
  intro v1 N H locs pc ls hR hS hd hp
  cases hp
  exact W.iret hx hb hr (fun t ht hW => ⟨rfl, by rw [ht]; exact hR, ab_F hS ht⟩) hS.2.2 hd hlocks
theorem RtZ_met {v : Int32} (hx : p.tables.exec = Jvm.exec) (hb : c.code = cc) (hr : meth.sig.returnType = some .boolean) (hlocks : meth.locks = false) : RtZ p l e R s m args below meth c cells slots (MQ below (Cpost G aC b0 (some (.int v)) N') args s cells slots (fun q => b0 ≤ q)) cc G aC b0 (fun z => z = (v, N')) := by
  intro v1 N H locs pc ls hR hS hd hp
  unfold rZ at hp
  split at hp
  · rename_i h01
    cases hp
    refine W.zret hx hb hr ?_ (fun t ht hW => ⟨rfl, by rw [ht]; exact hR, ab_F hS ht⟩) hS.2.2 hd hlocks
    rcases h01 with rfl | rfl <;> rfl
  · exact hp.elim
theorem RtJ_met {v : Int64} (hx : p.tables.exec = Jvm.exec) (hb : c.code = cc) (hr : meth.sig.returnType = some .long) (hlocks : meth.locks = false) : RtJ p l e R s m args below meth c cells slots (MQ below (Cpost G aC b0 (some (.long v)) N') args s cells slots (fun q => b0 ≤ q)) cc G aC b0 (fun z => z = (v, N')) := by
  intro v1 N H locs pc ls hR hS hd hp
  cases hp
  exact W.lret hx hb hr (fun t ht hW => ⟨rfl, by rw [ht]; exact hR, ab_F hS ht⟩) hS.2.2 hd hlocks
theorem RtV_met {u : Unit} (hx : p.tables.exec = Jvm.exec) (hb : c.code = cc) (hr : meth.sig.returnType = none) (hlocks : meth.locks = false) : RtV p l e R s m args below meth c cells slots (MQ below (Cpost G aC b0 none N') args s cells slots (fun q => b0 ≤ q)) cc G aC b0 (fun z => z = (u, N')) := by
  intro N H locs pc ls hR hS hd hp
  cases hp
  exact W.vret hx hb hr (fun t ht hW => ⟨rfl, by rw [ht]; exact hR, ab_F hS ht⟩) hS.2.2 hd hlocks
end ABE
theorem ab_ofW {l : Launch} {y : MethodName} {ws ws' : List Cond} {rm : Room} {Pc : Array Value → State → Prop} {Qc : Array Value → State → Outcome → State → Prop} {mc ms : Nat} {free : Addr → Prop} {cc : ByteArray} {maxL : Nat} {ret : Option FieldType}
    (hy : plainFor y = true) (hw : ws = Cond.code y cc maxL ret :: ws')
    (body : ∀ p e s m args below meth c s₁, BodyLoose p l y (headSpec ws rm) cc maxL ret e s m args below meth c s₁ → c.maxLocals = maxL → Pc args s →
      W p l e (headSpec ws rm).room s m args below meth c s.heap [] 0 0 (MQ below Qc args s mc ms free) (entryFrame m args maxL)) : Met l y ws rm Pc Qc mc ms free := by
  refine MetFree.of_bodySF (code := cc) (maxLocals := maxL) (ret := ret) hy ?_ ?_
  · intro args s m h hn
    obtain ⟨meth, c, h1, h2, h3, h4, h5, h6, -, -⟩ := Cond.code_spec hn (atoms_spec (ws := ws) h _ (by rw [hw]; exact List.mem_cons_self))
    exact ⟨meth, c, h1, h2, h3, h4, h5, h6⟩
  · intro p e s m args below meth c s₁ B hml hP _
    have hh0 : s₁.heap = s.heap := by rw [B.state]; rfl
    obtain ⟨t, a1, o, b1, b2, b3⟩ := body p e s m args below meth c s₁ B hml hP s₁ hh0 (Stand.of_body B)
    exact ⟨t, o, a1, b1, b2, ⟨b3.1, b3.2⟩⟩
theorem ab_met {y : MethodName} {cc : ByteArray} {nL : Nat} {ret : Option FieldType} {rm : Room} {av : List Value} {N : AH} {r : Option Value} {N' : AH} {own : String} (hy : plainFor y = true) (ho : y.cls = own) (hlen : (lg_sl av).length ≤ nL)
    (body : ∀ (l : Launch) (G : va_G) (aC : Nat → ClassId) (t b0 : Nat) (p : Program) (e : Env) (s : State) (m : MethodId) (below : List Frame) (meth : Method) (c : Code) (ls : Array Slot), CX cc own nL G aC t b0 p s m av.toArray c → meth.sig.returnType = ret → meth.locks = false → meth.name = y.name → Rp G aC b0 N s.heap → va_S (fun q => b0 ≤ q) s.heap s.heap [] → lv_has ls nL (lv_args 0 av) → W p l e rm s m av.toArray below meth c s.heap [] 0 0 (MQ below (Cpost G aC b0 r N') av.toArray s rm.cells rm.slots (fun q => b0 ≤ q)) (F0 m 0 ls [])) : Ct y cc nL ret rm av N r N' := by
  intro l G aC t b0
  refine ab_ofW (cc := cc) (maxL := nL) (ret := ret) hy rfl ?_
  intro p e s m args below meth c s₁ B hml hv
  obtain ⟨rfl, hR, hK⟩ := hv
  have hown := findClass_of_methodNamed B.named
  rw [ho] at hown
  have hl := lv_entry av (n := nL) hlen
  rw [lg_entry_eq]
  exact body l G aC t b0 p e s m below meth c _ ⟨⟨B.exec, B.bytes, hml, hown, fun w hw => atoms_spec (ws := WS y cc nL ret) B.pre w (List.mem_cons_of_mem _ hw)⟩, hK⟩ B.returns B.notSynchronized (name_of_methodNamed B.named B.method).1 hR va_S.rf hl
