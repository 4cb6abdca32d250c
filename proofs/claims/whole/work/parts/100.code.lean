def FU : Nat := 4096
theorem w_objI : Cond.instanceMethod Lib.objectInit ∈ WT := WT_of 101 (by decide +kernel) (by decide +kernel)
theorem w_objC : Cond.code Lib.objectInit ⟨#[0xb1]⟩ 1 none ∈ WT := WT_of 102 (by decide +kernel) (by decide +kernel)
theorem w_acN : Cond.native arraycopyName ∈ WT := WT_of 521 (by decide +kernel) (by decide +kernel)
theorem w_acS : Cond.static arraycopyName ∈ WT := WT_of 520 (by decide +kernel) (by decide +kernel)
theorem w_acI : Cond.initialized "java/lang/System" ∈ WT := WT_of 93 (by decide +kernel) (by decide +kernel)
-- X0_init
theorem pf_X0_9 {p : Program} {l : Launch} {e : Env} {R : Room} {s : State} {m : MethodId} {args : Array Value} {below : List Frame} {meth : Method} {c : Code} {H : Heap} {locs : List Loc} {cells slots : Nat} {Q : State → Prop} {cc : ByteArray} {nL : Nat} {G : va_G} {aC : Nat → ClassId} {t b0 : Nat} {N : AH} {pc : Nat} {ls : Array Slot} {rest : List Value} {N1 : AH} {a : Nat} {v : Nat} (X : CX cc RX0 nL G aC t b0 p s m args c) (hR0 : Rp G aC b0 N H) (hS : va_S (fun q => b0 ≤ q) s.heap H locs) (hmn : meth.name = "<init>") (hv : pR N a 0 2 v = some N1) (hdg : decode cc pc = .ok (.putfield 9, 3)) (kk : ∀ (H1 : Heap) (locs1 : List Loc), Rp G aC b0 N1 H1 → va_S (fun q => b0 ≤ q) s.heap H1 locs1 → W p l e R s m args below meth c H1 locs1 cells slots Q (F0 m (pc + 3) ls rest)) : W p l e R s m args below meth c H locs cells slots Q (F0 m pc ls (.ref v :: .ref a :: rest)) := by
  obtain ⟨fs, h1, h2, h3⟩ := pV_ok hv
  subst h3
  exact ab_putF (C := RX0) (T := TX0) (n := 5) X hR0 hS hmn h1 h2 rfl inX0 tyX0 tyX0_ok nmX0 (by decide) (WT_of 236 (by decide +kernel) (by decide +kernel)) rfl rfl rfl rfl hdg kk
theorem pf_X0_15 {p : Program} {l : Launch} {e : Env} {R : Room} {s : State} {m : MethodId} {args : Array Value} {below : List Frame} {meth : Method} {c : Code} {H : Heap} {locs : List Loc} {cells slots : Nat} {Q : State → Prop} {cc : ByteArray} {nL : Nat} {G : va_G} {aC : Nat → ClassId} {t b0 : Nat} {N : AH} {pc : Nat} {ls : Array Slot} {rest : List Value} {N1 : AH} {a : Nat} {v : Nat} (X : CX cc RX0 nL G aC t b0 p s m args c) (hR0 : Rp G aC b0 N H) (hS : va_S (fun q => b0 ≤ q) s.heap H locs) (hmn : meth.name = "<init>") (hv : pR N a 0 3 v = some N1) (hdg : decode cc pc = .ok (.putfield 15, 3)) (kk : ∀ (H1 : Heap) (locs1 : List Loc), Rp G aC b0 N1 H1 → va_S (fun q => b0 ≤ q) s.heap H1 locs1 → W p l e R s m args below meth c H1 locs1 cells slots Q (F0 m (pc + 3) ls rest)) : W p l e R s m args below meth c H locs cells slots Q (F0 m pc ls (.ref v :: .ref a :: rest)) := by
  obtain ⟨fs, h1, h2, h3⟩ := pV_ok hv
  subst h3
  exact ab_putF (C := RX0) (T := TX0) (n := 5) X hR0 hS hmn h1 h2 rfl inX0 tyX0 tyX0_ok nmX0 (by decide) (WT_of 238 (by decide +kernel) (by decide +kernel)) rfl rfl rfl rfl hdg kk
theorem pf_X0_18 {p : Program} {l : Launch} {e : Env} {R : Room} {s : State} {m : MethodId} {args : Array Value} {below : List Frame} {meth : Method} {c : Code} {H : Heap} {locs : List Loc} {cells slots : Nat} {Q : State → Prop} {cc : ByteArray} {nL : Nat} {G : va_G} {aC : Nat → ClassId} {t b0 : Nat} {N : AH} {pc : Nat} {ls : Array Slot} {rest : List Value} {N1 : AH} {a : Nat} {v : Nat} (X : CX cc RX0 nL G aC t b0 p s m args c) (hR0 : Rp G aC b0 N H) (hS : va_S (fun q => b0 ≤ q) s.heap H locs) (hmn : meth.name = "<init>") (hv : pR N a 0 4 v = some N1) (hdg : decode cc pc = .ok (.putfield 18, 3)) (kk : ∀ (H1 : Heap) (locs1 : List Loc), Rp G aC b0 N1 H1 → va_S (fun q => b0 ≤ q) s.heap H1 locs1 → W p l e R s m args below meth c H1 locs1 cells slots Q (F0 m (pc + 3) ls rest)) : W p l e R s m args below meth c H locs cells slots Q (F0 m pc ls (.ref v :: .ref a :: rest)) := by
  obtain ⟨fs, h1, h2, h3⟩ := pV_ok hv
  subst h3
  exact ab_putF (C := RX0) (T := TX0) (n := 5) X hR0 hS hmn h1 h2 rfl inX0 tyX0 tyX0_ok nmX0 (by decide) (WT_of 240 (by decide +kernel) (by decide +kernel)) rfl rfl rfl rfl hdg kk
theorem dX0_init_0 : decode cX0_init 0 = .ok (.aload_n 0, 1) := by decide +kernel
theorem dX0_init_1 : decode cX0_init 1 = .ok (.invokespecial 3, 3) := by decide +kernel
theorem dX0_init_4 : decode cX0_init 4 = .ok (.aload_n 0, 1) := by decide +kernel
theorem dX0_init_5 : decode cX0_init 5 = .ok (.bipush 20, 2) := by decide +kernel
theorem dX0_init_7 : decode cX0_init 7 = .ok (.newarray .int, 2) := by decide +kernel
theorem dX0_init_9 : decode cX0_init 9 = .ok (.putfield 9, 3) := by decide +kernel
theorem dX0_init_12 : decode cX0_init 12 = .ok (.aload_n 0, 1) := by decide +kernel
theorem dX0_init_13 : decode cX0_init 13 = .ok (.bipush 20, 2) := by decide +kernel
theorem dX0_init_15 : decode cX0_init 15 = .ok (.newarray .int, 2) := by decide +kernel
theorem dX0_init_17 : decode cX0_init 17 = .ok (.putfield 15, 3) := by decide +kernel
theorem dX0_init_20 : decode cX0_init 20 = .ok (.aload_n 0, 1) := by decide +kernel
theorem dX0_init_21 : decode cX0_init 21 = .ok (.bipush 20, 2) := by decide +kernel
theorem dX0_init_23 : decode cX0_init 23 = .ok (.newarray .int, 2) := by decide +kernel
theorem dX0_init_25 : decode cX0_init 25 = .ok (.putfield 18, 3) := by decide +kernel
theorem dX0_init_28 : decode cX0_init 28 = .ok (.return_, 1) := by decide +kernel
def rm_X0_init : Room := { frames := 1, cells := 3, slots := 60, locals := 12 }
section
variable {p : Program} {l : Launch} {e : Env} {s : State} {m : MethodId} {args : Array Value} {below : List Frame} {meth : Method} {c : Code} {Q : State → Prop} {G : va_G} {aC : Nat → ClassId} {t b0 : Nat}
def f_X0_init (v0 : Nat) (N : AH) : Option (Unit × AH) := ob (pR (nI0 N 20) v0 0 2 N.1) (fun N1 => ob (pR (nI0 N1 20) v0 0 3 N1.1) (fun N2 => ob (pR (nI0 N2 20) v0 0 4 N2.1) (fun N3 => some ((), N3))))
set_option maxHeartbeats 4000000 in
set_option maxRecDepth 100000 in
theorem wk_X0_init {P : Unit × AH → Prop} (X : CX cX0_init RX0 1 G aC t b0 p s m args c) (hr : RtV p l e rm_X0_init s m args below meth c 3 60 Q cX0_init G aC b0 P) (hmn : meth.name = "<init>") (v0 : Nat) (N : AH) (H : Heap) (locs : List Loc) (ls : Array Slot) (hR : Rp G aC b0 N H) (hS : va_S (fun q => b0 ≤ q) s.heap H locs) (hl : lv_has ls 1 [(0, .ref v0)]) (hp : owp (f_X0_init v0 N) P) : W p l e rm_X0_init s m args below meth c H locs 0 0 Q (F0 m 0 ls []) := by
  have hx := X.1.1
  have hb := X.1.2.1
  unfold f_X0_init at hp
  refine lv_aload_n hx hb dX0_init_0 rfl (lv_at hl 0 rfl) ?_
  refine ab_objI X (WT_of 232 (by decide +kernel) (by decide +kernel)) w_objI w_objC hl.1 (Nat.le_of_ble_eq_true rfl) (Nat.le_of_ble_eq_true rfl) dX0_init_1 ?_
  refine lv_aload_n hx hb dX0_init_4 rfl (lv_at hl 0 rfl) ?_
  refine lv_bipush (v := (20)) hx hb dX0_init_5 (by decide) ?_
  refine ab_newI (k := 20) X hR hS (WT_of 152 (by decide +kernel) (by decide +kernel)) (by decide) rfl (Nat.le_of_ble_eq_true rfl) (Nat.le_of_ble_eq_true rfl) (Nat.le_of_ble_eq_true rfl) dX0_init_7 (fun H hR hS => ?_)
  refine W.widen (k := 1) (n := 20) (Nat.le_of_ble_eq_true rfl) (Nat.le_of_ble_eq_true rfl) ?_
  obtain ⟨N1, e_N1, hp⟩ := owp_ob hp
  refine pf_X0_9 X hR hS hmn e_N1 dX0_init_9 (fun H locs hR hS => ?_)
  refine lv_aload_n hx hb dX0_init_12 rfl (lv_at hl 0 rfl) ?_
  refine lv_bipush (v := (20)) hx hb dX0_init_13 (by decide) ?_
  refine ab_newI (k := 20) X hR hS (WT_of 152 (by decide +kernel) (by decide +kernel)) (by decide) rfl (Nat.le_of_ble_eq_true rfl) (Nat.le_of_ble_eq_true rfl) (Nat.le_of_ble_eq_true rfl) dX0_init_15 (fun H hR hS => ?_)
  refine W.widen (k := 2) (n := 40) (Nat.le_of_ble_eq_true rfl) (Nat.le_of_ble_eq_true rfl) ?_
  obtain ⟨N2, e_N2, hp⟩ := owp_ob hp
  refine pf_X0_15 X hR hS hmn e_N2 dX0_init_17 (fun H locs hR hS => ?_)
  refine lv_aload_n hx hb dX0_init_20 rfl (lv_at hl 0 rfl) ?_
  refine lv_bipush (v := (20)) hx hb dX0_init_21 (by decide) ?_
  refine ab_newI (k := 20) X hR hS (WT_of 152 (by decide +kernel) (by decide +kernel)) (by decide) rfl (Nat.le_of_ble_eq_true rfl) (Nat.le_of_ble_eq_true rfl) (Nat.le_of_ble_eq_true rfl) dX0_init_23 (fun H hR hS => ?_)
  refine W.widen (k := 3) (n := 60) (Nat.le_of_ble_eq_true rfl) (Nat.le_of_ble_eq_true rfl) ?_
  obtain ⟨N3, e_N3, hp⟩ := owp_ob hp
  refine pf_X0_18 X hR hS hmn e_N3 dX0_init_25 (fun H locs hR hS => ?_)
  exact hr _ _ _ _ _ hR hS dX0_init_28 hp
end
theorem ct_X0_init {v0 : Nat} {N N1 : AH} {r : Unit} (h : f_X0_init v0 N = some (r, N1)) : Ct yX0_init cX0_init 1 none rm_X0_init [.ref v0] N none N1 :=
  ab_met (own := RX0) (by decide +kernel) rfl (Nat.le_of_ble_eq_true rfl) (fun l G aC t b0 p e s m below meth c ls X hr hlk hnm hR hS hl => wk_X0_init X (RtV_met X.1.1 X.1.2.1 hr hlk) hnm _ _ _ _ _ hR hS hl (owp_of h))
theorem cw_X0_init : Cond.code yX0_init cX0_init 1 none ∈ WT := WT_of 231 (by decide +kernel) (by decide +kernel)
theorem iv_X0_init {p : Program} {l : Launch} {e : Env} {R : Room} {s : State} {m : MethodId} {args : Array Value} {below : List Frame} {meth : Method} {c : Code} {H : Heap} {locs : List Loc} {cells slots : Nat} {Q : State → Prop} {cc : ByteArray} {own : String} {nL : Nat} {G : va_G} {aC : Nat → ClassId} {t b0 : Nat} {N N1 : AH} {pc index : Nat} {ls : Array Slot} {rest : List Value} {v0 : Nat} {r : Unit} (w1 : Cond.methodLink own index yX0_init ∈ WT) (X : CX cc own nL G aC t b0 p s m args c) (hR : Rp G aC b0 N H) (hS : va_S (fun q => b0 ≤ q) s.heap H locs) (h : f_X0_init v0 N = some (r, N1)) (hls : ls.size = nL) (hW : (rest.map fun v => v.category).sum ≤ 8) (hR1 : 2 ≤ R.frames ∧ 32 ≤ R.locals) (hcs : cells + 3 ≤ R.cells ∧ slots + 60 ≤ R.slots) (hdg : decode cc pc = .ok (.invokespecial index, 3)) (kk : ∀ (H1 : Heap) (locs1 : List Loc), Rp G aC b0 N1 H1 → va_S (fun q => b0 ≤ q) s.heap H1 locs1 → W p l e R s m args below meth c H1 locs1 (cells + 3) (slots + 60) Q (F0 m (pc + 3) ls rest)) : W p l e R s m args below meth c H locs cells slots Q (F0 m pc ls (.ref v0 :: rest)) :=
  ab_callI (n := 0) (As := []) X hR hS (ct_X0_init h) w1 (WT_of 230 (by decide +kernel) (by decide +kernel)) (WT_of 87 (by decide +kernel) (by decide +kernel)) cw_X0_init rfl ⟨by decide +kernel, by decide +kernel, by decide +kernel⟩ rfl hls hW hR1 hcs rfl hdg kk
-- X0_add
theorem gf_X0_9 {p : Program} {l : Launch} {e : Env} {R : Room} {s : State} {m : MethodId} {args : Array Value} {below : List Frame} {meth : Method} {c : Code} {H : Heap} {locs : List Loc} {cells slots : Nat} {Q : State → Prop} {cc : ByteArray} {nL : Nat} {G : va_G} {aC : Nat → ClassId} {t b0 : Nat} {N : AH} {pc : Nat} {ls : Array Slot} {rest : List Value} {a : Nat} {v : Nat} (X : CX cc RX0 nL G aC t b0 p s m args c) (hR0 : Rp G aC b0 N H) (hv : hR N a 0 2 = some v) (hdg : decode cc pc = .ok (.getfield 9, 3)) (kk : W p l e R s m args below meth c H locs cells slots Q (F0 m (pc + 3) ls (.ref v :: rest))) : W p l e R s m args below meth c H locs cells slots Q (F0 m pc ls (.ref a :: rest)) := by
  obtain ⟨fs, h1, h2⟩ := hR_ok hv
  exact ab_get (C := RX0) (T := TX0) (n := 5) X hR0 h1 h2 rfl inX0 (by decide) (WT_of 236 (by decide +kernel) (by decide +kernel)) hdg kk
theorem gf_X0_15 {p : Program} {l : Launch} {e : Env} {R : Room} {s : State} {m : MethodId} {args : Array Value} {below : List Frame} {meth : Method} {c : Code} {H : Heap} {locs : List Loc} {cells slots : Nat} {Q : State → Prop} {cc : ByteArray} {nL : Nat} {G : va_G} {aC : Nat → ClassId} {t b0 : Nat} {N : AH} {pc : Nat} {ls : Array Slot} {rest : List Value} {a : Nat} {v : Nat} (X : CX cc RX0 nL G aC t b0 p s m args c) (hR0 : Rp G aC b0 N H) (hv : hR N a 0 3 = some v) (hdg : decode cc pc = .ok (.getfield 15, 3)) (kk : W p l e R s m args below meth c H locs cells slots Q (F0 m (pc + 3) ls (.ref v :: rest))) : W p l e R s m args below meth c H locs cells slots Q (F0 m pc ls (.ref a :: rest)) := by
  obtain ⟨fs, h1, h2⟩ := hR_ok hv
  exact ab_get (C := RX0) (T := TX0) (n := 5) X hR0 h1 h2 rfl inX0 (by decide) (WT_of 238 (by decide +kernel) (by decide +kernel)) hdg kk
theorem gf_X0_18 {p : Program} {l : Launch} {e : Env} {R : Room} {s : State} {m : MethodId} {args : Array Value} {below : List Frame} {meth : Method} {c : Code} {H : Heap} {locs : List Loc} {cells slots : Nat} {Q : State → Prop} {cc : ByteArray} {nL : Nat} {G : va_G} {aC : Nat → ClassId} {t b0 : Nat} {N : AH} {pc : Nat} {ls : Array Slot} {rest : List Value} {a : Nat} {v : Nat} (X : CX cc RX0 nL G aC t b0 p s m args c) (hR0 : Rp G aC b0 N H) (hv : hR N a 0 4 = some v) (hdg : decode cc pc = .ok (.getfield 18, 3)) (kk : W p l e R s m args below meth c H locs cells slots Q (F0 m (pc + 3) ls (.ref v :: rest))) : W p l e R s m args below meth c H locs cells slots Q (F0 m pc ls (.ref a :: rest)) := by
  obtain ⟨fs, h1, h2⟩ := hR_ok hv
  exact ab_get (C := RX0) (T := TX0) (n := 5) X hR0 h1 h2 rfl inX0 (by decide) (WT_of 240 (by decide +kernel) (by decide +kernel)) hdg kk
theorem gf_X0_21 {p : Program} {l : Launch} {e : Env} {R : Room} {s : State} {m : MethodId} {args : Array Value} {below : List Frame} {meth : Method} {c : Code} {H : Heap} {locs : List Loc} {cells slots : Nat} {Q : State → Prop} {cc : ByteArray} {nL : Nat} {G : va_G} {aC : Nat → ClassId} {t b0 : Nat} {N : AH} {pc : Nat} {ls : Array Slot} {rest : List Value} {a : Nat} {v : Int32} (X : CX cc RX0 nL G aC t b0 p s m args c) (hR0 : Rp G aC b0 N H) (hv : hI N a 0 1 = some v) (hdg : decode cc pc = .ok (.getfield 21, 3)) (kk : W p l e R s m args below meth c H locs cells slots Q (F0 m (pc + 3) ls (.int v :: rest))) : W p l e R s m args below meth c H locs cells slots Q (F0 m pc ls (.ref a :: rest)) := by
  obtain ⟨fs, h1, h2⟩ := hI_ok hv
  exact ab_get (C := RX0) (T := TX0) (n := 5) X hR0 h1 h2 rfl inX0 (by decide) (WT_of 235 (by decide +kernel) (by decide +kernel)) hdg kk
theorem gf_X0_25 {p : Program} {l : Launch} {e : Env} {R : Room} {s : State} {m : MethodId} {args : Array Value} {below : List Frame} {meth : Method} {c : Code} {H : Heap} {locs : List Loc} {cells slots : Nat} {Q : State → Prop} {cc : ByteArray} {nL : Nat} {G : va_G} {aC : Nat → ClassId} {t b0 : Nat} {N : AH} {pc : Nat} {ls : Array Slot} {rest : List Value} {a : Nat} {v : Int32} (X : CX cc RX0 nL G aC t b0 p s m args c) (hR0 : Rp G aC b0 N H) (hv : hI N a 0 0 = some v) (hdg : decode cc pc = .ok (.getfield 25, 3)) (kk : W p l e R s m args below meth c H locs cells slots Q (F0 m (pc + 3) ls (.int v :: rest))) : W p l e R s m args below meth c H locs cells slots Q (F0 m pc ls (.ref a :: rest)) := by
  obtain ⟨fs, h1, h2⟩ := hI_ok hv
  exact ab_get (C := RX0) (T := TX0) (n := 5) X hR0 h1 h2 rfl inX0 (by decide) (WT_of 233 (by decide +kernel) (by decide +kernel)) hdg kk
theorem pf_X0_21 {p : Program} {l : Launch} {e : Env} {R : Room} {s : State} {m : MethodId} {args : Array Value} {below : List Frame} {meth : Method} {c : Code} {H : Heap} {locs : List Loc} {cells slots : Nat} {Q : State → Prop} {cc : ByteArray} {nL : Nat} {G : va_G} {aC : Nat → ClassId} {t b0 : Nat} {N : AH} {pc : Nat} {ls : Array Slot} {rest : List Value} {N1 : AH} {a : Nat} {v : Int32} (X : CX cc RX0 nL G aC t b0 p s m args c) (hR0 : Rp G aC b0 N H) (hS : va_S (fun q => b0 ≤ q) s.heap H locs) (hv : pI N a 0 1 v = some N1) (hdg : decode cc pc = .ok (.putfield 21, 3)) (kk : ∀ (H1 : Heap) (locs1 : List Loc), Rp G aC b0 N1 H1 → va_S (fun q => b0 ≤ q) s.heap H1 locs1 → W p l e R s m args below meth c H1 locs1 cells slots Q (F0 m (pc + 3) ls rest)) : W p l e R s m args below meth c H locs cells slots Q (F0 m pc ls (.int v :: .ref a :: rest)) := by
  obtain ⟨fs, h1, h2, h3⟩ := pV_ok hv
  subst h3
  exact ab_put (C := RX0) (T := TX0) (n := 5) X hR0 hS h1 h2 rfl inX0 tyX0 tyX0_ok nmX0 (by decide) (WT_of 235 (by decide +kernel) (by decide +kernel)) rfl rfl rfl hdg kk
theorem pf_X0_25 {p : Program} {l : Launch} {e : Env} {R : Room} {s : State} {m : MethodId} {args : Array Value} {below : List Frame} {meth : Method} {c : Code} {H : Heap} {locs : List Loc} {cells slots : Nat} {Q : State → Prop} {cc : ByteArray} {nL : Nat} {G : va_G} {aC : Nat → ClassId} {t b0 : Nat} {N : AH} {pc : Nat} {ls : Array Slot} {rest : List Value} {N1 : AH} {a : Nat} {v : Int32} (X : CX cc RX0 nL G aC t b0 p s m args c) (hR0 : Rp G aC b0 N H) (hS : va_S (fun q => b0 ≤ q) s.heap H locs) (hv : pI N a 0 0 v = some N1) (hdg : decode cc pc = .ok (.putfield 25, 3)) (kk : ∀ (H1 : Heap) (locs1 : List Loc), Rp G aC b0 N1 H1 → va_S (fun q => b0 ≤ q) s.heap H1 locs1 → W p l e R s m args below meth c H1 locs1 cells slots Q (F0 m (pc + 3) ls rest)) : W p l e R s m args below meth c H locs cells slots Q (F0 m pc ls (.int v :: .ref a :: rest)) := by
  obtain ⟨fs, h1, h2, h3⟩ := pV_ok hv
  subst h3
  exact ab_put (C := RX0) (T := TX0) (n := 5) X hR0 hS h1 h2 rfl inX0 tyX0 tyX0_ok nmX0 (by decide) (WT_of 233 (by decide +kernel) (by decide +kernel)) rfl rfl rfl hdg kk
theorem dX0_add_0 : decode cX0_add 0 = .ok (.aload_n 0, 1) := by decide +kernel
theorem dX0_add_1 : decode cX0_add 1 = .ok (.getfield 9, 3) := by decide +kernel
theorem dX0_add_4 : decode cX0_add 4 = .ok (.aload_n 0, 1) := by decide +kernel
theorem dX0_add_5 : decode cX0_add 5 = .ok (.getfield 21, 3) := by decide +kernel
theorem dX0_add_8 : decode cX0_add 8 = .ok (.iload_n 1, 1) := by decide +kernel
theorem dX0_add_9 : decode cX0_add 9 = .ok (.iastore, 1) := by decide +kernel
theorem dX0_add_10 : decode cX0_add 10 = .ok (.aload_n 0, 1) := by decide +kernel
theorem dX0_add_11 : decode cX0_add 11 = .ok (.getfield 15, 3) := by decide +kernel
theorem dX0_add_14 : decode cX0_add 14 = .ok (.aload_n 0, 1) := by decide +kernel
theorem dX0_add_15 : decode cX0_add 15 = .ok (.getfield 21, 3) := by decide +kernel
theorem dX0_add_18 : decode cX0_add 18 = .ok (.iload_n 2, 1) := by decide +kernel
theorem dX0_add_19 : decode cX0_add 19 = .ok (.iastore, 1) := by decide +kernel
theorem dX0_add_20 : decode cX0_add 20 = .ok (.aload_n 0, 1) := by decide +kernel
theorem dX0_add_21 : decode cX0_add 21 = .ok (.getfield 18, 3) := by decide +kernel
theorem dX0_add_24 : decode cX0_add 24 = .ok (.aload_n 0, 1) := by decide +kernel
theorem dX0_add_25 : decode cX0_add 25 = .ok (.getfield 21, 3) := by decide +kernel
theorem dX0_add_28 : decode cX0_add 28 = .ok (.iload_n 3, 1) := by decide +kernel
theorem dX0_add_29 : decode cX0_add 29 = .ok (.iastore, 1) := by decide +kernel
theorem dX0_add_30 : decode cX0_add 30 = .ok (.aload_n 0, 1) := by decide +kernel
theorem dX0_add_31 : decode cX0_add 31 = .ok (.aload_n 0, 1) := by decide +kernel
theorem dX0_add_32 : decode cX0_add 32 = .ok (.getfield 21, 3) := by decide +kernel
theorem dX0_add_35 : decode cX0_add 35 = .ok (.iconst 1, 1) := by decide +kernel
theorem dX0_add_36 : decode cX0_add 36 = .ok (.iadd, 1) := by decide +kernel
theorem dX0_add_37 : decode cX0_add 37 = .ok (.bipush 20, 2) := by decide +kernel
theorem dX0_add_39 : decode cX0_add 39 = .ok (.irem, 1) := by decide +kernel
theorem dX0_add_40 : decode cX0_add 40 = .ok (.putfield 21, 3) := by decide +kernel
theorem dX0_add_43 : decode cX0_add 43 = .ok (.aload_n 0, 1) := by decide +kernel
theorem dX0_add_44 : decode cX0_add 44 = .ok (.getfield 25, 3) := by decide +kernel
theorem dX0_add_47 : decode cX0_add 47 = .ok (.bipush 20, 2) := by decide +kernel
theorem dX0_add_49 : decode cX0_add 49 = .ok (.if_icmp .ge 13, 3) := by decide +kernel
theorem dX0_add_52 : decode cX0_add 52 = .ok (.aload_n 0, 1) := by decide +kernel
theorem dX0_add_53 : decode cX0_add 53 = .ok (.dup, 1) := by decide +kernel
theorem dX0_add_54 : decode cX0_add 54 = .ok (.getfield 25, 3) := by decide +kernel
theorem dX0_add_57 : decode cX0_add 57 = .ok (.iconst 1, 1) := by decide +kernel
theorem dX0_add_58 : decode cX0_add 58 = .ok (.iadd, 1) := by decide +kernel
theorem dX0_add_59 : decode cX0_add 59 = .ok (.putfield 25, 3) := by decide +kernel
theorem dX0_add_62 : decode cX0_add 62 = .ok (.return_, 1) := by decide +kernel
def rm_X0_add : Room := { frames := 0, cells := 0, slots := 0, locals := 0 }
section
variable {p : Program} {l : Launch} {e : Env} {s : State} {m : MethodId} {args : Array Value} {below : List Frame} {meth : Method} {c : Code} {Q : State → Prop} {G : va_G} {aC : Nat → ClassId} {t b0 : Nat}
def f_X0_add (v0 : Nat) (v1 : Int32) (v2 : Int32) (v3 : Int32) (N : AH) : Option (Unit × AH) := ob (iO N v0 0) (fun _ => ob (hR N v0 0 2) (fun x1 => ob (hI N v0 0 1) (fun x2 => ob (sI N x1 x2 v1) (fun N3 => ob (hR N3 v0 0 3) (fun x4 => ob (hI N3 v0 0 1) (fun x5 => ob (sI N3 x4 x5 v2) (fun N6 => ob (hR N6 v0 0 4) (fun x7 => ob (hI N6 v0 0 1) (fun x8 => ob (sI N6 x7 x8 v3) (fun N9 => ob (hI N9 v0 0 1) (fun x10 => ob (dM (x10 + (1 : Int32)) (20 : Int32)) (fun x11 => ob (pI N9 v0 0 1 x11) (fun N12 => ob (hI N12 v0 0 0) (fun x13 => if (20 : Int32) ≤ x13 then some ((), N12) else ob (hI N12 v0 0 0) (fun x15 => ob (pI N12 v0 0 0 (x15 + (1 : Int32))) (fun N16 => some ((), N16)))))))))))))))))
set_option maxHeartbeats 4000000 in
set_option maxRecDepth 100000 in
theorem wk_X0_add {P : Unit × AH → Prop} (X : CX cX0_add RX0 4 G aC t b0 p s m args c) (hr : RtV p l e rm_X0_add s m args below meth c 0 0 Q cX0_add G aC b0 P) (v0 : Nat) (v1 : Int32) (v2 : Int32) (v3 : Int32) (N : AH) (H : Heap) (locs : List Loc) (ls : Array Slot) (hR : Rp G aC b0 N H) (hS : va_S (fun q => b0 ≤ q) s.heap H locs) (hl : lv_has ls 4 [(0, .ref v0), (1, .int v1), (2, .int v2), (3, .int v3)]) (hp : owp (f_X0_add v0 v1 v2 v3 N) P) : W p l e rm_X0_add s m args below meth c H locs 0 0 Q (F0 m 0 ls []) := by
  have hx := X.1.1
  have hb := X.1.2.1
  unfold f_X0_add at hp
  obtain ⟨_, _, hp⟩ := owp_ob hp
  refine lv_aload_n hx hb dX0_add_0 rfl (lv_at hl 0 rfl) ?_
  obtain ⟨x1, e_x1, hp⟩ := owp_ob hp
  refine gf_X0_9 X hR e_x1 dX0_add_1 ?_
  refine lv_aload_n hx hb dX0_add_4 rfl (lv_at hl 0 rfl) ?_
  obtain ⟨x2, e_x2, hp⟩ := owp_ob hp
  refine gf_X0_21 X hR e_x2 dX0_add_5 ?_
  refine lv_iload_n hx hb dX0_add_8 rfl (lv_at hl 1 rfl) ?_
  obtain ⟨N3, e_N3, hp⟩ := owp_ob hp
  refine ab_iast X hR hS e_N3 dX0_add_9 (fun H locs hR hS => ?_)
  refine lv_aload_n hx hb dX0_add_10 rfl (lv_at hl 0 rfl) ?_
  obtain ⟨x4, e_x4, hp⟩ := owp_ob hp
  refine gf_X0_15 X hR e_x4 dX0_add_11 ?_
  refine lv_aload_n hx hb dX0_add_14 rfl (lv_at hl 0 rfl) ?_
  obtain ⟨x5, e_x5, hp⟩ := owp_ob hp
  refine gf_X0_21 X hR e_x5 dX0_add_15 ?_
  refine lv_iload_n hx hb dX0_add_18 rfl (lv_at hl 2 rfl) ?_
  obtain ⟨N6, e_N6, hp⟩ := owp_ob hp
  refine ab_iast X hR hS e_N6 dX0_add_19 (fun H locs hR hS => ?_)
  refine lv_aload_n hx hb dX0_add_20 rfl (lv_at hl 0 rfl) ?_
  obtain ⟨x7, e_x7, hp⟩ := owp_ob hp
  refine gf_X0_18 X hR e_x7 dX0_add_21 ?_
  refine lv_aload_n hx hb dX0_add_24 rfl (lv_at hl 0 rfl) ?_
  obtain ⟨x8, e_x8, hp⟩ := owp_ob hp
  refine gf_X0_21 X hR e_x8 dX0_add_25 ?_
  refine lv_iload_n hx hb dX0_add_28 rfl (lv_at hl 3 rfl) ?_
  obtain ⟨N9, e_N9, hp⟩ := owp_ob hp
  refine ab_iast X hR hS e_N9 dX0_add_29 (fun H locs hR hS => ?_)
  refine lv_aload_n hx hb dX0_add_30 rfl (lv_at hl 0 rfl) ?_
  refine lv_aload_n hx hb dX0_add_31 rfl (lv_at hl 0 rfl) ?_
  obtain ⟨x10, e_x10, hp⟩ := owp_ob hp
  refine gf_X0_21 X hR e_x10 dX0_add_32 ?_
  refine lv_iconst (v := (1)) hx hb dX0_add_35 (by decide) ?_
  refine lv_iadd hx hb dX0_add_36 ?_
  refine lv_bipush (v := (20)) hx hb dX0_add_37 (by decide) ?_
  obtain ⟨x11, e_x11, hp⟩ := owp_ob hp
  refine ab_irem X e_x11 dX0_add_39 ?_
  obtain ⟨N12, e_N12, hp⟩ := owp_ob hp
  refine pf_X0_21 X hR hS e_N12 dX0_add_40 (fun H locs hR hS => ?_)
  refine lv_aload_n hx hb dX0_add_43 rfl (lv_at hl 0 rfl) ?_
  obtain ⟨x13, e_x13, hp⟩ := owp_ob hp
  refine gf_X0_25 X hR e_x13 dX0_add_44 ?_
  refine lv_bipush (v := (20)) hx hb dX0_add_47 (by decide) ?_
  refine lv_icmp_ge (tgt := 62) hx hb dX0_add_49 (by decide) (fun k14 => ?_) (fun k14 => ?_)
  · have hp := owp_t k14 hp
    exact hr _ _ _ _ _ hR hS dX0_add_62 hp
  · have hp := owp_f k14 hp
    refine lv_aload_n hx hb dX0_add_52 rfl (lv_at hl 0 rfl) ?_
    refine lv_dup hx hb dX0_add_53 rfl ?_
    obtain ⟨x15, e_x15, hp⟩ := owp_ob hp
    refine gf_X0_25 X hR e_x15 dX0_add_54 ?_
    refine lv_iconst (v := (1)) hx hb dX0_add_57 (by decide) ?_
    refine lv_iadd hx hb dX0_add_58 ?_
    obtain ⟨N16, e_N16, hp⟩ := owp_ob hp
    refine pf_X0_25 X hR hS e_N16 dX0_add_59 (fun H locs hR hS => ?_)
    exact hr _ _ _ _ _ hR hS dX0_add_62 hp
end
theorem ct_X0_add {v0 : Nat} {v1 : Int32} {v2 : Int32} {v3 : Int32} {N N1 : AH} {r : Unit} (h : f_X0_add v0 v1 v2 v3 N = some (r, N1)) : Ct yX0_add cX0_add 4 none rm_X0_add [.ref v0, .int v1, .int v2, .int v3] N none N1 :=
  ab_met (own := RX0) (by decide +kernel) rfl (Nat.le_of_ble_eq_true rfl) (fun l G aC t b0 p e s m below meth c ls X hr hlk hnm hR hS hl => wk_X0_add X (RtV_met X.1.1 X.1.2.1 hr hlk) _ _ _ _ _ _ _ _ hR hS hl (owp_of h))
theorem cw_X0_add : Cond.code yX0_add cX0_add 4 none ∈ WT := WT_of 594 (by decide +kernel) (by decide +kernel)
theorem iv_X0_add {p : Program} {l : Launch} {e : Env} {R : Room} {s : State} {m : MethodId} {args : Array Value} {below : List Frame} {meth : Method} {c : Code} {H : Heap} {locs : List Loc} {cells slots : Nat} {Q : State → Prop} {cc : ByteArray} {own : String} {nL : Nat} {G : va_G} {aC : Nat → ClassId} {t b0 : Nat} {N N1 : AH} {pc index : Nat} {ls : Array Slot} {rest : List Value} {v0 : Nat} {v1 : Int32} {v2 : Int32} {v3 : Int32} {r : Unit} (w1 : Cond.methodLink own index yX0_add ∈ WT) (X : CX cc own nL G aC t b0 p s m args c) (hR : Rp G aC b0 N H) (hS : va_S (fun q => b0 ≤ q) s.heap H locs) (h : f_X0_add v0 v1 v2 v3 N = some (r, N1)) (hls : ls.size = nL) (hW : (rest.map fun v => v.category).sum ≤ 8) (hR1 : 1 ≤ R.frames ∧ 23 ≤ R.locals) (hcs : cells + 0 ≤ R.cells ∧ slots + 0 ≤ R.slots) (hdg : decode cc pc = .ok (.invokevirtual index, 3)) (kk : ∀ (H1 : Heap) (locs1 : List Loc), Rp G aC b0 N1 H1 → va_S (fun q => b0 ≤ q) s.heap H1 locs1 → W p l e R s m args below meth c H1 locs1 cells slots Q (F0 m (pc + 3) ls rest)) : W p l e R s m args below meth c H locs cells slots Q (F0 m pc ls (.int v3 :: .int v2 :: .int v1 :: .ref v0 :: rest)) :=
  ab_callV (n := 3) (As := [.int v1, .int v2, .int v3]) X hR hS (ct_X0_add h) (ob_rc (c := 0) (N := N) (a := v0) h) (T := TX0) (k := 5) (C := RX0) rfl w1 (WT_of 592 (by decide +kernel) (by decide +kernel)) (WT_of 593 (by decide +kernel) (by decide +kernel)) (WT_of 87 (by decide +kernel) (by decide +kernel)) cw_X0_add ⟨rfl, by decide +kernel, by decide +kernel, by decide +kernel⟩ rfl hls hW hR1 hcs rfl hdg kk
-- J9_floorMod_7cf53
theorem dJ9_floorMod_7cf53_0 : decode cJ9_floorMod_7cf53 0 = .ok (.iload_n 0, 1) := by decide +kernel
theorem dJ9_floorMod_7cf53_1 : decode cJ9_floorMod_7cf53 1 = .ok (.iload_n 1, 1) := by decide +kernel
theorem dJ9_floorMod_7cf53_2 : decode cJ9_floorMod_7cf53 2 = .ok (.irem, 1) := by decide +kernel
theorem dJ9_floorMod_7cf53_3 : decode cJ9_floorMod_7cf53 3 = .ok (.istore_n 2, 1) := by decide +kernel
theorem dJ9_floorMod_7cf53_4 : decode cJ9_floorMod_7cf53 4 = .ok (.iload_n 0, 1) := by decide +kernel
theorem dJ9_floorMod_7cf53_5 : decode cJ9_floorMod_7cf53 5 = .ok (.iload_n 1, 1) := by decide +kernel
theorem dJ9_floorMod_7cf53_6 : decode cJ9_floorMod_7cf53 6 = .ok (.ixor, 1) := by decide +kernel
theorem dJ9_floorMod_7cf53_7 : decode cJ9_floorMod_7cf53 7 = .ok (.ifCond .ge 11, 3) := by decide +kernel
theorem dJ9_floorMod_7cf53_10 : decode cJ9_floorMod_7cf53 10 = .ok (.iload_n 2, 1) := by decide +kernel
theorem dJ9_floorMod_7cf53_11 : decode cJ9_floorMod_7cf53 11 = .ok (.ifCond .eq 7, 3) := by decide +kernel
theorem dJ9_floorMod_7cf53_14 : decode cJ9_floorMod_7cf53 14 = .ok (.iload_n 2, 1) := by decide +kernel
theorem dJ9_floorMod_7cf53_15 : decode cJ9_floorMod_7cf53 15 = .ok (.iload_n 1, 1) := by decide +kernel
theorem dJ9_floorMod_7cf53_16 : decode cJ9_floorMod_7cf53 16 = .ok (.iadd, 1) := by decide +kernel
theorem dJ9_floorMod_7cf53_17 : decode cJ9_floorMod_7cf53 17 = .ok (.ireturn, 1) := by decide +kernel
theorem dJ9_floorMod_7cf53_18 : decode cJ9_floorMod_7cf53 18 = .ok (.iload_n 2, 1) := by decide +kernel
theorem dJ9_floorMod_7cf53_19 : decode cJ9_floorMod_7cf53 19 = .ok (.ireturn, 1) := by decide +kernel
def rm_J9_floorMod_7cf53 : Room := { frames := 0, cells := 0, slots := 0, locals := 0 }
section
variable {p : Program} {l : Launch} {e : Env} {s : State} {m : MethodId} {args : Array Value} {below : List Frame} {meth : Method} {c : Code} {Q : State → Prop} {G : va_G} {aC : Nat → ClassId} {t b0 : Nat}
def f_J9_floorMod_7cf53 (v0 : Int32) (v1 : Int32) (N : AH) : Option (Int32 × AH) := ob (dM v0 v1) (fun x1 => if 0 ≤ (v0 ^^^ v1) then some (x1, N) else if x1 = 0 then some (x1, N) else some (x1 + v1, N))
set_option maxHeartbeats 4000000 in
set_option maxRecDepth 100000 in
theorem wk_J9_floorMod_7cf53 {P : Int32 × AH → Prop} (X : CX cJ9_floorMod_7cf53 RJ9 3 G aC t b0 p s m args c) (hr : RtI p l e rm_J9_floorMod_7cf53 s m args below meth c 0 0 Q cJ9_floorMod_7cf53 G aC b0 P) (v0 : Int32) (v1 : Int32) (N : AH) (H : Heap) (locs : List Loc) (ls : Array Slot) (hR : Rp G aC b0 N H) (hS : va_S (fun q => b0 ≤ q) s.heap H locs) (hl : lv_has ls 3 [(0, .int v0), (1, .int v1)]) (hp : owp (f_J9_floorMod_7cf53 v0 v1 N) P) : W p l e rm_J9_floorMod_7cf53 s m args below meth c H locs 0 0 Q (F0 m 0 ls []) := by
  have hx := X.1.1
  have hb := X.1.2.1
  unfold f_J9_floorMod_7cf53 at hp
  refine lv_iload_n hx hb dJ9_floorMod_7cf53_0 rfl (lv_at hl 0 rfl) ?_
  refine lv_iload_n hx hb dJ9_floorMod_7cf53_1 rfl (lv_at hl 1 rfl) ?_
  obtain ⟨x1, e_x1, hp⟩ := owp_ob hp
  refine ab_irem X e_x1 dJ9_floorMod_7cf53_2 ?_
  refine lv_istore_n (lv' := [(2, .int x1), (0, .int v0), (1, .int v1)]) hx hb dJ9_floorMod_7cf53_3 rfl hl (by decide) rfl (fun ls hl => ?_)
  refine lv_iload_n hx hb dJ9_floorMod_7cf53_4 rfl (lv_at hl 1 rfl) ?_
  refine lv_iload_n hx hb dJ9_floorMod_7cf53_5 rfl (lv_at hl 2 rfl) ?_
  refine lv_ixor hx hb dJ9_floorMod_7cf53_6 ?_
  refine lv_if_ge (tgt := 18) hx hb dJ9_floorMod_7cf53_7 (by decide) (fun k2 => ?_) (fun k2 => ?_)
  · have hp := owp_t k2 hp
    refine lv_iload_n hx hb dJ9_floorMod_7cf53_18 rfl (lv_at hl 0 rfl) ?_
    exact hr _ _ _ _ _ _ hR hS dJ9_floorMod_7cf53_19 hp
  · have hp := owp_f k2 hp
    refine lv_iload_n hx hb dJ9_floorMod_7cf53_10 rfl (lv_at hl 0 rfl) ?_
    refine lv_if_eq (tgt := 18) hx hb dJ9_floorMod_7cf53_11 (by decide) (fun k3 => ?_) (fun k3 => ?_)
    · have hp := owp_t k3 hp
      refine lv_iload_n hx hb dJ9_floorMod_7cf53_18 rfl (lv_at hl 0 rfl) ?_
      exact hr _ _ _ _ _ _ hR hS dJ9_floorMod_7cf53_19 hp
    · have hp := owp_f k3 hp
      refine lv_iload_n hx hb dJ9_floorMod_7cf53_14 rfl (lv_at hl 0 rfl) ?_
      refine lv_iload_n hx hb dJ9_floorMod_7cf53_15 rfl (lv_at hl 2 rfl) ?_
      refine lv_iadd hx hb dJ9_floorMod_7cf53_16 ?_
      exact hr _ _ _ _ _ _ hR hS dJ9_floorMod_7cf53_17 hp
end
theorem ct_J9_floorMod_7cf53 {v0 : Int32} {v1 : Int32} {N N1 : AH} {r : Int32} (h : f_J9_floorMod_7cf53 v0 v1 N = some (r, N1)) : Ct yJ9_floorMod_7cf53 cJ9_floorMod_7cf53 3 (some .int) rm_J9_floorMod_7cf53 [.int v0, .int v1] N (some (.int r)) N1 :=
  ab_met (own := RJ9) (by decide +kernel) rfl (Nat.le_of_ble_eq_true rfl) (fun l G aC t b0 p e s m below meth c ls X hr hlk hnm hR hS hl => wk_J9_floorMod_7cf53 X (RtI_met X.1.1 X.1.2.1 hr hlk) _ _ _ _ _ _ hR hS hl (owp_of h))
theorem cw_J9_floorMod_7cf53 : Cond.code yJ9_floorMod_7cf53 cJ9_floorMod_7cf53 3 (some .int) ∈ WT := WT_of 920 (by decide +kernel) (by decide +kernel)
theorem iv_J9_floorMod_7cf53 {p : Program} {l : Launch} {e : Env} {R : Room} {s : State} {m : MethodId} {args : Array Value} {below : List Frame} {meth : Method} {c : Code} {H : Heap} {locs : List Loc} {cells slots : Nat} {Q : State → Prop} {cc : ByteArray} {own : String} {nL : Nat} {G : va_G} {aC : Nat → ClassId} {t b0 : Nat} {N N1 : AH} {pc index : Nat} {ls : Array Slot} {rest : List Value} {v0 : Int32} {v1 : Int32} {r : Int32} (w1 : Cond.methodLink own index yJ9_floorMod_7cf53 ∈ WT) (X : CX cc own nL G aC t b0 p s m args c) (hR : Rp G aC b0 N H) (hS : va_S (fun q => b0 ≤ q) s.heap H locs) (h : f_J9_floorMod_7cf53 v0 v1 N = some (r, N1)) (hls : ls.size = nL) (hW : (rest.map fun v => v.category).sum ≤ 8) (hR1 : 1 ≤ R.frames ∧ 22 ≤ R.locals) (hcs : cells + 0 ≤ R.cells ∧ slots + 0 ≤ R.slots) (hdg : decode cc pc = .ok (.invokestatic index, 3)) (kk : ∀ (H1 : Heap) (locs1 : List Loc), Rp G aC b0 N1 H1 → va_S (fun q => b0 ≤ q) s.heap H1 locs1 → W p l e R s m args below meth c H1 locs1 cells slots Q (F0 m (pc + 3) ls (.int r :: rest))) : W p l e R s m args below meth c H locs cells slots Q (F0 m pc ls (.int v1 :: .int v0 :: rest)) :=
  ab_callS (n := 2) (As := [.int v0, .int v1]) X hR hS (ct_J9_floorMod_7cf53 h) w1 (WT_of 919 (by decide +kernel) (by decide +kernel)) (WT_of 94 (by decide +kernel) (by decide +kernel)) cw_J9_floorMod_7cf53 ⟨by decide +kernel, by decide +kernel, by decide +kernel⟩ rfl hls hW hR1 hcs rfl hdg kk
-- X0_slotOf
theorem mw_X0_28 : Cond.methodLink RX0 28 yJ9_floorMod_7cf53 ∈ WT := WT_of 918 (by decide +kernel) (by decide +kernel)
theorem dX0_slotOf_0 : decode cX0_slotOf 0 = .ok (.aload_n 0, 1) := by decide +kernel
theorem dX0_slotOf_1 : decode cX0_slotOf 1 = .ok (.getfield 21, 3) := by decide +kernel
theorem dX0_slotOf_4 : decode cX0_slotOf 4 = .ok (.iconst 1, 1) := by decide +kernel
theorem dX0_slotOf_5 : decode cX0_slotOf 5 = .ok (.isub, 1) := by decide +kernel
theorem dX0_slotOf_6 : decode cX0_slotOf 6 = .ok (.iload_n 1, 1) := by decide +kernel
theorem dX0_slotOf_7 : decode cX0_slotOf 7 = .ok (.isub, 1) := by decide +kernel
theorem dX0_slotOf_8 : decode cX0_slotOf 8 = .ok (.bipush 20, 2) := by decide +kernel
theorem dX0_slotOf_10 : decode cX0_slotOf 10 = .ok (.invokestatic 28, 3) := by decide +kernel
theorem dX0_slotOf_13 : decode cX0_slotOf 13 = .ok (.ireturn, 1) := by decide +kernel
def rm_X0_slotOf : Room := { frames := 1, cells := 0, slots := 0, locals := 22 }
section
variable {p : Program} {l : Launch} {e : Env} {s : State} {m : MethodId} {args : Array Value} {below : List Frame} {meth : Method} {c : Code} {Q : State → Prop} {G : va_G} {aC : Nat → ClassId} {t b0 : Nat}
def f_X0_slotOf (v0 : Nat) (v1 : Int32) (N : AH) : Option (Int32 × AH) := ob (iO N v0 0) (fun _ => ob (hI N v0 0 1) (fun x1 => ob2 (f_J9_floorMod_7cf53 ((x1 - (1 : Int32)) - v1) (20 : Int32) N) (fun x3 N2 => some (x3, N2))))
set_option maxHeartbeats 4000000 in
set_option maxRecDepth 100000 in
theorem wk_X0_slotOf {P : Int32 × AH → Prop} (X : CX cX0_slotOf RX0 2 G aC t b0 p s m args c) (hr : RtI p l e rm_X0_slotOf s m args below meth c 0 0 Q cX0_slotOf G aC b0 P) (v0 : Nat) (v1 : Int32) (N : AH) (H : Heap) (locs : List Loc) (ls : Array Slot) (hR : Rp G aC b0 N H) (hS : va_S (fun q => b0 ≤ q) s.heap H locs) (hl : lv_has ls 2 [(0, .ref v0), (1, .int v1)]) (hp : owp (f_X0_slotOf v0 v1 N) P) : W p l e rm_X0_slotOf s m args below meth c H locs 0 0 Q (F0 m 0 ls []) := by
  have hx := X.1.1
  have hb := X.1.2.1
  unfold f_X0_slotOf at hp
  obtain ⟨_, _, hp⟩ := owp_ob hp
  refine lv_aload_n hx hb dX0_slotOf_0 rfl (lv_at hl 0 rfl) ?_
  obtain ⟨x1, e_x1, hp⟩ := owp_ob hp
  refine gf_X0_21 X hR e_x1 dX0_slotOf_1 ?_
  refine lv_iconst (v := (1)) hx hb dX0_slotOf_4 (by decide) ?_
  refine lv_isub hx hb dX0_slotOf_5 ?_
  refine lv_iload_n hx hb dX0_slotOf_6 rfl (lv_at hl 1 rfl) ?_
  refine lv_isub hx hb dX0_slotOf_7 ?_
  refine lv_bipush (v := (20)) hx hb dX0_slotOf_8 (by decide) ?_
  obtain ⟨x3, N2, e_N2, hp⟩ := owp_ob2 hp
  refine iv_J9_floorMod_7cf53 (rest := []) mw_X0_28 X hR hS e_N2 hl.1 (Nat.le_of_ble_eq_true rfl) ⟨Nat.le_of_ble_eq_true rfl, Nat.le_of_ble_eq_true rfl⟩ ⟨Nat.le_of_ble_eq_true rfl, Nat.le_of_ble_eq_true rfl⟩ dX0_slotOf_10 (fun H locs hR hS => ?_)
  exact hr _ _ _ _ _ _ hR hS dX0_slotOf_13 hp
end
theorem ct_X0_slotOf {v0 : Nat} {v1 : Int32} {N N1 : AH} {r : Int32} (h : f_X0_slotOf v0 v1 N = some (r, N1)) : Ct yX0_slotOf cX0_slotOf 2 (some .int) rm_X0_slotOf [.ref v0, .int v1] N (some (.int r)) N1 :=
  ab_met (own := RX0) (by decide +kernel) rfl (Nat.le_of_ble_eq_true rfl) (fun l G aC t b0 p e s m below meth c ls X hr hlk hnm hR hS hl => wk_X0_slotOf X (RtI_met X.1.1 X.1.2.1 hr hlk) _ _ _ _ _ _ hR hS hl (owp_of h))
theorem cw_X0_slotOf : Cond.code yX0_slotOf cX0_slotOf 2 (some .int) ∈ WT := WT_of 917 (by decide +kernel) (by decide +kernel)
theorem iv_X0_slotOf {p : Program} {l : Launch} {e : Env} {R : Room} {s : State} {m : MethodId} {args : Array Value} {below : List Frame} {meth : Method} {c : Code} {H : Heap} {locs : List Loc} {cells slots : Nat} {Q : State → Prop} {cc : ByteArray} {own : String} {nL : Nat} {G : va_G} {aC : Nat → ClassId} {t b0 : Nat} {N N1 : AH} {pc index : Nat} {ls : Array Slot} {rest : List Value} {v0 : Nat} {v1 : Int32} {r : Int32} (w1 : Cond.methodLink own index yX0_slotOf ∈ WT) (X : CX cc own nL G aC t b0 p s m args c) (hR : Rp G aC b0 N H) (hS : va_S (fun q => b0 ≤ q) s.heap H locs) (h : f_X0_slotOf v0 v1 N = some (r, N1)) (hls : ls.size = nL) (hW : (rest.map fun v => v.category).sum ≤ 8) (hR1 : 2 ≤ R.frames ∧ 43 ≤ R.locals) (hcs : cells + 0 ≤ R.cells ∧ slots + 0 ≤ R.slots) (hdg : decode cc pc = .ok (.invokevirtual index, 3)) (kk : ∀ (H1 : Heap) (locs1 : List Loc), Rp G aC b0 N1 H1 → va_S (fun q => b0 ≤ q) s.heap H1 locs1 → W p l e R s m args below meth c H1 locs1 cells slots Q (F0 m (pc + 3) ls (.int r :: rest))) : W p l e R s m args below meth c H locs cells slots Q (F0 m pc ls (.int v1 :: .ref v0 :: rest)) :=
  ab_callV (n := 1) (As := [.int v1]) X hR hS (ct_X0_slotOf h) (ob_rc (c := 0) (N := N) (a := v0) h) (T := TX0) (k := 5) (C := RX0) rfl w1 (WT_of 915 (by decide +kernel) (by decide +kernel)) (WT_of 916 (by decide +kernel) (by decide +kernel)) (WT_of 87 (by decide +kernel) (by decide +kernel)) cw_X0_slotOf ⟨rfl, by decide +kernel, by decide +kernel, by decide +kernel⟩ rfl hls hW hR1 hcs rfl hdg kk
-- X0_copyFrom
theorem dX0_copyFrom_0 : decode cX0_copyFrom 0 = .ok (.aload_n 0, 1) := by decide +kernel
theorem dX0_copyFrom_1 : decode cX0_copyFrom 1 = .ok (.aload_n 1, 1) := by decide +kernel
theorem dX0_copyFrom_2 : decode cX0_copyFrom 2 = .ok (.getfield 25, 3) := by decide +kernel
theorem dX0_copyFrom_5 : decode cX0_copyFrom 5 = .ok (.putfield 25, 3) := by decide +kernel
theorem dX0_copyFrom_8 : decode cX0_copyFrom 8 = .ok (.aload_n 0, 1) := by decide +kernel
theorem dX0_copyFrom_9 : decode cX0_copyFrom 9 = .ok (.aload_n 1, 1) := by decide +kernel
theorem dX0_copyFrom_10 : decode cX0_copyFrom 10 = .ok (.getfield 21, 3) := by decide +kernel
theorem dX0_copyFrom_13 : decode cX0_copyFrom 13 = .ok (.putfield 21, 3) := by decide +kernel
theorem dX0_copyFrom_16 : decode cX0_copyFrom 16 = .ok (.aload_n 1, 1) := by decide +kernel
theorem dX0_copyFrom_17 : decode cX0_copyFrom 17 = .ok (.getfield 9, 3) := by decide +kernel
theorem dX0_copyFrom_20 : decode cX0_copyFrom 20 = .ok (.iconst 0, 1) := by decide +kernel
theorem dX0_copyFrom_21 : decode cX0_copyFrom 21 = .ok (.aload_n 0, 1) := by decide +kernel
theorem dX0_copyFrom_22 : decode cX0_copyFrom 22 = .ok (.getfield 9, 3) := by decide +kernel
theorem dX0_copyFrom_25 : decode cX0_copyFrom 25 = .ok (.iconst 0, 1) := by decide +kernel
theorem dX0_copyFrom_26 : decode cX0_copyFrom 26 = .ok (.bipush 20, 2) := by decide +kernel
theorem dX0_copyFrom_28 : decode cX0_copyFrom 28 = .ok (.invokestatic 34, 3) := by decide +kernel
theorem dX0_copyFrom_31 : decode cX0_copyFrom 31 = .ok (.aload_n 1, 1) := by decide +kernel
theorem dX0_copyFrom_32 : decode cX0_copyFrom 32 = .ok (.getfield 15, 3) := by decide +kernel
theorem dX0_copyFrom_35 : decode cX0_copyFrom 35 = .ok (.iconst 0, 1) := by decide +kernel
theorem dX0_copyFrom_36 : decode cX0_copyFrom 36 = .ok (.aload_n 0, 1) := by decide +kernel
theorem dX0_copyFrom_37 : decode cX0_copyFrom 37 = .ok (.getfield 15, 3) := by decide +kernel
theorem dX0_copyFrom_40 : decode cX0_copyFrom 40 = .ok (.iconst 0, 1) := by decide +kernel
theorem dX0_copyFrom_41 : decode cX0_copyFrom 41 = .ok (.bipush 20, 2) := by decide +kernel
theorem dX0_copyFrom_43 : decode cX0_copyFrom 43 = .ok (.invokestatic 34, 3) := by decide +kernel
theorem dX0_copyFrom_46 : decode cX0_copyFrom 46 = .ok (.aload_n 1, 1) := by decide +kernel
theorem dX0_copyFrom_47 : decode cX0_copyFrom 47 = .ok (.getfield 18, 3) := by decide +kernel
theorem dX0_copyFrom_50 : decode cX0_copyFrom 50 = .ok (.iconst 0, 1) := by decide +kernel
theorem dX0_copyFrom_51 : decode cX0_copyFrom 51 = .ok (.aload_n 0, 1) := by decide +kernel
theorem dX0_copyFrom_52 : decode cX0_copyFrom 52 = .ok (.getfield 18, 3) := by decide +kernel
theorem dX0_copyFrom_55 : decode cX0_copyFrom 55 = .ok (.iconst 0, 1) := by decide +kernel
theorem dX0_copyFrom_56 : decode cX0_copyFrom 56 = .ok (.bipush 20, 2) := by decide +kernel
theorem dX0_copyFrom_58 : decode cX0_copyFrom 58 = .ok (.invokestatic 34, 3) := by decide +kernel
theorem dX0_copyFrom_61 : decode cX0_copyFrom 61 = .ok (.return_, 1) := by decide +kernel
def rm_X0_copyFrom : Room := { frames := 1, cells := 0, slots := 0, locals := 18 }
section
variable {p : Program} {l : Launch} {e : Env} {s : State} {m : MethodId} {args : Array Value} {below : List Frame} {meth : Method} {c : Code} {Q : State → Prop} {G : va_G} {aC : Nat → ClassId} {t b0 : Nat}
def f_X0_copyFrom (v0 : Nat) (v1 : Nat) (N : AH) : Option (Unit × AH) := ob (iO N v0 0) (fun _ => ob (hI N v1 0 0) (fun x1 => ob (pI N v0 0 0 x1) (fun N2 => ob (hI N2 v1 0 1) (fun x3 => ob (pI N2 v0 0 1 x3) (fun N4 => ob (hR N4 v1 0 2) (fun x5 => ob (hR N4 v0 0 2) (fun x6 => ob (cI N4 x5 (0 : Int32) x6 (0 : Int32) (20 : Int32)) (fun N7 => ob (hR N7 v1 0 3) (fun x8 => ob (hR N7 v0 0 3) (fun x9 => ob (cI N7 x8 (0 : Int32) x9 (0 : Int32) (20 : Int32)) (fun N10 => ob (hR N10 v1 0 4) (fun x11 => ob (hR N10 v0 0 4) (fun x12 => ob (cI N10 x11 (0 : Int32) x12 (0 : Int32) (20 : Int32)) (fun N13 => some ((), N13)))))))))))))))
set_option maxHeartbeats 4000000 in
set_option maxRecDepth 100000 in
theorem wk_X0_copyFrom {P : Unit × AH → Prop} (X : CX cX0_copyFrom RX0 2 G aC t b0 p s m args c) (hr : RtV p l e rm_X0_copyFrom s m args below meth c 0 0 Q cX0_copyFrom G aC b0 P) (v0 : Nat) (v1 : Nat) (N : AH) (H : Heap) (locs : List Loc) (ls : Array Slot) (hR : Rp G aC b0 N H) (hS : va_S (fun q => b0 ≤ q) s.heap H locs) (hl : lv_has ls 2 [(0, .ref v0), (1, .ref v1)]) (hp : owp (f_X0_copyFrom v0 v1 N) P) : W p l e rm_X0_copyFrom s m args below meth c H locs 0 0 Q (F0 m 0 ls []) := by
  have hx := X.1.1
  have hb := X.1.2.1
  unfold f_X0_copyFrom at hp
  obtain ⟨_, _, hp⟩ := owp_ob hp
  refine lv_aload_n hx hb dX0_copyFrom_0 rfl (lv_at hl 0 rfl) ?_
  refine lv_aload_n hx hb dX0_copyFrom_1 rfl (lv_at hl 1 rfl) ?_
  obtain ⟨x1, e_x1, hp⟩ := owp_ob hp
  refine gf_X0_25 X hR e_x1 dX0_copyFrom_2 ?_
  obtain ⟨N2, e_N2, hp⟩ := owp_ob hp
  refine pf_X0_25 X hR hS e_N2 dX0_copyFrom_5 (fun H locs hR hS => ?_)
  refine lv_aload_n hx hb dX0_copyFrom_8 rfl (lv_at hl 0 rfl) ?_
  refine lv_aload_n hx hb dX0_copyFrom_9 rfl (lv_at hl 1 rfl) ?_
  obtain ⟨x3, e_x3, hp⟩ := owp_ob hp
  refine gf_X0_21 X hR e_x3 dX0_copyFrom_10 ?_
  obtain ⟨N4, e_N4, hp⟩ := owp_ob hp
  refine pf_X0_21 X hR hS e_N4 dX0_copyFrom_13 (fun H locs hR hS => ?_)
  refine lv_aload_n hx hb dX0_copyFrom_16 rfl (lv_at hl 1 rfl) ?_
  obtain ⟨x5, e_x5, hp⟩ := owp_ob hp
  refine gf_X0_9 X hR e_x5 dX0_copyFrom_17 ?_
  refine lv_iconst (v := (0)) hx hb dX0_copyFrom_20 (by decide) ?_
  refine lv_aload_n hx hb dX0_copyFrom_21 rfl (lv_at hl 0 rfl) ?_
  obtain ⟨x6, e_x6, hp⟩ := owp_ob hp
  refine gf_X0_9 X hR e_x6 dX0_copyFrom_22 ?_
  refine lv_iconst (v := (0)) hx hb dX0_copyFrom_25 (by decide) ?_
  refine lv_bipush (v := (20)) hx hb dX0_copyFrom_26 (by decide) ?_
  obtain ⟨N7, e_N7, hp⟩ := owp_ob hp
  refine ab_copy X hR hS (WT_of 536 (by decide +kernel) (by decide +kernel)) w_acN w_acS w_acI e_N7 hl.1 (Nat.le_of_ble_eq_true rfl) (Nat.le_of_ble_eq_true rfl) dX0_copyFrom_28 (fun H locs hR hS => ?_)
  refine lv_aload_n hx hb dX0_copyFrom_31 rfl (lv_at hl 1 rfl) ?_
  obtain ⟨x8, e_x8, hp⟩ := owp_ob hp
  refine gf_X0_15 X hR e_x8 dX0_copyFrom_32 ?_
  refine lv_iconst (v := (0)) hx hb dX0_copyFrom_35 (by decide) ?_
  refine lv_aload_n hx hb dX0_copyFrom_36 rfl (lv_at hl 0 rfl) ?_
  obtain ⟨x9, e_x9, hp⟩ := owp_ob hp
  refine gf_X0_15 X hR e_x9 dX0_copyFrom_37 ?_
  refine lv_iconst (v := (0)) hx hb dX0_copyFrom_40 (by decide) ?_
  refine lv_bipush (v := (20)) hx hb dX0_copyFrom_41 (by decide) ?_
  obtain ⟨N10, e_N10, hp⟩ := owp_ob hp
  refine ab_copy X hR hS (WT_of 536 (by decide +kernel) (by decide +kernel)) w_acN w_acS w_acI e_N10 hl.1 (Nat.le_of_ble_eq_true rfl) (Nat.le_of_ble_eq_true rfl) dX0_copyFrom_43 (fun H locs hR hS => ?_)
  refine lv_aload_n hx hb dX0_copyFrom_46 rfl (lv_at hl 1 rfl) ?_
  obtain ⟨x11, e_x11, hp⟩ := owp_ob hp
  refine gf_X0_18 X hR e_x11 dX0_copyFrom_47 ?_
  refine lv_iconst (v := (0)) hx hb dX0_copyFrom_50 (by decide) ?_
  refine lv_aload_n hx hb dX0_copyFrom_51 rfl (lv_at hl 0 rfl) ?_
  obtain ⟨x12, e_x12, hp⟩ := owp_ob hp
  refine gf_X0_18 X hR e_x12 dX0_copyFrom_52 ?_
  refine lv_iconst (v := (0)) hx hb dX0_copyFrom_55 (by decide) ?_
  refine lv_bipush (v := (20)) hx hb dX0_copyFrom_56 (by decide) ?_
  obtain ⟨N13, e_N13, hp⟩ := owp_ob hp
  refine ab_copy X hR hS (WT_of 536 (by decide +kernel) (by decide +kernel)) w_acN w_acS w_acI e_N13 hl.1 (Nat.le_of_ble_eq_true rfl) (Nat.le_of_ble_eq_true rfl) dX0_copyFrom_58 (fun H locs hR hS => ?_)
  exact hr _ _ _ _ _ hR hS dX0_copyFrom_61 hp
end
theorem ct_X0_copyFrom {v0 : Nat} {v1 : Nat} {N N1 : AH} {r : Unit} (h : f_X0_copyFrom v0 v1 N = some (r, N1)) : Ct yX0_copyFrom cX0_copyFrom 2 none rm_X0_copyFrom [.ref v0, .ref v1] N none N1 :=
  ab_met (own := RX0) (by decide +kernel) rfl (Nat.le_of_ble_eq_true rfl) (fun l G aC t b0 p e s m below meth c ls X hr hlk hnm hR hS hl => wk_X0_copyFrom X (RtV_met X.1.1 X.1.2.1 hr hlk) _ _ _ _ _ _ hR hS hl (owp_of h))
theorem cw_X0_copyFrom : Cond.code yX0_copyFrom cX0_copyFrom 2 none ∈ WT := WT_of 535 (by decide +kernel) (by decide +kernel)
theorem iv_X0_copyFrom {p : Program} {l : Launch} {e : Env} {R : Room} {s : State} {m : MethodId} {args : Array Value} {below : List Frame} {meth : Method} {c : Code} {H : Heap} {locs : List Loc} {cells slots : Nat} {Q : State → Prop} {cc : ByteArray} {own : String} {nL : Nat} {G : va_G} {aC : Nat → ClassId} {t b0 : Nat} {N N1 : AH} {pc index : Nat} {ls : Array Slot} {rest : List Value} {v0 : Nat} {v1 : Nat} {r : Unit} (w1 : Cond.methodLink own index yX0_copyFrom ∈ WT) (X : CX cc own nL G aC t b0 p s m args c) (hR : Rp G aC b0 N H) (hS : va_S (fun q => b0 ≤ q) s.heap H locs) (h : f_X0_copyFrom v0 v1 N = some (r, N1)) (hls : ls.size = nL) (hW : (rest.map fun v => v.category).sum ≤ 8) (hR1 : 2 ≤ R.frames ∧ 39 ≤ R.locals) (hcs : cells + 0 ≤ R.cells ∧ slots + 0 ≤ R.slots) (hdg : decode cc pc = .ok (.invokevirtual index, 3)) (kk : ∀ (H1 : Heap) (locs1 : List Loc), Rp G aC b0 N1 H1 → va_S (fun q => b0 ≤ q) s.heap H1 locs1 → W p l e R s m args below meth c H1 locs1 cells slots Q (F0 m (pc + 3) ls rest)) : W p l e R s m args below meth c H locs cells slots Q (F0 m pc ls (.ref v1 :: .ref v0 :: rest)) :=
  ab_callV (n := 1) (As := [.ref v1]) X hR hS (ct_X0_copyFrom h) (ob_rc (c := 0) (N := N) (a := v0) h) (T := TX0) (k := 5) (C := RX0) rfl w1 (WT_of 533 (by decide +kernel) (by decide +kernel)) (WT_of 534 (by decide +kernel) (by decide +kernel)) (WT_of 87 (by decide +kernel) (by decide +kernel)) cw_X0_copyFrom ⟨rfl, by decide +kernel, by decide +kernel, by decide +kernel⟩ rfl hls hW hR1 hcs rfl hdg kk
-- X1_init
theorem pf_X1_9 {p : Program} {l : Launch} {e : Env} {R : Room} {s : State} {m : MethodId} {args : Array Value} {below : List Frame} {meth : Method} {c : Code} {H : Heap} {locs : List Loc} {cells slots : Nat} {Q : State → Prop} {cc : ByteArray} {nL : Nat} {G : va_G} {aC : Nat → ClassId} {t b0 : Nat} {N : AH} {pc : Nat} {ls : Array Slot} {rest : List Value} {N1 : AH} {a : Nat} {v : Nat} (X : CX cc RX1 nL G aC t b0 p s m args c) (hR0 : Rp G aC b0 N H) (hS : va_S (fun q => b0 ≤ q) s.heap H locs) (hmn : meth.name = "<init>") (hv : pR N a 1 1 v = some N1) (hdg : decode cc pc = .ok (.putfield 9, 3)) (kk : ∀ (H1 : Heap) (locs1 : List Loc), Rp G aC b0 N1 H1 → va_S (fun q => b0 ≤ q) s.heap H1 locs1 → W p l e R s m args below meth c H1 locs1 cells slots Q (F0 m (pc + 3) ls rest)) : W p l e R s m args below meth c H locs cells slots Q (F0 m pc ls (.ref v :: .ref a :: rest)) := by
  obtain ⟨fs, h1, h2, h3⟩ := pV_ok hv
  subst h3
  exact ab_putF (C := RX1) (T := TX1) (n := 6) X hR0 hS hmn h1 h2 rfl inX1 tyX1 tyX1_ok nmX1 (by decide) (WT_of 121 (by decide +kernel) (by decide +kernel)) rfl rfl rfl rfl hdg kk
theorem pf_X1_15 {p : Program} {l : Launch} {e : Env} {R : Room} {s : State} {m : MethodId} {args : Array Value} {below : List Frame} {meth : Method} {c : Code} {H : Heap} {locs : List Loc} {cells slots : Nat} {Q : State → Prop} {cc : ByteArray} {nL : Nat} {G : va_G} {aC : Nat → ClassId} {t b0 : Nat} {N : AH} {pc : Nat} {ls : Array Slot} {rest : List Value} {N1 : AH} {a : Nat} {v : Nat} (X : CX cc RX1 nL G aC t b0 p s m args c) (hR0 : Rp G aC b0 N H) (hS : va_S (fun q => b0 ≤ q) s.heap H locs) (hmn : meth.name = "<init>") (hv : pR N a 1 2 v = some N1) (hdg : decode cc pc = .ok (.putfield 15, 3)) (kk : ∀ (H1 : Heap) (locs1 : List Loc), Rp G aC b0 N1 H1 → va_S (fun q => b0 ≤ q) s.heap H1 locs1 → W p l e R s m args below meth c H1 locs1 cells slots Q (F0 m (pc + 3) ls rest)) : W p l e R s m args below meth c H locs cells slots Q (F0 m pc ls (.ref v :: .ref a :: rest)) := by
  obtain ⟨fs, h1, h2, h3⟩ := pV_ok hv
  subst h3
  exact ab_putF (C := RX1) (T := TX1) (n := 6) X hR0 hS hmn h1 h2 rfl inX1 tyX1 tyX1_ok nmX1 (by decide) (WT_of 125 (by decide +kernel) (by decide +kernel)) rfl rfl rfl rfl hdg kk
theorem pf_X1_18 {p : Program} {l : Launch} {e : Env} {R : Room} {s : State} {m : MethodId} {args : Array Value} {below : List Frame} {meth : Method} {c : Code} {H : Heap} {locs : List Loc} {cells slots : Nat} {Q : State → Prop} {cc : ByteArray} {nL : Nat} {G : va_G} {aC : Nat → ClassId} {t b0 : Nat} {N : AH} {pc : Nat} {ls : Array Slot} {rest : List Value} {N1 : AH} {a : Nat} {v : Nat} (X : CX cc RX1 nL G aC t b0 p s m args c) (hR0 : Rp G aC b0 N H) (hS : va_S (fun q => b0 ≤ q) s.heap H locs) (hmn : meth.name = "<init>") (hv : pR N a 1 3 v = some N1) (hdg : decode cc pc = .ok (.putfield 18, 3)) (kk : ∀ (H1 : Heap) (locs1 : List Loc), Rp G aC b0 N1 H1 → va_S (fun q => b0 ≤ q) s.heap H1 locs1 → W p l e R s m args below meth c H1 locs1 cells slots Q (F0 m (pc + 3) ls rest)) : W p l e R s m args below meth c H locs cells slots Q (F0 m pc ls (.ref v :: .ref a :: rest)) := by
  obtain ⟨fs, h1, h2, h3⟩ := pV_ok hv
  subst h3
  exact ab_putF (C := RX1) (T := TX1) (n := 6) X hR0 hS hmn h1 h2 rfl inX1 tyX1 tyX1_ok nmX1 (by decide) (WT_of 129 (by decide +kernel) (by decide +kernel)) rfl rfl rfl rfl hdg kk
theorem pf_X1_21 {p : Program} {l : Launch} {e : Env} {R : Room} {s : State} {m : MethodId} {args : Array Value} {below : List Frame} {meth : Method} {c : Code} {H : Heap} {locs : List Loc} {cells slots : Nat} {Q : State → Prop} {cc : ByteArray} {nL : Nat} {G : va_G} {aC : Nat → ClassId} {t b0 : Nat} {N : AH} {pc : Nat} {ls : Array Slot} {rest : List Value} {N1 : AH} {a : Nat} {v : Nat} (X : CX cc RX1 nL G aC t b0 p s m args c) (hR0 : Rp G aC b0 N H) (hS : va_S (fun q => b0 ≤ q) s.heap H locs) (hmn : meth.name = "<init>") (hv : pR N a 1 4 v = some N1) (hdg : decode cc pc = .ok (.putfield 21, 3)) (kk : ∀ (H1 : Heap) (locs1 : List Loc), Rp G aC b0 N1 H1 → va_S (fun q => b0 ≤ q) s.heap H1 locs1 → W p l e R s m args below meth c H1 locs1 cells slots Q (F0 m (pc + 3) ls rest)) : W p l e R s m args below meth c H locs cells slots Q (F0 m pc ls (.ref v :: .ref a :: rest)) := by
  obtain ⟨fs, h1, h2, h3⟩ := pV_ok hv
  subst h3
  exact ab_putF (C := RX1) (T := TX1) (n := 6) X hR0 hS hmn h1 h2 rfl inX1 tyX1 tyX1_ok nmX1 (by decide) (WT_of 132 (by decide +kernel) (by decide +kernel)) rfl rfl rfl rfl hdg kk
theorem pf_X1_24 {p : Program} {l : Launch} {e : Env} {R : Room} {s : State} {m : MethodId} {args : Array Value} {below : List Frame} {meth : Method} {c : Code} {H : Heap} {locs : List Loc} {cells slots : Nat} {Q : State → Prop} {cc : ByteArray} {nL : Nat} {G : va_G} {aC : Nat → ClassId} {t b0 : Nat} {N : AH} {pc : Nat} {ls : Array Slot} {rest : List Value} {N1 : AH} {a : Nat} {v : Nat} (X : CX cc RX1 nL G aC t b0 p s m args c) (hR0 : Rp G aC b0 N H) (hS : va_S (fun q => b0 ≤ q) s.heap H locs) (hmn : meth.name = "<init>") (hv : pR N a 1 5 v = some N1) (hdg : decode cc pc = .ok (.putfield 24, 3)) (kk : ∀ (H1 : Heap) (locs1 : List Loc), Rp G aC b0 N1 H1 → va_S (fun q => b0 ≤ q) s.heap H1 locs1 → W p l e R s m args below meth c H1 locs1 cells slots Q (F0 m (pc + 3) ls rest)) : W p l e R s m args below meth c H locs cells slots Q (F0 m pc ls (.ref v :: .ref a :: rest)) := by
  obtain ⟨fs, h1, h2, h3⟩ := pV_ok hv
  subst h3
  exact ab_putF (C := RX1) (T := TX1) (n := 6) X hR0 hS hmn h1 h2 rfl inX1 tyX1 tyX1_ok nmX1 (by decide) (WT_of 136 (by decide +kernel) (by decide +kernel)) rfl rfl rfl rfl hdg kk
theorem dX1_init_0 : decode cX1_init 0 = .ok (.aload_n 0, 1) := by decide +kernel
theorem dX1_init_1 : decode cX1_init 1 = .ok (.invokespecial 3, 3) := by decide +kernel
theorem dX1_init_4 : decode cX1_init 4 = .ok (.aload_n 0, 1) := by decide +kernel
theorem dX1_init_5 : decode cX1_init 5 = .ok (.bipush 16, 2) := by decide +kernel
theorem dX1_init_7 : decode cX1_init 7 = .ok (.newarray .int, 2) := by decide +kernel
theorem dX1_init_9 : decode cX1_init 9 = .ok (.putfield 9, 3) := by decide +kernel
theorem dX1_init_12 : decode cX1_init 12 = .ok (.aload_n 0, 1) := by decide +kernel
theorem dX1_init_13 : decode cX1_init 13 = .ok (.bipush 16, 2) := by decide +kernel
theorem dX1_init_15 : decode cX1_init 15 = .ok (.newarray .int, 2) := by decide +kernel
theorem dX1_init_17 : decode cX1_init 17 = .ok (.putfield 15, 3) := by decide +kernel
theorem dX1_init_20 : decode cX1_init 20 = .ok (.aload_n 0, 1) := by decide +kernel
theorem dX1_init_21 : decode cX1_init 21 = .ok (.bipush 16, 2) := by decide +kernel
theorem dX1_init_23 : decode cX1_init 23 = .ok (.newarray .int, 2) := by decide +kernel
theorem dX1_init_25 : decode cX1_init 25 = .ok (.putfield 18, 3) := by decide +kernel
theorem dX1_init_28 : decode cX1_init 28 = .ok (.aload_n 0, 1) := by decide +kernel
theorem dX1_init_29 : decode cX1_init 29 = .ok (.bipush 16, 2) := by decide +kernel
theorem dX1_init_31 : decode cX1_init 31 = .ok (.newarray .int, 2) := by decide +kernel
theorem dX1_init_33 : decode cX1_init 33 = .ok (.putfield 21, 3) := by decide +kernel
theorem dX1_init_36 : decode cX1_init 36 = .ok (.aload_n 0, 1) := by decide +kernel
theorem dX1_init_37 : decode cX1_init 37 = .ok (.bipush 16, 2) := by decide +kernel
theorem dX1_init_39 : decode cX1_init 39 = .ok (.newarray .int, 2) := by decide +kernel
theorem dX1_init_41 : decode cX1_init 41 = .ok (.putfield 24, 3) := by decide +kernel
theorem dX1_init_44 : decode cX1_init 44 = .ok (.return_, 1) := by decide +kernel
def rm_X1_init : Room := { frames := 1, cells := 5, slots := 80, locals := 12 }
section
variable {p : Program} {l : Launch} {e : Env} {s : State} {m : MethodId} {args : Array Value} {below : List Frame} {meth : Method} {c : Code} {Q : State → Prop} {G : va_G} {aC : Nat → ClassId} {t b0 : Nat}
def f_X1_init (v0 : Nat) (N : AH) : Option (Unit × AH) := ob (pR (nI0 N 16) v0 1 1 N.1) (fun N1 => ob (pR (nI0 N1 16) v0 1 2 N1.1) (fun N2 => ob (pR (nI0 N2 16) v0 1 3 N2.1) (fun N3 => ob (pR (nI0 N3 16) v0 1 4 N3.1) (fun N4 => ob (pR (nI0 N4 16) v0 1 5 N4.1) (fun N5 => some ((), N5))))))
set_option maxHeartbeats 4000000 in
set_option maxRecDepth 100000 in
theorem wk_X1_init {P : Unit × AH → Prop} (X : CX cX1_init RX1 1 G aC t b0 p s m args c) (hr : RtV p l e rm_X1_init s m args below meth c 5 80 Q cX1_init G aC b0 P) (hmn : meth.name = "<init>") (v0 : Nat) (N : AH) (H : Heap) (locs : List Loc) (ls : Array Slot) (hR : Rp G aC b0 N H) (hS : va_S (fun q => b0 ≤ q) s.heap H locs) (hl : lv_has ls 1 [(0, .ref v0)]) (hp : owp (f_X1_init v0 N) P) : W p l e rm_X1_init s m args below meth c H locs 0 0 Q (F0 m 0 ls []) := by
  have hx := X.1.1
  have hb := X.1.2.1
  unfold f_X1_init at hp
  refine lv_aload_n hx hb dX1_init_0 rfl (lv_at hl 0 rfl) ?_
  refine ab_objI X (WT_of 114 (by decide +kernel) (by decide +kernel)) w_objI w_objC hl.1 (Nat.le_of_ble_eq_true rfl) (Nat.le_of_ble_eq_true rfl) dX1_init_1 ?_
  refine lv_aload_n hx hb dX1_init_4 rfl (lv_at hl 0 rfl) ?_
  refine lv_bipush (v := (16)) hx hb dX1_init_5 (by decide) ?_
  refine ab_newI (k := 16) X hR hS (WT_of 152 (by decide +kernel) (by decide +kernel)) (by decide) rfl (Nat.le_of_ble_eq_true rfl) (Nat.le_of_ble_eq_true rfl) (Nat.le_of_ble_eq_true rfl) dX1_init_7 (fun H hR hS => ?_)
  refine W.widen (k := 1) (n := 16) (Nat.le_of_ble_eq_true rfl) (Nat.le_of_ble_eq_true rfl) ?_
  obtain ⟨N1, e_N1, hp⟩ := owp_ob hp
  refine pf_X1_9 X hR hS hmn e_N1 dX1_init_9 (fun H locs hR hS => ?_)
  refine lv_aload_n hx hb dX1_init_12 rfl (lv_at hl 0 rfl) ?_
  refine lv_bipush (v := (16)) hx hb dX1_init_13 (by decide) ?_
  refine ab_newI (k := 16) X hR hS (WT_of 152 (by decide +kernel) (by decide +kernel)) (by decide) rfl (Nat.le_of_ble_eq_true rfl) (Nat.le_of_ble_eq_true rfl) (Nat.le_of_ble_eq_true rfl) dX1_init_15 (fun H hR hS => ?_)
  refine W.widen (k := 2) (n := 32) (Nat.le_of_ble_eq_true rfl) (Nat.le_of_ble_eq_true rfl) ?_
  obtain ⟨N2, e_N2, hp⟩ := owp_ob hp
  refine pf_X1_15 X hR hS hmn e_N2 dX1_init_17 (fun H locs hR hS => ?_)
  refine lv_aload_n hx hb dX1_init_20 rfl (lv_at hl 0 rfl) ?_
  refine lv_bipush (v := (16)) hx hb dX1_init_21 (by decide) ?_
  refine ab_newI (k := 16) X hR hS (WT_of 152 (by decide +kernel) (by decide +kernel)) (by decide) rfl (Nat.le_of_ble_eq_true rfl) (Nat.le_of_ble_eq_true rfl) (Nat.le_of_ble_eq_true rfl) dX1_init_23 (fun H hR hS => ?_)
  refine W.widen (k := 3) (n := 48) (Nat.le_of_ble_eq_true rfl) (Nat.le_of_ble_eq_true rfl) ?_
  obtain ⟨N3, e_N3, hp⟩ := owp_ob hp
  refine pf_X1_18 X hR hS hmn e_N3 dX1_init_25 (fun H locs hR hS => ?_)
  refine lv_aload_n hx hb dX1_init_28 rfl (lv_at hl 0 rfl) ?_
  refine lv_bipush (v := (16)) hx hb dX1_init_29 (by decide) ?_
  refine ab_newI (k := 16) X hR hS (WT_of 152 (by decide +kernel) (by decide +kernel)) (by decide) rfl (Nat.le_of_ble_eq_true rfl) (Nat.le_of_ble_eq_true rfl) (Nat.le_of_ble_eq_true rfl) dX1_init_31 (fun H hR hS => ?_)
  refine W.widen (k := 4) (n := 64) (Nat.le_of_ble_eq_true rfl) (Nat.le_of_ble_eq_true rfl) ?_
  obtain ⟨N4, e_N4, hp⟩ := owp_ob hp
  refine pf_X1_21 X hR hS hmn e_N4 dX1_init_33 (fun H locs hR hS => ?_)
  refine lv_aload_n hx hb dX1_init_36 rfl (lv_at hl 0 rfl) ?_
  refine lv_bipush (v := (16)) hx hb dX1_init_37 (by decide) ?_
  refine ab_newI (k := 16) X hR hS (WT_of 152 (by decide +kernel) (by decide +kernel)) (by decide) rfl (Nat.le_of_ble_eq_true rfl) (Nat.le_of_ble_eq_true rfl) (Nat.le_of_ble_eq_true rfl) dX1_init_39 (fun H hR hS => ?_)
  refine W.widen (k := 5) (n := 80) (Nat.le_of_ble_eq_true rfl) (Nat.le_of_ble_eq_true rfl) ?_
  obtain ⟨N5, e_N5, hp⟩ := owp_ob hp
  refine pf_X1_24 X hR hS hmn e_N5 dX1_init_41 (fun H locs hR hS => ?_)
  exact hr _ _ _ _ _ hR hS dX1_init_44 hp
end
theorem ct_X1_init {v0 : Nat} {N N1 : AH} {r : Unit} (h : f_X1_init v0 N = some (r, N1)) : Ct yX1_init cX1_init 1 none rm_X1_init [.ref v0] N none N1 :=
  ab_met (own := RX1) (by decide +kernel) rfl (Nat.le_of_ble_eq_true rfl) (fun l G aC t b0 p e s m below meth c ls X hr hlk hnm hR hS hl => wk_X1_init X (RtV_met X.1.1 X.1.2.1 hr hlk) hnm _ _ _ _ _ hR hS hl (owp_of h))
theorem cw_X1_init : Cond.code yX1_init cX1_init 1 none ∈ WT := WT_of 113 (by decide +kernel) (by decide +kernel)
theorem iv_X1_init {p : Program} {l : Launch} {e : Env} {R : Room} {s : State} {m : MethodId} {args : Array Value} {below : List Frame} {meth : Method} {c : Code} {H : Heap} {locs : List Loc} {cells slots : Nat} {Q : State → Prop} {cc : ByteArray} {own : String} {nL : Nat} {G : va_G} {aC : Nat → ClassId} {t b0 : Nat} {N N1 : AH} {pc index : Nat} {ls : Array Slot} {rest : List Value} {v0 : Nat} {r : Unit} (w1 : Cond.methodLink own index yX1_init ∈ WT) (X : CX cc own nL G aC t b0 p s m args c) (hR : Rp G aC b0 N H) (hS : va_S (fun q => b0 ≤ q) s.heap H locs) (h : f_X1_init v0 N = some (r, N1)) (hls : ls.size = nL) (hW : (rest.map fun v => v.category).sum ≤ 8) (hR1 : 2 ≤ R.frames ∧ 32 ≤ R.locals) (hcs : cells + 5 ≤ R.cells ∧ slots + 80 ≤ R.slots) (hdg : decode cc pc = .ok (.invokespecial index, 3)) (kk : ∀ (H1 : Heap) (locs1 : List Loc), Rp G aC b0 N1 H1 → va_S (fun q => b0 ≤ q) s.heap H1 locs1 → W p l e R s m args below meth c H1 locs1 (cells + 5) (slots + 80) Q (F0 m (pc + 3) ls rest)) : W p l e R s m args below meth c H locs cells slots Q (F0 m pc ls (.ref v0 :: rest)) :=
  ab_callI (n := 0) (As := []) X hR hS (ct_X1_init h) w1 (WT_of 112 (by decide +kernel) (by decide +kernel)) (WT_of 83 (by decide +kernel) (by decide +kernel)) cw_X1_init rfl ⟨by decide +kernel, by decide +kernel, by decide +kernel⟩ rfl hls hW hR1 hcs rfl hdg kk
-- X9_isOneOf
theorem dX9_isOneOf_0 : decode cX9_isOneOf 0 = .ok (.iload_n 0, 1) := by decide +kernel
theorem dX9_isOneOf_1 : decode cX9_isOneOf 1 = .ok (.ifCond .lt 12, 3) := by decide +kernel
theorem dX9_isOneOf_4 : decode cX9_isOneOf 4 = .ok (.iload_n 0, 1) := by decide +kernel
theorem dX9_isOneOf_5 : decode cX9_isOneOf 5 = .ok (.iload_n 1, 1) := by decide +kernel
theorem dX9_isOneOf_6 : decode cX9_isOneOf 6 = .ok (.if_icmp .ge 7, 3) := by decide +kernel
theorem dX9_isOneOf_9 : decode cX9_isOneOf 9 = .ok (.iconst 1, 1) := by decide +kernel
theorem dX9_isOneOf_10 : decode cX9_isOneOf 10 = .ok (.goto 4, 3) := by decide +kernel
theorem dX9_isOneOf_13 : decode cX9_isOneOf 13 = .ok (.iconst 0, 1) := by decide +kernel
theorem dX9_isOneOf_14 : decode cX9_isOneOf 14 = .ok (.ireturn, 1) := by decide +kernel
def rm_X9_isOneOf : Room := { frames := 0, cells := 0, slots := 0, locals := 0 }
section
variable {p : Program} {l : Launch} {e : Env} {s : State} {m : MethodId} {args : Array Value} {below : List Frame} {meth : Method} {c : Code} {Q : State → Prop} {G : va_G} {aC : Nat → ClassId} {t b0 : Nat}
def f_X9_isOneOf (v0 : Int32) (v1 : Int32) (N : AH) : Option (Int32 × AH) := if v0 < 0 then some ((0 : Int32), N) else if v1 ≤ v0 then some ((0 : Int32), N) else some ((1 : Int32), N)
set_option maxHeartbeats 4000000 in
set_option maxRecDepth 100000 in
theorem wk_X9_isOneOf {P : Int32 × AH → Prop} (X : CX cX9_isOneOf RX9 2 G aC t b0 p s m args c) (hr : RtZ p l e rm_X9_isOneOf s m args below meth c 0 0 Q cX9_isOneOf G aC b0 P) (v0 : Int32) (v1 : Int32) (N : AH) (H : Heap) (locs : List Loc) (ls : Array Slot) (hR : Rp G aC b0 N H) (hS : va_S (fun q => b0 ≤ q) s.heap H locs) (hl : lv_has ls 2 [(0, .int v0), (1, .int v1)]) (hp : owp (f_X9_isOneOf v0 v1 N) P) : W p l e rm_X9_isOneOf s m args below meth c H locs 0 0 Q (F0 m 0 ls []) := by
  have hx := X.1.1
  have hb := X.1.2.1
  unfold f_X9_isOneOf at hp
  refine lv_iload_n hx hb dX9_isOneOf_0 rfl (lv_at hl 0 rfl) ?_
  refine lv_if_lt (tgt := 13) hx hb dX9_isOneOf_1 (by decide) (fun k1 => ?_) (fun k1 => ?_)
  · have hp := owp_t k1 hp
    refine lv_iconst (v := (0)) hx hb dX9_isOneOf_13 (by decide) ?_
    exact hr _ _ _ _ _ _ hR hS dX9_isOneOf_14 (rZ_0 hp)
  · have hp := owp_f k1 hp
    refine lv_iload_n hx hb dX9_isOneOf_4 rfl (lv_at hl 0 rfl) ?_
    refine lv_iload_n hx hb dX9_isOneOf_5 rfl (lv_at hl 1 rfl) ?_
    refine lv_icmp_ge (tgt := 13) hx hb dX9_isOneOf_6 (by decide) (fun k2 => ?_) (fun k2 => ?_)
    · have hp := owp_t k2 hp
      refine lv_iconst (v := (0)) hx hb dX9_isOneOf_13 (by decide) ?_
      exact hr _ _ _ _ _ _ hR hS dX9_isOneOf_14 (rZ_0 hp)
    · have hp := owp_f k2 hp
      refine lv_iconst (v := (1)) hx hb dX9_isOneOf_9 (by decide) ?_
      refine lv_goto (tgt := 14) hx hb dX9_isOneOf_10 (by decide) ?_
      exact hr _ _ _ _ _ _ hR hS dX9_isOneOf_14 (rZ_1 hp)
end
theorem ct_X9_isOneOf {v0 : Int32} {v1 : Int32} {N N1 : AH} {r : Int32} (h : f_X9_isOneOf v0 v1 N = some (r, N1)) : Ct yX9_isOneOf cX9_isOneOf 2 (some .boolean) rm_X9_isOneOf [.int v0, .int v1] N (some (.int r)) N1 :=
  ab_met (own := RX9) (by decide +kernel) rfl (Nat.le_of_ble_eq_true rfl) (fun l G aC t b0 p e s m below meth c ls X hr hlk hnm hR hS hl => wk_X9_isOneOf X (RtZ_met X.1.1 X.1.2.1 hr hlk) _ _ _ _ _ _ hR hS hl (owp_of h))
theorem cw_X9_isOneOf : Cond.code yX9_isOneOf cX9_isOneOf 2 (some .boolean) ∈ WT := WT_of 462 (by decide +kernel) (by decide +kernel)
theorem iv_X9_isOneOf {p : Program} {l : Launch} {e : Env} {R : Room} {s : State} {m : MethodId} {args : Array Value} {below : List Frame} {meth : Method} {c : Code} {H : Heap} {locs : List Loc} {cells slots : Nat} {Q : State → Prop} {cc : ByteArray} {own : String} {nL : Nat} {G : va_G} {aC : Nat → ClassId} {t b0 : Nat} {N N1 : AH} {pc index : Nat} {ls : Array Slot} {rest : List Value} {v0 : Int32} {v1 : Int32} {r : Int32} (w1 : Cond.methodLink own index yX9_isOneOf ∈ WT) (X : CX cc own nL G aC t b0 p s m args c) (hR : Rp G aC b0 N H) (hS : va_S (fun q => b0 ≤ q) s.heap H locs) (h : f_X9_isOneOf v0 v1 N = some (r, N1)) (hls : ls.size = nL) (hW : (rest.map fun v => v.category).sum ≤ 8) (hR1 : 1 ≤ R.frames ∧ 21 ≤ R.locals) (hcs : cells + 0 ≤ R.cells ∧ slots + 0 ≤ R.slots) (hdg : decode cc pc = .ok (.invokestatic index, 3)) (kk : ∀ (H1 : Heap) (locs1 : List Loc), Rp G aC b0 N1 H1 → va_S (fun q => b0 ≤ q) s.heap H1 locs1 → W p l e R s m args below meth c H1 locs1 cells slots Q (F0 m (pc + 3) ls (.int r :: rest))) : W p l e R s m args below meth c H locs cells slots Q (F0 m pc ls (.int v1 :: .int v0 :: rest)) :=
  ab_callS (n := 2) (As := [.int v0, .int v1]) X hR hS (ct_X9_isOneOf h) w1 (WT_of 461 (by decide +kernel) (by decide +kernel)) (WT_of 81 (by decide +kernel) (by decide +kernel)) cw_X9_isOneOf ⟨by decide +kernel, by decide +kernel, by decide +kernel⟩ rfl hls hW hR1 hcs rfl hdg kk
theorem ivN_X9_isOneOf {p : Program} {l : Launch} {e : Env} {R : Room} {s : State} {m : MethodId} {args : Array Value} {below : List Frame} {meth : Method} {c : Code} {H : Heap} {locs : List Loc} {cells slots : Nat} {Q : State → Prop} {cc : ByteArray} {own : String} {nL : Nat} {G : va_G} {aC : Nat → ClassId} {t b0 : Nat} {N N1 : AH} {pc index : Nat} {ls : Array Slot} {rest : List Value} {v0 : Int32} {v1 : Int32} {r : Int32} (w1 : Cond.methodLinkNest own index yX9_isOneOf RX9 ∈ NWs) (X : CX cc own nL G aC t b0 p s m args c) (hR : Rp G aC b0 N H) (hS : va_S (fun q => b0 ≤ q) s.heap H locs) (h : f_X9_isOneOf v0 v1 N = some (r, N1)) (hls : ls.size = nL) (hW : (rest.map fun v => v.category).sum ≤ 8) (hR1 : 1 ≤ R.frames ∧ 21 ≤ R.locals) (hcs : cells + 0 ≤ R.cells ∧ slots + 0 ≤ R.slots) (hdg : decode cc pc = .ok (.invokestatic index, 3)) (kk : ∀ (H1 : Heap) (locs1 : List Loc), Rp G aC b0 N1 H1 → va_S (fun q => b0 ≤ q) s.heap H1 locs1 → W p l e R s m args below meth c H1 locs1 cells slots Q (F0 m (pc + 3) ls (.int r :: rest))) : W p l e R s m args below meth c H locs cells slots Q (F0 m pc ls (.int v1 :: .int v0 :: rest)) :=
  ab_callSN (n := 2) (As := [.int v0, .int v1]) X hR hS (ct_X9_isOneOf h) w1 (WT_of 461 (by decide +kernel) (by decide +kernel)) (WT_of 81 (by decide +kernel) (by decide +kernel)) cw_X9_isOneOf ⟨by decide +kernel, by decide +kernel, by decide +kernel⟩ rfl hls hW hR1 hcs rfl hdg kk
-- X1_append
theorem gf_X1_9 {p : Program} {l : Launch} {e : Env} {R : Room} {s : State} {m : MethodId} {args : Array Value} {below : List Frame} {meth : Method} {c : Code} {H : Heap} {locs : List Loc} {cells slots : Nat} {Q : State → Prop} {cc : ByteArray} {nL : Nat} {G : va_G} {aC : Nat → ClassId} {t b0 : Nat} {N : AH} {pc : Nat} {ls : Array Slot} {rest : List Value} {a : Nat} {v : Nat} (X : CX cc RX1 nL G aC t b0 p s m args c) (hR0 : Rp G aC b0 N H) (hv : hR N a 1 1 = some v) (hdg : decode cc pc = .ok (.getfield 9, 3)) (kk : W p l e R s m args below meth c H locs cells slots Q (F0 m (pc + 3) ls (.ref v :: rest))) : W p l e R s m args below meth c H locs cells slots Q (F0 m pc ls (.ref a :: rest)) := by
  obtain ⟨fs, h1, h2⟩ := hR_ok hv
  exact ab_get (C := RX1) (T := TX1) (n := 6) X hR0 h1 h2 rfl inX1 (by decide) (WT_of 121 (by decide +kernel) (by decide +kernel)) hdg kk
theorem gf_X1_15 {p : Program} {l : Launch} {e : Env} {R : Room} {s : State} {m : MethodId} {args : Array Value} {below : List Frame} {meth : Method} {c : Code} {H : Heap} {locs : List Loc} {cells slots : Nat} {Q : State → Prop} {cc : ByteArray} {nL : Nat} {G : va_G} {aC : Nat → ClassId} {t b0 : Nat} {N : AH} {pc : Nat} {ls : Array Slot} {rest : List Value} {a : Nat} {v : Nat} (X : CX cc RX1 nL G aC t b0 p s m args c) (hR0 : Rp G aC b0 N H) (hv : hR N a 1 2 = some v) (hdg : decode cc pc = .ok (.getfield 15, 3)) (kk : W p l e R s m args below meth c H locs cells slots Q (F0 m (pc + 3) ls (.ref v :: rest))) : W p l e R s m args below meth c H locs cells slots Q (F0 m pc ls (.ref a :: rest)) := by
  obtain ⟨fs, h1, h2⟩ := hR_ok hv
  exact ab_get (C := RX1) (T := TX1) (n := 6) X hR0 h1 h2 rfl inX1 (by decide) (WT_of 125 (by decide +kernel) (by decide +kernel)) hdg kk
theorem gf_X1_18 {p : Program} {l : Launch} {e : Env} {R : Room} {s : State} {m : MethodId} {args : Array Value} {below : List Frame} {meth : Method} {c : Code} {H : Heap} {locs : List Loc} {cells slots : Nat} {Q : State → Prop} {cc : ByteArray} {nL : Nat} {G : va_G} {aC : Nat → ClassId} {t b0 : Nat} {N : AH} {pc : Nat} {ls : Array Slot} {rest : List Value} {a : Nat} {v : Nat} (X : CX cc RX1 nL G aC t b0 p s m args c) (hR0 : Rp G aC b0 N H) (hv : hR N a 1 3 = some v) (hdg : decode cc pc = .ok (.getfield 18, 3)) (kk : W p l e R s m args below meth c H locs cells slots Q (F0 m (pc + 3) ls (.ref v :: rest))) : W p l e R s m args below meth c H locs cells slots Q (F0 m pc ls (.ref a :: rest)) := by
  obtain ⟨fs, h1, h2⟩ := hR_ok hv
  exact ab_get (C := RX1) (T := TX1) (n := 6) X hR0 h1 h2 rfl inX1 (by decide) (WT_of 129 (by decide +kernel) (by decide +kernel)) hdg kk
theorem gf_X1_21 {p : Program} {l : Launch} {e : Env} {R : Room} {s : State} {m : MethodId} {args : Array Value} {below : List Frame} {meth : Method} {c : Code} {H : Heap} {locs : List Loc} {cells slots : Nat} {Q : State → Prop} {cc : ByteArray} {nL : Nat} {G : va_G} {aC : Nat → ClassId} {t b0 : Nat} {N : AH} {pc : Nat} {ls : Array Slot} {rest : List Value} {a : Nat} {v : Nat} (X : CX cc RX1 nL G aC t b0 p s m args c) (hR0 : Rp G aC b0 N H) (hv : hR N a 1 4 = some v) (hdg : decode cc pc = .ok (.getfield 21, 3)) (kk : W p l e R s m args below meth c H locs cells slots Q (F0 m (pc + 3) ls (.ref v :: rest))) : W p l e R s m args below meth c H locs cells slots Q (F0 m pc ls (.ref a :: rest)) := by
  obtain ⟨fs, h1, h2⟩ := hR_ok hv
  exact ab_get (C := RX1) (T := TX1) (n := 6) X hR0 h1 h2 rfl inX1 (by decide) (WT_of 132 (by decide +kernel) (by decide +kernel)) hdg kk
theorem gf_X1_24 {p : Program} {l : Launch} {e : Env} {R : Room} {s : State} {m : MethodId} {args : Array Value} {below : List Frame} {meth : Method} {c : Code} {H : Heap} {locs : List Loc} {cells slots : Nat} {Q : State → Prop} {cc : ByteArray} {nL : Nat} {G : va_G} {aC : Nat → ClassId} {t b0 : Nat} {N : AH} {pc : Nat} {ls : Array Slot} {rest : List Value} {a : Nat} {v : Nat} (X : CX cc RX1 nL G aC t b0 p s m args c) (hR0 : Rp G aC b0 N H) (hv : hR N a 1 5 = some v) (hdg : decode cc pc = .ok (.getfield 24, 3)) (kk : W p l e R s m args below meth c H locs cells slots Q (F0 m (pc + 3) ls (.ref v :: rest))) : W p l e R s m args below meth c H locs cells slots Q (F0 m pc ls (.ref a :: rest)) := by
  obtain ⟨fs, h1, h2⟩ := hR_ok hv
  exact ab_get (C := RX1) (T := TX1) (n := 6) X hR0 h1 h2 rfl inX1 (by decide) (WT_of 136 (by decide +kernel) (by decide +kernel)) hdg kk
theorem gf_X1_27 {p : Program} {l : Launch} {e : Env} {R : Room} {s : State} {m : MethodId} {args : Array Value} {below : List Frame} {meth : Method} {c : Code} {H : Heap} {locs : List Loc} {cells slots : Nat} {Q : State → Prop} {cc : ByteArray} {nL : Nat} {G : va_G} {aC : Nat → ClassId} {t b0 : Nat} {N : AH} {pc : Nat} {ls : Array Slot} {rest : List Value} {a : Nat} {v : Int32} (X : CX cc RX1 nL G aC t b0 p s m args c) (hR0 : Rp G aC b0 N H) (hv : hI N a 1 0 = some v) (hdg : decode cc pc = .ok (.getfield 27, 3)) (kk : W p l e R s m args below meth c H locs cells slots Q (F0 m (pc + 3) ls (.int v :: rest))) : W p l e R s m args below meth c H locs cells slots Q (F0 m pc ls (.ref a :: rest)) := by
  obtain ⟨fs, h1, h2⟩ := hI_ok hv
  exact ab_get (C := RX1) (T := TX1) (n := 6) X hR0 h1 h2 rfl inX1 (by decide) (WT_of 115 (by decide +kernel) (by decide +kernel)) hdg kk
theorem pf_X1_27 {p : Program} {l : Launch} {e : Env} {R : Room} {s : State} {m : MethodId} {args : Array Value} {below : List Frame} {meth : Method} {c : Code} {H : Heap} {locs : List Loc} {cells slots : Nat} {Q : State → Prop} {cc : ByteArray} {nL : Nat} {G : va_G} {aC : Nat → ClassId} {t b0 : Nat} {N : AH} {pc : Nat} {ls : Array Slot} {rest : List Value} {N1 : AH} {a : Nat} {v : Int32} (X : CX cc RX1 nL G aC t b0 p s m args c) (hR0 : Rp G aC b0 N H) (hS : va_S (fun q => b0 ≤ q) s.heap H locs) (hv : pI N a 1 0 v = some N1) (hdg : decode cc pc = .ok (.putfield 27, 3)) (kk : ∀ (H1 : Heap) (locs1 : List Loc), Rp G aC b0 N1 H1 → va_S (fun q => b0 ≤ q) s.heap H1 locs1 → W p l e R s m args below meth c H1 locs1 cells slots Q (F0 m (pc + 3) ls rest)) : W p l e R s m args below meth c H locs cells slots Q (F0 m pc ls (.int v :: .ref a :: rest)) := by
  obtain ⟨fs, h1, h2, h3⟩ := pV_ok hv
  subst h3
  exact ab_put (C := RX1) (T := TX1) (n := 6) X hR0 hS h1 h2 rfl inX1 tyX1 tyX1_ok nmX1 (by decide) (WT_of 115 (by decide +kernel) (by decide +kernel)) rfl rfl rfl hdg kk
theorem dX1_append_0 : decode cX1_append 0 = .ok (.aload_n 0, 1) := by decide +kernel
theorem dX1_append_1 : decode cX1_append 1 = .ok (.getfield 27, 3) := by decide +kernel
theorem dX1_append_4 : decode cX1_append 4 = .ok (.bipush 16, 2) := by decide +kernel
theorem dX1_append_6 : decode cX1_append 6 = .ok (.invokestatic 31, 3) := by decide +kernel
theorem dX1_append_9 : decode cX1_append 9 = .ok (.ifCond .ne 4, 3) := by decide +kernel
theorem dX1_append_12 : decode cX1_append 12 = .ok (.return_, 1) := by decide +kernel
theorem dX1_append_13 : decode cX1_append 13 = .ok (.aload_n 0, 1) := by decide +kernel
theorem dX1_append_14 : decode cX1_append 14 = .ok (.getfield 9, 3) := by decide +kernel
theorem dX1_append_17 : decode cX1_append 17 = .ok (.aload_n 0, 1) := by decide +kernel
theorem dX1_append_18 : decode cX1_append 18 = .ok (.getfield 27, 3) := by decide +kernel
theorem dX1_append_21 : decode cX1_append 21 = .ok (.iload_n 1, 1) := by decide +kernel
theorem dX1_append_22 : decode cX1_append 22 = .ok (.iastore, 1) := by decide +kernel
theorem dX1_append_23 : decode cX1_append 23 = .ok (.aload_n 0, 1) := by decide +kernel
theorem dX1_append_24 : decode cX1_append 24 = .ok (.getfield 15, 3) := by decide +kernel
theorem dX1_append_27 : decode cX1_append 27 = .ok (.aload_n 0, 1) := by decide +kernel
theorem dX1_append_28 : decode cX1_append 28 = .ok (.getfield 27, 3) := by decide +kernel
theorem dX1_append_31 : decode cX1_append 31 = .ok (.iload_n 2, 1) := by decide +kernel
theorem dX1_append_32 : decode cX1_append 32 = .ok (.iastore, 1) := by decide +kernel
theorem dX1_append_33 : decode cX1_append 33 = .ok (.aload_n 0, 1) := by decide +kernel
theorem dX1_append_34 : decode cX1_append 34 = .ok (.getfield 18, 3) := by decide +kernel
theorem dX1_append_37 : decode cX1_append 37 = .ok (.aload_n 0, 1) := by decide +kernel
theorem dX1_append_38 : decode cX1_append 38 = .ok (.getfield 27, 3) := by decide +kernel
theorem dX1_append_41 : decode cX1_append 41 = .ok (.iload_n 3, 1) := by decide +kernel
theorem dX1_append_42 : decode cX1_append 42 = .ok (.iastore, 1) := by decide +kernel
theorem dX1_append_43 : decode cX1_append 43 = .ok (.aload_n 0, 1) := by decide +kernel
theorem dX1_append_44 : decode cX1_append 44 = .ok (.getfield 21, 3) := by decide +kernel
theorem dX1_append_47 : decode cX1_append 47 = .ok (.aload_n 0, 1) := by decide +kernel
theorem dX1_append_48 : decode cX1_append 48 = .ok (.getfield 27, 3) := by decide +kernel
theorem dX1_append_51 : decode cX1_append 51 = .ok (.iload_n 3, 1) := by decide +kernel
theorem dX1_append_52 : decode cX1_append 52 = .ok (.iastore, 1) := by decide +kernel
theorem dX1_append_53 : decode cX1_append 53 = .ok (.aload_n 0, 1) := by decide +kernel
theorem dX1_append_54 : decode cX1_append 54 = .ok (.getfield 24, 3) := by decide +kernel
theorem dX1_append_57 : decode cX1_append 57 = .ok (.aload_n 0, 1) := by decide +kernel
theorem dX1_append_58 : decode cX1_append 58 = .ok (.getfield 27, 3) := by decide +kernel
theorem dX1_append_61 : decode cX1_append 61 = .ok (.iconst 0, 1) := by decide +kernel
theorem dX1_append_62 : decode cX1_append 62 = .ok (.iastore, 1) := by decide +kernel
theorem dX1_append_63 : decode cX1_append 63 = .ok (.aload_n 0, 1) := by decide +kernel
theorem dX1_append_64 : decode cX1_append 64 = .ok (.dup, 1) := by decide +kernel
theorem dX1_append_65 : decode cX1_append 65 = .ok (.getfield 27, 3) := by decide +kernel
theorem dX1_append_68 : decode cX1_append 68 = .ok (.iconst 1, 1) := by decide +kernel
theorem dX1_append_69 : decode cX1_append 69 = .ok (.iadd, 1) := by decide +kernel
theorem dX1_append_70 : decode cX1_append 70 = .ok (.putfield 27, 3) := by decide +kernel
theorem dX1_append_73 : decode cX1_append 73 = .ok (.return_, 1) := by decide +kernel
def rm_X1_append : Room := { frames := 1, cells := 0, slots := 0, locals := 21 }
section
variable {p : Program} {l : Launch} {e : Env} {s : State} {m : MethodId} {args : Array Value} {below : List Frame} {meth : Method} {c : Code} {Q : State → Prop} {G : va_G} {aC : Nat → ClassId} {t b0 : Nat}
def f_X1_append (v0 : Nat) (v1 : Int32) (v2 : Int32) (v3 : Int32) (N : AH) : Option (Unit × AH) := ob (iO N v0 1) (fun _ => ob (hI N v0 1 0) (fun x1 => ob2 (f_X9_isOneOf x1 (16 : Int32) N) (fun x3 N2 => if ¬ x3 = 0 then ob (hR N2 v0 1 1) (fun x5 => ob (hI N2 v0 1 0) (fun x6 => ob (sI N2 x5 x6 v1) (fun N7 => ob (hR N7 v0 1 2) (fun x8 => ob (hI N7 v0 1 0) (fun x9 => ob (sI N7 x8 x9 v2) (fun N10 => ob (hR N10 v0 1 3) (fun x11 => ob (hI N10 v0 1 0) (fun x12 => ob (sI N10 x11 x12 v3) (fun N13 => ob (hR N13 v0 1 4) (fun x14 => ob (hI N13 v0 1 0) (fun x15 => ob (sI N13 x14 x15 v3) (fun N16 => ob (hR N16 v0 1 5) (fun x17 => ob (hI N16 v0 1 0) (fun x18 => ob (sI N16 x17 x18 (0 : Int32)) (fun N19 => ob (hI N19 v0 1 0) (fun x20 => ob (pI N19 v0 1 0 (x20 + (1 : Int32))) (fun N21 => some ((), N21)))))))))))))))))) else some ((), N2))))
set_option maxHeartbeats 4000000 in
set_option maxRecDepth 100000 in
theorem wk_X1_append {P : Unit × AH → Prop} (X : CX cX1_append RX1 4 G aC t b0 p s m args c) (hr : RtV p l e rm_X1_append s m args below meth c 0 0 Q cX1_append G aC b0 P) (v0 : Nat) (v1 : Int32) (v2 : Int32) (v3 : Int32) (N : AH) (H : Heap) (locs : List Loc) (ls : Array Slot) (hR : Rp G aC b0 N H) (hS : va_S (fun q => b0 ≤ q) s.heap H locs) (hl : lv_has ls 4 [(0, .ref v0), (1, .int v1), (2, .int v2), (3, .int v3)]) (hp : owp (f_X1_append v0 v1 v2 v3 N) P) : W p l e rm_X1_append s m args below meth c H locs 0 0 Q (F0 m 0 ls []) := by
  have hx := X.1.1
  have hb := X.1.2.1
  unfold f_X1_append at hp
  obtain ⟨_, _, hp⟩ := owp_ob hp
  refine lv_aload_n hx hb dX1_append_0 rfl (lv_at hl 0 rfl) ?_
  obtain ⟨x1, e_x1, hp⟩ := owp_ob hp
  refine gf_X1_27 X hR e_x1 dX1_append_1 ?_
  refine lv_bipush (v := (16)) hx hb dX1_append_4 (by decide) ?_
  obtain ⟨x3, N2, e_N2, hp⟩ := owp_ob2 hp
  refine ivN_X9_isOneOf (rest := []) (by simp [NWs, yX9_isOneOf]) X hR hS e_N2 hl.1 (Nat.le_of_ble_eq_true rfl) ⟨Nat.le_of_ble_eq_true rfl, Nat.le_of_ble_eq_true rfl⟩ ⟨Nat.le_of_ble_eq_true rfl, Nat.le_of_ble_eq_true rfl⟩ dX1_append_6 (fun H locs hR hS => ?_)
  refine lv_if_ne (tgt := 13) hx hb dX1_append_9 (by decide) (fun k4 => ?_) (fun k4 => ?_)
  · have hp := owp_t k4 hp
    refine lv_aload_n hx hb dX1_append_13 rfl (lv_at hl 0 rfl) ?_
    obtain ⟨x5, e_x5, hp⟩ := owp_ob hp
    refine gf_X1_9 X hR e_x5 dX1_append_14 ?_
    refine lv_aload_n hx hb dX1_append_17 rfl (lv_at hl 0 rfl) ?_
    obtain ⟨x6, e_x6, hp⟩ := owp_ob hp
    refine gf_X1_27 X hR e_x6 dX1_append_18 ?_
    refine lv_iload_n hx hb dX1_append_21 rfl (lv_at hl 1 rfl) ?_
    obtain ⟨N7, e_N7, hp⟩ := owp_ob hp
    refine ab_iast X hR hS e_N7 dX1_append_22 (fun H locs hR hS => ?_)
    refine lv_aload_n hx hb dX1_append_23 rfl (lv_at hl 0 rfl) ?_
    obtain ⟨x8, e_x8, hp⟩ := owp_ob hp
    refine gf_X1_15 X hR e_x8 dX1_append_24 ?_
    refine lv_aload_n hx hb dX1_append_27 rfl (lv_at hl 0 rfl) ?_
    obtain ⟨x9, e_x9, hp⟩ := owp_ob hp
    refine gf_X1_27 X hR e_x9 dX1_append_28 ?_
    refine lv_iload_n hx hb dX1_append_31 rfl (lv_at hl 2 rfl) ?_
    obtain ⟨N10, e_N10, hp⟩ := owp_ob hp
    refine ab_iast X hR hS e_N10 dX1_append_32 (fun H locs hR hS => ?_)
    refine lv_aload_n hx hb dX1_append_33 rfl (lv_at hl 0 rfl) ?_
    obtain ⟨x11, e_x11, hp⟩ := owp_ob hp
    refine gf_X1_18 X hR e_x11 dX1_append_34 ?_
    refine lv_aload_n hx hb dX1_append_37 rfl (lv_at hl 0 rfl) ?_
    obtain ⟨x12, e_x12, hp⟩ := owp_ob hp
    refine gf_X1_27 X hR e_x12 dX1_append_38 ?_
    refine lv_iload_n hx hb dX1_append_41 rfl (lv_at hl 3 rfl) ?_
    obtain ⟨N13, e_N13, hp⟩ := owp_ob hp
    refine ab_iast X hR hS e_N13 dX1_append_42 (fun H locs hR hS => ?_)
    refine lv_aload_n hx hb dX1_append_43 rfl (lv_at hl 0 rfl) ?_
    obtain ⟨x14, e_x14, hp⟩ := owp_ob hp
    refine gf_X1_21 X hR e_x14 dX1_append_44 ?_
    refine lv_aload_n hx hb dX1_append_47 rfl (lv_at hl 0 rfl) ?_
    obtain ⟨x15, e_x15, hp⟩ := owp_ob hp
    refine gf_X1_27 X hR e_x15 dX1_append_48 ?_
    refine lv_iload_n hx hb dX1_append_51 rfl (lv_at hl 3 rfl) ?_
    obtain ⟨N16, e_N16, hp⟩ := owp_ob hp
    refine ab_iast X hR hS e_N16 dX1_append_52 (fun H locs hR hS => ?_)
    refine lv_aload_n hx hb dX1_append_53 rfl (lv_at hl 0 rfl) ?_
    obtain ⟨x17, e_x17, hp⟩ := owp_ob hp
    refine gf_X1_24 X hR e_x17 dX1_append_54 ?_
    refine lv_aload_n hx hb dX1_append_57 rfl (lv_at hl 0 rfl) ?_
    obtain ⟨x18, e_x18, hp⟩ := owp_ob hp
    refine gf_X1_27 X hR e_x18 dX1_append_58 ?_
    refine lv_iconst (v := (0)) hx hb dX1_append_61 (by decide) ?_
    obtain ⟨N19, e_N19, hp⟩ := owp_ob hp
    refine ab_iast X hR hS e_N19 dX1_append_62 (fun H locs hR hS => ?_)
    refine lv_aload_n hx hb dX1_append_63 rfl (lv_at hl 0 rfl) ?_
    refine lv_dup hx hb dX1_append_64 rfl ?_
    obtain ⟨x20, e_x20, hp⟩ := owp_ob hp
    refine gf_X1_27 X hR e_x20 dX1_append_65 ?_
    refine lv_iconst (v := (1)) hx hb dX1_append_68 (by decide) ?_
    refine lv_iadd hx hb dX1_append_69 ?_
    obtain ⟨N21, e_N21, hp⟩ := owp_ob hp
    refine pf_X1_27 X hR hS e_N21 dX1_append_70 (fun H locs hR hS => ?_)
    exact hr _ _ _ _ _ hR hS dX1_append_73 hp
  · have hp := owp_f (fun q => q k4) hp
    exact hr _ _ _ _ _ hR hS dX1_append_12 hp
end
theorem ct_X1_append {v0 : Nat} {v1 : Int32} {v2 : Int32} {v3 : Int32} {N N1 : AH} {r : Unit} (h : f_X1_append v0 v1 v2 v3 N = some (r, N1)) : Ct yX1_append cX1_append 4 none rm_X1_append [.ref v0, .int v1, .int v2, .int v3] N none N1 :=
  ab_met (own := RX1) (by decide +kernel) rfl (Nat.le_of_ble_eq_true rfl) (fun l G aC t b0 p e s m below meth c ls X hr hlk hnm hR hS hl => wk_X1_append X (RtV_met X.1.1 X.1.2.1 hr hlk) _ _ _ _ _ _ _ _ hR hS hl (owp_of h))
theorem cw_X1_append : Cond.code yX1_append cX1_append 4 none ∈ WT := WT_of 499 (by decide +kernel) (by decide +kernel)
theorem iv_X1_append {p : Program} {l : Launch} {e : Env} {R : Room} {s : State} {m : MethodId} {args : Array Value} {below : List Frame} {meth : Method} {c : Code} {H : Heap} {locs : List Loc} {cells slots : Nat} {Q : State → Prop} {cc : ByteArray} {own : String} {nL : Nat} {G : va_G} {aC : Nat → ClassId} {t b0 : Nat} {N N1 : AH} {pc index : Nat} {ls : Array Slot} {rest : List Value} {v0 : Nat} {v1 : Int32} {v2 : Int32} {v3 : Int32} {r : Unit} (w1 : Cond.methodLink own index yX1_append ∈ WT) (X : CX cc own nL G aC t b0 p s m args c) (hR : Rp G aC b0 N H) (hS : va_S (fun q => b0 ≤ q) s.heap H locs) (h : f_X1_append v0 v1 v2 v3 N = some (r, N1)) (hls : ls.size = nL) (hW : (rest.map fun v => v.category).sum ≤ 8) (hR1 : 2 ≤ R.frames ∧ 44 ≤ R.locals) (hcs : cells + 0 ≤ R.cells ∧ slots + 0 ≤ R.slots) (hdg : decode cc pc = .ok (.invokevirtual index, 3)) (kk : ∀ (H1 : Heap) (locs1 : List Loc), Rp G aC b0 N1 H1 → va_S (fun q => b0 ≤ q) s.heap H1 locs1 → W p l e R s m args below meth c H1 locs1 cells slots Q (F0 m (pc + 3) ls rest)) : W p l e R s m args below meth c H locs cells slots Q (F0 m pc ls (.int v3 :: .int v2 :: .int v1 :: .ref v0 :: rest)) :=
  ab_callV (n := 3) (As := [.int v1, .int v2, .int v3]) X hR hS (ct_X1_append h) (ob_rc (c := 1) (N := N) (a := v0) h) (T := TX1) (k := 6) (C := RX1) rfl w1 (WT_of 497 (by decide +kernel) (by decide +kernel)) (WT_of 498 (by decide +kernel) (by decide +kernel)) (WT_of 83 (by decide +kernel) (by decide +kernel)) cw_X1_append ⟨rfl, by decide +kernel, by decide +kernel, by decide +kernel⟩ rfl hls hW hR1 hcs rfl hdg kk
-- X1_appendAll
theorem mw_X1_35 : Cond.methodLink RX1 35 yX1_append ∈ WT := WT_of 550 (by decide +kernel) (by decide +kernel)
theorem dX1_appendAll_0 : decode cX1_appendAll 0 = .ok (.iconst 0, 1) := by decide +kernel
theorem dX1_appendAll_1 : decode cX1_appendAll 1 = .ok (.istore_n 2, 1) := by decide +kernel
theorem dX1_appendAll_2 : decode cX1_appendAll 2 = .ok (.iload_n 2, 1) := by decide +kernel
theorem dX1_appendAll_3 : decode cX1_appendAll 3 = .ok (.aload_n 1, 1) := by decide +kernel
theorem dX1_appendAll_4 : decode cX1_appendAll 4 = .ok (.getfield 27, 3) := by decide +kernel
theorem dX1_appendAll_7 : decode cX1_appendAll 7 = .ok (.if_icmp .ge 31, 3) := by decide +kernel
theorem dX1_appendAll_10 : decode cX1_appendAll 10 = .ok (.aload_n 0, 1) := by decide +kernel
theorem dX1_appendAll_11 : decode cX1_appendAll 11 = .ok (.aload_n 1, 1) := by decide +kernel
theorem dX1_appendAll_12 : decode cX1_appendAll 12 = .ok (.getfield 9, 3) := by decide +kernel
theorem dX1_appendAll_15 : decode cX1_appendAll 15 = .ok (.iload_n 2, 1) := by decide +kernel
theorem dX1_appendAll_16 : decode cX1_appendAll 16 = .ok (.iaload, 1) := by decide +kernel
theorem dX1_appendAll_17 : decode cX1_appendAll 17 = .ok (.aload_n 1, 1) := by decide +kernel
theorem dX1_appendAll_18 : decode cX1_appendAll 18 = .ok (.getfield 15, 3) := by decide +kernel
theorem dX1_appendAll_21 : decode cX1_appendAll 21 = .ok (.iload_n 2, 1) := by decide +kernel
theorem dX1_appendAll_22 : decode cX1_appendAll 22 = .ok (.iaload, 1) := by decide +kernel
theorem dX1_appendAll_23 : decode cX1_appendAll 23 = .ok (.aload_n 1, 1) := by decide +kernel
theorem dX1_appendAll_24 : decode cX1_appendAll 24 = .ok (.getfield 18, 3) := by decide +kernel
theorem dX1_appendAll_27 : decode cX1_appendAll 27 = .ok (.iload_n 2, 1) := by decide +kernel
theorem dX1_appendAll_28 : decode cX1_appendAll 28 = .ok (.iaload, 1) := by decide +kernel
theorem dX1_appendAll_29 : decode cX1_appendAll 29 = .ok (.invokevirtual 35, 3) := by decide +kernel
theorem dX1_appendAll_32 : decode cX1_appendAll 32 = .ok (.iinc 2 1, 3) := by decide +kernel
theorem dX1_appendAll_35 : decode cX1_appendAll 35 = .ok (.goto (-33), 3) := by decide +kernel
theorem dX1_appendAll_38 : decode cX1_appendAll 38 = .ok (.return_, 1) := by decide +kernel
def rm_X1_appendAll : Room := { frames := 2, cells := 0, slots := 0, locals := 44 }
section
variable {p : Program} {l : Launch} {e : Env} {s : State} {m : MethodId} {args : Array Value} {below : List Frame} {meth : Method} {c : Code} {Q : State → Prop} {G : va_G} {aC : Nat → ClassId} {t b0 : Nat}
def f_X1_appendAll_L2 (v0 : Nat) (v1 : Nat) (k38 : AH → Option (Unit × AH)) : Nat → Int32 → AH → Option (Unit × AH)
  | 0, _, _ => none
  | n + 1, v2, N => ob (hI N v1 1 0) (fun x1 => if x1 ≤ v2 then k38 N else ob (hR N v1 1 1) (fun x3 => ob (aI N x3 v2) (fun x4 => ob (hR N v1 1 2) (fun x5 => ob (aI N x5 v2) (fun x6 => ob (hR N v1 1 3) (fun x7 => ob (aI N x7 v2) (fun x8 => ob2 (f_X1_append v0 x4 x6 x8 N) (fun _ N9 => f_X1_appendAll_L2 v0 v1 k38 n (v2 + 1) N9))))))))
set_option maxHeartbeats 4000000 in
set_option maxRecDepth 100000 in
theorem w_X1_appendAll_L2 {P : Unit × AH → Prop} (X : CX cX1_appendAll RX1 3 G aC t b0 p s m args c) (hr : RtV p l e rm_X1_appendAll s m args below meth c 0 0 Q cX1_appendAll G aC b0 P) (v0 : Nat) (v1 : Nat) {k38 : AH → Option (Unit × AH)}
    (hk38 : ∀ (N : AH) (H : Heap) (locs : List Loc) (ls : Array Slot), Rp G aC b0 N H → va_S (fun q => b0 ≤ q) s.heap H locs → lv_has ls 3 [] → owp (k38 N) P → W p l e rm_X1_appendAll s m args below meth c H locs 0 0 Q (F0 m 38 ls [])) :
    ∀ (n : Nat) (v2 : Int32) (N : AH) (H : Heap) (locs : List Loc) (ls : Array Slot), Rp G aC b0 N H → va_S (fun q => b0 ≤ q) s.heap H locs → lv_has ls 3 [(0, .ref v0), (1, .ref v1), (2, .int v2)] → owp (f_X1_appendAll_L2 v0 v1 k38 n v2 N) P → W p l e rm_X1_appendAll s m args below meth c H locs 0 0 Q (F0 m 2 ls []) := by
  have hx := X.1.1
  have hb := X.1.2.1
  intro n
  induction n with
  | zero =>
    intro v2 N H locs ls hR hS hl hp
    exact (show False from hp).elim
  | succ n ih =>
    intro v2 N H locs ls hR hS hl hp
    rw [f_X1_appendAll_L2] at hp
    refine lv_iload_n hx hb dX1_appendAll_2 rfl (lv_at hl 2 rfl) ?_
    refine lv_aload_n hx hb dX1_appendAll_3 rfl (lv_at hl 1 rfl) ?_
    obtain ⟨x1, e_x1, hp⟩ := owp_ob hp
    refine gf_X1_27 X hR e_x1 dX1_appendAll_4 ?_
    refine lv_icmp_ge (tgt := 38) hx hb dX1_appendAll_7 (by decide) (fun k2 => ?_) (fun k2 => ?_)
    · have hp := owp_t k2 hp
      exact hk38 _ _ _ _ hR hS (lv_sub hl [] rfl) hp
    · have hp := owp_f k2 hp
      refine lv_aload_n hx hb dX1_appendAll_10 rfl (lv_at hl 0 rfl) ?_
      refine lv_aload_n hx hb dX1_appendAll_11 rfl (lv_at hl 1 rfl) ?_
      obtain ⟨x3, e_x3, hp⟩ := owp_ob hp
      refine gf_X1_9 X hR e_x3 dX1_appendAll_12 ?_
      refine lv_iload_n hx hb dX1_appendAll_15 rfl (lv_at hl 2 rfl) ?_
      obtain ⟨x4, e_x4, hp⟩ := owp_ob hp
      refine ab_iald X hR e_x4 dX1_appendAll_16 ?_
      refine lv_aload_n hx hb dX1_appendAll_17 rfl (lv_at hl 1 rfl) ?_
      obtain ⟨x5, e_x5, hp⟩ := owp_ob hp
      refine gf_X1_15 X hR e_x5 dX1_appendAll_18 ?_
      refine lv_iload_n hx hb dX1_appendAll_21 rfl (lv_at hl 2 rfl) ?_
      obtain ⟨x6, e_x6, hp⟩ := owp_ob hp
      refine ab_iald X hR e_x6 dX1_appendAll_22 ?_
      refine lv_aload_n hx hb dX1_appendAll_23 rfl (lv_at hl 1 rfl) ?_
      obtain ⟨x7, e_x7, hp⟩ := owp_ob hp
      refine gf_X1_18 X hR e_x7 dX1_appendAll_24 ?_
      refine lv_iload_n hx hb dX1_appendAll_27 rfl (lv_at hl 2 rfl) ?_
      obtain ⟨x8, e_x8, hp⟩ := owp_ob hp
      refine ab_iald X hR e_x8 dX1_appendAll_28 ?_
      obtain ⟨_, N9, e_N9, hp⟩ := owp_ob2 hp
      refine iv_X1_append (rest := []) mw_X1_35 X hR hS e_N9 hl.1 (Nat.le_of_ble_eq_true rfl) ⟨Nat.le_of_ble_eq_true rfl, Nat.le_of_ble_eq_true rfl⟩ ⟨Nat.le_of_ble_eq_true rfl, Nat.le_of_ble_eq_true rfl⟩ dX1_appendAll_29 (fun H locs hR hS => ?_)
      refine lv_iinc (v := v2 + 1) (lv' := [(2, .int (v2 + 1)), (0, .ref v0), (1, .ref v1)]) hx hb dX1_appendAll_32 hl (k := 2) rfl rfl (by decide) rfl (fun ls hl => ?_)
      refine lv_goto (tgt := 2) hx hb dX1_appendAll_35 (by decide) ?_
      exact ih _ _ _ _ _ hR hS (lv_sub hl [1, 2, 0] rfl) hp
def f_X1_appendAll (v0 : Nat) (v1 : Nat) (N : AH) : Option (Unit × AH) := ob (iO N v0 1) (fun _ => f_X1_appendAll_L2 v0 v1 (fun N10 => some ((), N10)) FU (0 : Int32) N)
set_option maxHeartbeats 4000000 in
set_option maxRecDepth 100000 in
theorem wk_X1_appendAll {P : Unit × AH → Prop} (X : CX cX1_appendAll RX1 3 G aC t b0 p s m args c) (hr : RtV p l e rm_X1_appendAll s m args below meth c 0 0 Q cX1_appendAll G aC b0 P) (v0 : Nat) (v1 : Nat) (N : AH) (H : Heap) (locs : List Loc) (ls : Array Slot) (hR : Rp G aC b0 N H) (hS : va_S (fun q => b0 ≤ q) s.heap H locs) (hl : lv_has ls 3 [(0, .ref v0), (1, .ref v1)]) (hp : owp (f_X1_appendAll v0 v1 N) P) : W p l e rm_X1_appendAll s m args below meth c H locs 0 0 Q (F0 m 0 ls []) := by
  have hx := X.1.1
  have hb := X.1.2.1
  unfold f_X1_appendAll at hp
  obtain ⟨_, _, hp⟩ := owp_ob hp
  refine lv_iconst (v := (0)) hx hb dX1_appendAll_0 (by decide) ?_
  refine lv_istore_n (lv' := [(2, .int (0 : Int32)), (0, .ref v0), (1, .ref v1)]) hx hb dX1_appendAll_1 rfl hl (by decide) rfl (fun ls hl => ?_)
  refine w_X1_appendAll_L2 X hr _ _ (fun N10 H locs ls hR hS hl hp => ?_) _ _ _ _ _ _ hR hS (lv_sub hl [1, 2, 0] rfl) hp
  exact hr _ _ _ _ _ hR hS dX1_appendAll_38 hp
end
theorem ct_X1_appendAll {v0 : Nat} {v1 : Nat} {N N1 : AH} {r : Unit} (h : f_X1_appendAll v0 v1 N = some (r, N1)) : Ct yX1_appendAll cX1_appendAll 3 none rm_X1_appendAll [.ref v0, .ref v1] N none N1 :=
  ab_met (own := RX1) (by decide +kernel) rfl (Nat.le_of_ble_eq_true rfl) (fun l G aC t b0 p e s m below meth c ls X hr hlk hnm hR hS hl => wk_X1_appendAll X (RtV_met X.1.1 X.1.2.1 hr hlk) _ _ _ _ _ _ hR hS hl (owp_of h))
theorem cw_X1_appendAll : Cond.code yX1_appendAll cX1_appendAll 3 none ∈ WT := WT_of 549 (by decide +kernel) (by decide +kernel)
theorem iv_X1_appendAll {p : Program} {l : Launch} {e : Env} {R : Room} {s : State} {m : MethodId} {args : Array Value} {below : List Frame} {meth : Method} {c : Code} {H : Heap} {locs : List Loc} {cells slots : Nat} {Q : State → Prop} {cc : ByteArray} {own : String} {nL : Nat} {G : va_G} {aC : Nat → ClassId} {t b0 : Nat} {N N1 : AH} {pc index : Nat} {ls : Array Slot} {rest : List Value} {v0 : Nat} {v1 : Nat} {r : Unit} (w1 : Cond.methodLink own index yX1_appendAll ∈ WT) (X : CX cc own nL G aC t b0 p s m args c) (hR : Rp G aC b0 N H) (hS : va_S (fun q => b0 ≤ q) s.heap H locs) (h : f_X1_appendAll v0 v1 N = some (r, N1)) (hls : ls.size = nL) (hW : (rest.map fun v => v.category).sum ≤ 8) (hR1 : 3 ≤ R.frames ∧ 66 ≤ R.locals) (hcs : cells + 0 ≤ R.cells ∧ slots + 0 ≤ R.slots) (hdg : decode cc pc = .ok (.invokevirtual index, 3)) (kk : ∀ (H1 : Heap) (locs1 : List Loc), Rp G aC b0 N1 H1 → va_S (fun q => b0 ≤ q) s.heap H1 locs1 → W p l e R s m args below meth c H1 locs1 cells slots Q (F0 m (pc + 3) ls rest)) : W p l e R s m args below meth c H locs cells slots Q (F0 m pc ls (.ref v1 :: .ref v0 :: rest)) :=
  ab_callV (n := 1) (As := [.ref v1]) X hR hS (ct_X1_appendAll h) (ob_rc (c := 1) (N := N) (a := v0) h) (T := TX1) (k := 6) (C := RX1) rfl w1 (WT_of 547 (by decide +kernel) (by decide +kernel)) (WT_of 548 (by decide +kernel) (by decide +kernel)) (WT_of 83 (by decide +kernel) (by decide +kernel)) cw_X1_appendAll ⟨rfl, by decide +kernel, by decide +kernel, by decide +kernel⟩ rfl hls hW hR1 hcs rfl hdg kk
-- X1_copyFrom
theorem dX1_copyFrom_0 : decode cX1_copyFrom 0 = .ok (.aload_n 0, 1) := by decide +kernel
theorem dX1_copyFrom_1 : decode cX1_copyFrom 1 = .ok (.aload_n 1, 1) := by decide +kernel
theorem dX1_copyFrom_2 : decode cX1_copyFrom 2 = .ok (.getfield 27, 3) := by decide +kernel
theorem dX1_copyFrom_5 : decode cX1_copyFrom 5 = .ok (.putfield 27, 3) := by decide +kernel
theorem dX1_copyFrom_8 : decode cX1_copyFrom 8 = .ok (.aload_n 1, 1) := by decide +kernel
theorem dX1_copyFrom_9 : decode cX1_copyFrom 9 = .ok (.getfield 9, 3) := by decide +kernel
theorem dX1_copyFrom_12 : decode cX1_copyFrom 12 = .ok (.iconst 0, 1) := by decide +kernel
theorem dX1_copyFrom_13 : decode cX1_copyFrom 13 = .ok (.aload_n 0, 1) := by decide +kernel
theorem dX1_copyFrom_14 : decode cX1_copyFrom 14 = .ok (.getfield 9, 3) := by decide +kernel
theorem dX1_copyFrom_17 : decode cX1_copyFrom 17 = .ok (.iconst 0, 1) := by decide +kernel
theorem dX1_copyFrom_18 : decode cX1_copyFrom 18 = .ok (.aload_n 0, 1) := by decide +kernel
theorem dX1_copyFrom_19 : decode cX1_copyFrom 19 = .ok (.getfield 27, 3) := by decide +kernel
theorem dX1_copyFrom_22 : decode cX1_copyFrom 22 = .ok (.invokestatic 39, 3) := by decide +kernel
theorem dX1_copyFrom_25 : decode cX1_copyFrom 25 = .ok (.aload_n 1, 1) := by decide +kernel
theorem dX1_copyFrom_26 : decode cX1_copyFrom 26 = .ok (.getfield 15, 3) := by decide +kernel
theorem dX1_copyFrom_29 : decode cX1_copyFrom 29 = .ok (.iconst 0, 1) := by decide +kernel
theorem dX1_copyFrom_30 : decode cX1_copyFrom 30 = .ok (.aload_n 0, 1) := by decide +kernel
theorem dX1_copyFrom_31 : decode cX1_copyFrom 31 = .ok (.getfield 15, 3) := by decide +kernel
theorem dX1_copyFrom_34 : decode cX1_copyFrom 34 = .ok (.iconst 0, 1) := by decide +kernel
theorem dX1_copyFrom_35 : decode cX1_copyFrom 35 = .ok (.aload_n 0, 1) := by decide +kernel
theorem dX1_copyFrom_36 : decode cX1_copyFrom 36 = .ok (.getfield 27, 3) := by decide +kernel
theorem dX1_copyFrom_39 : decode cX1_copyFrom 39 = .ok (.invokestatic 39, 3) := by decide +kernel
theorem dX1_copyFrom_42 : decode cX1_copyFrom 42 = .ok (.aload_n 1, 1) := by decide +kernel
theorem dX1_copyFrom_43 : decode cX1_copyFrom 43 = .ok (.getfield 18, 3) := by decide +kernel
theorem dX1_copyFrom_46 : decode cX1_copyFrom 46 = .ok (.iconst 0, 1) := by decide +kernel
theorem dX1_copyFrom_47 : decode cX1_copyFrom 47 = .ok (.aload_n 0, 1) := by decide +kernel
theorem dX1_copyFrom_48 : decode cX1_copyFrom 48 = .ok (.getfield 18, 3) := by decide +kernel
theorem dX1_copyFrom_51 : decode cX1_copyFrom 51 = .ok (.iconst 0, 1) := by decide +kernel
theorem dX1_copyFrom_52 : decode cX1_copyFrom 52 = .ok (.aload_n 0, 1) := by decide +kernel
theorem dX1_copyFrom_53 : decode cX1_copyFrom 53 = .ok (.getfield 27, 3) := by decide +kernel
theorem dX1_copyFrom_56 : decode cX1_copyFrom 56 = .ok (.invokestatic 39, 3) := by decide +kernel
theorem dX1_copyFrom_59 : decode cX1_copyFrom 59 = .ok (.aload_n 1, 1) := by decide +kernel
theorem dX1_copyFrom_60 : decode cX1_copyFrom 60 = .ok (.getfield 21, 3) := by decide +kernel
theorem dX1_copyFrom_63 : decode cX1_copyFrom 63 = .ok (.iconst 0, 1) := by decide +kernel
theorem dX1_copyFrom_64 : decode cX1_copyFrom 64 = .ok (.aload_n 0, 1) := by decide +kernel
theorem dX1_copyFrom_65 : decode cX1_copyFrom 65 = .ok (.getfield 21, 3) := by decide +kernel
theorem dX1_copyFrom_68 : decode cX1_copyFrom 68 = .ok (.iconst 0, 1) := by decide +kernel
theorem dX1_copyFrom_69 : decode cX1_copyFrom 69 = .ok (.aload_n 0, 1) := by decide +kernel
theorem dX1_copyFrom_70 : decode cX1_copyFrom 70 = .ok (.getfield 27, 3) := by decide +kernel
theorem dX1_copyFrom_73 : decode cX1_copyFrom 73 = .ok (.invokestatic 39, 3) := by decide +kernel
theorem dX1_copyFrom_76 : decode cX1_copyFrom 76 = .ok (.aload_n 1, 1) := by decide +kernel
theorem dX1_copyFrom_77 : decode cX1_copyFrom 77 = .ok (.getfield 24, 3) := by decide +kernel
theorem dX1_copyFrom_80 : decode cX1_copyFrom 80 = .ok (.iconst 0, 1) := by decide +kernel
theorem dX1_copyFrom_81 : decode cX1_copyFrom 81 = .ok (.aload_n 0, 1) := by decide +kernel
theorem dX1_copyFrom_82 : decode cX1_copyFrom 82 = .ok (.getfield 24, 3) := by decide +kernel
theorem dX1_copyFrom_85 : decode cX1_copyFrom 85 = .ok (.iconst 0, 1) := by decide +kernel
theorem dX1_copyFrom_86 : decode cX1_copyFrom 86 = .ok (.aload_n 0, 1) := by decide +kernel
theorem dX1_copyFrom_87 : decode cX1_copyFrom 87 = .ok (.getfield 27, 3) := by decide +kernel
theorem dX1_copyFrom_90 : decode cX1_copyFrom 90 = .ok (.invokestatic 39, 3) := by decide +kernel
theorem dX1_copyFrom_93 : decode cX1_copyFrom 93 = .ok (.return_, 1) := by decide +kernel
def rm_X1_copyFrom : Room := { frames := 1, cells := 0, slots := 0, locals := 18 }
section
variable {p : Program} {l : Launch} {e : Env} {s : State} {m : MethodId} {args : Array Value} {below : List Frame} {meth : Method} {c : Code} {Q : State → Prop} {G : va_G} {aC : Nat → ClassId} {t b0 : Nat}
def f_X1_copyFrom (v0 : Nat) (v1 : Nat) (N : AH) : Option (Unit × AH) := ob (iO N v0 1) (fun _ => ob (hI N v1 1 0) (fun x1 => ob (pI N v0 1 0 x1) (fun N2 => ob (hR N2 v1 1 1) (fun x3 => ob (hR N2 v0 1 1) (fun x4 => ob (hI N2 v0 1 0) (fun x5 => ob (cI N2 x3 (0 : Int32) x4 (0 : Int32) x5) (fun N6 => ob (hR N6 v1 1 2) (fun x7 => ob (hR N6 v0 1 2) (fun x8 => ob (hI N6 v0 1 0) (fun x9 => ob (cI N6 x7 (0 : Int32) x8 (0 : Int32) x9) (fun N10 => ob (hR N10 v1 1 3) (fun x11 => ob (hR N10 v0 1 3) (fun x12 => ob (hI N10 v0 1 0) (fun x13 => ob (cI N10 x11 (0 : Int32) x12 (0 : Int32) x13) (fun N14 => ob (hR N14 v1 1 4) (fun x15 => ob (hR N14 v0 1 4) (fun x16 => ob (hI N14 v0 1 0) (fun x17 => ob (cI N14 x15 (0 : Int32) x16 (0 : Int32) x17) (fun N18 => ob (hR N18 v1 1 5) (fun x19 => ob (hR N18 v0 1 5) (fun x20 => ob (hI N18 v0 1 0) (fun x21 => ob (cI N18 x19 (0 : Int32) x20 (0 : Int32) x21) (fun N22 => some ((), N22))))))))))))))))))))))))
set_option maxHeartbeats 4000000 in
set_option maxRecDepth 100000 in
theorem wk_X1_copyFrom {P : Unit × AH → Prop} (X : CX cX1_copyFrom RX1 2 G aC t b0 p s m args c) (hr : RtV p l e rm_X1_copyFrom s m args below meth c 0 0 Q cX1_copyFrom G aC b0 P) (v0 : Nat) (v1 : Nat) (N : AH) (H : Heap) (locs : List Loc) (ls : Array Slot) (hR : Rp G aC b0 N H) (hS : va_S (fun q => b0 ≤ q) s.heap H locs) (hl : lv_has ls 2 [(0, .ref v0), (1, .ref v1)]) (hp : owp (f_X1_copyFrom v0 v1 N) P) : W p l e rm_X1_copyFrom s m args below meth c H locs 0 0 Q (F0 m 0 ls []) := by
  have hx := X.1.1
  have hb := X.1.2.1
  unfold f_X1_copyFrom at hp
  obtain ⟨_, _, hp⟩ := owp_ob hp
  refine lv_aload_n hx hb dX1_copyFrom_0 rfl (lv_at hl 0 rfl) ?_
  refine lv_aload_n hx hb dX1_copyFrom_1 rfl (lv_at hl 1 rfl) ?_
  obtain ⟨x1, e_x1, hp⟩ := owp_ob hp
  refine gf_X1_27 X hR e_x1 dX1_copyFrom_2 ?_
  obtain ⟨N2, e_N2, hp⟩ := owp_ob hp
  refine pf_X1_27 X hR hS e_N2 dX1_copyFrom_5 (fun H locs hR hS => ?_)
  refine lv_aload_n hx hb dX1_copyFrom_8 rfl (lv_at hl 1 rfl) ?_
  obtain ⟨x3, e_x3, hp⟩ := owp_ob hp
  refine gf_X1_9 X hR e_x3 dX1_copyFrom_9 ?_
  refine lv_iconst (v := (0)) hx hb dX1_copyFrom_12 (by decide) ?_
  refine lv_aload_n hx hb dX1_copyFrom_13 rfl (lv_at hl 0 rfl) ?_
  obtain ⟨x4, e_x4, hp⟩ := owp_ob hp
  refine gf_X1_9 X hR e_x4 dX1_copyFrom_14 ?_
  refine lv_iconst (v := (0)) hx hb dX1_copyFrom_17 (by decide) ?_
  refine lv_aload_n hx hb dX1_copyFrom_18 rfl (lv_at hl 0 rfl) ?_
  obtain ⟨x5, e_x5, hp⟩ := owp_ob hp
  refine gf_X1_27 X hR e_x5 dX1_copyFrom_19 ?_
  obtain ⟨N6, e_N6, hp⟩ := owp_ob hp
  refine ab_copy X hR hS (WT_of 526 (by decide +kernel) (by decide +kernel)) w_acN w_acS w_acI e_N6 hl.1 (Nat.le_of_ble_eq_true rfl) (Nat.le_of_ble_eq_true rfl) dX1_copyFrom_22 (fun H locs hR hS => ?_)
  refine lv_aload_n hx hb dX1_copyFrom_25 rfl (lv_at hl 1 rfl) ?_
  obtain ⟨x7, e_x7, hp⟩ := owp_ob hp
  refine gf_X1_15 X hR e_x7 dX1_copyFrom_26 ?_
  refine lv_iconst (v := (0)) hx hb dX1_copyFrom_29 (by decide) ?_
  refine lv_aload_n hx hb dX1_copyFrom_30 rfl (lv_at hl 0 rfl) ?_
  obtain ⟨x8, e_x8, hp⟩ := owp_ob hp
  refine gf_X1_15 X hR e_x8 dX1_copyFrom_31 ?_
  refine lv_iconst (v := (0)) hx hb dX1_copyFrom_34 (by decide) ?_
  refine lv_aload_n hx hb dX1_copyFrom_35 rfl (lv_at hl 0 rfl) ?_
  obtain ⟨x9, e_x9, hp⟩ := owp_ob hp
  refine gf_X1_27 X hR e_x9 dX1_copyFrom_36 ?_
  obtain ⟨N10, e_N10, hp⟩ := owp_ob hp
  refine ab_copy X hR hS (WT_of 526 (by decide +kernel) (by decide +kernel)) w_acN w_acS w_acI e_N10 hl.1 (Nat.le_of_ble_eq_true rfl) (Nat.le_of_ble_eq_true rfl) dX1_copyFrom_39 (fun H locs hR hS => ?_)
  refine lv_aload_n hx hb dX1_copyFrom_42 rfl (lv_at hl 1 rfl) ?_
  obtain ⟨x11, e_x11, hp⟩ := owp_ob hp
  refine gf_X1_18 X hR e_x11 dX1_copyFrom_43 ?_
  refine lv_iconst (v := (0)) hx hb dX1_copyFrom_46 (by decide) ?_
  refine lv_aload_n hx hb dX1_copyFrom_47 rfl (lv_at hl 0 rfl) ?_
  obtain ⟨x12, e_x12, hp⟩ := owp_ob hp
  refine gf_X1_18 X hR e_x12 dX1_copyFrom_48 ?_
  refine lv_iconst (v := (0)) hx hb dX1_copyFrom_51 (by decide) ?_
  refine lv_aload_n hx hb dX1_copyFrom_52 rfl (lv_at hl 0 rfl) ?_
  obtain ⟨x13, e_x13, hp⟩ := owp_ob hp
  refine gf_X1_27 X hR e_x13 dX1_copyFrom_53 ?_
  obtain ⟨N14, e_N14, hp⟩ := owp_ob hp
  refine ab_copy X hR hS (WT_of 526 (by decide +kernel) (by decide +kernel)) w_acN w_acS w_acI e_N14 hl.1 (Nat.le_of_ble_eq_true rfl) (Nat.le_of_ble_eq_true rfl) dX1_copyFrom_56 (fun H locs hR hS => ?_)
  refine lv_aload_n hx hb dX1_copyFrom_59 rfl (lv_at hl 1 rfl) ?_
  obtain ⟨x15, e_x15, hp⟩ := owp_ob hp
  refine gf_X1_21 X hR e_x15 dX1_copyFrom_60 ?_
  refine lv_iconst (v := (0)) hx hb dX1_copyFrom_63 (by decide) ?_
  refine lv_aload_n hx hb dX1_copyFrom_64 rfl (lv_at hl 0 rfl) ?_
  obtain ⟨x16, e_x16, hp⟩ := owp_ob hp
  refine gf_X1_21 X hR e_x16 dX1_copyFrom_65 ?_
  refine lv_iconst (v := (0)) hx hb dX1_copyFrom_68 (by decide) ?_
  refine lv_aload_n hx hb dX1_copyFrom_69 rfl (lv_at hl 0 rfl) ?_
  obtain ⟨x17, e_x17, hp⟩ := owp_ob hp
  refine gf_X1_27 X hR e_x17 dX1_copyFrom_70 ?_
  obtain ⟨N18, e_N18, hp⟩ := owp_ob hp
  refine ab_copy X hR hS (WT_of 526 (by decide +kernel) (by decide +kernel)) w_acN w_acS w_acI e_N18 hl.1 (Nat.le_of_ble_eq_true rfl) (Nat.le_of_ble_eq_true rfl) dX1_copyFrom_73 (fun H locs hR hS => ?_)
  refine lv_aload_n hx hb dX1_copyFrom_76 rfl (lv_at hl 1 rfl) ?_
  obtain ⟨x19, e_x19, hp⟩ := owp_ob hp
  refine gf_X1_24 X hR e_x19 dX1_copyFrom_77 ?_
  refine lv_iconst (v := (0)) hx hb dX1_copyFrom_80 (by decide) ?_
  refine lv_aload_n hx hb dX1_copyFrom_81 rfl (lv_at hl 0 rfl) ?_
  obtain ⟨x20, e_x20, hp⟩ := owp_ob hp
  refine gf_X1_24 X hR e_x20 dX1_copyFrom_82 ?_
  refine lv_iconst (v := (0)) hx hb dX1_copyFrom_85 (by decide) ?_
  refine lv_aload_n hx hb dX1_copyFrom_86 rfl (lv_at hl 0 rfl) ?_
  obtain ⟨x21, e_x21, hp⟩ := owp_ob hp
  refine gf_X1_27 X hR e_x21 dX1_copyFrom_87 ?_
  obtain ⟨N22, e_N22, hp⟩ := owp_ob hp
  refine ab_copy X hR hS (WT_of 526 (by decide +kernel) (by decide +kernel)) w_acN w_acS w_acI e_N22 hl.1 (Nat.le_of_ble_eq_true rfl) (Nat.le_of_ble_eq_true rfl) dX1_copyFrom_90 (fun H locs hR hS => ?_)
  exact hr _ _ _ _ _ hR hS dX1_copyFrom_93 hp
end
theorem ct_X1_copyFrom {v0 : Nat} {v1 : Nat} {N N1 : AH} {r : Unit} (h : f_X1_copyFrom v0 v1 N = some (r, N1)) : Ct yX1_copyFrom cX1_copyFrom 2 none rm_X1_copyFrom [.ref v0, .ref v1] N none N1 :=
  ab_met (own := RX1) (by decide +kernel) rfl (Nat.le_of_ble_eq_true rfl) (fun l G aC t b0 p e s m below meth c ls X hr hlk hnm hR hS hl => wk_X1_copyFrom X (RtV_met X.1.1 X.1.2.1 hr hlk) _ _ _ _ _ _ hR hS hl (owp_of h))
theorem cw_X1_copyFrom : Cond.code yX1_copyFrom cX1_copyFrom 2 none ∈ WT := WT_of 525 (by decide +kernel) (by decide +kernel)
theorem iv_X1_copyFrom {p : Program} {l : Launch} {e : Env} {R : Room} {s : State} {m : MethodId} {args : Array Value} {below : List Frame} {meth : Method} {c : Code} {H : Heap} {locs : List Loc} {cells slots : Nat} {Q : State → Prop} {cc : ByteArray} {own : String} {nL : Nat} {G : va_G} {aC : Nat → ClassId} {t b0 : Nat} {N N1 : AH} {pc index : Nat} {ls : Array Slot} {rest : List Value} {v0 : Nat} {v1 : Nat} {r : Unit} (w1 : Cond.methodLink own index yX1_copyFrom ∈ WT) (X : CX cc own nL G aC t b0 p s m args c) (hR : Rp G aC b0 N H) (hS : va_S (fun q => b0 ≤ q) s.heap H locs) (h : f_X1_copyFrom v0 v1 N = some (r, N1)) (hls : ls.size = nL) (hW : (rest.map fun v => v.category).sum ≤ 8) (hR1 : 2 ≤ R.frames ∧ 39 ≤ R.locals) (hcs : cells + 0 ≤ R.cells ∧ slots + 0 ≤ R.slots) (hdg : decode cc pc = .ok (.invokevirtual index, 3)) (kk : ∀ (H1 : Heap) (locs1 : List Loc), Rp G aC b0 N1 H1 → va_S (fun q => b0 ≤ q) s.heap H1 locs1 → W p l e R s m args below meth c H1 locs1 cells slots Q (F0 m (pc + 3) ls rest)) : W p l e R s m args below meth c H locs cells slots Q (F0 m pc ls (.ref v1 :: .ref v0 :: rest)) :=
  ab_callV (n := 1) (As := [.ref v1]) X hR hS (ct_X1_copyFrom h) (ob_rc (c := 1) (N := N) (a := v0) h) (T := TX1) (k := 6) (C := RX1) rfl w1 (WT_of 523 (by decide +kernel) (by decide +kernel)) (WT_of 524 (by decide +kernel) (by decide +kernel)) (WT_of 83 (by decide +kernel) (by decide +kernel)) cw_X1_copyFrom ⟨rfl, by decide +kernel, by decide +kernel, by decide +kernel⟩ rfl hls hW hR1 hcs rfl hdg kk
-- X1_sumOfRests
theorem dX1_sumOfRests_0 : decode cX1_sumOfRests 0 = .ok (.iconst 0, 1) := by decide +kernel
theorem dX1_sumOfRests_1 : decode cX1_sumOfRests 1 = .ok (.istore_n 1, 1) := by decide +kernel
theorem dX1_sumOfRests_2 : decode cX1_sumOfRests 2 = .ok (.iconst 0, 1) := by decide +kernel
theorem dX1_sumOfRests_3 : decode cX1_sumOfRests 3 = .ok (.istore_n 2, 1) := by decide +kernel
theorem dX1_sumOfRests_4 : decode cX1_sumOfRests 4 = .ok (.iload_n 2, 1) := by decide +kernel
theorem dX1_sumOfRests_5 : decode cX1_sumOfRests 5 = .ok (.aload_n 0, 1) := by decide +kernel
theorem dX1_sumOfRests_6 : decode cX1_sumOfRests 6 = .ok (.getfield 27, 3) := by decide +kernel
theorem dX1_sumOfRests_9 : decode cX1_sumOfRests 9 = .ok (.if_icmp .ge 18, 3) := by decide +kernel
theorem dX1_sumOfRests_12 : decode cX1_sumOfRests 12 = .ok (.iload_n 1, 1) := by decide +kernel
theorem dX1_sumOfRests_13 : decode cX1_sumOfRests 13 = .ok (.aload_n 0, 1) := by decide +kernel
theorem dX1_sumOfRests_14 : decode cX1_sumOfRests 14 = .ok (.getfield 21, 3) := by decide +kernel
theorem dX1_sumOfRests_17 : decode cX1_sumOfRests 17 = .ok (.iload_n 2, 1) := by decide +kernel
theorem dX1_sumOfRests_18 : decode cX1_sumOfRests 18 = .ok (.iaload, 1) := by decide +kernel
theorem dX1_sumOfRests_19 : decode cX1_sumOfRests 19 = .ok (.iadd, 1) := by decide +kernel
theorem dX1_sumOfRests_20 : decode cX1_sumOfRests 20 = .ok (.istore_n 1, 1) := by decide +kernel
theorem dX1_sumOfRests_21 : decode cX1_sumOfRests 21 = .ok (.iinc 2 1, 3) := by decide +kernel
theorem dX1_sumOfRests_24 : decode cX1_sumOfRests 24 = .ok (.goto (-20), 3) := by decide +kernel
theorem dX1_sumOfRests_27 : decode cX1_sumOfRests 27 = .ok (.iload_n 1, 1) := by decide +kernel
theorem dX1_sumOfRests_28 : decode cX1_sumOfRests 28 = .ok (.ireturn, 1) := by decide +kernel
def rm_X1_sumOfRests : Room := { frames := 0, cells := 0, slots := 0, locals := 0 }
section
variable {p : Program} {l : Launch} {e : Env} {s : State} {m : MethodId} {args : Array Value} {below : List Frame} {meth : Method} {c : Code} {Q : State → Prop} {G : va_G} {aC : Nat → ClassId} {t b0 : Nat}
def f_X1_sumOfRests_L4 (v0 : Nat) (k27 : Int32 → AH → Option (Int32 × AH)) : Nat → Int32 → Int32 → AH → Option (Int32 × AH)
  | 0, _, _, _ => none
  | n + 1, v1, v2, N => ob (hI N v0 1 0) (fun x1 => if x1 ≤ v2 then k27 v1 N else ob (hR N v0 1 4) (fun x3 => ob (aI N x3 v2) (fun x4 => f_X1_sumOfRests_L4 v0 k27 n (v1 + x4) (v2 + 1) N)))
set_option maxHeartbeats 4000000 in
set_option maxRecDepth 100000 in
theorem w_X1_sumOfRests_L4 {P : Int32 × AH → Prop} (X : CX cX1_sumOfRests RX1 3 G aC t b0 p s m args c) (hr : RtI p l e rm_X1_sumOfRests s m args below meth c 0 0 Q cX1_sumOfRests G aC b0 P) (v0 : Nat) {k27 : Int32 → AH → Option (Int32 × AH)}
    (hk27 : ∀ (v1 : Int32) (N : AH) (H : Heap) (locs : List Loc) (ls : Array Slot), Rp G aC b0 N H → va_S (fun q => b0 ≤ q) s.heap H locs → lv_has ls 3 [(1, .int v1)] → owp (k27 v1 N) P → W p l e rm_X1_sumOfRests s m args below meth c H locs 0 0 Q (F0 m 27 ls [])) :
    ∀ (n : Nat) (v1 : Int32) (v2 : Int32) (N : AH) (H : Heap) (locs : List Loc) (ls : Array Slot), Rp G aC b0 N H → va_S (fun q => b0 ≤ q) s.heap H locs → lv_has ls 3 [(0, .ref v0), (1, .int v1), (2, .int v2)] → owp (f_X1_sumOfRests_L4 v0 k27 n v1 v2 N) P → W p l e rm_X1_sumOfRests s m args below meth c H locs 0 0 Q (F0 m 4 ls []) := by
  have hx := X.1.1
  have hb := X.1.2.1
  intro n
  induction n with
  | zero =>
    intro v1 v2 N H locs ls hR hS hl hp
    exact (show False from hp).elim
  | succ n ih =>
    intro v1 v2 N H locs ls hR hS hl hp
    rw [f_X1_sumOfRests_L4] at hp
    refine lv_iload_n hx hb dX1_sumOfRests_4 rfl (lv_at hl 2 rfl) ?_
    refine lv_aload_n hx hb dX1_sumOfRests_5 rfl (lv_at hl 0 rfl) ?_
    obtain ⟨x1, e_x1, hp⟩ := owp_ob hp
    refine gf_X1_27 X hR e_x1 dX1_sumOfRests_6 ?_
    refine lv_icmp_ge (tgt := 27) hx hb dX1_sumOfRests_9 (by decide) (fun k2 => ?_) (fun k2 => ?_)
    · have hp := owp_t k2 hp
      exact hk27 _ _ _ _ _ hR hS (lv_sub hl [1] rfl) hp
    · have hp := owp_f k2 hp
      refine lv_iload_n hx hb dX1_sumOfRests_12 rfl (lv_at hl 1 rfl) ?_
      refine lv_aload_n hx hb dX1_sumOfRests_13 rfl (lv_at hl 0 rfl) ?_
      obtain ⟨x3, e_x3, hp⟩ := owp_ob hp
      refine gf_X1_21 X hR e_x3 dX1_sumOfRests_14 ?_
      refine lv_iload_n hx hb dX1_sumOfRests_17 rfl (lv_at hl 2 rfl) ?_
      obtain ⟨x4, e_x4, hp⟩ := owp_ob hp
      refine ab_iald X hR e_x4 dX1_sumOfRests_18 ?_
      refine lv_iadd hx hb dX1_sumOfRests_19 ?_
      refine lv_istore_n (lv' := [(1, .int (v1 + x4)), (0, .ref v0), (2, .int v2)]) hx hb dX1_sumOfRests_20 rfl hl (by decide) rfl (fun ls hl => ?_)
      refine lv_iinc (v := v2 + 1) (lv' := [(2, .int (v2 + 1)), (1, .int (v1 + x4)), (0, .ref v0)]) hx hb dX1_sumOfRests_21 hl (k := 2) rfl rfl (by decide) rfl (fun ls hl => ?_)
      refine lv_goto (tgt := 4) hx hb dX1_sumOfRests_24 (by decide) ?_
      exact ih _ _ _ _ _ _ hR hS (lv_sub hl [2, 1, 0] rfl) hp
def f_X1_sumOfRests (v0 : Nat) (N : AH) : Option (Int32 × AH) := ob (iO N v0 1) (fun _ => f_X1_sumOfRests_L4 v0 (fun v5 N6 => some (v5, N6)) FU (0 : Int32) (0 : Int32) N)
set_option maxHeartbeats 4000000 in
set_option maxRecDepth 100000 in
theorem wk_X1_sumOfRests {P : Int32 × AH → Prop} (X : CX cX1_sumOfRests RX1 3 G aC t b0 p s m args c) (hr : RtI p l e rm_X1_sumOfRests s m args below meth c 0 0 Q cX1_sumOfRests G aC b0 P) (v0 : Nat) (N : AH) (H : Heap) (locs : List Loc) (ls : Array Slot) (hR : Rp G aC b0 N H) (hS : va_S (fun q => b0 ≤ q) s.heap H locs) (hl : lv_has ls 3 [(0, .ref v0)]) (hp : owp (f_X1_sumOfRests v0 N) P) : W p l e rm_X1_sumOfRests s m args below meth c H locs 0 0 Q (F0 m 0 ls []) := by
  have hx := X.1.1
  have hb := X.1.2.1
  unfold f_X1_sumOfRests at hp
  obtain ⟨_, _, hp⟩ := owp_ob hp
  refine lv_iconst (v := (0)) hx hb dX1_sumOfRests_0 (by decide) ?_
  refine lv_istore_n (lv' := [(1, .int (0 : Int32)), (0, .ref v0)]) hx hb dX1_sumOfRests_1 rfl hl (by decide) rfl (fun ls hl => ?_)
  refine lv_iconst (v := (0)) hx hb dX1_sumOfRests_2 (by decide) ?_
  refine lv_istore_n (lv' := [(2, .int (0 : Int32)), (1, .int (0 : Int32)), (0, .ref v0)]) hx hb dX1_sumOfRests_3 rfl hl (by decide) rfl (fun ls hl => ?_)
  refine w_X1_sumOfRests_L4 X hr _ (fun v5 N6 H locs ls hR hS hl hp => ?_) _ _ _ _ _ _ _ hR hS (lv_sub hl [2, 1, 0] rfl) hp
  refine lv_iload_n hx hb dX1_sumOfRests_27 rfl (lv_at hl 0 rfl) ?_
  exact hr _ _ _ _ _ _ hR hS dX1_sumOfRests_28 hp
end
theorem ct_X1_sumOfRests {v0 : Nat} {N N1 : AH} {r : Int32} (h : f_X1_sumOfRests v0 N = some (r, N1)) : Ct yX1_sumOfRests cX1_sumOfRests 3 (some .int) rm_X1_sumOfRests [.ref v0] N (some (.int r)) N1 :=
  ab_met (own := RX1) (by decide +kernel) rfl (Nat.le_of_ble_eq_true rfl) (fun l G aC t b0 p e s m below meth c ls X hr hlk hnm hR hS hl => wk_X1_sumOfRests X (RtI_met X.1.1 X.1.2.1 hr hlk) _ _ _ _ _ hR hS hl (owp_of h))
theorem cw_X1_sumOfRests : Cond.code yX1_sumOfRests cX1_sumOfRests 3 (some .int) ∈ WT := WT_of 657 (by decide +kernel) (by decide +kernel)
theorem iv_X1_sumOfRests {p : Program} {l : Launch} {e : Env} {R : Room} {s : State} {m : MethodId} {args : Array Value} {below : List Frame} {meth : Method} {c : Code} {H : Heap} {locs : List Loc} {cells slots : Nat} {Q : State → Prop} {cc : ByteArray} {own : String} {nL : Nat} {G : va_G} {aC : Nat → ClassId} {t b0 : Nat} {N N1 : AH} {pc index : Nat} {ls : Array Slot} {rest : List Value} {v0 : Nat} {r : Int32} (w1 : Cond.methodLink own index yX1_sumOfRests ∈ WT) (X : CX cc own nL G aC t b0 p s m args c) (hR : Rp G aC b0 N H) (hS : va_S (fun q => b0 ≤ q) s.heap H locs) (h : f_X1_sumOfRests v0 N = some (r, N1)) (hls : ls.size = nL) (hW : (rest.map fun v => v.category).sum ≤ 8) (hR1 : 1 ≤ R.frames ∧ 22 ≤ R.locals) (hcs : cells + 0 ≤ R.cells ∧ slots + 0 ≤ R.slots) (hdg : decode cc pc = .ok (.invokevirtual index, 3)) (kk : ∀ (H1 : Heap) (locs1 : List Loc), Rp G aC b0 N1 H1 → va_S (fun q => b0 ≤ q) s.heap H1 locs1 → W p l e R s m args below meth c H1 locs1 cells slots Q (F0 m (pc + 3) ls (.int r :: rest))) : W p l e R s m args below meth c H locs cells slots Q (F0 m pc ls (.ref v0 :: rest)) :=
  ab_callV (n := 0) (As := []) X hR hS (ct_X1_sumOfRests h) (ob_rc (c := 1) (N := N) (a := v0) h) (T := TX1) (k := 6) (C := RX1) rfl w1 (WT_of 655 (by decide +kernel) (by decide +kernel)) (WT_of 656 (by decide +kernel) (by decide +kernel)) (WT_of 83 (by decide +kernel) (by decide +kernel)) cw_X1_sumOfRests ⟨rfl, by decide +kernel, by decide +kernel, by decide +kernel⟩ rfl hls hW hR1 hcs rfl hdg kk
-- X1_countUndone
theorem dX1_countUndone_0 : decode cX1_countUndone 0 = .ok (.iconst 0, 1) := by decide +kernel
theorem dX1_countUndone_1 : decode cX1_countUndone 1 = .ok (.istore_n 1, 1) := by decide +kernel
theorem dX1_countUndone_2 : decode cX1_countUndone 2 = .ok (.iconst 0, 1) := by decide +kernel
theorem dX1_countUndone_3 : decode cX1_countUndone 3 = .ok (.istore_n 2, 1) := by decide +kernel
theorem dX1_countUndone_4 : decode cX1_countUndone 4 = .ok (.iload_n 2, 1) := by decide +kernel
theorem dX1_countUndone_5 : decode cX1_countUndone 5 = .ok (.aload_n 0, 1) := by decide +kernel
theorem dX1_countUndone_6 : decode cX1_countUndone 6 = .ok (.getfield 27, 3) := by decide +kernel
theorem dX1_countUndone_9 : decode cX1_countUndone 9 = .ok (.if_icmp .ge 21, 3) := by decide +kernel
theorem dX1_countUndone_12 : decode cX1_countUndone 12 = .ok (.aload_n 0, 1) := by decide +kernel
theorem dX1_countUndone_13 : decode cX1_countUndone 13 = .ok (.getfield 21, 3) := by decide +kernel
theorem dX1_countUndone_16 : decode cX1_countUndone 16 = .ok (.iload_n 2, 1) := by decide +kernel
theorem dX1_countUndone_17 : decode cX1_countUndone 17 = .ok (.iaload, 1) := by decide +kernel
theorem dX1_countUndone_18 : decode cX1_countUndone 18 = .ok (.ifCond .le 6, 3) := by decide +kernel
theorem dX1_countUndone_21 : decode cX1_countUndone 21 = .ok (.iinc 1 1, 3) := by decide +kernel
theorem dX1_countUndone_24 : decode cX1_countUndone 24 = .ok (.iinc 2 1, 3) := by decide +kernel
theorem dX1_countUndone_27 : decode cX1_countUndone 27 = .ok (.goto (-23), 3) := by decide +kernel
theorem dX1_countUndone_30 : decode cX1_countUndone 30 = .ok (.iload_n 1, 1) := by decide +kernel
theorem dX1_countUndone_31 : decode cX1_countUndone 31 = .ok (.ireturn, 1) := by decide +kernel
def rm_X1_countUndone : Room := { frames := 0, cells := 0, slots := 0, locals := 0 }
section
variable {p : Program} {l : Launch} {e : Env} {s : State} {m : MethodId} {args : Array Value} {below : List Frame} {meth : Method} {c : Code} {Q : State → Prop} {G : va_G} {aC : Nat → ClassId} {t b0 : Nat}
def f_X1_countUndone_L4 (v0 : Nat) (k30 : Int32 → AH → Option (Int32 × AH)) : Nat → Int32 → Int32 → AH → Option (Int32 × AH)
  | 0, _, _, _ => none
  | n + 1, v1, v2, N => ob (hI N v0 1 0) (fun x1 => if x1 ≤ v2 then k30 v1 N else ob (hR N v0 1 4) (fun x3 => ob (aI N x3 v2) (fun x4 => if x4 ≤ 0 then f_X1_countUndone_L4 v0 k30 n v1 (v2 + 1) N else f_X1_countUndone_L4 v0 k30 n (v1 + 1) (v2 + 1) N)))
set_option maxHeartbeats 4000000 in
set_option maxRecDepth 100000 in
theorem w_X1_countUndone_L4 {P : Int32 × AH → Prop} (X : CX cX1_countUndone RX1 3 G aC t b0 p s m args c) (hr : RtI p l e rm_X1_countUndone s m args below meth c 0 0 Q cX1_countUndone G aC b0 P) (v0 : Nat) {k30 : Int32 → AH → Option (Int32 × AH)}
    (hk30 : ∀ (v1 : Int32) (N : AH) (H : Heap) (locs : List Loc) (ls : Array Slot), Rp G aC b0 N H → va_S (fun q => b0 ≤ q) s.heap H locs → lv_has ls 3 [(1, .int v1)] → owp (k30 v1 N) P → W p l e rm_X1_countUndone s m args below meth c H locs 0 0 Q (F0 m 30 ls [])) :
    ∀ (n : Nat) (v1 : Int32) (v2 : Int32) (N : AH) (H : Heap) (locs : List Loc) (ls : Array Slot), Rp G aC b0 N H → va_S (fun q => b0 ≤ q) s.heap H locs → lv_has ls 3 [(0, .ref v0), (1, .int v1), (2, .int v2)] → owp (f_X1_countUndone_L4 v0 k30 n v1 v2 N) P → W p l e rm_X1_countUndone s m args below meth c H locs 0 0 Q (F0 m 4 ls []) := by
  have hx := X.1.1
  have hb := X.1.2.1
  intro n
  induction n with
  | zero =>
    intro v1 v2 N H locs ls hR hS hl hp
    exact (show False from hp).elim
  | succ n ih =>
    intro v1 v2 N H locs ls hR hS hl hp
    rw [f_X1_countUndone_L4] at hp
    refine lv_iload_n hx hb dX1_countUndone_4 rfl (lv_at hl 2 rfl) ?_
    refine lv_aload_n hx hb dX1_countUndone_5 rfl (lv_at hl 0 rfl) ?_
    obtain ⟨x1, e_x1, hp⟩ := owp_ob hp
    refine gf_X1_27 X hR e_x1 dX1_countUndone_6 ?_
    refine lv_icmp_ge (tgt := 30) hx hb dX1_countUndone_9 (by decide) (fun k2 => ?_) (fun k2 => ?_)
    · have hp := owp_t k2 hp
      exact hk30 _ _ _ _ _ hR hS (lv_sub hl [1] rfl) hp
    · have hp := owp_f k2 hp
      refine lv_aload_n hx hb dX1_countUndone_12 rfl (lv_at hl 0 rfl) ?_
      obtain ⟨x3, e_x3, hp⟩ := owp_ob hp
      refine gf_X1_21 X hR e_x3 dX1_countUndone_13 ?_
      refine lv_iload_n hx hb dX1_countUndone_16 rfl (lv_at hl 2 rfl) ?_
      obtain ⟨x4, e_x4, hp⟩ := owp_ob hp
      refine ab_iald X hR e_x4 dX1_countUndone_17 ?_
      refine lv_if_le (tgt := 24) hx hb dX1_countUndone_18 (by decide) (fun k5 => ?_) (fun k5 => ?_)
      · have hp := owp_t k5 hp
        refine lv_iinc (v := v2 + 1) (lv' := [(2, .int (v2 + 1)), (0, .ref v0), (1, .int v1)]) hx hb dX1_countUndone_24 hl (k := 2) rfl rfl (by decide) rfl (fun ls hl => ?_)
        refine lv_goto (tgt := 4) hx hb dX1_countUndone_27 (by decide) ?_
        exact ih _ _ _ _ _ _ hR hS (lv_sub hl [1, 2, 0] rfl) hp
      · have hp := owp_f k5 hp
        refine lv_iinc (v := v1 + 1) (lv' := [(1, .int (v1 + 1)), (0, .ref v0), (2, .int v2)]) hx hb dX1_countUndone_21 hl (k := 1) rfl rfl (by decide) rfl (fun ls hl => ?_)
        refine lv_iinc (v := v2 + 1) (lv' := [(2, .int (v2 + 1)), (1, .int (v1 + 1)), (0, .ref v0)]) hx hb dX1_countUndone_24 hl (k := 2) rfl rfl (by decide) rfl (fun ls hl => ?_)
        refine lv_goto (tgt := 4) hx hb dX1_countUndone_27 (by decide) ?_
        exact ih _ _ _ _ _ _ hR hS (lv_sub hl [2, 1, 0] rfl) hp
def f_X1_countUndone (v0 : Nat) (N : AH) : Option (Int32 × AH) := ob (iO N v0 1) (fun _ => f_X1_countUndone_L4 v0 (fun v6 N7 => some (v6, N7)) FU (0 : Int32) (0 : Int32) N)
set_option maxHeartbeats 4000000 in
set_option maxRecDepth 100000 in
theorem wk_X1_countUndone {P : Int32 × AH → Prop} (X : CX cX1_countUndone RX1 3 G aC t b0 p s m args c) (hr : RtI p l e rm_X1_countUndone s m args below meth c 0 0 Q cX1_countUndone G aC b0 P) (v0 : Nat) (N : AH) (H : Heap) (locs : List Loc) (ls : Array Slot) (hR : Rp G aC b0 N H) (hS : va_S (fun q => b0 ≤ q) s.heap H locs) (hl : lv_has ls 3 [(0, .ref v0)]) (hp : owp (f_X1_countUndone v0 N) P) : W p l e rm_X1_countUndone s m args below meth c H locs 0 0 Q (F0 m 0 ls []) := by
  have hx := X.1.1
  have hb := X.1.2.1
  unfold f_X1_countUndone at hp
  obtain ⟨_, _, hp⟩ := owp_ob hp
  refine lv_iconst (v := (0)) hx hb dX1_countUndone_0 (by decide) ?_
  refine lv_istore_n (lv' := [(1, .int (0 : Int32)), (0, .ref v0)]) hx hb dX1_countUndone_1 rfl hl (by decide) rfl (fun ls hl => ?_)
  refine lv_iconst (v := (0)) hx hb dX1_countUndone_2 (by decide) ?_
  refine lv_istore_n (lv' := [(2, .int (0 : Int32)), (1, .int (0 : Int32)), (0, .ref v0)]) hx hb dX1_countUndone_3 rfl hl (by decide) rfl (fun ls hl => ?_)
  refine w_X1_countUndone_L4 X hr _ (fun v6 N7 H locs ls hR hS hl hp => ?_) _ _ _ _ _ _ _ hR hS (lv_sub hl [2, 1, 0] rfl) hp
  refine lv_iload_n hx hb dX1_countUndone_30 rfl (lv_at hl 0 rfl) ?_
  exact hr _ _ _ _ _ _ hR hS dX1_countUndone_31 hp
end
theorem ct_X1_countUndone {v0 : Nat} {N N1 : AH} {r : Int32} (h : f_X1_countUndone v0 N = some (r, N1)) : Ct yX1_countUndone cX1_countUndone 3 (some .int) rm_X1_countUndone [.ref v0] N (some (.int r)) N1 :=
  ab_met (own := RX1) (by decide +kernel) rfl (Nat.le_of_ble_eq_true rfl) (fun l G aC t b0 p e s m below meth c ls X hr hlk hnm hR hS hl => wk_X1_countUndone X (RtI_met X.1.1 X.1.2.1 hr hlk) _ _ _ _ _ hR hS hl (owp_of h))
theorem cw_X1_countUndone : Cond.code yX1_countUndone cX1_countUndone 3 (some .int) ∈ WT := WT_of 661 (by decide +kernel) (by decide +kernel)
theorem iv_X1_countUndone {p : Program} {l : Launch} {e : Env} {R : Room} {s : State} {m : MethodId} {args : Array Value} {below : List Frame} {meth : Method} {c : Code} {H : Heap} {locs : List Loc} {cells slots : Nat} {Q : State → Prop} {cc : ByteArray} {own : String} {nL : Nat} {G : va_G} {aC : Nat → ClassId} {t b0 : Nat} {N N1 : AH} {pc index : Nat} {ls : Array Slot} {rest : List Value} {v0 : Nat} {r : Int32} (w1 : Cond.methodLink own index yX1_countUndone ∈ WT) (X : CX cc own nL G aC t b0 p s m args c) (hR : Rp G aC b0 N H) (hS : va_S (fun q => b0 ≤ q) s.heap H locs) (h : f_X1_countUndone v0 N = some (r, N1)) (hls : ls.size = nL) (hW : (rest.map fun v => v.category).sum ≤ 8) (hR1 : 1 ≤ R.frames ∧ 22 ≤ R.locals) (hcs : cells + 0 ≤ R.cells ∧ slots + 0 ≤ R.slots) (hdg : decode cc pc = .ok (.invokevirtual index, 3)) (kk : ∀ (H1 : Heap) (locs1 : List Loc), Rp G aC b0 N1 H1 → va_S (fun q => b0 ≤ q) s.heap H1 locs1 → W p l e R s m args below meth c H1 locs1 cells slots Q (F0 m (pc + 3) ls (.int r :: rest))) : W p l e R s m args below meth c H locs cells slots Q (F0 m pc ls (.ref v0 :: rest)) :=
  ab_callV (n := 0) (As := []) X hR hS (ct_X1_countUndone h) (ob_rc (c := 1) (N := N) (a := v0) h) (T := TX1) (k := 6) (C := RX1) rfl w1 (WT_of 659 (by decide +kernel) (by decide +kernel)) (WT_of 660 (by decide +kernel) (by decide +kernel)) (WT_of 83 (by decide +kernel) (by decide +kernel)) cw_X1_countUndone ⟨rfl, by decide +kernel, by decide +kernel, by decide +kernel⟩ rfl hls hW hR1 hcs rfl hdg kk
-- X1_levelReached
theorem dX1_levelReached_0 : decode cX1_levelReached 0 = .ok (.iconst 0, 1) := by decide +kernel
theorem dX1_levelReached_1 : decode cX1_levelReached 1 = .ok (.istore_n 1, 1) := by decide +kernel
theorem dX1_levelReached_2 : decode cX1_levelReached 2 = .ok (.iconst 0, 1) := by decide +kernel
theorem dX1_levelReached_3 : decode cX1_levelReached 3 = .ok (.istore_n 2, 1) := by decide +kernel
theorem dX1_levelReached_4 : decode cX1_levelReached 4 = .ok (.iload_n 2, 1) := by decide +kernel
theorem dX1_levelReached_5 : decode cX1_levelReached 5 = .ok (.aload_n 0, 1) := by decide +kernel
theorem dX1_levelReached_6 : decode cX1_levelReached 6 = .ok (.getfield 27, 3) := by decide +kernel
theorem dX1_levelReached_9 : decode cX1_levelReached 9 = .ok (.if_icmp .ge 25, 3) := by decide +kernel
theorem dX1_levelReached_12 : decode cX1_levelReached 12 = .ok (.iload_n 1, 1) := by decide +kernel
theorem dX1_levelReached_13 : decode cX1_levelReached 13 = .ok (.aload_n 0, 1) := by decide +kernel
theorem dX1_levelReached_14 : decode cX1_levelReached 14 = .ok (.getfield 18, 3) := by decide +kernel
theorem dX1_levelReached_17 : decode cX1_levelReached 17 = .ok (.iload_n 2, 1) := by decide +kernel
theorem dX1_levelReached_18 : decode cX1_levelReached 18 = .ok (.iaload, 1) := by decide +kernel
theorem dX1_levelReached_19 : decode cX1_levelReached 19 = .ok (.aload_n 0, 1) := by decide +kernel
theorem dX1_levelReached_20 : decode cX1_levelReached 20 = .ok (.getfield 21, 3) := by decide +kernel
theorem dX1_levelReached_23 : decode cX1_levelReached 23 = .ok (.iload_n 2, 1) := by decide +kernel
theorem dX1_levelReached_24 : decode cX1_levelReached 24 = .ok (.iaload, 1) := by decide +kernel
theorem dX1_levelReached_25 : decode cX1_levelReached 25 = .ok (.isub, 1) := by decide +kernel
theorem dX1_levelReached_26 : decode cX1_levelReached 26 = .ok (.iadd, 1) := by decide +kernel
theorem dX1_levelReached_27 : decode cX1_levelReached 27 = .ok (.istore_n 1, 1) := by decide +kernel
theorem dX1_levelReached_28 : decode cX1_levelReached 28 = .ok (.iinc 2 1, 3) := by decide +kernel
theorem dX1_levelReached_31 : decode cX1_levelReached 31 = .ok (.goto (-27), 3) := by decide +kernel
theorem dX1_levelReached_34 : decode cX1_levelReached 34 = .ok (.iconst 0, 1) := by decide +kernel
theorem dX1_levelReached_35 : decode cX1_levelReached 35 = .ok (.istore_n 2, 1) := by decide +kernel
theorem dX1_levelReached_36 : decode cX1_levelReached 36 = .ok (.getstatic 45, 3) := by decide +kernel
theorem dX1_levelReached_39 : decode cX1_levelReached 39 = .ok (.astore_n 3, 1) := by decide +kernel
theorem dX1_levelReached_40 : decode cX1_levelReached 40 = .ok (.aload_n 3, 1) := by decide +kernel
theorem dX1_levelReached_41 : decode cX1_levelReached 41 = .ok (.arraylength, 1) := by decide +kernel
theorem dX1_levelReached_42 : decode cX1_levelReached 42 = .ok (.istore 4, 2) := by decide +kernel
theorem dX1_levelReached_44 : decode cX1_levelReached 44 = .ok (.iconst 0, 1) := by decide +kernel
theorem dX1_levelReached_45 : decode cX1_levelReached 45 = .ok (.istore 5, 2) := by decide +kernel
theorem dX1_levelReached_47 : decode cX1_levelReached 47 = .ok (.iload 5, 2) := by decide +kernel
theorem dX1_levelReached_49 : decode cX1_levelReached 49 = .ok (.iload 4, 2) := by decide +kernel
theorem dX1_levelReached_51 : decode cX1_levelReached 51 = .ok (.if_icmp .ge 24, 3) := by decide +kernel
theorem dX1_levelReached_54 : decode cX1_levelReached 54 = .ok (.aload_n 3, 1) := by decide +kernel
theorem dX1_levelReached_55 : decode cX1_levelReached 55 = .ok (.iload 5, 2) := by decide +kernel
theorem dX1_levelReached_57 : decode cX1_levelReached 57 = .ok (.iaload, 1) := by decide +kernel
theorem dX1_levelReached_58 : decode cX1_levelReached 58 = .ok (.istore 6, 2) := by decide +kernel
theorem dX1_levelReached_60 : decode cX1_levelReached 60 = .ok (.iload 6, 2) := by decide +kernel
theorem dX1_levelReached_62 : decode cX1_levelReached 62 = .ok (.iload_n 1, 1) := by decide +kernel
theorem dX1_levelReached_63 : decode cX1_levelReached 63 = .ok (.if_icmp .gt 6, 3) := by decide +kernel
theorem dX1_levelReached_66 : decode cX1_levelReached 66 = .ok (.iinc 2 1, 3) := by decide +kernel
theorem dX1_levelReached_69 : decode cX1_levelReached 69 = .ok (.iinc 5 1, 3) := by decide +kernel
theorem dX1_levelReached_72 : decode cX1_levelReached 72 = .ok (.goto (-25), 3) := by decide +kernel
theorem dX1_levelReached_75 : decode cX1_levelReached 75 = .ok (.iload_n 2, 1) := by decide +kernel
theorem dX1_levelReached_76 : decode cX1_levelReached 76 = .ok (.ireturn, 1) := by decide +kernel
def rm_X1_levelReached : Room := { frames := 0, cells := 0, slots := 0, locals := 0 }
section
variable {p : Program} {l : Launch} {e : Env} {s : State} {m : MethodId} {args : Array Value} {below : List Frame} {meth : Method} {c : Code} {Q : State → Prop} {G : va_G} {aC : Nat → ClassId} {t b0 : Nat}
def f_X1_levelReached_L4 (v0 : Nat) (k34 : Int32 → AH → Option (Int32 × AH)) : Nat → Int32 → Int32 → AH → Option (Int32 × AH)
  | 0, _, _, _ => none
  | n + 1, v1, v2, N => ob (hI N v0 1 0) (fun x1 => if x1 ≤ v2 then k34 v1 N else ob (hR N v0 1 3) (fun x3 => ob (aI N x3 v2) (fun x4 => ob (hR N v0 1 4) (fun x5 => ob (aI N x5 v2) (fun x6 => f_X1_levelReached_L4 v0 k34 n (v1 + (x4 - x6)) (v2 + 1) N)))))
set_option maxHeartbeats 4000000 in
set_option maxRecDepth 100000 in
theorem w_X1_levelReached_L4 {P : Int32 × AH → Prop} (X : CX cX1_levelReached RX1 7 G aC t b0 p s m args c) (hr : RtI p l e rm_X1_levelReached s m args below meth c 0 0 Q cX1_levelReached G aC b0 P) (v0 : Nat) {k34 : Int32 → AH → Option (Int32 × AH)}
    (hk34 : ∀ (v1 : Int32) (N : AH) (H : Heap) (locs : List Loc) (ls : Array Slot), Rp G aC b0 N H → va_S (fun q => b0 ≤ q) s.heap H locs → lv_has ls 7 [(1, .int v1)] → owp (k34 v1 N) P → W p l e rm_X1_levelReached s m args below meth c H locs 0 0 Q (F0 m 34 ls [])) :
    ∀ (n : Nat) (v1 : Int32) (v2 : Int32) (N : AH) (H : Heap) (locs : List Loc) (ls : Array Slot), Rp G aC b0 N H → va_S (fun q => b0 ≤ q) s.heap H locs → lv_has ls 7 [(0, .ref v0), (1, .int v1), (2, .int v2)] → owp (f_X1_levelReached_L4 v0 k34 n v1 v2 N) P → W p l e rm_X1_levelReached s m args below meth c H locs 0 0 Q (F0 m 4 ls []) := by
  have hx := X.1.1
  have hb := X.1.2.1
  intro n
  induction n with
  | zero =>
    intro v1 v2 N H locs ls hR hS hl hp
    exact (show False from hp).elim
  | succ n ih =>
    intro v1 v2 N H locs ls hR hS hl hp
    rw [f_X1_levelReached_L4] at hp
    refine lv_iload_n hx hb dX1_levelReached_4 rfl (lv_at hl 2 rfl) ?_
    refine lv_aload_n hx hb dX1_levelReached_5 rfl (lv_at hl 0 rfl) ?_
    obtain ⟨x1, e_x1, hp⟩ := owp_ob hp
    refine gf_X1_27 X hR e_x1 dX1_levelReached_6 ?_
    refine lv_icmp_ge (tgt := 34) hx hb dX1_levelReached_9 (by decide) (fun k2 => ?_) (fun k2 => ?_)
    · have hp := owp_t k2 hp
      exact hk34 _ _ _ _ _ hR hS (lv_sub hl [1] rfl) hp
    · have hp := owp_f k2 hp
      refine lv_iload_n hx hb dX1_levelReached_12 rfl (lv_at hl 1 rfl) ?_
      refine lv_aload_n hx hb dX1_levelReached_13 rfl (lv_at hl 0 rfl) ?_
      obtain ⟨x3, e_x3, hp⟩ := owp_ob hp
      refine gf_X1_18 X hR e_x3 dX1_levelReached_14 ?_
      refine lv_iload_n hx hb dX1_levelReached_17 rfl (lv_at hl 2 rfl) ?_
      obtain ⟨x4, e_x4, hp⟩ := owp_ob hp
      refine ab_iald X hR e_x4 dX1_levelReached_18 ?_
      refine lv_aload_n hx hb dX1_levelReached_19 rfl (lv_at hl 0 rfl) ?_
      obtain ⟨x5, e_x5, hp⟩ := owp_ob hp
      refine gf_X1_21 X hR e_x5 dX1_levelReached_20 ?_
      refine lv_iload_n hx hb dX1_levelReached_23 rfl (lv_at hl 2 rfl) ?_
      obtain ⟨x6, e_x6, hp⟩ := owp_ob hp
      refine ab_iald X hR e_x6 dX1_levelReached_24 ?_
      refine lv_isub hx hb dX1_levelReached_25 ?_
      refine lv_iadd hx hb dX1_levelReached_26 ?_
      refine lv_istore_n (lv' := [(1, .int (v1 + (x4 - x6))), (0, .ref v0), (2, .int v2)]) hx hb dX1_levelReached_27 rfl hl (by decide) rfl (fun ls hl => ?_)
      refine lv_iinc (v := v2 + 1) (lv' := [(2, .int (v2 + 1)), (1, .int (v1 + (x4 - x6))), (0, .ref v0)]) hx hb dX1_levelReached_28 hl (k := 2) rfl rfl (by decide) rfl (fun ls hl => ?_)
      refine lv_goto (tgt := 4) hx hb dX1_levelReached_31 (by decide) ?_
      exact ih _ _ _ _ _ _ hR hS (lv_sub hl [2, 1, 0] rfl) hp
def f_X1_levelReached_L47 (v1 : Int32) (v4 : Int32) (k75 : Int32 → AH → Option (Int32 × AH)) : Nat → Int32 → Int32 → AH → Option (Int32 × AH)
  | 0, _, _, _ => none
  | n + 1, v2, v5, N => if v4 ≤ v5 then k75 v2 N else ob (xS 4 thr v5) (fun x10 => if v1 < x10 then f_X1_levelReached_L47 v1 v4 k75 n v2 (v5 + 1) N else f_X1_levelReached_L47 v1 v4 k75 n (v2 + 1) (v5 + 1) N)
set_option maxHeartbeats 4000000 in
set_option maxRecDepth 100000 in
theorem w_X1_levelReached_L47 {P : Int32 × AH → Prop} (X : CX cX1_levelReached RX1 7 G aC t b0 p s m args c) (hr : RtI p l e rm_X1_levelReached s m args below meth c 0 0 Q cX1_levelReached G aC b0 P) (v1 : Int32) (v4 : Int32) {k75 : Int32 → AH → Option (Int32 × AH)}
    (hk75 : ∀ (v2 : Int32) (N : AH) (H : Heap) (locs : List Loc) (ls : Array Slot), Rp G aC b0 N H → va_S (fun q => b0 ≤ q) s.heap H locs → lv_has ls 7 [(2, .int v2)] → owp (k75 v2 N) P → W p l e rm_X1_levelReached s m args below meth c H locs 0 0 Q (F0 m 75 ls [])) :
    ∀ (n : Nat) (v2 : Int32) (v5 : Int32) (N : AH) (H : Heap) (locs : List Loc) (ls : Array Slot), Rp G aC b0 N H → va_S (fun q => b0 ≤ q) s.heap H locs → lv_has ls 7 [(1, .int v1), (2, .int v2), (3, .ref t), (4, .int v4), (5, .int v5)] → owp (f_X1_levelReached_L47 v1 v4 k75 n v2 v5 N) P → W p l e rm_X1_levelReached s m args below meth c H locs 0 0 Q (F0 m 47 ls []) := by
  have hx := X.1.1
  have hb := X.1.2.1
  intro n
  induction n with
  | zero =>
    intro v2 v5 N H locs ls hR hS hl hp
    exact (show False from hp).elim
  | succ n ih =>
    intro v2 v5 N H locs ls hR hS hl hp
    rw [f_X1_levelReached_L47] at hp
    refine lv_iload hx hb dX1_levelReached_47 (lv_at hl 4 rfl) ?_
    refine lv_iload hx hb dX1_levelReached_49 (lv_at hl 3 rfl) ?_
    refine lv_icmp_ge (tgt := 75) hx hb dX1_levelReached_51 (by decide) (fun k9 => ?_) (fun k9 => ?_)
    · have hp := owp_t k9 hp
      exact hk75 _ _ _ _ _ hR hS (lv_sub hl [1] rfl) hp
    · have hp := owp_f k9 hp
      refine lv_aload_n hx hb dX1_levelReached_54 rfl (lv_at hl 2 rfl) ?_
      refine lv_iload hx hb dX1_levelReached_55 (lv_at hl 4 rfl) ?_
      obtain ⟨x10, e_x10, hp⟩ := owp_ob hp
      refine ab_tld X hS e_x10 dX1_levelReached_57 ?_
      refine lv_istore (lv' := [(6, .int x10), (1, .int v1), (2, .int v2), (3, .ref t), (4, .int v4), (5, .int v5)]) hx hb dX1_levelReached_58 hl (by decide) rfl (fun ls hl => ?_)
      refine lv_iload hx hb dX1_levelReached_60 (lv_at hl 0 rfl) ?_
      refine lv_iload_n hx hb dX1_levelReached_62 rfl (lv_at hl 1 rfl) ?_
      refine lv_icmp_gt (tgt := 69) hx hb dX1_levelReached_63 (by decide) (fun k11 => ?_) (fun k11 => ?_)
      · have hp := owp_t k11 hp
        refine lv_iinc (v := v5 + 1) (lv' := [(5, .int (v5 + 1)), (6, .int x10), (1, .int v1), (2, .int v2), (3, .ref t), (4, .int v4)]) hx hb dX1_levelReached_69 hl (k := 5) rfl rfl (by decide) rfl (fun ls hl => ?_)
        refine lv_goto (tgt := 47) hx hb dX1_levelReached_72 (by decide) ?_
        exact ih _ _ _ _ _ _ hR hS (lv_sub hl [2, 3, 4, 5, 0] rfl) hp
      · have hp := owp_f k11 hp
        refine lv_iinc (v := v2 + 1) (lv' := [(2, .int (v2 + 1)), (6, .int x10), (1, .int v1), (3, .ref t), (4, .int v4), (5, .int v5)]) hx hb dX1_levelReached_66 hl (k := 2) rfl rfl (by decide) rfl (fun ls hl => ?_)
        refine lv_iinc (v := v5 + 1) (lv' := [(5, .int (v5 + 1)), (2, .int (v2 + 1)), (6, .int x10), (1, .int v1), (3, .ref t), (4, .int v4)]) hx hb dX1_levelReached_69 hl (k := 5) rfl rfl (by decide) rfl (fun ls hl => ?_)
        refine lv_goto (tgt := 47) hx hb dX1_levelReached_72 (by decide) ?_
        exact ih _ _ _ _ _ _ hR hS (lv_sub hl [3, 1, 4, 5, 0] rfl) hp
def f_X1_levelReached (v0 : Nat) (N : AH) : Option (Int32 × AH) := ob (iO N v0 1) (fun _ => f_X1_levelReached_L4 v0 (fun v7 N8 => f_X1_levelReached_L47 v7 (4 : Int32) (fun v12 N13 => some (v12, N13)) FU (0 : Int32) (0 : Int32) N8) FU (0 : Int32) (0 : Int32) N)
set_option maxHeartbeats 4000000 in
set_option maxRecDepth 100000 in
theorem wk_X1_levelReached {P : Int32 × AH → Prop} (X : CX cX1_levelReached RX1 7 G aC t b0 p s m args c) (hr : RtI p l e rm_X1_levelReached s m args below meth c 0 0 Q cX1_levelReached G aC b0 P) (v0 : Nat) (N : AH) (H : Heap) (locs : List Loc) (ls : Array Slot) (hR : Rp G aC b0 N H) (hS : va_S (fun q => b0 ≤ q) s.heap H locs) (hl : lv_has ls 7 [(0, .ref v0)]) (hp : owp (f_X1_levelReached v0 N) P) : W p l e rm_X1_levelReached s m args below meth c H locs 0 0 Q (F0 m 0 ls []) := by
  have hx := X.1.1
  have hb := X.1.2.1
  unfold f_X1_levelReached at hp
  obtain ⟨_, _, hp⟩ := owp_ob hp
  refine lv_iconst (v := (0)) hx hb dX1_levelReached_0 (by decide) ?_
  refine lv_istore_n (lv' := [(1, .int (0 : Int32)), (0, .ref v0)]) hx hb dX1_levelReached_1 rfl hl (by decide) rfl (fun ls hl => ?_)
  refine lv_iconst (v := (0)) hx hb dX1_levelReached_2 (by decide) ?_
  refine lv_istore_n (lv' := [(2, .int (0 : Int32)), (1, .int (0 : Int32)), (0, .ref v0)]) hx hb dX1_levelReached_3 rfl hl (by decide) rfl (fun ls hl => ?_)
  refine w_X1_levelReached_L4 X hr _ (fun v7 N8 H locs ls hR hS hl hp => ?_) _ _ _ _ _ _ _ hR hS (lv_sub hl [2, 1, 0] rfl) hp
  refine lv_iconst (v := (0)) hx hb dX1_levelReached_34 (by decide) ?_
  refine lv_istore_n (lv' := [(2, .int (0 : Int32)), (1, .int v7)]) hx hb dX1_levelReached_35 rfl hl (by decide) rfl (fun ls hl => ?_)
  refine ab_thr X hS dX1_levelReached_36 ?_
  refine lv_astore_n (lv' := [(3, .ref t), (2, .int (0 : Int32)), (1, .int v7)]) hx hb dX1_levelReached_39 rfl hl (by decide) rfl (fun ls hl => ?_)
  refine lv_aload_n hx hb dX1_levelReached_40 rfl (lv_at hl 0 rfl) ?_
  refine ab_tlen X hS dX1_levelReached_41 ?_
  refine lv_istore (lv' := [(4, .int (4 : Int32)), (3, .ref t), (2, .int (0 : Int32)), (1, .int v7)]) hx hb dX1_levelReached_42 hl (by decide) rfl (fun ls hl => ?_)
  refine lv_iconst (v := (0)) hx hb dX1_levelReached_44 (by decide) ?_
  refine lv_istore (lv' := [(5, .int (0 : Int32)), (4, .int (4 : Int32)), (3, .ref t), (2, .int (0 : Int32)), (1, .int v7)]) hx hb dX1_levelReached_45 hl (by decide) rfl (fun ls hl => ?_)
  refine w_X1_levelReached_L47 X hr _ _ (fun v12 N13 H locs ls hR hS hl hp => ?_) _ _ _ _ _ _ _ hR hS (lv_sub hl [4, 3, 2, 1, 0] rfl) hp
  refine lv_iload_n hx hb dX1_levelReached_75 rfl (lv_at hl 0 rfl) ?_
  exact hr _ _ _ _ _ _ hR hS dX1_levelReached_76 hp
end
theorem ct_X1_levelReached {v0 : Nat} {N N1 : AH} {r : Int32} (h : f_X1_levelReached v0 N = some (r, N1)) : Ct yX1_levelReached cX1_levelReached 7 (some .int) rm_X1_levelReached [.ref v0] N (some (.int r)) N1 :=
  ab_met (own := RX1) (by decide +kernel) rfl (Nat.le_of_ble_eq_true rfl) (fun l G aC t b0 p e s m below meth c ls X hr hlk hnm hR hS hl => wk_X1_levelReached X (RtI_met X.1.1 X.1.2.1 hr hlk) _ _ _ _ _ hR hS hl (owp_of h))
theorem cw_X1_levelReached : Cond.code yX1_levelReached cX1_levelReached 7 (some .int) ∈ WT := WT_of 665 (by decide +kernel) (by decide +kernel)
theorem iv_X1_levelReached {p : Program} {l : Launch} {e : Env} {R : Room} {s : State} {m : MethodId} {args : Array Value} {below : List Frame} {meth : Method} {c : Code} {H : Heap} {locs : List Loc} {cells slots : Nat} {Q : State → Prop} {cc : ByteArray} {own : String} {nL : Nat} {G : va_G} {aC : Nat → ClassId} {t b0 : Nat} {N N1 : AH} {pc index : Nat} {ls : Array Slot} {rest : List Value} {v0 : Nat} {r : Int32} (w1 : Cond.methodLink own index yX1_levelReached ∈ WT) (X : CX cc own nL G aC t b0 p s m args c) (hR : Rp G aC b0 N H) (hS : va_S (fun q => b0 ≤ q) s.heap H locs) (h : f_X1_levelReached v0 N = some (r, N1)) (hls : ls.size = nL) (hW : (rest.map fun v => v.category).sum ≤ 8) (hR1 : 1 ≤ R.frames ∧ 26 ≤ R.locals) (hcs : cells + 0 ≤ R.cells ∧ slots + 0 ≤ R.slots) (hdg : decode cc pc = .ok (.invokevirtual index, 3)) (kk : ∀ (H1 : Heap) (locs1 : List Loc), Rp G aC b0 N1 H1 → va_S (fun q => b0 ≤ q) s.heap H1 locs1 → W p l e R s m args below meth c H1 locs1 cells slots Q (F0 m (pc + 3) ls (.int r :: rest))) : W p l e R s m args below meth c H locs cells slots Q (F0 m pc ls (.ref v0 :: rest)) :=
  ab_callV (n := 0) (As := []) X hR hS (ct_X1_levelReached h) (ob_rc (c := 1) (N := N) (a := v0) h) (T := TX1) (k := 6) (C := RX1) rfl w1 (WT_of 663 (by decide +kernel) (by decide +kernel)) (WT_of 664 (by decide +kernel) (by decide +kernel)) (WT_of 83 (by decide +kernel) (by decide +kernel)) cw_X1_levelReached ⟨rfl, by decide +kernel, by decide +kernel, by decide +kernel⟩ rfl hls hW hR1 hcs rfl hdg kk
-- X2_init
theorem mw_X2_17 : Cond.methodLink RX2 17 yX1_init ∈ WT := WT_of 111 (by decide +kernel) (by decide +kernel)
abbrev zX1 : List Value := [.int 0, .null, .null, .null, .null, .null]
theorem no_X1 {p : Program} {l : Launch} {e : Env} {R : Room} {s : State} {m : MethodId} {args : Array Value} {below : List Frame} {meth : Method} {c : Code} {H : Heap} {locs : List Loc} {cells slots : Nat} {Q : State → Prop} {cc : ByteArray} {nL : Nat} {G : va_G} {aC : Nat → ClassId} {t b0 : Nat} {N : AH} {pc : Nat} {ls : Array Slot} {rest : List Value} {own : String} {index : Nat} (X : CX cc own nL G aC t b0 p s m args c) (hR0 : Rp G aC b0 N H) (hS : va_S (fun q => b0 ≤ q) s.heap H locs) (w1 : Cond.classLink own index RX1 ∈ WT) (hc1 : cells + 1 ≤ R.cells) (hs1 : slots + 6 ≤ R.slots) (hdg : decode cc pc = .ok (.new index, 3)) (kk : ∀ (H1 : Heap), Rp G aC b0 (nO N 1 zX1) H1 → va_S (fun q => b0 ≤ q) s.heap H1 locs → W p l e R s m args below meth c H1 locs (cells + 1) (slots + 6) Q (F0 m (pc + 3) ls (.ref N.1 :: rest))) : W p l e R s m args below meth c H locs cells slots Q (F0 m pc ls rest) :=
  ab_new_o (C := RX1) (T := TX1) (n := 6) X hR0 hS rfl inX1 tyX1 tyX1_ok w1 (WT_of 110 (by decide +kernel) (by decide +kernel)) (WT_of 83 (by decide +kernel) (by decide +kernel)) (fun j hj => by
    match j, hj with
    | 0, _ => rfl
    | 1, _ => rfl
    | 2, _ => rfl
    | 3, _ => rfl
    | 4, _ => rfl
    | 5, _ => rfl
    | j + 6, h => exact absurd h (by omega)) hc1 hs1 hdg kk
theorem pf_X2_9 {p : Program} {l : Launch} {e : Env} {R : Room} {s : State} {m : MethodId} {args : Array Value} {below : List Frame} {meth : Method} {c : Code} {H : Heap} {locs : List Loc} {cells slots : Nat} {Q : State → Prop} {cc : ByteArray} {nL : Nat} {G : va_G} {aC : Nat → ClassId} {t b0 : Nat} {N : AH} {pc : Nat} {ls : Array Slot} {rest : List Value} {N1 : AH} {a : Nat} {v : Nat} (X : CX cc RX2 nL G aC t b0 p s m args c) (hR0 : Rp G aC b0 N H) (hS : va_S (fun q => b0 ≤ q) s.heap H locs) (hmn : meth.name = "<init>") (hv : pR N a 2 2 v = some N1) (hdg : decode cc pc = .ok (.putfield 9, 3)) (kk : ∀ (H1 : Heap) (locs1 : List Loc), Rp G aC b0 N1 H1 → va_S (fun q => b0 ≤ q) s.heap H1 locs1 → W p l e R s m args below meth c H1 locs1 cells slots Q (F0 m (pc + 3) ls rest)) : W p l e R s m args below meth c H locs cells slots Q (F0 m pc ls (.ref v :: .ref a :: rest)) := by
  obtain ⟨fs, h1, h2, h3⟩ := pV_ok hv
  subst h3
  exact ab_putF (C := RX2) (T := TX2) (n := 4) X hR0 hS hmn h1 h2 rfl inX2 tyX2 tyX2_ok nmX2 (by decide) (WT_of 156 (by decide +kernel) (by decide +kernel)) rfl rfl rfl rfl hdg kk
theorem pf_X2_18 {p : Program} {l : Launch} {e : Env} {R : Room} {s : State} {m : MethodId} {args : Array Value} {below : List Frame} {meth : Method} {c : Code} {H : Heap} {locs : List Loc} {cells slots : Nat} {Q : State → Prop} {cc : ByteArray} {nL : Nat} {G : va_G} {aC : Nat → ClassId} {t b0 : Nat} {N : AH} {pc : Nat} {ls : Array Slot} {rest : List Value} {N1 : AH} {a : Nat} {v : Nat} (X : CX cc RX2 nL G aC t b0 p s m args c) (hR0 : Rp G aC b0 N H) (hS : va_S (fun q => b0 ≤ q) s.heap H locs) (hmn : meth.name = "<init>") (hv : pR N a 2 3 v = some N1) (hdg : decode cc pc = .ok (.putfield 18, 3)) (kk : ∀ (H1 : Heap) (locs1 : List Loc), Rp G aC b0 N1 H1 → va_S (fun q => b0 ≤ q) s.heap H1 locs1 → W p l e R s m args below meth c H1 locs1 cells slots Q (F0 m (pc + 3) ls rest)) : W p l e R s m args below meth c H locs cells slots Q (F0 m pc ls (.ref v :: .ref a :: rest)) := by
  obtain ⟨fs, h1, h2, h3⟩ := pV_ok hv
  subst h3
  exact ab_putF (C := RX2) (T := TX2) (n := 4) X hR0 hS hmn h1 h2 rfl inX2 tyX2 tyX2_ok nmX2 (by decide) (WT_of 157 (by decide +kernel) (by decide +kernel)) rfl rfl rfl rfl hdg kk
theorem dX2_init_0 : decode cX2_init 0 = .ok (.aload_n 0, 1) := by decide +kernel
theorem dX2_init_1 : decode cX2_init 1 = .ok (.invokespecial 3, 3) := by decide +kernel
theorem dX2_init_4 : decode cX2_init 4 = .ok (.aload_n 0, 1) := by decide +kernel
theorem dX2_init_5 : decode cX2_init 5 = .ok (.bipush 120, 2) := by decide +kernel
theorem dX2_init_7 : decode cX2_init 7 = .ok (.newarray .int, 2) := by decide +kernel
theorem dX2_init_9 : decode cX2_init 9 = .ok (.putfield 9, 3) := by decide +kernel
theorem dX2_init_12 : decode cX2_init 12 = .ok (.aload_n 0, 1) := by decide +kernel
theorem dX2_init_13 : decode cX2_init 13 = .ok (.new 15, 3) := by decide +kernel
theorem dX2_init_16 : decode cX2_init 16 = .ok (.dup, 1) := by decide +kernel
theorem dX2_init_17 : decode cX2_init 17 = .ok (.invokespecial 17, 3) := by decide +kernel
theorem dX2_init_20 : decode cX2_init 20 = .ok (.putfield 18, 3) := by decide +kernel
theorem dX2_init_23 : decode cX2_init 23 = .ok (.return_, 1) := by decide +kernel
def rm_X2_init : Room := { frames := 2, cells := 7, slots := 206, locals := 32 }
section
variable {p : Program} {l : Launch} {e : Env} {s : State} {m : MethodId} {args : Array Value} {below : List Frame} {meth : Method} {c : Code} {Q : State → Prop} {G : va_G} {aC : Nat → ClassId} {t b0 : Nat}
def f_X2_init (v0 : Nat) (N : AH) : Option (Unit × AH) := ob (pR (nI0 N 120) v0 2 2 N.1) (fun N1 => ob2 (f_X1_init N1.1 (nO N1 1 zX1)) (fun _ N2 => ob (pR N2 v0 2 3 N1.1) (fun N3 => some ((), N3))))
set_option maxHeartbeats 4000000 in
set_option maxRecDepth 100000 in
theorem wk_X2_init {P : Unit × AH → Prop} (X : CX cX2_init RX2 1 G aC t b0 p s m args c) (hr : RtV p l e rm_X2_init s m args below meth c 7 206 Q cX2_init G aC b0 P) (hmn : meth.name = "<init>") (v0 : Nat) (N : AH) (H : Heap) (locs : List Loc) (ls : Array Slot) (hR : Rp G aC b0 N H) (hS : va_S (fun q => b0 ≤ q) s.heap H locs) (hl : lv_has ls 1 [(0, .ref v0)]) (hp : owp (f_X2_init v0 N) P) : W p l e rm_X2_init s m args below meth c H locs 0 0 Q (F0 m 0 ls []) := by
  have hx := X.1.1
  have hb := X.1.2.1
  unfold f_X2_init at hp
  refine lv_aload_n hx hb dX2_init_0 rfl (lv_at hl 0 rfl) ?_
  refine ab_objI X (WT_of 108 (by decide +kernel) (by decide +kernel)) w_objI w_objC hl.1 (Nat.le_of_ble_eq_true rfl) (Nat.le_of_ble_eq_true rfl) dX2_init_1 ?_
  refine lv_aload_n hx hb dX2_init_4 rfl (lv_at hl 0 rfl) ?_
  refine lv_bipush (v := (120)) hx hb dX2_init_5 (by decide) ?_
  refine ab_newI (k := 120) X hR hS (WT_of 152 (by decide +kernel) (by decide +kernel)) (by decide) rfl (Nat.le_of_ble_eq_true rfl) (Nat.le_of_ble_eq_true rfl) (Nat.le_of_ble_eq_true rfl) dX2_init_7 (fun H hR hS => ?_)
  refine W.widen (k := 1) (n := 120) (Nat.le_of_ble_eq_true rfl) (Nat.le_of_ble_eq_true rfl) ?_
  obtain ⟨N1, e_N1, hp⟩ := owp_ob hp
  refine pf_X2_9 X hR hS hmn e_N1 dX2_init_9 (fun H locs hR hS => ?_)
  refine lv_aload_n hx hb dX2_init_12 rfl (lv_at hl 0 rfl) ?_
  refine no_X1 (own := RX2) X hR hS (WT_of 109 (by decide +kernel) (by decide +kernel)) (Nat.le_of_ble_eq_true rfl) (Nat.le_of_ble_eq_true rfl) dX2_init_13 (fun H hR hS => ?_)
  refine W.widen (k := 2) (n := 126) (Nat.le_of_ble_eq_true rfl) (Nat.le_of_ble_eq_true rfl) ?_
  refine lv_dup hx hb dX2_init_16 rfl ?_
  obtain ⟨_, N2, e_N2, hp⟩ := owp_ob2 hp
  refine iv_X1_init (rest := [.ref N1.1, .ref v0]) mw_X2_17 X hR hS e_N2 hl.1 (Nat.le_of_ble_eq_true rfl) ⟨Nat.le_of_ble_eq_true rfl, Nat.le_of_ble_eq_true rfl⟩ ⟨Nat.le_of_ble_eq_true rfl, Nat.le_of_ble_eq_true rfl⟩ dX2_init_17 (fun H locs hR hS => ?_)
  refine W.widen (k := 7) (n := 206) (Nat.le_of_ble_eq_true rfl) (Nat.le_of_ble_eq_true rfl) ?_
  obtain ⟨N3, e_N3, hp⟩ := owp_ob hp
  refine pf_X2_18 X hR hS hmn e_N3 dX2_init_20 (fun H locs hR hS => ?_)
  exact hr _ _ _ _ _ hR hS dX2_init_23 hp
end
theorem ct_X2_init {v0 : Nat} {N N1 : AH} {r : Unit} (h : f_X2_init v0 N = some (r, N1)) : Ct yX2_init cX2_init 1 none rm_X2_init [.ref v0] N none N1 :=
  ab_met (own := RX2) (by decide +kernel) rfl (Nat.le_of_ble_eq_true rfl) (fun l G aC t b0 p e s m below meth c ls X hr hlk hnm hR hS hl => wk_X2_init X (RtV_met X.1.1 X.1.2.1 hr hlk) hnm _ _ _ _ _ hR hS hl (owp_of h))
theorem cw_X2_init : Cond.code yX2_init cX2_init 1 none ∈ WT := WT_of 107 (by decide +kernel) (by decide +kernel)
theorem iv_X2_init {p : Program} {l : Launch} {e : Env} {R : Room} {s : State} {m : MethodId} {args : Array Value} {below : List Frame} {meth : Method} {c : Code} {H : Heap} {locs : List Loc} {cells slots : Nat} {Q : State → Prop} {cc : ByteArray} {own : String} {nL : Nat} {G : va_G} {aC : Nat → ClassId} {t b0 : Nat} {N N1 : AH} {pc index : Nat} {ls : Array Slot} {rest : List Value} {v0 : Nat} {r : Unit} (w1 : Cond.methodLink own index yX2_init ∈ WT) (X : CX cc own nL G aC t b0 p s m args c) (hR : Rp G aC b0 N H) (hS : va_S (fun q => b0 ≤ q) s.heap H locs) (h : f_X2_init v0 N = some (r, N1)) (hls : ls.size = nL) (hW : (rest.map fun v => v.category).sum ≤ 8) (hR1 : 3 ≤ R.frames ∧ 52 ≤ R.locals) (hcs : cells + 7 ≤ R.cells ∧ slots + 206 ≤ R.slots) (hdg : decode cc pc = .ok (.invokespecial index, 3)) (kk : ∀ (H1 : Heap) (locs1 : List Loc), Rp G aC b0 N1 H1 → va_S (fun q => b0 ≤ q) s.heap H1 locs1 → W p l e R s m args below meth c H1 locs1 (cells + 7) (slots + 206) Q (F0 m (pc + 3) ls rest)) : W p l e R s m args below meth c H locs cells slots Q (F0 m pc ls (.ref v0 :: rest)) :=
  ab_callI (n := 0) (As := []) X hR hS (ct_X2_init h) w1 (WT_of 106 (by decide +kernel) (by decide +kernel)) (WT_of 82 (by decide +kernel) (by decide +kernel)) cw_X2_init rfl ⟨by decide +kernel, by decide +kernel, by decide +kernel⟩ rfl hls hW hR1 hcs rfl hdg kk
-- X2_append
theorem gf_X2_9 {p : Program} {l : Launch} {e : Env} {R : Room} {s : State} {m : MethodId} {args : Array Value} {below : List Frame} {meth : Method} {c : Code} {H : Heap} {locs : List Loc} {cells slots : Nat} {Q : State → Prop} {cc : ByteArray} {nL : Nat} {G : va_G} {aC : Nat → ClassId} {t b0 : Nat} {N : AH} {pc : Nat} {ls : Array Slot} {rest : List Value} {a : Nat} {v : Nat} (X : CX cc RX2 nL G aC t b0 p s m args c) (hR0 : Rp G aC b0 N H) (hv : hR N a 2 2 = some v) (hdg : decode cc pc = .ok (.getfield 9, 3)) (kk : W p l e R s m args below meth c H locs cells slots Q (F0 m (pc + 3) ls (.ref v :: rest))) : W p l e R s m args below meth c H locs cells slots Q (F0 m pc ls (.ref a :: rest)) := by
  obtain ⟨fs, h1, h2⟩ := hR_ok hv
  exact ab_get (C := RX2) (T := TX2) (n := 4) X hR0 h1 h2 rfl inX2 (by decide) (WT_of 156 (by decide +kernel) (by decide +kernel)) hdg kk
theorem gf_X2_22 {p : Program} {l : Launch} {e : Env} {R : Room} {s : State} {m : MethodId} {args : Array Value} {below : List Frame} {meth : Method} {c : Code} {H : Heap} {locs : List Loc} {cells slots : Nat} {Q : State → Prop} {cc : ByteArray} {nL : Nat} {G : va_G} {aC : Nat → ClassId} {t b0 : Nat} {N : AH} {pc : Nat} {ls : Array Slot} {rest : List Value} {a : Nat} {v : Int32} (X : CX cc RX2 nL G aC t b0 p s m args c) (hR0 : Rp G aC b0 N H) (hv : hI N a 2 0 = some v) (hdg : decode cc pc = .ok (.getfield 22, 3)) (kk : W p l e R s m args below meth c H locs cells slots Q (F0 m (pc + 3) ls (.int v :: rest))) : W p l e R s m args below meth c H locs cells slots Q (F0 m pc ls (.ref a :: rest)) := by
  obtain ⟨fs, h1, h2⟩ := hI_ok hv
  exact ab_get (C := RX2) (T := TX2) (n := 4) X hR0 h1 h2 rfl inX2 (by decide) (WT_of 153 (by decide +kernel) (by decide +kernel)) hdg kk
theorem pf_X2_22 {p : Program} {l : Launch} {e : Env} {R : Room} {s : State} {m : MethodId} {args : Array Value} {below : List Frame} {meth : Method} {c : Code} {H : Heap} {locs : List Loc} {cells slots : Nat} {Q : State → Prop} {cc : ByteArray} {nL : Nat} {G : va_G} {aC : Nat → ClassId} {t b0 : Nat} {N : AH} {pc : Nat} {ls : Array Slot} {rest : List Value} {N1 : AH} {a : Nat} {v : Int32} (X : CX cc RX2 nL G aC t b0 p s m args c) (hR0 : Rp G aC b0 N H) (hS : va_S (fun q => b0 ≤ q) s.heap H locs) (hv : pI N a 2 0 v = some N1) (hdg : decode cc pc = .ok (.putfield 22, 3)) (kk : ∀ (H1 : Heap) (locs1 : List Loc), Rp G aC b0 N1 H1 → va_S (fun q => b0 ≤ q) s.heap H1 locs1 → W p l e R s m args below meth c H1 locs1 cells slots Q (F0 m (pc + 3) ls rest)) : W p l e R s m args below meth c H locs cells slots Q (F0 m pc ls (.int v :: .ref a :: rest)) := by
  obtain ⟨fs, h1, h2, h3⟩ := pV_ok hv
  subst h3
  exact ab_put (C := RX2) (T := TX2) (n := 4) X hR0 hS h1 h2 rfl inX2 tyX2 tyX2_ok nmX2 (by decide) (WT_of 153 (by decide +kernel) (by decide +kernel)) rfl rfl rfl hdg kk
theorem dX2_append_0 : decode cX2_append 0 = .ok (.aload_n 0, 1) := by decide +kernel
theorem dX2_append_1 : decode cX2_append 1 = .ok (.getfield 22, 3) := by decide +kernel
theorem dX2_append_4 : decode cX2_append 4 = .ok (.bipush 120, 2) := by decide +kernel
theorem dX2_append_6 : decode cX2_append 6 = .ok (.invokestatic 26, 3) := by decide +kernel
theorem dX2_append_9 : decode cX2_append 9 = .ok (.ifCond .ne 5, 3) := by decide +kernel
theorem dX2_append_12 : decode cX2_append 12 = .ok (.iconst 0, 1) := by decide +kernel
theorem dX2_append_13 : decode cX2_append 13 = .ok (.ireturn, 1) := by decide +kernel
theorem dX2_append_14 : decode cX2_append 14 = .ok (.aload_n 0, 1) := by decide +kernel
theorem dX2_append_15 : decode cX2_append 15 = .ok (.getfield 9, 3) := by decide +kernel
theorem dX2_append_18 : decode cX2_append 18 = .ok (.aload_n 0, 1) := by decide +kernel
theorem dX2_append_19 : decode cX2_append 19 = .ok (.getfield 22, 3) := by decide +kernel
theorem dX2_append_22 : decode cX2_append 22 = .ok (.iload_n 1, 1) := by decide +kernel
theorem dX2_append_23 : decode cX2_append 23 = .ok (.iastore, 1) := by decide +kernel
theorem dX2_append_24 : decode cX2_append 24 = .ok (.aload_n 0, 1) := by decide +kernel
theorem dX2_append_25 : decode cX2_append 25 = .ok (.dup, 1) := by decide +kernel
theorem dX2_append_26 : decode cX2_append 26 = .ok (.getfield 22, 3) := by decide +kernel
theorem dX2_append_29 : decode cX2_append 29 = .ok (.iconst 1, 1) := by decide +kernel
theorem dX2_append_30 : decode cX2_append 30 = .ok (.iadd, 1) := by decide +kernel
theorem dX2_append_31 : decode cX2_append 31 = .ok (.putfield 22, 3) := by decide +kernel
theorem dX2_append_34 : decode cX2_append 34 = .ok (.iconst 1, 1) := by decide +kernel
theorem dX2_append_35 : decode cX2_append 35 = .ok (.ireturn, 1) := by decide +kernel
def rm_X2_append : Room := { frames := 1, cells := 0, slots := 0, locals := 21 }
section
variable {p : Program} {l : Launch} {e : Env} {s : State} {m : MethodId} {args : Array Value} {below : List Frame} {meth : Method} {c : Code} {Q : State → Prop} {G : va_G} {aC : Nat → ClassId} {t b0 : Nat}
def f_X2_append (v0 : Nat) (v1 : Int32) (N : AH) : Option (Int32 × AH) := ob (iO N v0 2) (fun _ => ob (hI N v0 2 0) (fun x1 => ob2 (f_X9_isOneOf x1 (120 : Int32) N) (fun x3 N2 => if ¬ x3 = 0 then ob (hR N2 v0 2 2) (fun x5 => ob (hI N2 v0 2 0) (fun x6 => ob (sI N2 x5 x6 v1) (fun N7 => ob (hI N7 v0 2 0) (fun x8 => ob (pI N7 v0 2 0 (x8 + (1 : Int32))) (fun N9 => some ((1 : Int32), N9)))))) else some ((0 : Int32), N2))))
set_option maxHeartbeats 4000000 in
set_option maxRecDepth 100000 in
theorem wk_X2_append {P : Int32 × AH → Prop} (X : CX cX2_append RX2 2 G aC t b0 p s m args c) (hr : RtZ p l e rm_X2_append s m args below meth c 0 0 Q cX2_append G aC b0 P) (v0 : Nat) (v1 : Int32) (N : AH) (H : Heap) (locs : List Loc) (ls : Array Slot) (hR : Rp G aC b0 N H) (hS : va_S (fun q => b0 ≤ q) s.heap H locs) (hl : lv_has ls 2 [(0, .ref v0), (1, .int v1)]) (hp : owp (f_X2_append v0 v1 N) P) : W p l e rm_X2_append s m args below meth c H locs 0 0 Q (F0 m 0 ls []) := by
  have hx := X.1.1
  have hb := X.1.2.1
  unfold f_X2_append at hp
  obtain ⟨_, _, hp⟩ := owp_ob hp
  refine lv_aload_n hx hb dX2_append_0 rfl (lv_at hl 0 rfl) ?_
  obtain ⟨x1, e_x1, hp⟩ := owp_ob hp
  refine gf_X2_22 X hR e_x1 dX2_append_1 ?_
  refine lv_bipush (v := (120)) hx hb dX2_append_4 (by decide) ?_
  obtain ⟨x3, N2, e_N2, hp⟩ := owp_ob2 hp
  refine ivN_X9_isOneOf (rest := []) (by simp [NWs, yX9_isOneOf]) X hR hS e_N2 hl.1 (Nat.le_of_ble_eq_true rfl) ⟨Nat.le_of_ble_eq_true rfl, Nat.le_of_ble_eq_true rfl⟩ ⟨Nat.le_of_ble_eq_true rfl, Nat.le_of_ble_eq_true rfl⟩ dX2_append_6 (fun H locs hR hS => ?_)
  refine lv_if_ne (tgt := 14) hx hb dX2_append_9 (by decide) (fun k4 => ?_) (fun k4 => ?_)
  · have hp := owp_t k4 hp
    refine lv_aload_n hx hb dX2_append_14 rfl (lv_at hl 0 rfl) ?_
    obtain ⟨x5, e_x5, hp⟩ := owp_ob hp
    refine gf_X2_9 X hR e_x5 dX2_append_15 ?_
    refine lv_aload_n hx hb dX2_append_18 rfl (lv_at hl 0 rfl) ?_
    obtain ⟨x6, e_x6, hp⟩ := owp_ob hp
    refine gf_X2_22 X hR e_x6 dX2_append_19 ?_
    refine lv_iload_n hx hb dX2_append_22 rfl (lv_at hl 1 rfl) ?_
    obtain ⟨N7, e_N7, hp⟩ := owp_ob hp
    refine ab_iast X hR hS e_N7 dX2_append_23 (fun H locs hR hS => ?_)
    refine lv_aload_n hx hb dX2_append_24 rfl (lv_at hl 0 rfl) ?_
    refine lv_dup hx hb dX2_append_25 rfl ?_
    obtain ⟨x8, e_x8, hp⟩ := owp_ob hp
    refine gf_X2_22 X hR e_x8 dX2_append_26 ?_
    refine lv_iconst (v := (1)) hx hb dX2_append_29 (by decide) ?_
    refine lv_iadd hx hb dX2_append_30 ?_
    obtain ⟨N9, e_N9, hp⟩ := owp_ob hp
    refine pf_X2_22 X hR hS e_N9 dX2_append_31 (fun H locs hR hS => ?_)
    refine lv_iconst (v := (1)) hx hb dX2_append_34 (by decide) ?_
    exact hr _ _ _ _ _ _ hR hS dX2_append_35 (rZ_1 hp)
  · have hp := owp_f (fun q => q k4) hp
    refine lv_iconst (v := (0)) hx hb dX2_append_12 (by decide) ?_
    exact hr _ _ _ _ _ _ hR hS dX2_append_13 (rZ_0 hp)
end
theorem ct_X2_append {v0 : Nat} {v1 : Int32} {N N1 : AH} {r : Int32} (h : f_X2_append v0 v1 N = some (r, N1)) : Ct yX2_append cX2_append 2 (some .boolean) rm_X2_append [.ref v0, .int v1] N (some (.int r)) N1 :=
  ab_met (own := RX2) (by decide +kernel) rfl (Nat.le_of_ble_eq_true rfl) (fun l G aC t b0 p e s m below meth c ls X hr hlk hnm hR hS hl => wk_X2_append X (RtZ_met X.1.1 X.1.2.1 hr hlk) _ _ _ _ _ _ hR hS hl (owp_of h))
theorem cw_X2_append : Cond.code yX2_append cX2_append 2 (some .boolean) ∈ WT := WT_of 459 (by decide +kernel) (by decide +kernel)
theorem iv_X2_append {p : Program} {l : Launch} {e : Env} {R : Room} {s : State} {m : MethodId} {args : Array Value} {below : List Frame} {meth : Method} {c : Code} {H : Heap} {locs : List Loc} {cells slots : Nat} {Q : State → Prop} {cc : ByteArray} {own : String} {nL : Nat} {G : va_G} {aC : Nat → ClassId} {t b0 : Nat} {N N1 : AH} {pc index : Nat} {ls : Array Slot} {rest : List Value} {v0 : Nat} {v1 : Int32} {r : Int32} (w1 : Cond.methodLink own index yX2_append ∈ WT) (X : CX cc own nL G aC t b0 p s m args c) (hR : Rp G aC b0 N H) (hS : va_S (fun q => b0 ≤ q) s.heap H locs) (h : f_X2_append v0 v1 N = some (r, N1)) (hls : ls.size = nL) (hW : (rest.map fun v => v.category).sum ≤ 8) (hR1 : 2 ≤ R.frames ∧ 42 ≤ R.locals) (hcs : cells + 0 ≤ R.cells ∧ slots + 0 ≤ R.slots) (hdg : decode cc pc = .ok (.invokevirtual index, 3)) (kk : ∀ (H1 : Heap) (locs1 : List Loc), Rp G aC b0 N1 H1 → va_S (fun q => b0 ≤ q) s.heap H1 locs1 → W p l e R s m args below meth c H1 locs1 cells slots Q (F0 m (pc + 3) ls (.int r :: rest))) : W p l e R s m args below meth c H locs cells slots Q (F0 m pc ls (.int v1 :: .ref v0 :: rest)) :=
  ab_callV (n := 1) (As := [.int v1]) X hR hS (ct_X2_append h) (ob_rc (c := 2) (N := N) (a := v0) h) (T := TX2) (k := 4) (C := RX2) rfl w1 (WT_of 457 (by decide +kernel) (by decide +kernel)) (WT_of 458 (by decide +kernel) (by decide +kernel)) (WT_of 82 (by decide +kernel) (by decide +kernel)) cw_X2_append ⟨rfl, by decide +kernel, by decide +kernel, by decide +kernel⟩ rfl hls hW hR1 hcs rfl hdg kk
-- X2_skipBlanks
theorem gf_X2_30 {p : Program} {l : Launch} {e : Env} {R : Room} {s : State} {m : MethodId} {args : Array Value} {below : List Frame} {meth : Method} {c : Code} {H : Heap} {locs : List Loc} {cells slots : Nat} {Q : State → Prop} {cc : ByteArray} {nL : Nat} {G : va_G} {aC : Nat → ClassId} {t b0 : Nat} {N : AH} {pc : Nat} {ls : Array Slot} {rest : List Value} {a : Nat} {v : Int32} (X : CX cc RX2 nL G aC t b0 p s m args c) (hR0 : Rp G aC b0 N H) (hv : hI N a 2 1 = some v) (hdg : decode cc pc = .ok (.getfield 30, 3)) (kk : W p l e R s m args below meth c H locs cells slots Q (F0 m (pc + 3) ls (.int v :: rest))) : W p l e R s m args below meth c H locs cells slots Q (F0 m pc ls (.ref a :: rest)) := by
  obtain ⟨fs, h1, h2⟩ := hI_ok hv
  exact ab_get (C := RX2) (T := TX2) (n := 4) X hR0 h1 h2 rfl inX2 (by decide) (WT_of 155 (by decide +kernel) (by decide +kernel)) hdg kk
theorem pf_X2_30 {p : Program} {l : Launch} {e : Env} {R : Room} {s : State} {m : MethodId} {args : Array Value} {below : List Frame} {meth : Method} {c : Code} {H : Heap} {locs : List Loc} {cells slots : Nat} {Q : State → Prop} {cc : ByteArray} {nL : Nat} {G : va_G} {aC : Nat → ClassId} {t b0 : Nat} {N : AH} {pc : Nat} {ls : Array Slot} {rest : List Value} {N1 : AH} {a : Nat} {v : Int32} (X : CX cc RX2 nL G aC t b0 p s m args c) (hR0 : Rp G aC b0 N H) (hS : va_S (fun q => b0 ≤ q) s.heap H locs) (hv : pI N a 2 1 v = some N1) (hdg : decode cc pc = .ok (.putfield 30, 3)) (kk : ∀ (H1 : Heap) (locs1 : List Loc), Rp G aC b0 N1 H1 → va_S (fun q => b0 ≤ q) s.heap H1 locs1 → W p l e R s m args below meth c H1 locs1 cells slots Q (F0 m (pc + 3) ls rest)) : W p l e R s m args below meth c H locs cells slots Q (F0 m pc ls (.int v :: .ref a :: rest)) := by
  obtain ⟨fs, h1, h2, h3⟩ := pV_ok hv
  subst h3
  exact ab_put (C := RX2) (T := TX2) (n := 4) X hR0 hS h1 h2 rfl inX2 tyX2 tyX2_ok nmX2 (by decide) (WT_of 155 (by decide +kernel) (by decide +kernel)) rfl rfl rfl hdg kk
theorem dX2_skipBlanks_0 : decode cX2_skipBlanks 0 = .ok (.aload_n 0, 1) := by decide +kernel
theorem dX2_skipBlanks_1 : decode cX2_skipBlanks 1 = .ok (.getfield 30, 3) := by decide +kernel
theorem dX2_skipBlanks_4 : decode cX2_skipBlanks 4 = .ok (.aload_n 0, 1) := by decide +kernel
theorem dX2_skipBlanks_5 : decode cX2_skipBlanks 5 = .ok (.getfield 22, 3) := by decide +kernel
theorem dX2_skipBlanks_8 : decode cX2_skipBlanks 8 = .ok (.if_icmp .ge 30, 3) := by decide +kernel
theorem dX2_skipBlanks_11 : decode cX2_skipBlanks 11 = .ok (.aload_n 0, 1) := by decide +kernel
theorem dX2_skipBlanks_12 : decode cX2_skipBlanks 12 = .ok (.getfield 9, 3) := by decide +kernel
theorem dX2_skipBlanks_15 : decode cX2_skipBlanks 15 = .ok (.aload_n 0, 1) := by decide +kernel
theorem dX2_skipBlanks_16 : decode cX2_skipBlanks 16 = .ok (.getfield 30, 3) := by decide +kernel
theorem dX2_skipBlanks_19 : decode cX2_skipBlanks 19 = .ok (.iaload, 1) := by decide +kernel
theorem dX2_skipBlanks_20 : decode cX2_skipBlanks 20 = .ok (.bipush 32, 2) := by decide +kernel
theorem dX2_skipBlanks_22 : decode cX2_skipBlanks 22 = .ok (.if_icmp .ne 16, 3) := by decide +kernel
theorem dX2_skipBlanks_25 : decode cX2_skipBlanks 25 = .ok (.aload_n 0, 1) := by decide +kernel
theorem dX2_skipBlanks_26 : decode cX2_skipBlanks 26 = .ok (.dup, 1) := by decide +kernel
theorem dX2_skipBlanks_27 : decode cX2_skipBlanks 27 = .ok (.getfield 30, 3) := by decide +kernel
theorem dX2_skipBlanks_30 : decode cX2_skipBlanks 30 = .ok (.iconst 1, 1) := by decide +kernel
theorem dX2_skipBlanks_31 : decode cX2_skipBlanks 31 = .ok (.iadd, 1) := by decide +kernel
theorem dX2_skipBlanks_32 : decode cX2_skipBlanks 32 = .ok (.putfield 30, 3) := by decide +kernel
theorem dX2_skipBlanks_35 : decode cX2_skipBlanks 35 = .ok (.goto (-35), 3) := by decide +kernel
theorem dX2_skipBlanks_38 : decode cX2_skipBlanks 38 = .ok (.return_, 1) := by decide +kernel
def rm_X2_skipBlanks : Room := { frames := 0, cells := 0, slots := 0, locals := 0 }
section
variable {p : Program} {l : Launch} {e : Env} {s : State} {m : MethodId} {args : Array Value} {below : List Frame} {meth : Method} {c : Code} {Q : State → Prop} {G : va_G} {aC : Nat → ClassId} {t b0 : Nat}
def f_X2_skipBlanks_L0 (v0 : Nat) (k38 : AH → Option (Unit × AH)) : Nat → AH → Option (Unit × AH)
  | 0, _ => none
  | n + 1, N => ob (hI N v0 2 1) (fun x10 => ob (hI N v0 2 0) (fun x11 => if x11 ≤ x10 then k38 N else ob (hR N v0 2 2) (fun x13 => ob (hI N v0 2 1) (fun x14 => ob (aI N x13 x14) (fun x15 => if ¬ x15 = (32 : Int32) then k38 N else ob (hI N v0 2 1) (fun x17 => ob (pI N v0 2 1 (x17 + (1 : Int32))) (fun N18 => f_X2_skipBlanks_L0 v0 k38 n N18)))))))
set_option maxHeartbeats 4000000 in
set_option maxRecDepth 100000 in
theorem w_X2_skipBlanks_L0 {P : Unit × AH → Prop} (X : CX cX2_skipBlanks RX2 1 G aC t b0 p s m args c) (hr : RtV p l e rm_X2_skipBlanks s m args below meth c 0 0 Q cX2_skipBlanks G aC b0 P) (v0 : Nat) {k38 : AH → Option (Unit × AH)}
    (hk38 : ∀ (N : AH) (H : Heap) (locs : List Loc) (ls : Array Slot), Rp G aC b0 N H → va_S (fun q => b0 ≤ q) s.heap H locs → lv_has ls 1 [] → owp (k38 N) P → W p l e rm_X2_skipBlanks s m args below meth c H locs 0 0 Q (F0 m 38 ls [])) :
    ∀ (n : Nat) (N : AH) (H : Heap) (locs : List Loc) (ls : Array Slot), Rp G aC b0 N H → va_S (fun q => b0 ≤ q) s.heap H locs → lv_has ls 1 [(0, .ref v0)] → owp (f_X2_skipBlanks_L0 v0 k38 n N) P → W p l e rm_X2_skipBlanks s m args below meth c H locs 0 0 Q (F0 m 0 ls []) := by
  have hx := X.1.1
  have hb := X.1.2.1
  intro n
  induction n with
  | zero =>
    intro N H locs ls hR hS hl hp
    exact (show False from hp).elim
  | succ n ih =>
    intro N H locs ls hR hS hl hp
    rw [f_X2_skipBlanks_L0] at hp
    refine lv_aload_n hx hb dX2_skipBlanks_0 rfl (lv_at hl 0 rfl) ?_
    obtain ⟨x10, e_x10, hp⟩ := owp_ob hp
    refine gf_X2_30 X hR e_x10 dX2_skipBlanks_1 ?_
    refine lv_aload_n hx hb dX2_skipBlanks_4 rfl (lv_at hl 0 rfl) ?_
    obtain ⟨x11, e_x11, hp⟩ := owp_ob hp
    refine gf_X2_22 X hR e_x11 dX2_skipBlanks_5 ?_
    refine lv_icmp_ge (tgt := 38) hx hb dX2_skipBlanks_8 (by decide) (fun k12 => ?_) (fun k12 => ?_)
    · have hp := owp_t k12 hp
      exact hk38 _ _ _ _ hR hS (lv_sub hl [] rfl) hp
    · have hp := owp_f k12 hp
      refine lv_aload_n hx hb dX2_skipBlanks_11 rfl (lv_at hl 0 rfl) ?_
      obtain ⟨x13, e_x13, hp⟩ := owp_ob hp
      refine gf_X2_9 X hR e_x13 dX2_skipBlanks_12 ?_
      refine lv_aload_n hx hb dX2_skipBlanks_15 rfl (lv_at hl 0 rfl) ?_
      obtain ⟨x14, e_x14, hp⟩ := owp_ob hp
      refine gf_X2_30 X hR e_x14 dX2_skipBlanks_16 ?_
      obtain ⟨x15, e_x15, hp⟩ := owp_ob hp
      refine ab_iald X hR e_x15 dX2_skipBlanks_19 ?_
      refine lv_bipush (v := (32)) hx hb dX2_skipBlanks_20 (by decide) ?_
      refine lv_icmp_ne (tgt := 38) hx hb dX2_skipBlanks_22 (by decide) (fun k16 => ?_) (fun k16 => ?_)
      · have hp := owp_t k16 hp
        exact hk38 _ _ _ _ hR hS (lv_sub hl [] rfl) hp
      · have hp := owp_f (fun q => q k16) hp
        refine lv_aload_n hx hb dX2_skipBlanks_25 rfl (lv_at hl 0 rfl) ?_
        refine lv_dup hx hb dX2_skipBlanks_26 rfl ?_
        obtain ⟨x17, e_x17, hp⟩ := owp_ob hp
        refine gf_X2_30 X hR e_x17 dX2_skipBlanks_27 ?_
        refine lv_iconst (v := (1)) hx hb dX2_skipBlanks_30 (by decide) ?_
        refine lv_iadd hx hb dX2_skipBlanks_31 ?_
        obtain ⟨N18, e_N18, hp⟩ := owp_ob hp
        refine pf_X2_30 X hR hS e_N18 dX2_skipBlanks_32 (fun H locs hR hS => ?_)
        refine lv_goto (tgt := 0) hx hb dX2_skipBlanks_35 (by decide) ?_
        exact ih _ _ _ _ hR hS hl hp
def f_X2_skipBlanks (v0 : Nat) (N : AH) : Option (Unit × AH) := ob (iO N v0 2) (fun _ => ob (hI N v0 2 1) (fun x1 => ob (hI N v0 2 0) (fun x2 => if x2 ≤ x1 then some ((), N) else ob (hR N v0 2 2) (fun x4 => ob (hI N v0 2 1) (fun x5 => ob (aI N x4 x5) (fun x6 => if ¬ x6 = (32 : Int32) then some ((), N) else ob (hI N v0 2 1) (fun x8 => ob (pI N v0 2 1 (x8 + (1 : Int32))) (fun N9 => f_X2_skipBlanks_L0 v0 (fun N19 => some ((), N19)) FU N9))))))))
set_option maxHeartbeats 4000000 in
set_option maxRecDepth 100000 in
theorem wk_X2_skipBlanks {P : Unit × AH → Prop} (X : CX cX2_skipBlanks RX2 1 G aC t b0 p s m args c) (hr : RtV p l e rm_X2_skipBlanks s m args below meth c 0 0 Q cX2_skipBlanks G aC b0 P) (v0 : Nat) (N : AH) (H : Heap) (locs : List Loc) (ls : Array Slot) (hR : Rp G aC b0 N H) (hS : va_S (fun q => b0 ≤ q) s.heap H locs) (hl : lv_has ls 1 [(0, .ref v0)]) (hp : owp (f_X2_skipBlanks v0 N) P) : W p l e rm_X2_skipBlanks s m args below meth c H locs 0 0 Q (F0 m 0 ls []) := by
  have hx := X.1.1
  have hb := X.1.2.1
  unfold f_X2_skipBlanks at hp
  obtain ⟨_, _, hp⟩ := owp_ob hp
  refine lv_aload_n hx hb dX2_skipBlanks_0 rfl (lv_at hl 0 rfl) ?_
  obtain ⟨x1, e_x1, hp⟩ := owp_ob hp
  refine gf_X2_30 X hR e_x1 dX2_skipBlanks_1 ?_
  refine lv_aload_n hx hb dX2_skipBlanks_4 rfl (lv_at hl 0 rfl) ?_
  obtain ⟨x2, e_x2, hp⟩ := owp_ob hp
  refine gf_X2_22 X hR e_x2 dX2_skipBlanks_5 ?_
  refine lv_icmp_ge (tgt := 38) hx hb dX2_skipBlanks_8 (by decide) (fun k3 => ?_) (fun k3 => ?_)
  · have hp := owp_t k3 hp
    exact hr _ _ _ _ _ hR hS dX2_skipBlanks_38 hp
  · have hp := owp_f k3 hp
    refine lv_aload_n hx hb dX2_skipBlanks_11 rfl (lv_at hl 0 rfl) ?_
    obtain ⟨x4, e_x4, hp⟩ := owp_ob hp
    refine gf_X2_9 X hR e_x4 dX2_skipBlanks_12 ?_
    refine lv_aload_n hx hb dX2_skipBlanks_15 rfl (lv_at hl 0 rfl) ?_
    obtain ⟨x5, e_x5, hp⟩ := owp_ob hp
    refine gf_X2_30 X hR e_x5 dX2_skipBlanks_16 ?_
    obtain ⟨x6, e_x6, hp⟩ := owp_ob hp
    refine ab_iald X hR e_x6 dX2_skipBlanks_19 ?_
    refine lv_bipush (v := (32)) hx hb dX2_skipBlanks_20 (by decide) ?_
    refine lv_icmp_ne (tgt := 38) hx hb dX2_skipBlanks_22 (by decide) (fun k7 => ?_) (fun k7 => ?_)
    · have hp := owp_t k7 hp
      exact hr _ _ _ _ _ hR hS dX2_skipBlanks_38 hp
    · have hp := owp_f (fun q => q k7) hp
      refine lv_aload_n hx hb dX2_skipBlanks_25 rfl (lv_at hl 0 rfl) ?_
      refine lv_dup hx hb dX2_skipBlanks_26 rfl ?_
      obtain ⟨x8, e_x8, hp⟩ := owp_ob hp
      refine gf_X2_30 X hR e_x8 dX2_skipBlanks_27 ?_
      refine lv_iconst (v := (1)) hx hb dX2_skipBlanks_30 (by decide) ?_
      refine lv_iadd hx hb dX2_skipBlanks_31 ?_
      obtain ⟨N9, e_N9, hp⟩ := owp_ob hp
      refine pf_X2_30 X hR hS e_N9 dX2_skipBlanks_32 (fun H locs hR hS => ?_)
      refine lv_goto (tgt := 0) hx hb dX2_skipBlanks_35 (by decide) ?_
      refine w_X2_skipBlanks_L0 X hr _ (fun N19 H locs ls hR hS hl hp => ?_) _ _ _ _ _ hR hS hl hp
      exact hr _ _ _ _ _ hR hS dX2_skipBlanks_38 hp
end
theorem ct_X2_skipBlanks {v0 : Nat} {N N1 : AH} {r : Unit} (h : f_X2_skipBlanks v0 N = some (r, N1)) : Ct yX2_skipBlanks cX2_skipBlanks 1 none rm_X2_skipBlanks [.ref v0] N none N1 :=
  ab_met (own := RX2) (by decide +kernel) rfl (Nat.le_of_ble_eq_true rfl) (fun l G aC t b0 p e s m below meth c ls X hr hlk hnm hR hS hl => wk_X2_skipBlanks X (RtV_met X.1.1 X.1.2.1 hr hlk) _ _ _ _ _ hR hS hl (owp_of h))
theorem cw_X2_skipBlanks : Cond.code yX2_skipBlanks cX2_skipBlanks 1 none ∈ WT := WT_of 482 (by decide +kernel) (by decide +kernel)
theorem iv_X2_skipBlanks {p : Program} {l : Launch} {e : Env} {R : Room} {s : State} {m : MethodId} {args : Array Value} {below : List Frame} {meth : Method} {c : Code} {H : Heap} {locs : List Loc} {cells slots : Nat} {Q : State → Prop} {cc : ByteArray} {own : String} {nL : Nat} {G : va_G} {aC : Nat → ClassId} {t b0 : Nat} {N N1 : AH} {pc index : Nat} {ls : Array Slot} {rest : List Value} {v0 : Nat} {r : Unit} (w1 : Cond.methodLink own index yX2_skipBlanks ∈ WT) (X : CX cc own nL G aC t b0 p s m args c) (hR : Rp G aC b0 N H) (hS : va_S (fun q => b0 ≤ q) s.heap H locs) (h : f_X2_skipBlanks v0 N = some (r, N1)) (hls : ls.size = nL) (hW : (rest.map fun v => v.category).sum ≤ 8) (hR1 : 1 ≤ R.frames ∧ 20 ≤ R.locals) (hcs : cells + 0 ≤ R.cells ∧ slots + 0 ≤ R.slots) (hdg : decode cc pc = .ok (.invokevirtual index, 3)) (kk : ∀ (H1 : Heap) (locs1 : List Loc), Rp G aC b0 N1 H1 → va_S (fun q => b0 ≤ q) s.heap H1 locs1 → W p l e R s m args below meth c H1 locs1 cells slots Q (F0 m (pc + 3) ls rest)) : W p l e R s m args below meth c H locs cells slots Q (F0 m pc ls (.ref v0 :: rest)) :=
  ab_callV (n := 0) (As := []) X hR hS (ct_X2_skipBlanks h) (ob_rc (c := 2) (N := N) (a := v0) h) (T := TX2) (k := 4) (C := RX2) rfl w1 (WT_of 481 (by decide +kernel) (by decide +kernel)) (WT_of 1 (by decide +kernel) (by decide +kernel)) (WT_of 82 (by decide +kernel) (by decide +kernel)) cw_X2_skipBlanks ⟨rfl, by decide +kernel, by decide +kernel, by decide +kernel⟩ rfl hls hW hR1 hcs rfl hdg kk
-- X2_takePort
theorem mw_X2_40 : Cond.methodLink RX2 40 yX2_skipBlanks ∈ WT := WT_of 479 (by decide +kernel) (by decide +kernel)
theorem dX2_takePort_0 : decode cX2_takePort 0 = .ok (.aload_n 0, 1) := by decide +kernel
theorem dX2_takePort_1 : decode cX2_takePort 1 = .ok (.invokevirtual 40, 3) := by decide +kernel
theorem dX2_takePort_4 : decode cX2_takePort 4 = .ok (.aload_n 0, 1) := by decide +kernel
theorem dX2_takePort_5 : decode cX2_takePort 5 = .ok (.getfield 30, 3) := by decide +kernel
theorem dX2_takePort_8 : decode cX2_takePort 8 = .ok (.aload_n 0, 1) := by decide +kernel
theorem dX2_takePort_9 : decode cX2_takePort 9 = .ok (.getfield 22, 3) := by decide +kernel
theorem dX2_takePort_12 : decode cX2_takePort 12 = .ok (.if_icmp .ge 31, 3) := by decide +kernel
theorem dX2_takePort_15 : decode cX2_takePort 15 = .ok (.aload_n 0, 1) := by decide +kernel
theorem dX2_takePort_16 : decode cX2_takePort 16 = .ok (.getfield 9, 3) := by decide +kernel
theorem dX2_takePort_19 : decode cX2_takePort 19 = .ok (.aload_n 0, 1) := by decide +kernel
theorem dX2_takePort_20 : decode cX2_takePort 20 = .ok (.getfield 30, 3) := by decide +kernel
theorem dX2_takePort_23 : decode cX2_takePort 23 = .ok (.iaload, 1) := by decide +kernel
theorem dX2_takePort_24 : decode cX2_takePort 24 = .ok (.bipush 48, 2) := by decide +kernel
theorem dX2_takePort_26 : decode cX2_takePort 26 = .ok (.if_icmp .lt 17, 3) := by decide +kernel
theorem dX2_takePort_29 : decode cX2_takePort 29 = .ok (.aload_n 0, 1) := by decide +kernel
theorem dX2_takePort_30 : decode cX2_takePort 30 = .ok (.getfield 9, 3) := by decide +kernel
theorem dX2_takePort_33 : decode cX2_takePort 33 = .ok (.aload_n 0, 1) := by decide +kernel
theorem dX2_takePort_34 : decode cX2_takePort 34 = .ok (.getfield 30, 3) := by decide +kernel
theorem dX2_takePort_37 : decode cX2_takePort 37 = .ok (.iaload, 1) := by decide +kernel
theorem dX2_takePort_38 : decode cX2_takePort 38 = .ok (.bipush 55, 2) := by decide +kernel
theorem dX2_takePort_40 : decode cX2_takePort 40 = .ok (.if_icmp .le 5, 3) := by decide +kernel
theorem dX2_takePort_43 : decode cX2_takePort 43 = .ok (.iconst (-1), 1) := by decide +kernel
theorem dX2_takePort_44 : decode cX2_takePort 44 = .ok (.ireturn, 1) := by decide +kernel
theorem dX2_takePort_45 : decode cX2_takePort 45 = .ok (.aload_n 0, 1) := by decide +kernel
theorem dX2_takePort_46 : decode cX2_takePort 46 = .ok (.getfield 9, 3) := by decide +kernel
theorem dX2_takePort_49 : decode cX2_takePort 49 = .ok (.aload_n 0, 1) := by decide +kernel
theorem dX2_takePort_50 : decode cX2_takePort 50 = .ok (.getfield 30, 3) := by decide +kernel
theorem dX2_takePort_53 : decode cX2_takePort 53 = .ok (.iaload, 1) := by decide +kernel
theorem dX2_takePort_54 : decode cX2_takePort 54 = .ok (.bipush 48, 2) := by decide +kernel
theorem dX2_takePort_56 : decode cX2_takePort 56 = .ok (.isub, 1) := by decide +kernel
theorem dX2_takePort_57 : decode cX2_takePort 57 = .ok (.istore_n 1, 1) := by decide +kernel
theorem dX2_takePort_58 : decode cX2_takePort 58 = .ok (.aload_n 0, 1) := by decide +kernel
theorem dX2_takePort_59 : decode cX2_takePort 59 = .ok (.dup, 1) := by decide +kernel
theorem dX2_takePort_60 : decode cX2_takePort 60 = .ok (.getfield 30, 3) := by decide +kernel
theorem dX2_takePort_63 : decode cX2_takePort 63 = .ok (.iconst 1, 1) := by decide +kernel
theorem dX2_takePort_64 : decode cX2_takePort 64 = .ok (.iadd, 1) := by decide +kernel
theorem dX2_takePort_65 : decode cX2_takePort 65 = .ok (.putfield 30, 3) := by decide +kernel
theorem dX2_takePort_68 : decode cX2_takePort 68 = .ok (.iload_n 1, 1) := by decide +kernel
theorem dX2_takePort_69 : decode cX2_takePort 69 = .ok (.ireturn, 1) := by decide +kernel
def rm_X2_takePort : Room := { frames := 1, cells := 0, slots := 0, locals := 20 }
section
variable {p : Program} {l : Launch} {e : Env} {s : State} {m : MethodId} {args : Array Value} {below : List Frame} {meth : Method} {c : Code} {Q : State → Prop} {G : va_G} {aC : Nat → ClassId} {t b0 : Nat}
def f_X2_takePort (v0 : Nat) (N : AH) : Option (Int32 × AH) := ob (iO N v0 2) (fun _ => ob2 (f_X2_skipBlanks v0 N) (fun _ N1 => ob (hI N1 v0 2 1) (fun x2 => ob (hI N1 v0 2 0) (fun x3 => if x3 ≤ x2 then some ((-1 : Int32), N1) else ob (hR N1 v0 2 2) (fun x5 => ob (hI N1 v0 2 1) (fun x6 => ob (aI N1 x5 x6) (fun x7 => if x7 < (48 : Int32) then some ((-1 : Int32), N1) else ob (hR N1 v0 2 2) (fun x9 => ob (hI N1 v0 2 1) (fun x10 => ob (aI N1 x9 x10) (fun x11 => if x11 ≤ (55 : Int32) then ob (hR N1 v0 2 2) (fun x13 => ob (hI N1 v0 2 1) (fun x14 => ob (aI N1 x13 x14) (fun x15 => ob (hI N1 v0 2 1) (fun x16 => ob (pI N1 v0 2 1 (x16 + (1 : Int32))) (fun N17 => some (x15 - (48 : Int32), N17)))))) else some ((-1 : Int32), N1)))))))))))
set_option maxHeartbeats 4000000 in
set_option maxRecDepth 100000 in
theorem wk_X2_takePort {P : Int32 × AH → Prop} (X : CX cX2_takePort RX2 2 G aC t b0 p s m args c) (hr : RtI p l e rm_X2_takePort s m args below meth c 0 0 Q cX2_takePort G aC b0 P) (v0 : Nat) (N : AH) (H : Heap) (locs : List Loc) (ls : Array Slot) (hR : Rp G aC b0 N H) (hS : va_S (fun q => b0 ≤ q) s.heap H locs) (hl : lv_has ls 2 [(0, .ref v0)]) (hp : owp (f_X2_takePort v0 N) P) : W p l e rm_X2_takePort s m args below meth c H locs 0 0 Q (F0 m 0 ls []) := by
  have hx := X.1.1
  have hb := X.1.2.1
  unfold f_X2_takePort at hp
  obtain ⟨_, _, hp⟩ := owp_ob hp
  refine lv_aload_n hx hb dX2_takePort_0 rfl (lv_at hl 0 rfl) ?_
  obtain ⟨_, N1, e_N1, hp⟩ := owp_ob2 hp
  refine iv_X2_skipBlanks (rest := []) mw_X2_40 X hR hS e_N1 hl.1 (Nat.le_of_ble_eq_true rfl) ⟨Nat.le_of_ble_eq_true rfl, Nat.le_of_ble_eq_true rfl⟩ ⟨Nat.le_of_ble_eq_true rfl, Nat.le_of_ble_eq_true rfl⟩ dX2_takePort_1 (fun H locs hR hS => ?_)
  refine lv_aload_n hx hb dX2_takePort_4 rfl (lv_at hl 0 rfl) ?_
  obtain ⟨x2, e_x2, hp⟩ := owp_ob hp
  refine gf_X2_30 X hR e_x2 dX2_takePort_5 ?_
  refine lv_aload_n hx hb dX2_takePort_8 rfl (lv_at hl 0 rfl) ?_
  obtain ⟨x3, e_x3, hp⟩ := owp_ob hp
  refine gf_X2_22 X hR e_x3 dX2_takePort_9 ?_
  refine lv_icmp_ge (tgt := 43) hx hb dX2_takePort_12 (by decide) (fun k4 => ?_) (fun k4 => ?_)
  · have hp := owp_t k4 hp
    refine lv_iconst (v := (-1)) hx hb dX2_takePort_43 (by decide) ?_
    exact hr _ _ _ _ _ _ hR hS dX2_takePort_44 hp
  · have hp := owp_f k4 hp
    refine lv_aload_n hx hb dX2_takePort_15 rfl (lv_at hl 0 rfl) ?_
    obtain ⟨x5, e_x5, hp⟩ := owp_ob hp
    refine gf_X2_9 X hR e_x5 dX2_takePort_16 ?_
    refine lv_aload_n hx hb dX2_takePort_19 rfl (lv_at hl 0 rfl) ?_
    obtain ⟨x6, e_x6, hp⟩ := owp_ob hp
    refine gf_X2_30 X hR e_x6 dX2_takePort_20 ?_
    obtain ⟨x7, e_x7, hp⟩ := owp_ob hp
    refine ab_iald X hR e_x7 dX2_takePort_23 ?_
    refine lv_bipush (v := (48)) hx hb dX2_takePort_24 (by decide) ?_
    refine lv_icmp_lt (tgt := 43) hx hb dX2_takePort_26 (by decide) (fun k8 => ?_) (fun k8 => ?_)
    · have hp := owp_t k8 hp
      refine lv_iconst (v := (-1)) hx hb dX2_takePort_43 (by decide) ?_
      exact hr _ _ _ _ _ _ hR hS dX2_takePort_44 hp
    · have hp := owp_f k8 hp
      refine lv_aload_n hx hb dX2_takePort_29 rfl (lv_at hl 0 rfl) ?_
      obtain ⟨x9, e_x9, hp⟩ := owp_ob hp
      refine gf_X2_9 X hR e_x9 dX2_takePort_30 ?_
      refine lv_aload_n hx hb dX2_takePort_33 rfl (lv_at hl 0 rfl) ?_
      obtain ⟨x10, e_x10, hp⟩ := owp_ob hp
      refine gf_X2_30 X hR e_x10 dX2_takePort_34 ?_
      obtain ⟨x11, e_x11, hp⟩ := owp_ob hp
      refine ab_iald X hR e_x11 dX2_takePort_37 ?_
      refine lv_bipush (v := (55)) hx hb dX2_takePort_38 (by decide) ?_
      refine lv_icmp_le (tgt := 45) hx hb dX2_takePort_40 (by decide) (fun k12 => ?_) (fun k12 => ?_)
      · have hp := owp_t k12 hp
        refine lv_aload_n hx hb dX2_takePort_45 rfl (lv_at hl 0 rfl) ?_
        obtain ⟨x13, e_x13, hp⟩ := owp_ob hp
        refine gf_X2_9 X hR e_x13 dX2_takePort_46 ?_
        refine lv_aload_n hx hb dX2_takePort_49 rfl (lv_at hl 0 rfl) ?_
        obtain ⟨x14, e_x14, hp⟩ := owp_ob hp
        refine gf_X2_30 X hR e_x14 dX2_takePort_50 ?_
        obtain ⟨x15, e_x15, hp⟩ := owp_ob hp
        refine ab_iald X hR e_x15 dX2_takePort_53 ?_
        refine lv_bipush (v := (48)) hx hb dX2_takePort_54 (by decide) ?_
        refine lv_isub hx hb dX2_takePort_56 ?_
        refine lv_istore_n (lv' := [(1, .int (x15 - (48 : Int32))), (0, .ref v0)]) hx hb dX2_takePort_57 rfl hl (by decide) rfl (fun ls hl => ?_)
        refine lv_aload_n hx hb dX2_takePort_58 rfl (lv_at hl 1 rfl) ?_
        refine lv_dup hx hb dX2_takePort_59 rfl ?_
        obtain ⟨x16, e_x16, hp⟩ := owp_ob hp
        refine gf_X2_30 X hR e_x16 dX2_takePort_60 ?_
        refine lv_iconst (v := (1)) hx hb dX2_takePort_63 (by decide) ?_
        refine lv_iadd hx hb dX2_takePort_64 ?_
        obtain ⟨N17, e_N17, hp⟩ := owp_ob hp
        refine pf_X2_30 X hR hS e_N17 dX2_takePort_65 (fun H locs hR hS => ?_)
        refine lv_iload_n hx hb dX2_takePort_68 rfl (lv_at hl 0 rfl) ?_
        exact hr _ _ _ _ _ _ hR hS dX2_takePort_69 hp
      · have hp := owp_f k12 hp
        refine lv_iconst (v := (-1)) hx hb dX2_takePort_43 (by decide) ?_
        exact hr _ _ _ _ _ _ hR hS dX2_takePort_44 hp
end
theorem ct_X2_takePort {v0 : Nat} {N N1 : AH} {r : Int32} (h : f_X2_takePort v0 N = some (r, N1)) : Ct yX2_takePort cX2_takePort 2 (some .int) rm_X2_takePort [.ref v0] N (some (.int r)) N1 :=
  ab_met (own := RX2) (by decide +kernel) rfl (Nat.le_of_ble_eq_true rfl) (fun l G aC t b0 p e s m below meth c ls X hr hlk hnm hR hS hl => wk_X2_takePort X (RtI_met X.1.1 X.1.2.1 hr hlk) _ _ _ _ _ hR hS hl (owp_of h))
theorem cw_X2_takePort : Cond.code yX2_takePort cX2_takePort 2 (some .int) ∈ WT := WT_of 486 (by decide +kernel) (by decide +kernel)
theorem iv_X2_takePort {p : Program} {l : Launch} {e : Env} {R : Room} {s : State} {m : MethodId} {args : Array Value} {below : List Frame} {meth : Method} {c : Code} {H : Heap} {locs : List Loc} {cells slots : Nat} {Q : State → Prop} {cc : ByteArray} {own : String} {nL : Nat} {G : va_G} {aC : Nat → ClassId} {t b0 : Nat} {N N1 : AH} {pc index : Nat} {ls : Array Slot} {rest : List Value} {v0 : Nat} {r : Int32} (w1 : Cond.methodLink own index yX2_takePort ∈ WT) (X : CX cc own nL G aC t b0 p s m args c) (hR : Rp G aC b0 N H) (hS : va_S (fun q => b0 ≤ q) s.heap H locs) (h : f_X2_takePort v0 N = some (r, N1)) (hls : ls.size = nL) (hW : (rest.map fun v => v.category).sum ≤ 8) (hR1 : 2 ≤ R.frames ∧ 41 ≤ R.locals) (hcs : cells + 0 ≤ R.cells ∧ slots + 0 ≤ R.slots) (hdg : decode cc pc = .ok (.invokevirtual index, 3)) (kk : ∀ (H1 : Heap) (locs1 : List Loc), Rp G aC b0 N1 H1 → va_S (fun q => b0 ≤ q) s.heap H1 locs1 → W p l e R s m args below meth c H1 locs1 cells slots Q (F0 m (pc + 3) ls (.int r :: rest))) : W p l e R s m args below meth c H locs cells slots Q (F0 m pc ls (.ref v0 :: rest)) :=
  ab_callV (n := 0) (As := []) X hR hS (ct_X2_takePort h) (ob_rc (c := 2) (N := N) (a := v0) h) (T := TX2) (k := 4) (C := RX2) rfl w1 (WT_of 485 (by decide +kernel) (by decide +kernel)) (WT_of 2 (by decide +kernel) (by decide +kernel)) (WT_of 82 (by decide +kernel) (by decide +kernel)) cw_X2_takePort ⟨rfl, by decide +kernel, by decide +kernel, by decide +kernel⟩ rfl hls hW hR1 hcs rfl hdg kk
-- X2_takeSign
theorem dX2_takeSign_0 : decode cX2_takeSign 0 = .ok (.aload_n 0, 1) := by decide +kernel
theorem dX2_takeSign_1 : decode cX2_takeSign 1 = .ok (.invokevirtual 40, 3) := by decide +kernel
theorem dX2_takeSign_4 : decode cX2_takeSign 4 = .ok (.aload_n 0, 1) := by decide +kernel
theorem dX2_takeSign_5 : decode cX2_takeSign 5 = .ok (.getfield 30, 3) := by decide +kernel
theorem dX2_takeSign_8 : decode cX2_takeSign 8 = .ok (.aload_n 0, 1) := by decide +kernel
theorem dX2_takeSign_9 : decode cX2_takeSign 9 = .ok (.getfield 22, 3) := by decide +kernel
theorem dX2_takeSign_12 : decode cX2_takeSign 12 = .ok (.if_icmp .ge 16, 3) := by decide +kernel
theorem dX2_takeSign_15 : decode cX2_takeSign 15 = .ok (.aload_n 0, 1) := by decide +kernel
theorem dX2_takeSign_16 : decode cX2_takeSign 16 = .ok (.getfield 9, 3) := by decide +kernel
theorem dX2_takeSign_19 : decode cX2_takeSign 19 = .ok (.aload_n 0, 1) := by decide +kernel
theorem dX2_takeSign_20 : decode cX2_takeSign 20 = .ok (.getfield 30, 3) := by decide +kernel
theorem dX2_takeSign_23 : decode cX2_takeSign 23 = .ok (.iaload, 1) := by decide +kernel
theorem dX2_takeSign_24 : decode cX2_takeSign 24 = .ok (.iload_n 1, 1) := by decide +kernel
theorem dX2_takeSign_25 : decode cX2_takeSign 25 = .ok (.if_icmp .eq 5, 3) := by decide +kernel
theorem dX2_takeSign_28 : decode cX2_takeSign 28 = .ok (.iconst 0, 1) := by decide +kernel
theorem dX2_takeSign_29 : decode cX2_takeSign 29 = .ok (.ireturn, 1) := by decide +kernel
theorem dX2_takeSign_30 : decode cX2_takeSign 30 = .ok (.aload_n 0, 1) := by decide +kernel
theorem dX2_takeSign_31 : decode cX2_takeSign 31 = .ok (.dup, 1) := by decide +kernel
theorem dX2_takeSign_32 : decode cX2_takeSign 32 = .ok (.getfield 30, 3) := by decide +kernel
theorem dX2_takeSign_35 : decode cX2_takeSign 35 = .ok (.iconst 1, 1) := by decide +kernel
theorem dX2_takeSign_36 : decode cX2_takeSign 36 = .ok (.iadd, 1) := by decide +kernel
theorem dX2_takeSign_37 : decode cX2_takeSign 37 = .ok (.putfield 30, 3) := by decide +kernel
theorem dX2_takeSign_40 : decode cX2_takeSign 40 = .ok (.iconst 1, 1) := by decide +kernel
theorem dX2_takeSign_41 : decode cX2_takeSign 41 = .ok (.ireturn, 1) := by decide +kernel
def rm_X2_takeSign : Room := { frames := 1, cells := 0, slots := 0, locals := 20 }
section
variable {p : Program} {l : Launch} {e : Env} {s : State} {m : MethodId} {args : Array Value} {below : List Frame} {meth : Method} {c : Code} {Q : State → Prop} {G : va_G} {aC : Nat → ClassId} {t b0 : Nat}
def f_X2_takeSign (v0 : Nat) (v1 : Int32) (N : AH) : Option (Int32 × AH) := ob (iO N v0 2) (fun _ => ob2 (f_X2_skipBlanks v0 N) (fun _ N1 => ob (hI N1 v0 2 1) (fun x2 => ob (hI N1 v0 2 0) (fun x3 => if x3 ≤ x2 then some ((0 : Int32), N1) else ob (hR N1 v0 2 2) (fun x5 => ob (hI N1 v0 2 1) (fun x6 => ob (aI N1 x5 x6) (fun x7 => if x7 = v1 then ob (hI N1 v0 2 1) (fun x9 => ob (pI N1 v0 2 1 (x9 + (1 : Int32))) (fun N10 => some ((1 : Int32), N10))) else some ((0 : Int32), N1))))))))
set_option maxHeartbeats 4000000 in
set_option maxRecDepth 100000 in
theorem wk_X2_takeSign {P : Int32 × AH → Prop} (X : CX cX2_takeSign RX2 2 G aC t b0 p s m args c) (hr : RtZ p l e rm_X2_takeSign s m args below meth c 0 0 Q cX2_takeSign G aC b0 P) (v0 : Nat) (v1 : Int32) (N : AH) (H : Heap) (locs : List Loc) (ls : Array Slot) (hR : Rp G aC b0 N H) (hS : va_S (fun q => b0 ≤ q) s.heap H locs) (hl : lv_has ls 2 [(0, .ref v0), (1, .int v1)]) (hp : owp (f_X2_takeSign v0 v1 N) P) : W p l e rm_X2_takeSign s m args below meth c H locs 0 0 Q (F0 m 0 ls []) := by
  have hx := X.1.1
  have hb := X.1.2.1
  unfold f_X2_takeSign at hp
  obtain ⟨_, _, hp⟩ := owp_ob hp
  refine lv_aload_n hx hb dX2_takeSign_0 rfl (lv_at hl 0 rfl) ?_
  obtain ⟨_, N1, e_N1, hp⟩ := owp_ob2 hp
  refine iv_X2_skipBlanks (rest := []) mw_X2_40 X hR hS e_N1 hl.1 (Nat.le_of_ble_eq_true rfl) ⟨Nat.le_of_ble_eq_true rfl, Nat.le_of_ble_eq_true rfl⟩ ⟨Nat.le_of_ble_eq_true rfl, Nat.le_of_ble_eq_true rfl⟩ dX2_takeSign_1 (fun H locs hR hS => ?_)
  refine lv_aload_n hx hb dX2_takeSign_4 rfl (lv_at hl 0 rfl) ?_
  obtain ⟨x2, e_x2, hp⟩ := owp_ob hp
  refine gf_X2_30 X hR e_x2 dX2_takeSign_5 ?_
  refine lv_aload_n hx hb dX2_takeSign_8 rfl (lv_at hl 0 rfl) ?_
  obtain ⟨x3, e_x3, hp⟩ := owp_ob hp
  refine gf_X2_22 X hR e_x3 dX2_takeSign_9 ?_
  refine lv_icmp_ge (tgt := 28) hx hb dX2_takeSign_12 (by decide) (fun k4 => ?_) (fun k4 => ?_)
  · have hp := owp_t k4 hp
    refine lv_iconst (v := (0)) hx hb dX2_takeSign_28 (by decide) ?_
    exact hr _ _ _ _ _ _ hR hS dX2_takeSign_29 (rZ_0 hp)
  · have hp := owp_f k4 hp
    refine lv_aload_n hx hb dX2_takeSign_15 rfl (lv_at hl 0 rfl) ?_
    obtain ⟨x5, e_x5, hp⟩ := owp_ob hp
    refine gf_X2_9 X hR e_x5 dX2_takeSign_16 ?_
    refine lv_aload_n hx hb dX2_takeSign_19 rfl (lv_at hl 0 rfl) ?_
    obtain ⟨x6, e_x6, hp⟩ := owp_ob hp
    refine gf_X2_30 X hR e_x6 dX2_takeSign_20 ?_
    obtain ⟨x7, e_x7, hp⟩ := owp_ob hp
    refine ab_iald X hR e_x7 dX2_takeSign_23 ?_
    refine lv_iload_n hx hb dX2_takeSign_24 rfl (lv_at hl 1 rfl) ?_
    refine lv_icmp_eq (tgt := 30) hx hb dX2_takeSign_25 (by decide) (fun k8 => ?_) (fun k8 => ?_)
    · have hp := owp_t k8 hp
      refine lv_aload_n hx hb dX2_takeSign_30 rfl (lv_at hl 0 rfl) ?_
      refine lv_dup hx hb dX2_takeSign_31 rfl ?_
      obtain ⟨x9, e_x9, hp⟩ := owp_ob hp
      refine gf_X2_30 X hR e_x9 dX2_takeSign_32 ?_
      refine lv_iconst (v := (1)) hx hb dX2_takeSign_35 (by decide) ?_
      refine lv_iadd hx hb dX2_takeSign_36 ?_
      obtain ⟨N10, e_N10, hp⟩ := owp_ob hp
      refine pf_X2_30 X hR hS e_N10 dX2_takeSign_37 (fun H locs hR hS => ?_)
      refine lv_iconst (v := (1)) hx hb dX2_takeSign_40 (by decide) ?_
      exact hr _ _ _ _ _ _ hR hS dX2_takeSign_41 (rZ_1 hp)
    · have hp := owp_f k8 hp
      refine lv_iconst (v := (0)) hx hb dX2_takeSign_28 (by decide) ?_
      exact hr _ _ _ _ _ _ hR hS dX2_takeSign_29 (rZ_0 hp)
end
theorem ct_X2_takeSign {v0 : Nat} {v1 : Int32} {N N1 : AH} {r : Int32} (h : f_X2_takeSign v0 v1 N = some (r, N1)) : Ct yX2_takeSign cX2_takeSign 2 (some .boolean) rm_X2_takeSign [.ref v0, .int v1] N (some (.int r)) N1 :=
  ab_met (own := RX2) (by decide +kernel) rfl (Nat.le_of_ble_eq_true rfl) (fun l G aC t b0 p e s m below meth c ls X hr hlk hnm hR hS hl => wk_X2_takeSign X (RtZ_met X.1.1 X.1.2.1 hr hlk) _ _ _ _ _ _ hR hS hl (owp_of h))
theorem cw_X2_takeSign : Cond.code yX2_takeSign cX2_takeSign 2 (some .boolean) ∈ WT := WT_of 490 (by decide +kernel) (by decide +kernel)
theorem iv_X2_takeSign {p : Program} {l : Launch} {e : Env} {R : Room} {s : State} {m : MethodId} {args : Array Value} {below : List Frame} {meth : Method} {c : Code} {H : Heap} {locs : List Loc} {cells slots : Nat} {Q : State → Prop} {cc : ByteArray} {own : String} {nL : Nat} {G : va_G} {aC : Nat → ClassId} {t b0 : Nat} {N N1 : AH} {pc index : Nat} {ls : Array Slot} {rest : List Value} {v0 : Nat} {v1 : Int32} {r : Int32} (w1 : Cond.methodLink own index yX2_takeSign ∈ WT) (X : CX cc own nL G aC t b0 p s m args c) (hR : Rp G aC b0 N H) (hS : va_S (fun q => b0 ≤ q) s.heap H locs) (h : f_X2_takeSign v0 v1 N = some (r, N1)) (hls : ls.size = nL) (hW : (rest.map fun v => v.category).sum ≤ 8) (hR1 : 2 ≤ R.frames ∧ 41 ≤ R.locals) (hcs : cells + 0 ≤ R.cells ∧ slots + 0 ≤ R.slots) (hdg : decode cc pc = .ok (.invokevirtual index, 3)) (kk : ∀ (H1 : Heap) (locs1 : List Loc), Rp G aC b0 N1 H1 → va_S (fun q => b0 ≤ q) s.heap H1 locs1 → W p l e R s m args below meth c H1 locs1 cells slots Q (F0 m (pc + 3) ls (.int r :: rest))) : W p l e R s m args below meth c H locs cells slots Q (F0 m pc ls (.int v1 :: .ref v0 :: rest)) :=
  ab_callV (n := 1) (As := [.int v1]) X hR hS (ct_X2_takeSign h) (ob_rc (c := 2) (N := N) (a := v0) h) (T := TX2) (k := 4) (C := RX2) rfl w1 (WT_of 489 (by decide +kernel) (by decide +kernel)) (WT_of 3 (by decide +kernel) (by decide +kernel)) (WT_of 82 (by decide +kernel) (by decide +kernel)) cw_X2_takeSign ⟨rfl, by decide +kernel, by decide +kernel, by decide +kernel⟩ rfl hls hW hR1 hcs rfl hdg kk
-- X2_takeSize
theorem dX2_takeSize_0 : decode cX2_takeSize 0 = .ok (.aload_n 0, 1) := by decide +kernel
theorem dX2_takeSize_1 : decode cX2_takeSize 1 = .ok (.invokevirtual 40, 3) := by decide +kernel
theorem dX2_takeSize_4 : decode cX2_takeSize 4 = .ok (.aload_n 0, 1) := by decide +kernel
theorem dX2_takeSize_5 : decode cX2_takeSize 5 = .ok (.getfield 30, 3) := by decide +kernel
theorem dX2_takeSize_8 : decode cX2_takeSize 8 = .ok (.istore_n 1, 1) := by decide +kernel
theorem dX2_takeSize_9 : decode cX2_takeSize 9 = .ok (.iconst 0, 1) := by decide +kernel
theorem dX2_takeSize_10 : decode cX2_takeSize 10 = .ok (.istore_n 2, 1) := by decide +kernel
theorem dX2_takeSize_11 : decode cX2_takeSize 11 = .ok (.aload_n 0, 1) := by decide +kernel
theorem dX2_takeSize_12 : decode cX2_takeSize 12 = .ok (.getfield 30, 3) := by decide +kernel
theorem dX2_takeSize_15 : decode cX2_takeSize 15 = .ok (.aload_n 0, 1) := by decide +kernel
theorem dX2_takeSize_16 : decode cX2_takeSize 16 = .ok (.getfield 22, 3) := by decide +kernel
theorem dX2_takeSize_19 : decode cX2_takeSize 19 = .ok (.if_icmp .ge 73, 3) := by decide +kernel
theorem dX2_takeSize_22 : decode cX2_takeSize 22 = .ok (.aload_n 0, 1) := by decide +kernel
theorem dX2_takeSize_23 : decode cX2_takeSize 23 = .ok (.getfield 9, 3) := by decide +kernel
theorem dX2_takeSize_26 : decode cX2_takeSize 26 = .ok (.aload_n 0, 1) := by decide +kernel
theorem dX2_takeSize_27 : decode cX2_takeSize 27 = .ok (.getfield 30, 3) := by decide +kernel
theorem dX2_takeSize_30 : decode cX2_takeSize 30 = .ok (.iaload, 1) := by decide +kernel
theorem dX2_takeSize_31 : decode cX2_takeSize 31 = .ok (.bipush 48, 2) := by decide +kernel
theorem dX2_takeSize_33 : decode cX2_takeSize 33 = .ok (.if_icmp .lt 59, 3) := by decide +kernel
theorem dX2_takeSize_36 : decode cX2_takeSize 36 = .ok (.aload_n 0, 1) := by decide +kernel
theorem dX2_takeSize_37 : decode cX2_takeSize 37 = .ok (.getfield 9, 3) := by decide +kernel
theorem dX2_takeSize_40 : decode cX2_takeSize 40 = .ok (.aload_n 0, 1) := by decide +kernel
theorem dX2_takeSize_41 : decode cX2_takeSize 41 = .ok (.getfield 30, 3) := by decide +kernel
theorem dX2_takeSize_44 : decode cX2_takeSize 44 = .ok (.iaload, 1) := by decide +kernel
theorem dX2_takeSize_45 : decode cX2_takeSize 45 = .ok (.bipush 57, 2) := by decide +kernel
theorem dX2_takeSize_47 : decode cX2_takeSize 47 = .ok (.if_icmp .gt 45, 3) := by decide +kernel
theorem dX2_takeSize_50 : decode cX2_takeSize 50 = .ok (.aload_n 0, 1) := by decide +kernel
theorem dX2_takeSize_51 : decode cX2_takeSize 51 = .ok (.getfield 30, 3) := by decide +kernel
theorem dX2_takeSize_54 : decode cX2_takeSize 54 = .ok (.iload_n 1, 1) := by decide +kernel
theorem dX2_takeSize_55 : decode cX2_takeSize 55 = .ok (.isub, 1) := by decide +kernel
theorem dX2_takeSize_56 : decode cX2_takeSize 56 = .ok (.bipush 6, 2) := by decide +kernel
theorem dX2_takeSize_58 : decode cX2_takeSize 58 = .ok (.if_icmp .ge 21, 3) := by decide +kernel
theorem dX2_takeSize_61 : decode cX2_takeSize 61 = .ok (.bipush 10, 2) := by decide +kernel
theorem dX2_takeSize_63 : decode cX2_takeSize 63 = .ok (.iload_n 2, 1) := by decide +kernel
theorem dX2_takeSize_64 : decode cX2_takeSize 64 = .ok (.imul, 1) := by decide +kernel
theorem dX2_takeSize_65 : decode cX2_takeSize 65 = .ok (.aload_n 0, 1) := by decide +kernel
theorem dX2_takeSize_66 : decode cX2_takeSize 66 = .ok (.getfield 9, 3) := by decide +kernel
theorem dX2_takeSize_69 : decode cX2_takeSize 69 = .ok (.aload_n 0, 1) := by decide +kernel
theorem dX2_takeSize_70 : decode cX2_takeSize 70 = .ok (.getfield 30, 3) := by decide +kernel
theorem dX2_takeSize_73 : decode cX2_takeSize 73 = .ok (.iaload, 1) := by decide +kernel
theorem dX2_takeSize_74 : decode cX2_takeSize 74 = .ok (.iadd, 1) := by decide +kernel
theorem dX2_takeSize_75 : decode cX2_takeSize 75 = .ok (.bipush 48, 2) := by decide +kernel
theorem dX2_takeSize_77 : decode cX2_takeSize 77 = .ok (.isub, 1) := by decide +kernel
theorem dX2_takeSize_78 : decode cX2_takeSize 78 = .ok (.istore_n 2, 1) := by decide +kernel
theorem dX2_takeSize_79 : decode cX2_takeSize 79 = .ok (.aload_n 0, 1) := by decide +kernel
theorem dX2_takeSize_80 : decode cX2_takeSize 80 = .ok (.dup, 1) := by decide +kernel
theorem dX2_takeSize_81 : decode cX2_takeSize 81 = .ok (.getfield 30, 3) := by decide +kernel
theorem dX2_takeSize_84 : decode cX2_takeSize 84 = .ok (.iconst 1, 1) := by decide +kernel
theorem dX2_takeSize_85 : decode cX2_takeSize 85 = .ok (.iadd, 1) := by decide +kernel
theorem dX2_takeSize_86 : decode cX2_takeSize 86 = .ok (.putfield 30, 3) := by decide +kernel
theorem dX2_takeSize_89 : decode cX2_takeSize 89 = .ok (.goto (-78), 3) := by decide +kernel
theorem dX2_takeSize_92 : decode cX2_takeSize 92 = .ok (.aload_n 0, 1) := by decide +kernel
theorem dX2_takeSize_93 : decode cX2_takeSize 93 = .ok (.getfield 30, 3) := by decide +kernel
theorem dX2_takeSize_96 : decode cX2_takeSize 96 = .ok (.iload_n 1, 1) := by decide +kernel
theorem dX2_takeSize_97 : decode cX2_takeSize 97 = .ok (.isub, 1) := by decide +kernel
theorem dX2_takeSize_98 : decode cX2_takeSize 98 = .ok (.bipush 6, 2) := by decide +kernel
theorem dX2_takeSize_100 : decode cX2_takeSize 100 = .ok (.if_icmp .gt 14, 3) := by decide +kernel
theorem dX2_takeSize_103 : decode cX2_takeSize 103 = .ok (.iload_n 2, 1) := by decide +kernel
theorem dX2_takeSize_104 : decode cX2_takeSize 104 = .ok (.iconst 1, 1) := by decide +kernel
theorem dX2_takeSize_105 : decode cX2_takeSize 105 = .ok (.if_icmp .lt 9, 3) := by decide +kernel
theorem dX2_takeSize_108 : decode cX2_takeSize 108 = .ok (.iload_n 2, 1) := by decide +kernel
theorem dX2_takeSize_109 : decode cX2_takeSize 109 = .ok (.ldc 58, 2) := by decide +kernel
theorem dX2_takeSize_111 : decode cX2_takeSize 111 = .ok (.if_icmp .le 10, 3) := by decide +kernel
theorem dX2_takeSize_114 : decode cX2_takeSize 114 = .ok (.aload_n 0, 1) := by decide +kernel
theorem dX2_takeSize_115 : decode cX2_takeSize 115 = .ok (.iload_n 1, 1) := by decide +kernel
theorem dX2_takeSize_116 : decode cX2_takeSize 116 = .ok (.putfield 30, 3) := by decide +kernel
theorem dX2_takeSize_119 : decode cX2_takeSize 119 = .ok (.iconst (-1), 1) := by decide +kernel
theorem dX2_takeSize_120 : decode cX2_takeSize 120 = .ok (.ireturn, 1) := by decide +kernel
theorem dX2_takeSize_121 : decode cX2_takeSize 121 = .ok (.iload_n 2, 1) := by decide +kernel
theorem dX2_takeSize_122 : decode cX2_takeSize 122 = .ok (.ireturn, 1) := by decide +kernel
def rm_X2_takeSize : Room := { frames := 1, cells := 0, slots := 0, locals := 20 }
section
variable {p : Program} {l : Launch} {e : Env} {s : State} {m : MethodId} {args : Array Value} {below : List Frame} {meth : Method} {c : Code} {Q : State → Prop} {G : va_G} {aC : Nat → ClassId} {t b0 : Nat}
def f_X2_takeSize_L11 (v0 : Nat) (v1 : Int32) (k92 : Int32 → AH → Option (Int32 × AH)) : Nat → Int32 → AH → Option (Int32 × AH)
  | 0, _, _ => none
  | n + 1, v2, N => ob (hI N v0 2 1) (fun x3 => ob (hI N v0 2 0) (fun x4 => if x4 ≤ x3 then k92 v2 N else ob (hR N v0 2 2) (fun x6 => ob (hI N v0 2 1) (fun x7 => ob (aI N x6 x7) (fun x8 => if x8 < (48 : Int32) then k92 v2 N else ob (hR N v0 2 2) (fun x10 => ob (hI N v0 2 1) (fun x11 => ob (aI N x10 x11) (fun x12 => if (57 : Int32) < x12 then k92 v2 N else ob (hI N v0 2 1) (fun x14 => if (6 : Int32) ≤ (x14 - v1) then ob (hI N v0 2 1) (fun x16 => ob (pI N v0 2 1 (x16 + (1 : Int32))) (fun N17 => f_X2_takeSize_L11 v0 v1 k92 n v2 N17)) else ob (hR N v0 2 2) (fun x18 => ob (hI N v0 2 1) (fun x19 => ob (aI N x18 x19) (fun x20 => ob (hI N v0 2 1) (fun x21 => ob (pI N v0 2 1 (x21 + (1 : Int32))) (fun N22 => f_X2_takeSize_L11 v0 v1 k92 n ((((10 : Int32) * v2) + x20) - (48 : Int32)) N22))))))))))))))
set_option maxHeartbeats 4000000 in
set_option maxRecDepth 100000 in
theorem w_X2_takeSize_L11 {P : Int32 × AH → Prop} (X : CX cX2_takeSize RX2 3 G aC t b0 p s m args c) (hr : RtI p l e rm_X2_takeSize s m args below meth c 0 0 Q cX2_takeSize G aC b0 P) (v0 : Nat) (v1 : Int32) {k92 : Int32 → AH → Option (Int32 × AH)}
    (hk92 : ∀ (v2 : Int32) (N : AH) (H : Heap) (locs : List Loc) (ls : Array Slot), Rp G aC b0 N H → va_S (fun q => b0 ≤ q) s.heap H locs → lv_has ls 3 [(0, .ref v0), (1, .int v1), (2, .int v2)] → owp (k92 v2 N) P → W p l e rm_X2_takeSize s m args below meth c H locs 0 0 Q (F0 m 92 ls [])) :
    ∀ (n : Nat) (v2 : Int32) (N : AH) (H : Heap) (locs : List Loc) (ls : Array Slot), Rp G aC b0 N H → va_S (fun q => b0 ≤ q) s.heap H locs → lv_has ls 3 [(0, .ref v0), (1, .int v1), (2, .int v2)] → owp (f_X2_takeSize_L11 v0 v1 k92 n v2 N) P → W p l e rm_X2_takeSize s m args below meth c H locs 0 0 Q (F0 m 11 ls []) := by
  have hx := X.1.1
  have hb := X.1.2.1
  intro n
  induction n with
  | zero =>
    intro v2 N H locs ls hR hS hl hp
    exact (show False from hp).elim
  | succ n ih =>
    intro v2 N H locs ls hR hS hl hp
    rw [f_X2_takeSize_L11] at hp
    refine lv_aload_n hx hb dX2_takeSize_11 rfl (lv_at hl 0 rfl) ?_
    obtain ⟨x3, e_x3, hp⟩ := owp_ob hp
    refine gf_X2_30 X hR e_x3 dX2_takeSize_12 ?_
    refine lv_aload_n hx hb dX2_takeSize_15 rfl (lv_at hl 0 rfl) ?_
    obtain ⟨x4, e_x4, hp⟩ := owp_ob hp
    refine gf_X2_22 X hR e_x4 dX2_takeSize_16 ?_
    refine lv_icmp_ge (tgt := 92) hx hb dX2_takeSize_19 (by decide) (fun k5 => ?_) (fun k5 => ?_)
    · have hp := owp_t k5 hp
      exact hk92 _ _ _ _ _ hR hS hl hp
    · have hp := owp_f k5 hp
      refine lv_aload_n hx hb dX2_takeSize_22 rfl (lv_at hl 0 rfl) ?_
      obtain ⟨x6, e_x6, hp⟩ := owp_ob hp
      refine gf_X2_9 X hR e_x6 dX2_takeSize_23 ?_
      refine lv_aload_n hx hb dX2_takeSize_26 rfl (lv_at hl 0 rfl) ?_
      obtain ⟨x7, e_x7, hp⟩ := owp_ob hp
      refine gf_X2_30 X hR e_x7 dX2_takeSize_27 ?_
      obtain ⟨x8, e_x8, hp⟩ := owp_ob hp
      refine ab_iald X hR e_x8 dX2_takeSize_30 ?_
      refine lv_bipush (v := (48)) hx hb dX2_takeSize_31 (by decide) ?_
      refine lv_icmp_lt (tgt := 92) hx hb dX2_takeSize_33 (by decide) (fun k9 => ?_) (fun k9 => ?_)
      · have hp := owp_t k9 hp
        exact hk92 _ _ _ _ _ hR hS hl hp
      · have hp := owp_f k9 hp
        refine lv_aload_n hx hb dX2_takeSize_36 rfl (lv_at hl 0 rfl) ?_
        obtain ⟨x10, e_x10, hp⟩ := owp_ob hp
        refine gf_X2_9 X hR e_x10 dX2_takeSize_37 ?_
        refine lv_aload_n hx hb dX2_takeSize_40 rfl (lv_at hl 0 rfl) ?_
        obtain ⟨x11, e_x11, hp⟩ := owp_ob hp
        refine gf_X2_30 X hR e_x11 dX2_takeSize_41 ?_
        obtain ⟨x12, e_x12, hp⟩ := owp_ob hp
        refine ab_iald X hR e_x12 dX2_takeSize_44 ?_
        refine lv_bipush (v := (57)) hx hb dX2_takeSize_45 (by decide) ?_
        refine lv_icmp_gt (tgt := 92) hx hb dX2_takeSize_47 (by decide) (fun k13 => ?_) (fun k13 => ?_)
        · have hp := owp_t k13 hp
          exact hk92 _ _ _ _ _ hR hS hl hp
        · have hp := owp_f k13 hp
          refine lv_aload_n hx hb dX2_takeSize_50 rfl (lv_at hl 0 rfl) ?_
          obtain ⟨x14, e_x14, hp⟩ := owp_ob hp
          refine gf_X2_30 X hR e_x14 dX2_takeSize_51 ?_
          refine lv_iload_n hx hb dX2_takeSize_54 rfl (lv_at hl 1 rfl) ?_
          refine lv_isub hx hb dX2_takeSize_55 ?_
          refine lv_bipush (v := (6)) hx hb dX2_takeSize_56 (by decide) ?_
          refine lv_icmp_ge (tgt := 79) hx hb dX2_takeSize_58 (by decide) (fun k15 => ?_) (fun k15 => ?_)
          · have hp := owp_t k15 hp
            refine lv_aload_n hx hb dX2_takeSize_79 rfl (lv_at hl 0 rfl) ?_
            refine lv_dup hx hb dX2_takeSize_80 rfl ?_
            obtain ⟨x16, e_x16, hp⟩ := owp_ob hp
            refine gf_X2_30 X hR e_x16 dX2_takeSize_81 ?_
            refine lv_iconst (v := (1)) hx hb dX2_takeSize_84 (by decide) ?_
            refine lv_iadd hx hb dX2_takeSize_85 ?_
            obtain ⟨N17, e_N17, hp⟩ := owp_ob hp
            refine pf_X2_30 X hR hS e_N17 dX2_takeSize_86 (fun H locs hR hS => ?_)
            refine lv_goto (tgt := 11) hx hb dX2_takeSize_89 (by decide) ?_
            exact ih _ _ _ _ _ hR hS hl hp
          · have hp := owp_f k15 hp
            refine lv_bipush (v := (10)) hx hb dX2_takeSize_61 (by decide) ?_
            refine lv_iload_n hx hb dX2_takeSize_63 rfl (lv_at hl 2 rfl) ?_
            refine lv_imul hx hb dX2_takeSize_64 ?_
            refine lv_aload_n hx hb dX2_takeSize_65 rfl (lv_at hl 0 rfl) ?_
            obtain ⟨x18, e_x18, hp⟩ := owp_ob hp
            refine gf_X2_9 X hR e_x18 dX2_takeSize_66 ?_
            refine lv_aload_n hx hb dX2_takeSize_69 rfl (lv_at hl 0 rfl) ?_
            obtain ⟨x19, e_x19, hp⟩ := owp_ob hp
            refine gf_X2_30 X hR e_x19 dX2_takeSize_70 ?_
            obtain ⟨x20, e_x20, hp⟩ := owp_ob hp
            refine ab_iald X hR e_x20 dX2_takeSize_73 ?_
            refine lv_iadd hx hb dX2_takeSize_74 ?_
            refine lv_bipush (v := (48)) hx hb dX2_takeSize_75 (by decide) ?_
            refine lv_isub hx hb dX2_takeSize_77 ?_
            refine lv_istore_n (lv' := [(2, .int ((((10 : Int32) * v2) + x20) - (48 : Int32))), (0, .ref v0), (1, .int v1)]) hx hb dX2_takeSize_78 rfl hl (by decide) rfl (fun ls hl => ?_)
            refine lv_aload_n hx hb dX2_takeSize_79 rfl (lv_at hl 1 rfl) ?_
            refine lv_dup hx hb dX2_takeSize_80 rfl ?_
            obtain ⟨x21, e_x21, hp⟩ := owp_ob hp
            refine gf_X2_30 X hR e_x21 dX2_takeSize_81 ?_
            refine lv_iconst (v := (1)) hx hb dX2_takeSize_84 (by decide) ?_
            refine lv_iadd hx hb dX2_takeSize_85 ?_
            obtain ⟨N22, e_N22, hp⟩ := owp_ob hp
            refine pf_X2_30 X hR hS e_N22 dX2_takeSize_86 (fun H locs hR hS => ?_)
            refine lv_goto (tgt := 11) hx hb dX2_takeSize_89 (by decide) ?_
            exact ih _ _ _ _ _ hR hS (lv_sub hl [1, 2, 0] rfl) hp
def f_X2_takeSize_J92 (v0 : Nat) (v1 : Int32) (v2 : Int32) (N : AH) : Option (Int32 × AH) := ob (hI N v0 2 1) (fun x25 => if (6 : Int32) < (x25 - v1) then ob (pI N v0 2 1 v1) (fun N27 => some ((-1 : Int32), N27)) else if v2 < (1 : Int32) then ob (pI N v0 2 1 v1) (fun N29 => some ((-1 : Int32), N29)) else if v2 ≤ (100000 : Int32) then some (v2, N) else ob (pI N v0 2 1 v1) (fun N31 => some ((-1 : Int32), N31)))
set_option maxHeartbeats 4000000 in
set_option maxRecDepth 100000 in
theorem w_X2_takeSize_J92 {P : Int32 × AH → Prop} (X : CX cX2_takeSize RX2 3 G aC t b0 p s m args c) (hr : RtI p l e rm_X2_takeSize s m args below meth c 0 0 Q cX2_takeSize G aC b0 P) (v0 : Nat) (v1 : Int32) (v2 : Int32) (N : AH) (H : Heap) (locs : List Loc) (ls : Array Slot) (hR : Rp G aC b0 N H) (hS : va_S (fun q => b0 ≤ q) s.heap H locs) (hl : lv_has ls 3 [(0, .ref v0), (1, .int v1), (2, .int v2)]) (hp : owp (f_X2_takeSize_J92 v0 v1 v2 N) P) : W p l e rm_X2_takeSize s m args below meth c H locs 0 0 Q (F0 m 92 ls []) := by
  have hx := X.1.1
  have hb := X.1.2.1
  unfold f_X2_takeSize_J92 at hp
  refine lv_aload_n hx hb dX2_takeSize_92 rfl (lv_at hl 0 rfl) ?_
  obtain ⟨x25, e_x25, hp⟩ := owp_ob hp
  refine gf_X2_30 X hR e_x25 dX2_takeSize_93 ?_
  refine lv_iload_n hx hb dX2_takeSize_96 rfl (lv_at hl 1 rfl) ?_
  refine lv_isub hx hb dX2_takeSize_97 ?_
  refine lv_bipush (v := (6)) hx hb dX2_takeSize_98 (by decide) ?_
  refine lv_icmp_gt (tgt := 114) hx hb dX2_takeSize_100 (by decide) (fun k26 => ?_) (fun k26 => ?_)
  · have hp := owp_t k26 hp
    refine lv_aload_n hx hb dX2_takeSize_114 rfl (lv_at hl 0 rfl) ?_
    refine lv_iload_n hx hb dX2_takeSize_115 rfl (lv_at hl 1 rfl) ?_
    obtain ⟨N27, e_N27, hp⟩ := owp_ob hp
    refine pf_X2_30 X hR hS e_N27 dX2_takeSize_116 (fun H locs hR hS => ?_)
    refine lv_iconst (v := (-1)) hx hb dX2_takeSize_119 (by decide) ?_
    exact hr _ _ _ _ _ _ hR hS dX2_takeSize_120 hp
  · have hp := owp_f k26 hp
    refine lv_iload_n hx hb dX2_takeSize_103 rfl (lv_at hl 2 rfl) ?_
    refine lv_iconst (v := (1)) hx hb dX2_takeSize_104 (by decide) ?_
    refine lv_icmp_lt (tgt := 114) hx hb dX2_takeSize_105 (by decide) (fun k28 => ?_) (fun k28 => ?_)
    · have hp := owp_t k28 hp
      refine lv_aload_n hx hb dX2_takeSize_114 rfl (lv_at hl 0 rfl) ?_
      refine lv_iload_n hx hb dX2_takeSize_115 rfl (lv_at hl 1 rfl) ?_
      obtain ⟨N29, e_N29, hp⟩ := owp_ob hp
      refine pf_X2_30 X hR hS e_N29 dX2_takeSize_116 (fun H locs hR hS => ?_)
      refine lv_iconst (v := (-1)) hx hb dX2_takeSize_119 (by decide) ?_
      exact hr _ _ _ _ _ _ hR hS dX2_takeSize_120 hp
    · have hp := owp_f k28 hp
      refine lv_iload_n hx hb dX2_takeSize_108 rfl (lv_at hl 2 rfl) ?_
      refine lv_ldc (own := RX2) (v := 100000) hx hb X.1.2.2.2.1 (X.1.2.2.2.2 _ (WT_of 495 (by decide +kernel) (by decide +kernel))) dX2_takeSize_109 ?_
      refine lv_icmp_le (tgt := 121) hx hb dX2_takeSize_111 (by decide) (fun k30 => ?_) (fun k30 => ?_)
      · have hp := owp_t k30 hp
        refine lv_iload_n hx hb dX2_takeSize_121 rfl (lv_at hl 2 rfl) ?_
        exact hr _ _ _ _ _ _ hR hS dX2_takeSize_122 hp
      · have hp := owp_f k30 hp
        refine lv_aload_n hx hb dX2_takeSize_114 rfl (lv_at hl 0 rfl) ?_
        refine lv_iload_n hx hb dX2_takeSize_115 rfl (lv_at hl 1 rfl) ?_
        obtain ⟨N31, e_N31, hp⟩ := owp_ob hp
        refine pf_X2_30 X hR hS e_N31 dX2_takeSize_116 (fun H locs hR hS => ?_)
        refine lv_iconst (v := (-1)) hx hb dX2_takeSize_119 (by decide) ?_
        exact hr _ _ _ _ _ _ hR hS dX2_takeSize_120 hp
def f_X2_takeSize (v0 : Nat) (N : AH) : Option (Int32 × AH) := ob (iO N v0 2) (fun _ => ob2 (f_X2_skipBlanks v0 N) (fun _ N1 => ob (hI N1 v0 2 1) (fun x2 => f_X2_takeSize_L11 v0 x2 (fun v23 N24 => f_X2_takeSize_J92 v0 x2 v23 N24) FU (0 : Int32) N1)))
set_option maxHeartbeats 4000000 in
set_option maxRecDepth 100000 in
theorem wk_X2_takeSize {P : Int32 × AH → Prop} (X : CX cX2_takeSize RX2 3 G aC t b0 p s m args c) (hr : RtI p l e rm_X2_takeSize s m args below meth c 0 0 Q cX2_takeSize G aC b0 P) (v0 : Nat) (N : AH) (H : Heap) (locs : List Loc) (ls : Array Slot) (hR : Rp G aC b0 N H) (hS : va_S (fun q => b0 ≤ q) s.heap H locs) (hl : lv_has ls 3 [(0, .ref v0)]) (hp : owp (f_X2_takeSize v0 N) P) : W p l e rm_X2_takeSize s m args below meth c H locs 0 0 Q (F0 m 0 ls []) := by
  have hx := X.1.1
  have hb := X.1.2.1
  unfold f_X2_takeSize at hp
  obtain ⟨_, _, hp⟩ := owp_ob hp
  refine lv_aload_n hx hb dX2_takeSize_0 rfl (lv_at hl 0 rfl) ?_
  obtain ⟨_, N1, e_N1, hp⟩ := owp_ob2 hp
  refine iv_X2_skipBlanks (rest := []) mw_X2_40 X hR hS e_N1 hl.1 (Nat.le_of_ble_eq_true rfl) ⟨Nat.le_of_ble_eq_true rfl, Nat.le_of_ble_eq_true rfl⟩ ⟨Nat.le_of_ble_eq_true rfl, Nat.le_of_ble_eq_true rfl⟩ dX2_takeSize_1 (fun H locs hR hS => ?_)
  refine lv_aload_n hx hb dX2_takeSize_4 rfl (lv_at hl 0 rfl) ?_
  obtain ⟨x2, e_x2, hp⟩ := owp_ob hp
  refine gf_X2_30 X hR e_x2 dX2_takeSize_5 ?_
  refine lv_istore_n (lv' := [(1, .int x2), (0, .ref v0)]) hx hb dX2_takeSize_8 rfl hl (by decide) rfl (fun ls hl => ?_)
  refine lv_iconst (v := (0)) hx hb dX2_takeSize_9 (by decide) ?_
  refine lv_istore_n (lv' := [(2, .int (0 : Int32)), (1, .int x2), (0, .ref v0)]) hx hb dX2_takeSize_10 rfl hl (by decide) rfl (fun ls hl => ?_)
  refine w_X2_takeSize_L11 X hr _ _ (fun v23 N24 H locs ls hR hS hl hp => ?_) _ _ _ _ _ _ hR hS (lv_sub hl [2, 1, 0] rfl) hp
  exact w_X2_takeSize_J92 X hr _ _ _ _ _ _ _ hR hS hl hp
end
theorem ct_X2_takeSize {v0 : Nat} {N N1 : AH} {r : Int32} (h : f_X2_takeSize v0 N = some (r, N1)) : Ct yX2_takeSize cX2_takeSize 3 (some .int) rm_X2_takeSize [.ref v0] N (some (.int r)) N1 :=
  ab_met (own := RX2) (by decide +kernel) rfl (Nat.le_of_ble_eq_true rfl) (fun l G aC t b0 p e s m below meth c ls X hr hlk hnm hR hS hl => wk_X2_takeSize X (RtI_met X.1.1 X.1.2.1 hr hlk) _ _ _ _ _ hR hS hl (owp_of h))
theorem cw_X2_takeSize : Cond.code yX2_takeSize cX2_takeSize 3 (some .int) ∈ WT := WT_of 494 (by decide +kernel) (by decide +kernel)
theorem iv_X2_takeSize {p : Program} {l : Launch} {e : Env} {R : Room} {s : State} {m : MethodId} {args : Array Value} {below : List Frame} {meth : Method} {c : Code} {H : Heap} {locs : List Loc} {cells slots : Nat} {Q : State → Prop} {cc : ByteArray} {own : String} {nL : Nat} {G : va_G} {aC : Nat → ClassId} {t b0 : Nat} {N N1 : AH} {pc index : Nat} {ls : Array Slot} {rest : List Value} {v0 : Nat} {r : Int32} (w1 : Cond.methodLink own index yX2_takeSize ∈ WT) (X : CX cc own nL G aC t b0 p s m args c) (hR : Rp G aC b0 N H) (hS : va_S (fun q => b0 ≤ q) s.heap H locs) (h : f_X2_takeSize v0 N = some (r, N1)) (hls : ls.size = nL) (hW : (rest.map fun v => v.category).sum ≤ 8) (hR1 : 2 ≤ R.frames ∧ 42 ≤ R.locals) (hcs : cells + 0 ≤ R.cells ∧ slots + 0 ≤ R.slots) (hdg : decode cc pc = .ok (.invokevirtual index, 3)) (kk : ∀ (H1 : Heap) (locs1 : List Loc), Rp G aC b0 N1 H1 → va_S (fun q => b0 ≤ q) s.heap H1 locs1 → W p l e R s m args below meth c H1 locs1 cells slots Q (F0 m (pc + 3) ls (.int r :: rest))) : W p l e R s m args below meth c H locs cells slots Q (F0 m pc ls (.ref v0 :: rest)) :=
  ab_callV (n := 0) (As := []) X hR hS (ct_X2_takeSize h) (ob_rc (c := 2) (N := N) (a := v0) h) (T := TX2) (k := 4) (C := RX2) rfl w1 (WT_of 493 (by decide +kernel) (by decide +kernel)) (WT_of 4 (by decide +kernel) (by decide +kernel)) (WT_of 82 (by decide +kernel) (by decide +kernel)) cw_X2_takeSize ⟨rfl, by decide +kernel, by decide +kernel, by decide +kernel⟩ rfl hls hW hR1 hcs rfl hdg kk
-- X2_takeFlow
theorem gf_X2_18 {p : Program} {l : Launch} {e : Env} {R : Room} {s : State} {m : MethodId} {args : Array Value} {below : List Frame} {meth : Method} {c : Code} {H : Heap} {locs : List Loc} {cells slots : Nat} {Q : State → Prop} {cc : ByteArray} {nL : Nat} {G : va_G} {aC : Nat → ClassId} {t b0 : Nat} {N : AH} {pc : Nat} {ls : Array Slot} {rest : List Value} {a : Nat} {v : Nat} (X : CX cc RX2 nL G aC t b0 p s m args c) (hR0 : Rp G aC b0 N H) (hv : hR N a 2 3 = some v) (hdg : decode cc pc = .ok (.getfield 18, 3)) (kk : W p l e R s m args below meth c H locs cells slots Q (F0 m (pc + 3) ls (.ref v :: rest))) : W p l e R s m args below meth c H locs cells slots Q (F0 m pc ls (.ref a :: rest)) := by
  obtain ⟨fs, h1, h2⟩ := hR_ok hv
  exact ab_get (C := RX2) (T := TX2) (n := 4) X hR0 h1 h2 rfl inX2 (by decide) (WT_of 157 (by decide +kernel) (by decide +kernel)) hdg kk
theorem gf_X2_33 {p : Program} {l : Launch} {e : Env} {R : Room} {s : State} {m : MethodId} {args : Array Value} {below : List Frame} {meth : Method} {c : Code} {H : Heap} {locs : List Loc} {cells slots : Nat} {Q : State → Prop} {cc : ByteArray} {nL : Nat} {G : va_G} {aC : Nat → ClassId} {t b0 : Nat} {N : AH} {pc : Nat} {ls : Array Slot} {rest : List Value} {a : Nat} {v : Int32} (X : CX cc RX2 nL G aC t b0 p s m args c) (hR0 : Rp G aC b0 N H) (hv : hI N a 1 0 = some v) (hdg : decode cc pc = .ok (.getfield 33, 3)) (kk : W p l e R s m args below meth c H locs cells slots Q (F0 m (pc + 3) ls (.int v :: rest))) : W p l e R s m args below meth c H locs cells slots Q (F0 m pc ls (.ref a :: rest)) := by
  obtain ⟨fs, h1, h2⟩ := hI_ok hv
  exact ab_get (C := RX1) (T := TX1) (n := 6) X hR0 h1 h2 rfl inX1 (by decide) (WT_of 116 (by decide +kernel) (by decide +kernel)) hdg kk
theorem mw_X2_43 : Cond.methodLink RX2 43 yX2_takeSign ∈ WT := WT_of 487 (by decide +kernel) (by decide +kernel)
theorem mw_X2_47 : Cond.methodLink RX2 47 yX2_takePort ∈ WT := WT_of 483 (by decide +kernel) (by decide +kernel)
theorem mw_X2_51 : Cond.methodLink RX2 51 yX2_takeSize ∈ WT := WT_of 491 (by decide +kernel) (by decide +kernel)
theorem mw_X2_54 : Cond.methodLink RX2 54 yX1_append ∈ WT := WT_of 496 (by decide +kernel) (by decide +kernel)
theorem dX2_takeFlow_0 : decode cX2_takeFlow 0 = .ok (.aload_n 0, 1) := by decide +kernel
theorem dX2_takeFlow_1 : decode cX2_takeFlow 1 = .ok (.invokevirtual 40, 3) := by decide +kernel
theorem dX2_takeFlow_4 : decode cX2_takeFlow 4 = .ok (.aload_n 0, 1) := by decide +kernel
theorem dX2_takeFlow_5 : decode cX2_takeFlow 5 = .ok (.getfield 18, 3) := by decide +kernel
theorem dX2_takeFlow_8 : decode cX2_takeFlow 8 = .ok (.getfield 33, 3) := by decide +kernel
theorem dX2_takeFlow_11 : decode cX2_takeFlow 11 = .ok (.iload_n 1, 1) := by decide +kernel
theorem dX2_takeFlow_12 : decode cX2_takeFlow 12 = .ok (.if_icmp .lt 5, 3) := by decide +kernel
theorem dX2_takeFlow_15 : decode cX2_takeFlow 15 = .ok (.iconst 0, 1) := by decide +kernel
theorem dX2_takeFlow_16 : decode cX2_takeFlow 16 = .ok (.ireturn, 1) := by decide +kernel
theorem dX2_takeFlow_17 : decode cX2_takeFlow 17 = .ok (.aload_n 0, 1) := by decide +kernel
theorem dX2_takeFlow_18 : decode cX2_takeFlow 18 = .ok (.invokevirtual 47, 3) := by decide +kernel
theorem dX2_takeFlow_21 : decode cX2_takeFlow 21 = .ok (.istore_n 2, 1) := by decide +kernel
theorem dX2_takeFlow_22 : decode cX2_takeFlow 22 = .ok (.iload_n 2, 1) := by decide +kernel
theorem dX2_takeFlow_23 : decode cX2_takeFlow 23 = .ok (.iconst (-1), 1) := by decide +kernel
theorem dX2_takeFlow_24 : decode cX2_takeFlow 24 = .ok (.if_icmp .eq 12, 3) := by decide +kernel
theorem dX2_takeFlow_27 : decode cX2_takeFlow 27 = .ok (.aload_n 0, 1) := by decide +kernel
theorem dX2_takeFlow_28 : decode cX2_takeFlow 28 = .ok (.bipush 62, 2) := by decide +kernel
theorem dX2_takeFlow_30 : decode cX2_takeFlow 30 = .ok (.invokevirtual 43, 3) := by decide +kernel
theorem dX2_takeFlow_33 : decode cX2_takeFlow 33 = .ok (.ifCond .ne 5, 3) := by decide +kernel
theorem dX2_takeFlow_36 : decode cX2_takeFlow 36 = .ok (.iconst 0, 1) := by decide +kernel
theorem dX2_takeFlow_37 : decode cX2_takeFlow 37 = .ok (.ireturn, 1) := by decide +kernel
theorem dX2_takeFlow_38 : decode cX2_takeFlow 38 = .ok (.aload_n 0, 1) := by decide +kernel
theorem dX2_takeFlow_39 : decode cX2_takeFlow 39 = .ok (.invokevirtual 47, 3) := by decide +kernel
theorem dX2_takeFlow_42 : decode cX2_takeFlow 42 = .ok (.istore_n 3, 1) := by decide +kernel
theorem dX2_takeFlow_43 : decode cX2_takeFlow 43 = .ok (.iload_n 3, 1) := by decide +kernel
theorem dX2_takeFlow_44 : decode cX2_takeFlow 44 = .ok (.iconst (-1), 1) := by decide +kernel
theorem dX2_takeFlow_45 : decode cX2_takeFlow 45 = .ok (.if_icmp .eq 12, 3) := by decide +kernel
theorem dX2_takeFlow_48 : decode cX2_takeFlow 48 = .ok (.aload_n 0, 1) := by decide +kernel
theorem dX2_takeFlow_49 : decode cX2_takeFlow 49 = .ok (.bipush 58, 2) := by decide +kernel
theorem dX2_takeFlow_51 : decode cX2_takeFlow 51 = .ok (.invokevirtual 43, 3) := by decide +kernel
theorem dX2_takeFlow_54 : decode cX2_takeFlow 54 = .ok (.ifCond .ne 5, 3) := by decide +kernel
theorem dX2_takeFlow_57 : decode cX2_takeFlow 57 = .ok (.iconst 0, 1) := by decide +kernel
theorem dX2_takeFlow_58 : decode cX2_takeFlow 58 = .ok (.ireturn, 1) := by decide +kernel
theorem dX2_takeFlow_59 : decode cX2_takeFlow 59 = .ok (.aload_n 0, 1) := by decide +kernel
theorem dX2_takeFlow_60 : decode cX2_takeFlow 60 = .ok (.invokevirtual 51, 3) := by decide +kernel
theorem dX2_takeFlow_63 : decode cX2_takeFlow 63 = .ok (.istore 4, 2) := by decide +kernel
theorem dX2_takeFlow_65 : decode cX2_takeFlow 65 = .ok (.iload 4, 2) := by decide +kernel
theorem dX2_takeFlow_67 : decode cX2_takeFlow 67 = .ok (.iconst (-1), 1) := by decide +kernel
theorem dX2_takeFlow_68 : decode cX2_takeFlow 68 = .ok (.if_icmp .ne 5, 3) := by decide +kernel
theorem dX2_takeFlow_71 : decode cX2_takeFlow 71 = .ok (.iconst 0, 1) := by decide +kernel
theorem dX2_takeFlow_72 : decode cX2_takeFlow 72 = .ok (.ireturn, 1) := by decide +kernel
theorem dX2_takeFlow_73 : decode cX2_takeFlow 73 = .ok (.aload_n 0, 1) := by decide +kernel
theorem dX2_takeFlow_74 : decode cX2_takeFlow 74 = .ok (.getfield 18, 3) := by decide +kernel
theorem dX2_takeFlow_77 : decode cX2_takeFlow 77 = .ok (.iload_n 2, 1) := by decide +kernel
theorem dX2_takeFlow_78 : decode cX2_takeFlow 78 = .ok (.iload_n 3, 1) := by decide +kernel
theorem dX2_takeFlow_79 : decode cX2_takeFlow 79 = .ok (.iload 4, 2) := by decide +kernel
theorem dX2_takeFlow_81 : decode cX2_takeFlow 81 = .ok (.invokevirtual 54, 3) := by decide +kernel
theorem dX2_takeFlow_84 : decode cX2_takeFlow 84 = .ok (.iconst 1, 1) := by decide +kernel
theorem dX2_takeFlow_85 : decode cX2_takeFlow 85 = .ok (.ireturn, 1) := by decide +kernel
def rm_X2_takeFlow : Room := { frames := 2, cells := 0, slots := 0, locals := 44 }
section
variable {p : Program} {l : Launch} {e : Env} {s : State} {m : MethodId} {args : Array Value} {below : List Frame} {meth : Method} {c : Code} {Q : State → Prop} {G : va_G} {aC : Nat → ClassId} {t b0 : Nat}
def f_X2_takeFlow (v0 : Nat) (v1 : Int32) (N : AH) : Option (Int32 × AH) := ob (iO N v0 2) (fun _ => ob2 (f_X2_skipBlanks v0 N) (fun _ N1 => ob (hR N1 v0 2 3) (fun x2 => ob (hI N1 x2 1 0) (fun x3 => if x3 < v1 then ob2 (f_X2_takePort v0 N1) (fun x6 N5 => if x6 = (-1 : Int32) then some ((0 : Int32), N5) else ob2 (f_X2_takeSign v0 (62 : Int32) N5) (fun x9 N8 => if ¬ x9 = 0 then ob2 (f_X2_takePort v0 N8) (fun x12 N11 => if x12 = (-1 : Int32) then some ((0 : Int32), N11) else ob2 (f_X2_takeSign v0 (58 : Int32) N11) (fun x15 N14 => if ¬ x15 = 0 then ob2 (f_X2_takeSize v0 N14) (fun x18 N17 => if ¬ x18 = (-1 : Int32) then ob (hR N17 v0 2 3) (fun x20 => ob2 (f_X1_append x20 x6 x12 x18 N17) (fun _ N21 => some ((1 : Int32), N21))) else some ((0 : Int32), N17)) else some ((0 : Int32), N14))) else some ((0 : Int32), N8))) else some ((0 : Int32), N1)))))
set_option maxHeartbeats 4000000 in
set_option maxRecDepth 100000 in
theorem wk_X2_takeFlow {P : Int32 × AH → Prop} (X : CX cX2_takeFlow RX2 5 G aC t b0 p s m args c) (hr : RtZ p l e rm_X2_takeFlow s m args below meth c 0 0 Q cX2_takeFlow G aC b0 P) (v0 : Nat) (v1 : Int32) (N : AH) (H : Heap) (locs : List Loc) (ls : Array Slot) (hR : Rp G aC b0 N H) (hS : va_S (fun q => b0 ≤ q) s.heap H locs) (hl : lv_has ls 5 [(0, .ref v0), (1, .int v1)]) (hp : owp (f_X2_takeFlow v0 v1 N) P) : W p l e rm_X2_takeFlow s m args below meth c H locs 0 0 Q (F0 m 0 ls []) := by
  have hx := X.1.1
  have hb := X.1.2.1
  unfold f_X2_takeFlow at hp
  obtain ⟨_, _, hp⟩ := owp_ob hp
  refine lv_aload_n hx hb dX2_takeFlow_0 rfl (lv_at hl 0 rfl) ?_
  obtain ⟨_, N1, e_N1, hp⟩ := owp_ob2 hp
  refine iv_X2_skipBlanks (rest := []) mw_X2_40 X hR hS e_N1 hl.1 (Nat.le_of_ble_eq_true rfl) ⟨Nat.le_of_ble_eq_true rfl, Nat.le_of_ble_eq_true rfl⟩ ⟨Nat.le_of_ble_eq_true rfl, Nat.le_of_ble_eq_true rfl⟩ dX2_takeFlow_1 (fun H locs hR hS => ?_)
  refine lv_aload_n hx hb dX2_takeFlow_4 rfl (lv_at hl 0 rfl) ?_
  obtain ⟨x2, e_x2, hp⟩ := owp_ob hp
  refine gf_X2_18 X hR e_x2 dX2_takeFlow_5 ?_
  obtain ⟨x3, e_x3, hp⟩ := owp_ob hp
  refine gf_X2_33 X hR e_x3 dX2_takeFlow_8 ?_
  refine lv_iload_n hx hb dX2_takeFlow_11 rfl (lv_at hl 1 rfl) ?_
  refine lv_icmp_lt (tgt := 17) hx hb dX2_takeFlow_12 (by decide) (fun k4 => ?_) (fun k4 => ?_)
  · have hp := owp_t k4 hp
    refine lv_aload_n hx hb dX2_takeFlow_17 rfl (lv_at hl 0 rfl) ?_
    obtain ⟨x6, N5, e_N5, hp⟩ := owp_ob2 hp
    refine iv_X2_takePort (rest := []) mw_X2_47 X hR hS e_N5 hl.1 (Nat.le_of_ble_eq_true rfl) ⟨Nat.le_of_ble_eq_true rfl, Nat.le_of_ble_eq_true rfl⟩ ⟨Nat.le_of_ble_eq_true rfl, Nat.le_of_ble_eq_true rfl⟩ dX2_takeFlow_18 (fun H locs hR hS => ?_)
    refine lv_istore_n (lv' := [(2, .int x6), (0, .ref v0), (1, .int v1)]) hx hb dX2_takeFlow_21 rfl hl (by decide) rfl (fun ls hl => ?_)
    refine lv_iload_n hx hb dX2_takeFlow_22 rfl (lv_at hl 0 rfl) ?_
    refine lv_iconst (v := (-1)) hx hb dX2_takeFlow_23 (by decide) ?_
    refine lv_icmp_eq (tgt := 36) hx hb dX2_takeFlow_24 (by decide) (fun k7 => ?_) (fun k7 => ?_)
    · have hp := owp_t k7 hp
      refine lv_iconst (v := (0)) hx hb dX2_takeFlow_36 (by decide) ?_
      exact hr _ _ _ _ _ _ hR hS dX2_takeFlow_37 (rZ_0 hp)
    · have hp := owp_f k7 hp
      refine lv_aload_n hx hb dX2_takeFlow_27 rfl (lv_at hl 1 rfl) ?_
      refine lv_bipush (v := (62)) hx hb dX2_takeFlow_28 (by decide) ?_
      obtain ⟨x9, N8, e_N8, hp⟩ := owp_ob2 hp
      refine iv_X2_takeSign (rest := []) mw_X2_43 X hR hS e_N8 hl.1 (Nat.le_of_ble_eq_true rfl) ⟨Nat.le_of_ble_eq_true rfl, Nat.le_of_ble_eq_true rfl⟩ ⟨Nat.le_of_ble_eq_true rfl, Nat.le_of_ble_eq_true rfl⟩ dX2_takeFlow_30 (fun H locs hR hS => ?_)
      refine lv_if_ne (tgt := 38) hx hb dX2_takeFlow_33 (by decide) (fun k10 => ?_) (fun k10 => ?_)
      · have hp := owp_t k10 hp
        refine lv_aload_n hx hb dX2_takeFlow_38 rfl (lv_at hl 1 rfl) ?_
        obtain ⟨x12, N11, e_N11, hp⟩ := owp_ob2 hp
        refine iv_X2_takePort (rest := []) mw_X2_47 X hR hS e_N11 hl.1 (Nat.le_of_ble_eq_true rfl) ⟨Nat.le_of_ble_eq_true rfl, Nat.le_of_ble_eq_true rfl⟩ ⟨Nat.le_of_ble_eq_true rfl, Nat.le_of_ble_eq_true rfl⟩ dX2_takeFlow_39 (fun H locs hR hS => ?_)
        refine lv_istore_n (lv' := [(3, .int x12), (2, .int x6), (0, .ref v0), (1, .int v1)]) hx hb dX2_takeFlow_42 rfl hl (by decide) rfl (fun ls hl => ?_)
        refine lv_iload_n hx hb dX2_takeFlow_43 rfl (lv_at hl 0 rfl) ?_
        refine lv_iconst (v := (-1)) hx hb dX2_takeFlow_44 (by decide) ?_
        refine lv_icmp_eq (tgt := 57) hx hb dX2_takeFlow_45 (by decide) (fun k13 => ?_) (fun k13 => ?_)
        · have hp := owp_t k13 hp
          refine lv_iconst (v := (0)) hx hb dX2_takeFlow_57 (by decide) ?_
          exact hr _ _ _ _ _ _ hR hS dX2_takeFlow_58 (rZ_0 hp)
        · have hp := owp_f k13 hp
          refine lv_aload_n hx hb dX2_takeFlow_48 rfl (lv_at hl 2 rfl) ?_
          refine lv_bipush (v := (58)) hx hb dX2_takeFlow_49 (by decide) ?_
          obtain ⟨x15, N14, e_N14, hp⟩ := owp_ob2 hp
          refine iv_X2_takeSign (rest := []) mw_X2_43 X hR hS e_N14 hl.1 (Nat.le_of_ble_eq_true rfl) ⟨Nat.le_of_ble_eq_true rfl, Nat.le_of_ble_eq_true rfl⟩ ⟨Nat.le_of_ble_eq_true rfl, Nat.le_of_ble_eq_true rfl⟩ dX2_takeFlow_51 (fun H locs hR hS => ?_)
          refine lv_if_ne (tgt := 59) hx hb dX2_takeFlow_54 (by decide) (fun k16 => ?_) (fun k16 => ?_)
          · have hp := owp_t k16 hp
            refine lv_aload_n hx hb dX2_takeFlow_59 rfl (lv_at hl 2 rfl) ?_
            obtain ⟨x18, N17, e_N17, hp⟩ := owp_ob2 hp
            refine iv_X2_takeSize (rest := []) mw_X2_51 X hR hS e_N17 hl.1 (Nat.le_of_ble_eq_true rfl) ⟨Nat.le_of_ble_eq_true rfl, Nat.le_of_ble_eq_true rfl⟩ ⟨Nat.le_of_ble_eq_true rfl, Nat.le_of_ble_eq_true rfl⟩ dX2_takeFlow_60 (fun H locs hR hS => ?_)
            refine lv_istore (lv' := [(4, .int x18), (3, .int x12), (2, .int x6), (0, .ref v0), (1, .int v1)]) hx hb dX2_takeFlow_63 hl (by decide) rfl (fun ls hl => ?_)
            refine lv_iload hx hb dX2_takeFlow_65 (lv_at hl 0 rfl) ?_
            refine lv_iconst (v := (-1)) hx hb dX2_takeFlow_67 (by decide) ?_
            refine lv_icmp_ne (tgt := 73) hx hb dX2_takeFlow_68 (by decide) (fun k19 => ?_) (fun k19 => ?_)
            · have hp := owp_t k19 hp
              refine lv_aload_n hx hb dX2_takeFlow_73 rfl (lv_at hl 3 rfl) ?_
              obtain ⟨x20, e_x20, hp⟩ := owp_ob hp
              refine gf_X2_18 X hR e_x20 dX2_takeFlow_74 ?_
              refine lv_iload_n hx hb dX2_takeFlow_77 rfl (lv_at hl 2 rfl) ?_
              refine lv_iload_n hx hb dX2_takeFlow_78 rfl (lv_at hl 1 rfl) ?_
              refine lv_iload hx hb dX2_takeFlow_79 (lv_at hl 0 rfl) ?_
              obtain ⟨_, N21, e_N21, hp⟩ := owp_ob2 hp
              refine iv_X1_append (rest := []) mw_X2_54 X hR hS e_N21 hl.1 (Nat.le_of_ble_eq_true rfl) ⟨Nat.le_of_ble_eq_true rfl, Nat.le_of_ble_eq_true rfl⟩ ⟨Nat.le_of_ble_eq_true rfl, Nat.le_of_ble_eq_true rfl⟩ dX2_takeFlow_81 (fun H locs hR hS => ?_)
              refine lv_iconst (v := (1)) hx hb dX2_takeFlow_84 (by decide) ?_
              exact hr _ _ _ _ _ _ hR hS dX2_takeFlow_85 (rZ_1 hp)
            · have hp := owp_f (fun q => q k19) hp
              refine lv_iconst (v := (0)) hx hb dX2_takeFlow_71 (by decide) ?_
              exact hr _ _ _ _ _ _ hR hS dX2_takeFlow_72 (rZ_0 hp)
          · have hp := owp_f (fun q => q k16) hp
            refine lv_iconst (v := (0)) hx hb dX2_takeFlow_57 (by decide) ?_
            exact hr _ _ _ _ _ _ hR hS dX2_takeFlow_58 (rZ_0 hp)
      · have hp := owp_f (fun q => q k10) hp
        refine lv_iconst (v := (0)) hx hb dX2_takeFlow_36 (by decide) ?_
        exact hr _ _ _ _ _ _ hR hS dX2_takeFlow_37 (rZ_0 hp)
  · have hp := owp_f k4 hp
    refine lv_iconst (v := (0)) hx hb dX2_takeFlow_15 (by decide) ?_
    exact hr _ _ _ _ _ _ hR hS dX2_takeFlow_16 (rZ_0 hp)
end
theorem ct_X2_takeFlow {v0 : Nat} {v1 : Int32} {N N1 : AH} {r : Int32} (h : f_X2_takeFlow v0 v1 N = some (r, N1)) : Ct yX2_takeFlow cX2_takeFlow 5 (some .boolean) rm_X2_takeFlow [.ref v0, .int v1] N (some (.int r)) N1 :=
  ab_met (own := RX2) (by decide +kernel) rfl (Nat.le_of_ble_eq_true rfl) (fun l G aC t b0 p e s m below meth c ls X hr hlk hnm hR hS hl => wk_X2_takeFlow X (RtZ_met X.1.1 X.1.2.1 hr hlk) _ _ _ _ _ _ hR hS hl (owp_of h))
theorem cw_X2_takeFlow : Cond.code yX2_takeFlow cX2_takeFlow 5 (some .boolean) ∈ WT := WT_of 478 (by decide +kernel) (by decide +kernel)
theorem iv_X2_takeFlow {p : Program} {l : Launch} {e : Env} {R : Room} {s : State} {m : MethodId} {args : Array Value} {below : List Frame} {meth : Method} {c : Code} {H : Heap} {locs : List Loc} {cells slots : Nat} {Q : State → Prop} {cc : ByteArray} {own : String} {nL : Nat} {G : va_G} {aC : Nat → ClassId} {t b0 : Nat} {N N1 : AH} {pc index : Nat} {ls : Array Slot} {rest : List Value} {v0 : Nat} {v1 : Int32} {r : Int32} (w1 : Cond.methodLink own index yX2_takeFlow ∈ WT) (X : CX cc own nL G aC t b0 p s m args c) (hR : Rp G aC b0 N H) (hS : va_S (fun q => b0 ≤ q) s.heap H locs) (h : f_X2_takeFlow v0 v1 N = some (r, N1)) (hls : ls.size = nL) (hW : (rest.map fun v => v.category).sum ≤ 8) (hR1 : 3 ≤ R.frames ∧ 68 ≤ R.locals) (hcs : cells + 0 ≤ R.cells ∧ slots + 0 ≤ R.slots) (hdg : decode cc pc = .ok (.invokevirtual index, 3)) (kk : ∀ (H1 : Heap) (locs1 : List Loc), Rp G aC b0 N1 H1 → va_S (fun q => b0 ≤ q) s.heap H1 locs1 → W p l e R s m args below meth c H1 locs1 cells slots Q (F0 m (pc + 3) ls (.int r :: rest))) : W p l e R s m args below meth c H locs cells slots Q (F0 m pc ls (.int v1 :: .ref v0 :: rest)) :=
  ab_callV (n := 1) (As := [.int v1]) X hR hS (ct_X2_takeFlow h) (ob_rc (c := 2) (N := N) (a := v0) h) (T := TX2) (k := 4) (C := RX2) rfl w1 (WT_of 477 (by decide +kernel) (by decide +kernel)) (WT_of 0 (by decide +kernel) (by decide +kernel)) (WT_of 82 (by decide +kernel) (by decide +kernel)) cw_X2_takeFlow ⟨rfl, by decide +kernel, by decide +kernel, by decide +kernel⟩ rfl hls hW hR1 hcs rfl hdg kk
-- X2_findFault
theorem mw_X2_36 : Cond.methodLink RX2 36 yX2_takeFlow ∈ WT := WT_of 475 (by decide +kernel) (by decide +kernel)
theorem pf_X2_33 {p : Program} {l : Launch} {e : Env} {R : Room} {s : State} {m : MethodId} {args : Array Value} {below : List Frame} {meth : Method} {c : Code} {H : Heap} {locs : List Loc} {cells slots : Nat} {Q : State → Prop} {cc : ByteArray} {nL : Nat} {G : va_G} {aC : Nat → ClassId} {t b0 : Nat} {N : AH} {pc : Nat} {ls : Array Slot} {rest : List Value} {N1 : AH} {a : Nat} {v : Int32} (X : CX cc RX2 nL G aC t b0 p s m args c) (hR0 : Rp G aC b0 N H) (hS : va_S (fun q => b0 ≤ q) s.heap H locs) (hv : pI N a 1 0 v = some N1) (hdg : decode cc pc = .ok (.putfield 33, 3)) (kk : ∀ (H1 : Heap) (locs1 : List Loc), Rp G aC b0 N1 H1 → va_S (fun q => b0 ≤ q) s.heap H1 locs1 → W p l e R s m args below meth c H1 locs1 cells slots Q (F0 m (pc + 3) ls rest)) : W p l e R s m args below meth c H locs cells slots Q (F0 m pc ls (.int v :: .ref a :: rest)) := by
  obtain ⟨fs, h1, h2, h3⟩ := pV_ok hv
  subst h3
  exact ab_put (C := RX1) (T := TX1) (n := 6) X hR0 hS h1 h2 rfl inX1 tyX1 tyX1_ok nmX1 (by decide) (WT_of 116 (by decide +kernel) (by decide +kernel)) rfl rfl rfl hdg kk
theorem dX2_findFault_0 : decode cX2_findFault 0 = .ok (.aload_n 0, 1) := by decide +kernel
theorem dX2_findFault_1 : decode cX2_findFault 1 = .ok (.iconst 0, 1) := by decide +kernel
theorem dX2_findFault_2 : decode cX2_findFault 2 = .ok (.putfield 30, 3) := by decide +kernel
theorem dX2_findFault_5 : decode cX2_findFault 5 = .ok (.aload_n 0, 1) := by decide +kernel
theorem dX2_findFault_6 : decode cX2_findFault 6 = .ok (.getfield 18, 3) := by decide +kernel
theorem dX2_findFault_9 : decode cX2_findFault 9 = .ok (.iconst 0, 1) := by decide +kernel
theorem dX2_findFault_10 : decode cX2_findFault 10 = .ok (.putfield 33, 3) := by decide +kernel
theorem dX2_findFault_13 : decode cX2_findFault 13 = .ok (.iconst 1, 1) := by decide +kernel
theorem dX2_findFault_14 : decode cX2_findFault 14 = .ok (.istore_n 2, 1) := by decide +kernel
theorem dX2_findFault_15 : decode cX2_findFault 15 = .ok (.iconst 0, 1) := by decide +kernel
theorem dX2_findFault_16 : decode cX2_findFault 16 = .ok (.istore_n 3, 1) := by decide +kernel
theorem dX2_findFault_17 : decode cX2_findFault 17 = .ok (.iload_n 3, 1) := by decide +kernel
theorem dX2_findFault_18 : decode cX2_findFault 18 = .ok (.bipush 120, 2) := by decide +kernel
theorem dX2_findFault_20 : decode cX2_findFault 20 = .ok (.if_icmp .ge 65, 3) := by decide +kernel
theorem dX2_findFault_23 : decode cX2_findFault 23 = .ok (.iload_n 2, 1) := by decide +kernel
theorem dX2_findFault_24 : decode cX2_findFault 24 = .ok (.ifCond .eq 61, 3) := by decide +kernel
theorem dX2_findFault_27 : decode cX2_findFault 27 = .ok (.aload_n 0, 1) := by decide +kernel
theorem dX2_findFault_28 : decode cX2_findFault 28 = .ok (.iload_n 1, 1) := by decide +kernel
theorem dX2_findFault_29 : decode cX2_findFault 29 = .ok (.invokevirtual 36, 3) := by decide +kernel
theorem dX2_findFault_32 : decode cX2_findFault 32 = .ok (.ifCond .ne 8, 3) := by decide +kernel
theorem dX2_findFault_35 : decode cX2_findFault 35 = .ok (.aload_n 0, 1) := by decide +kernel
theorem dX2_findFault_36 : decode cX2_findFault 36 = .ok (.getfield 30, 3) := by decide +kernel
theorem dX2_findFault_39 : decode cX2_findFault 39 = .ok (.ireturn, 1) := by decide +kernel
theorem dX2_findFault_40 : decode cX2_findFault 40 = .ok (.aload_n 0, 1) := by decide +kernel
theorem dX2_findFault_41 : decode cX2_findFault 41 = .ok (.invokevirtual 40, 3) := by decide +kernel
theorem dX2_findFault_44 : decode cX2_findFault 44 = .ok (.aload_n 0, 1) := by decide +kernel
theorem dX2_findFault_45 : decode cX2_findFault 45 = .ok (.getfield 30, 3) := by decide +kernel
theorem dX2_findFault_48 : decode cX2_findFault 48 = .ok (.aload_n 0, 1) := by decide +kernel
theorem dX2_findFault_49 : decode cX2_findFault 49 = .ok (.getfield 22, 3) := by decide +kernel
theorem dX2_findFault_52 : decode cX2_findFault 52 = .ok (.if_icmp .ge 7, 3) := by decide +kernel
theorem dX2_findFault_55 : decode cX2_findFault 55 = .ok (.iconst 1, 1) := by decide +kernel
theorem dX2_findFault_56 : decode cX2_findFault 56 = .ok (.goto 4, 3) := by decide +kernel
theorem dX2_findFault_59 : decode cX2_findFault 59 = .ok (.iconst 0, 1) := by decide +kernel
theorem dX2_findFault_60 : decode cX2_findFault 60 = .ok (.istore_n 2, 1) := by decide +kernel
theorem dX2_findFault_61 : decode cX2_findFault 61 = .ok (.iload_n 2, 1) := by decide +kernel
theorem dX2_findFault_62 : decode cX2_findFault 62 = .ok (.ifCond .eq 17, 3) := by decide +kernel
theorem dX2_findFault_65 : decode cX2_findFault 65 = .ok (.aload_n 0, 1) := by decide +kernel
theorem dX2_findFault_66 : decode cX2_findFault 66 = .ok (.bipush 44, 2) := by decide +kernel
theorem dX2_findFault_68 : decode cX2_findFault 68 = .ok (.invokevirtual 43, 3) := by decide +kernel
theorem dX2_findFault_71 : decode cX2_findFault 71 = .ok (.ifCond .ne 8, 3) := by decide +kernel
theorem dX2_findFault_74 : decode cX2_findFault 74 = .ok (.aload_n 0, 1) := by decide +kernel
theorem dX2_findFault_75 : decode cX2_findFault 75 = .ok (.getfield 30, 3) := by decide +kernel
theorem dX2_findFault_78 : decode cX2_findFault 78 = .ok (.ireturn, 1) := by decide +kernel
theorem dX2_findFault_79 : decode cX2_findFault 79 = .ok (.iinc 3 1, 3) := by decide +kernel
theorem dX2_findFault_82 : decode cX2_findFault 82 = .ok (.goto (-65), 3) := by decide +kernel
theorem dX2_findFault_85 : decode cX2_findFault 85 = .ok (.iconst (-1), 1) := by decide +kernel
theorem dX2_findFault_86 : decode cX2_findFault 86 = .ok (.ireturn, 1) := by decide +kernel
def rm_X2_findFault : Room := { frames := 3, cells := 0, slots := 0, locals := 68 }
section
variable {p : Program} {l : Launch} {e : Env} {s : State} {m : MethodId} {args : Array Value} {below : List Frame} {meth : Method} {c : Code} {Q : State → Prop} {G : va_G} {aC : Nat → ClassId} {t b0 : Nat}
def f_X2_findFault_J60 (k17 : Int32 → Int32 → AH → Option (Int32 × AH)) (k74 : AH → Option (Int32 × AH)) (v0 : Nat) (v1 : Int32) (v3 : Int32) (w0 : Int32) (N : AH) : Option (Int32 × AH) := if w0 = 0 then k17 w0 (v3 + 1) N else ob2 (f_X2_takeSign v0 (44 : Int32) N) (fun x15 N14 => if ¬ x15 = 0 then k17 w0 (v3 + 1) N14 else k74 N14)
set_option maxHeartbeats 4000000 in
set_option maxRecDepth 100000 in
theorem w_X2_findFault_J60 {P : Int32 × AH → Prop} (X : CX cX2_findFault RX2 4 G aC t b0 p s m args c) (hr : RtI p l e rm_X2_findFault s m args below meth c 0 0 Q cX2_findFault G aC b0 P) (v0 : Nat) (v1 : Int32) (v3 : Int32) (w0 : Int32) {k17 : Int32 → Int32 → AH → Option (Int32 × AH)} {k74 : AH → Option (Int32 × AH)}
    (hk17 : ∀ (v2 : Int32) (v3 : Int32) (N : AH) (H : Heap) (locs : List Loc) (ls : Array Slot), Rp G aC b0 N H → va_S (fun q => b0 ≤ q) s.heap H locs → lv_has ls 4 [(0, .ref v0), (1, .int v1), (2, .int v2), (3, .int v3)] → owp (k17 v2 v3 N) P → W p l e rm_X2_findFault s m args below meth c H locs 0 0 Q (F0 m 17 ls []))
    (hk74 : ∀ (N : AH) (H : Heap) (locs : List Loc) (ls : Array Slot), Rp G aC b0 N H → va_S (fun q => b0 ≤ q) s.heap H locs → lv_has ls 4 [(0, .ref v0)] → owp (k74 N) P → W p l e rm_X2_findFault s m args below meth c H locs 0 0 Q (F0 m 74 ls [])) (N : AH) (H : Heap) (locs : List Loc) (ls : Array Slot) (hR : Rp G aC b0 N H) (hS : va_S (fun q => b0 ≤ q) s.heap H locs) (hl : lv_has ls 4 [(0, .ref v0), (1, .int v1), (3, .int v3)]) (hp : owp (f_X2_findFault_J60 k17 k74 v0 v1 v3 w0 N) P) : W p l e rm_X2_findFault s m args below meth c H locs 0 0 Q (F0 m 60 ls [.int w0]) := by
  have hx := X.1.1
  have hb := X.1.2.1
  unfold f_X2_findFault_J60 at hp
  refine lv_istore_n (lv' := [(2, .int w0), (0, .ref v0), (1, .int v1), (3, .int v3)]) hx hb dX2_findFault_60 rfl hl (by decide) rfl (fun ls hl => ?_)
  refine lv_iload_n hx hb dX2_findFault_61 rfl (lv_at hl 0 rfl) ?_
  refine lv_if_eq (tgt := 79) hx hb dX2_findFault_62 (by decide) (fun k13 => ?_) (fun k13 => ?_)
  · have hp := owp_t k13 hp
    refine lv_iinc (v := v3 + 1) (lv' := [(3, .int (v3 + 1)), (2, .int w0), (0, .ref v0), (1, .int v1)]) hx hb dX2_findFault_79 hl (k := 3) rfl rfl (by decide) rfl (fun ls hl => ?_)
    refine lv_goto (tgt := 17) hx hb dX2_findFault_82 (by decide) ?_
    exact hk17 _ _ _ _ _ _ hR hS (lv_sub hl [2, 3, 1, 0] rfl) hp
  · have hp := owp_f k13 hp
    refine lv_aload_n hx hb dX2_findFault_65 rfl (lv_at hl 1 rfl) ?_
    refine lv_bipush (v := (44)) hx hb dX2_findFault_66 (by decide) ?_
    obtain ⟨x15, N14, e_N14, hp⟩ := owp_ob2 hp
    refine iv_X2_takeSign (rest := []) mw_X2_43 X hR hS e_N14 hl.1 (Nat.le_of_ble_eq_true rfl) ⟨Nat.le_of_ble_eq_true rfl, Nat.le_of_ble_eq_true rfl⟩ ⟨Nat.le_of_ble_eq_true rfl, Nat.le_of_ble_eq_true rfl⟩ dX2_findFault_68 (fun H locs hR hS => ?_)
    refine lv_if_ne (tgt := 79) hx hb dX2_findFault_71 (by decide) (fun k16 => ?_) (fun k16 => ?_)
    · have hp := owp_t k16 hp
      refine lv_iinc (v := v3 + 1) (lv' := [(3, .int (v3 + 1)), (2, .int w0), (0, .ref v0), (1, .int v1)]) hx hb dX2_findFault_79 hl (k := 3) rfl rfl (by decide) rfl (fun ls hl => ?_)
      refine lv_goto (tgt := 17) hx hb dX2_findFault_82 (by decide) ?_
      exact hk17 _ _ _ _ _ _ hR hS (lv_sub hl [2, 3, 1, 0] rfl) hp
    · have hp := owp_f (fun q => q k16) hp
      exact hk74 _ _ _ _ hR hS (lv_sub hl [1] rfl) hp
def f_X2_findFault_L17 (v0 : Nat) (v1 : Int32) (k35 : AH → Option (Int32 × AH)) (k74 : AH → Option (Int32 × AH)) (k85 : AH → Option (Int32 × AH)) : Nat → Int32 → Int32 → AH → Option (Int32 × AH)
  | 0, _, _, _ => none
  | n + 1, v2, v3, N => if (120 : Int32) ≤ v3 then k85 N else if v2 = 0 then k85 N else ob2 (f_X2_takeFlow v0 v1 N) (fun x7 N6 => if ¬ x7 = 0 then ob2 (f_X2_skipBlanks v0 N6) (fun _ N9 => ob (hI N9 v0 2 1) (fun x10 => ob (hI N9 v0 2 0) (fun x11 => if x11 ≤ x10 then f_X2_findFault_J60 (f_X2_findFault_L17 v0 v1 k35 k74 k85 n) k74 v0 v1 v3 (0 : Int32) N9 else f_X2_findFault_J60 (f_X2_findFault_L17 v0 v1 k35 k74 k85 n) k74 v0 v1 v3 (1 : Int32) N9))) else k35 N6)
set_option maxHeartbeats 4000000 in
set_option maxRecDepth 100000 in
theorem w_X2_findFault_L17 {P : Int32 × AH → Prop} (X : CX cX2_findFault RX2 4 G aC t b0 p s m args c) (hr : RtI p l e rm_X2_findFault s m args below meth c 0 0 Q cX2_findFault G aC b0 P) (v0 : Nat) (v1 : Int32) {k35 : AH → Option (Int32 × AH)} {k74 : AH → Option (Int32 × AH)} {k85 : AH → Option (Int32 × AH)}
    (hk35 : ∀ (N : AH) (H : Heap) (locs : List Loc) (ls : Array Slot), Rp G aC b0 N H → va_S (fun q => b0 ≤ q) s.heap H locs → lv_has ls 4 [(0, .ref v0)] → owp (k35 N) P → W p l e rm_X2_findFault s m args below meth c H locs 0 0 Q (F0 m 35 ls []))
    (hk74 : ∀ (N : AH) (H : Heap) (locs : List Loc) (ls : Array Slot), Rp G aC b0 N H → va_S (fun q => b0 ≤ q) s.heap H locs → lv_has ls 4 [(0, .ref v0)] → owp (k74 N) P → W p l e rm_X2_findFault s m args below meth c H locs 0 0 Q (F0 m 74 ls []))
    (hk85 : ∀ (N : AH) (H : Heap) (locs : List Loc) (ls : Array Slot), Rp G aC b0 N H → va_S (fun q => b0 ≤ q) s.heap H locs → lv_has ls 4 [] → owp (k85 N) P → W p l e rm_X2_findFault s m args below meth c H locs 0 0 Q (F0 m 85 ls [])) :
    ∀ (n : Nat) (v2 : Int32) (v3 : Int32) (N : AH) (H : Heap) (locs : List Loc) (ls : Array Slot), Rp G aC b0 N H → va_S (fun q => b0 ≤ q) s.heap H locs → lv_has ls 4 [(0, .ref v0), (1, .int v1), (2, .int v2), (3, .int v3)] → owp (f_X2_findFault_L17 v0 v1 k35 k74 k85 n v2 v3 N) P → W p l e rm_X2_findFault s m args below meth c H locs 0 0 Q (F0 m 17 ls []) := by
  have hx := X.1.1
  have hb := X.1.2.1
  intro n
  induction n with
  | zero =>
    intro v2 v3 N H locs ls hR hS hl hp
    exact (show False from hp).elim
  | succ n ih =>
    intro v2 v3 N H locs ls hR hS hl hp
    rw [f_X2_findFault_L17] at hp
    refine lv_iload_n hx hb dX2_findFault_17 rfl (lv_at hl 3 rfl) ?_
    refine lv_bipush (v := (120)) hx hb dX2_findFault_18 (by decide) ?_
    refine lv_icmp_ge (tgt := 85) hx hb dX2_findFault_20 (by decide) (fun k4 => ?_) (fun k4 => ?_)
    · have hp := owp_t k4 hp
      exact hk85 _ _ _ _ hR hS (lv_sub hl [] rfl) hp
    · have hp := owp_f k4 hp
      refine lv_iload_n hx hb dX2_findFault_23 rfl (lv_at hl 2 rfl) ?_
      refine lv_if_eq (tgt := 85) hx hb dX2_findFault_24 (by decide) (fun k5 => ?_) (fun k5 => ?_)
      · have hp := owp_t k5 hp
        exact hk85 _ _ _ _ hR hS (lv_sub hl [] rfl) hp
      · have hp := owp_f k5 hp
        refine lv_aload_n hx hb dX2_findFault_27 rfl (lv_at hl 0 rfl) ?_
        refine lv_iload_n hx hb dX2_findFault_28 rfl (lv_at hl 1 rfl) ?_
        obtain ⟨x7, N6, e_N6, hp⟩ := owp_ob2 hp
        refine iv_X2_takeFlow (rest := []) mw_X2_36 X hR hS e_N6 hl.1 (Nat.le_of_ble_eq_true rfl) ⟨Nat.le_of_ble_eq_true rfl, Nat.le_of_ble_eq_true rfl⟩ ⟨Nat.le_of_ble_eq_true rfl, Nat.le_of_ble_eq_true rfl⟩ dX2_findFault_29 (fun H locs hR hS => ?_)
        refine lv_if_ne (tgt := 40) hx hb dX2_findFault_32 (by decide) (fun k8 => ?_) (fun k8 => ?_)
        · have hp := owp_t k8 hp
          refine lv_aload_n hx hb dX2_findFault_40 rfl (lv_at hl 0 rfl) ?_
          obtain ⟨_, N9, e_N9, hp⟩ := owp_ob2 hp
          refine iv_X2_skipBlanks (rest := []) mw_X2_40 X hR hS e_N9 hl.1 (Nat.le_of_ble_eq_true rfl) ⟨Nat.le_of_ble_eq_true rfl, Nat.le_of_ble_eq_true rfl⟩ ⟨Nat.le_of_ble_eq_true rfl, Nat.le_of_ble_eq_true rfl⟩ dX2_findFault_41 (fun H locs hR hS => ?_)
          refine lv_aload_n hx hb dX2_findFault_44 rfl (lv_at hl 0 rfl) ?_
          obtain ⟨x10, e_x10, hp⟩ := owp_ob hp
          refine gf_X2_30 X hR e_x10 dX2_findFault_45 ?_
          refine lv_aload_n hx hb dX2_findFault_48 rfl (lv_at hl 0 rfl) ?_
          obtain ⟨x11, e_x11, hp⟩ := owp_ob hp
          refine gf_X2_22 X hR e_x11 dX2_findFault_49 ?_
          refine lv_icmp_ge (tgt := 59) hx hb dX2_findFault_52 (by decide) (fun k12 => ?_) (fun k12 => ?_)
          · have hp := owp_t k12 hp
            refine lv_iconst (v := (0)) hx hb dX2_findFault_59 (by decide) ?_
            exact w_X2_findFault_J60 X hr _ _ _ _ ih hk74 _ _ _ _ hR hS (lv_sub hl [0, 1, 3] rfl) hp
          · have hp := owp_f k12 hp
            refine lv_iconst (v := (1)) hx hb dX2_findFault_55 (by decide) ?_
            refine lv_goto (tgt := 60) hx hb dX2_findFault_56 (by decide) ?_
            exact w_X2_findFault_J60 X hr _ _ _ _ ih hk74 _ _ _ _ hR hS (lv_sub hl [0, 1, 3] rfl) hp
        · have hp := owp_f (fun q => q k8) hp
          exact hk35 _ _ _ _ hR hS (lv_sub hl [0] rfl) hp
def f_X2_findFault (v0 : Nat) (v1 : Int32) (N : AH) : Option (Int32 × AH) := ob (iO N v0 2) (fun _ => ob (pI N v0 2 1 (0 : Int32)) (fun N1 => ob (hR N1 v0 2 3) (fun x2 => ob (pI N1 x2 1 0 (0 : Int32)) (fun N3 => f_X2_findFault_L17 v0 v1 (fun N17 => ob (hI N17 v0 2 1) (fun x18 => some (x18, N17))) (fun N19 => ob (hI N19 v0 2 1) (fun x20 => some (x20, N19))) (fun N21 => some ((-1 : Int32), N21)) FU (1 : Int32) (0 : Int32) N3))))
set_option maxHeartbeats 4000000 in
set_option maxRecDepth 100000 in
theorem wk_X2_findFault {P : Int32 × AH → Prop} (X : CX cX2_findFault RX2 4 G aC t b0 p s m args c) (hr : RtI p l e rm_X2_findFault s m args below meth c 0 0 Q cX2_findFault G aC b0 P) (v0 : Nat) (v1 : Int32) (N : AH) (H : Heap) (locs : List Loc) (ls : Array Slot) (hR : Rp G aC b0 N H) (hS : va_S (fun q => b0 ≤ q) s.heap H locs) (hl : lv_has ls 4 [(0, .ref v0), (1, .int v1)]) (hp : owp (f_X2_findFault v0 v1 N) P) : W p l e rm_X2_findFault s m args below meth c H locs 0 0 Q (F0 m 0 ls []) := by
  have hx := X.1.1
  have hb := X.1.2.1
  unfold f_X2_findFault at hp
  obtain ⟨_, _, hp⟩ := owp_ob hp
  refine lv_aload_n hx hb dX2_findFault_0 rfl (lv_at hl 0 rfl) ?_
  refine lv_iconst (v := (0)) hx hb dX2_findFault_1 (by decide) ?_
  obtain ⟨N1, e_N1, hp⟩ := owp_ob hp
  refine pf_X2_30 X hR hS e_N1 dX2_findFault_2 (fun H locs hR hS => ?_)
  refine lv_aload_n hx hb dX2_findFault_5 rfl (lv_at hl 0 rfl) ?_
  obtain ⟨x2, e_x2, hp⟩ := owp_ob hp
  refine gf_X2_18 X hR e_x2 dX2_findFault_6 ?_
  refine lv_iconst (v := (0)) hx hb dX2_findFault_9 (by decide) ?_
  obtain ⟨N3, e_N3, hp⟩ := owp_ob hp
  refine pf_X2_33 X hR hS e_N3 dX2_findFault_10 (fun H locs hR hS => ?_)
  refine lv_iconst (v := (1)) hx hb dX2_findFault_13 (by decide) ?_
  refine lv_istore_n (lv' := [(2, .int (1 : Int32)), (0, .ref v0), (1, .int v1)]) hx hb dX2_findFault_14 rfl hl (by decide) rfl (fun ls hl => ?_)
  refine lv_iconst (v := (0)) hx hb dX2_findFault_15 (by decide) ?_
  refine lv_istore_n (lv' := [(3, .int (0 : Int32)), (2, .int (1 : Int32)), (0, .ref v0), (1, .int v1)]) hx hb dX2_findFault_16 rfl hl (by decide) rfl (fun ls hl => ?_)
  refine w_X2_findFault_L17 X hr _ _ (fun N17 H locs ls hR hS hl hp => ?_) (fun N19 H locs ls hR hS hl hp => ?_) (fun N21 H locs ls hR hS hl hp => ?_) _ _ _ _ _ _ _ hR hS (lv_sub hl [2, 3, 1, 0] rfl) hp
  · refine lv_aload_n hx hb dX2_findFault_35 rfl (lv_at hl 0 rfl) ?_
    obtain ⟨x18, e_x18, hp⟩ := owp_ob hp
    refine gf_X2_30 X hR e_x18 dX2_findFault_36 ?_
    exact hr _ _ _ _ _ _ hR hS dX2_findFault_39 hp
  · refine lv_aload_n hx hb dX2_findFault_74 rfl (lv_at hl 0 rfl) ?_
    obtain ⟨x20, e_x20, hp⟩ := owp_ob hp
    refine gf_X2_30 X hR e_x20 dX2_findFault_75 ?_
    exact hr _ _ _ _ _ _ hR hS dX2_findFault_78 hp
  · refine lv_iconst (v := (-1)) hx hb dX2_findFault_85 (by decide) ?_
    exact hr _ _ _ _ _ _ hR hS dX2_findFault_86 hp
end
theorem ct_X2_findFault {v0 : Nat} {v1 : Int32} {N N1 : AH} {r : Int32} (h : f_X2_findFault v0 v1 N = some (r, N1)) : Ct yX2_findFault cX2_findFault 4 (some .int) rm_X2_findFault [.ref v0, .int v1] N (some (.int r)) N1 :=
  ab_met (own := RX2) (by decide +kernel) rfl (Nat.le_of_ble_eq_true rfl) (fun l G aC t b0 p e s m below meth c ls X hr hlk hnm hR hS hl => wk_X2_findFault X (RtI_met X.1.1 X.1.2.1 hr hlk) _ _ _ _ _ _ hR hS hl (owp_of h))
theorem cw_X2_findFault : Cond.code yX2_findFault cX2_findFault 4 (some .int) ∈ WT := WT_of 474 (by decide +kernel) (by decide +kernel)
theorem iv_X2_findFault {p : Program} {l : Launch} {e : Env} {R : Room} {s : State} {m : MethodId} {args : Array Value} {below : List Frame} {meth : Method} {c : Code} {H : Heap} {locs : List Loc} {cells slots : Nat} {Q : State → Prop} {cc : ByteArray} {own : String} {nL : Nat} {G : va_G} {aC : Nat → ClassId} {t b0 : Nat} {N N1 : AH} {pc index : Nat} {ls : Array Slot} {rest : List Value} {v0 : Nat} {v1 : Int32} {r : Int32} (w1 : Cond.methodLink own index yX2_findFault ∈ WT) (X : CX cc own nL G aC t b0 p s m args c) (hR : Rp G aC b0 N H) (hS : va_S (fun q => b0 ≤ q) s.heap H locs) (h : f_X2_findFault v0 v1 N = some (r, N1)) (hls : ls.size = nL) (hW : (rest.map fun v => v.category).sum ≤ 8) (hR1 : 4 ≤ R.frames ∧ 91 ≤ R.locals) (hcs : cells + 0 ≤ R.cells ∧ slots + 0 ≤ R.slots) (hdg : decode cc pc = .ok (.invokevirtual index, 3)) (kk : ∀ (H1 : Heap) (locs1 : List Loc), Rp G aC b0 N1 H1 → va_S (fun q => b0 ≤ q) s.heap H1 locs1 → W p l e R s m args below meth c H1 locs1 cells slots Q (F0 m (pc + 3) ls (.int r :: rest))) : W p l e R s m args below meth c H locs cells slots Q (F0 m pc ls (.int v1 :: .ref v0 :: rest)) :=
  ab_callV (n := 1) (As := [.int v1]) X hR hS (ct_X2_findFault h) (ob_rc (c := 2) (N := N) (a := v0) h) (T := TX2) (k := 4) (C := RX2) rfl w1 (WT_of 472 (by decide +kernel) (by decide +kernel)) (WT_of 473 (by decide +kernel) (by decide +kernel)) (WT_of 82 (by decide +kernel) (by decide +kernel)) cw_X2_findFault ⟨rfl, by decide +kernel, by decide +kernel, by decide +kernel⟩ rfl hls hW hR1 hcs rfl hdg kk
-- J7_fill_53178
theorem dJ7_fill_53178_0 : decode cJ7_fill_53178 0 = .ok (.iconst 0, 1) := by decide +kernel
theorem dJ7_fill_53178_1 : decode cJ7_fill_53178 1 = .ok (.istore_n 2, 1) := by decide +kernel
theorem dJ7_fill_53178_2 : decode cJ7_fill_53178 2 = .ok (.aload_n 0, 1) := by decide +kernel
theorem dJ7_fill_53178_3 : decode cJ7_fill_53178 3 = .ok (.arraylength, 1) := by decide +kernel
theorem dJ7_fill_53178_4 : decode cJ7_fill_53178 4 = .ok (.istore_n 3, 1) := by decide +kernel
theorem dJ7_fill_53178_5 : decode cJ7_fill_53178 5 = .ok (.iload_n 2, 1) := by decide +kernel
theorem dJ7_fill_53178_6 : decode cJ7_fill_53178 6 = .ok (.iload_n 3, 1) := by decide +kernel
theorem dJ7_fill_53178_7 : decode cJ7_fill_53178 7 = .ok (.if_icmp .ge 13, 3) := by decide +kernel
theorem dJ7_fill_53178_10 : decode cJ7_fill_53178 10 = .ok (.aload_n 0, 1) := by decide +kernel
theorem dJ7_fill_53178_11 : decode cJ7_fill_53178 11 = .ok (.iload_n 2, 1) := by decide +kernel
theorem dJ7_fill_53178_12 : decode cJ7_fill_53178 12 = .ok (.iload_n 1, 1) := by decide +kernel
theorem dJ7_fill_53178_13 : decode cJ7_fill_53178 13 = .ok (.iastore, 1) := by decide +kernel
theorem dJ7_fill_53178_14 : decode cJ7_fill_53178 14 = .ok (.iinc 2 1, 3) := by decide +kernel
theorem dJ7_fill_53178_17 : decode cJ7_fill_53178 17 = .ok (.goto (-12), 3) := by decide +kernel
theorem dJ7_fill_53178_20 : decode cJ7_fill_53178 20 = .ok (.return_, 1) := by decide +kernel
def rm_J7_fill_53178 : Room := { frames := 0, cells := 0, slots := 0, locals := 0 }
section
variable {p : Program} {l : Launch} {e : Env} {s : State} {m : MethodId} {args : Array Value} {below : List Frame} {meth : Method} {c : Code} {Q : State → Prop} {G : va_G} {aC : Nat → ClassId} {t b0 : Nat}
def f_J7_fill_53178_L5 (v0 : Nat) (v1 : Int32) (v3 : Int32) (k20 : AH → Option (Unit × AH)) : Nat → Int32 → AH → Option (Unit × AH)
  | 0, _, _ => none
  | n + 1, v2, N => if v3 ≤ v2 then k20 N else ob (sI N v0 v2 v1) (fun N3 => f_J7_fill_53178_L5 v0 v1 v3 k20 n (v2 + 1) N3)
set_option maxHeartbeats 4000000 in
set_option maxRecDepth 100000 in
theorem w_J7_fill_53178_L5 {P : Unit × AH → Prop} (X : CX cJ7_fill_53178 RJ7 4 G aC t b0 p s m args c) (hr : RtV p l e rm_J7_fill_53178 s m args below meth c 0 0 Q cJ7_fill_53178 G aC b0 P) (v0 : Nat) (v1 : Int32) (v3 : Int32) {k20 : AH → Option (Unit × AH)}
    (hk20 : ∀ (N : AH) (H : Heap) (locs : List Loc) (ls : Array Slot), Rp G aC b0 N H → va_S (fun q => b0 ≤ q) s.heap H locs → lv_has ls 4 [] → owp (k20 N) P → W p l e rm_J7_fill_53178 s m args below meth c H locs 0 0 Q (F0 m 20 ls [])) :
    ∀ (n : Nat) (v2 : Int32) (N : AH) (H : Heap) (locs : List Loc) (ls : Array Slot), Rp G aC b0 N H → va_S (fun q => b0 ≤ q) s.heap H locs → lv_has ls 4 [(0, .ref v0), (1, .int v1), (2, .int v2), (3, .int v3)] → owp (f_J7_fill_53178_L5 v0 v1 v3 k20 n v2 N) P → W p l e rm_J7_fill_53178 s m args below meth c H locs 0 0 Q (F0 m 5 ls []) := by
  have hx := X.1.1
  have hb := X.1.2.1
  intro n
  induction n with
  | zero =>
    intro v2 N H locs ls hR hS hl hp
    exact (show False from hp).elim
  | succ n ih =>
    intro v2 N H locs ls hR hS hl hp
    rw [f_J7_fill_53178_L5] at hp
    refine lv_iload_n hx hb dJ7_fill_53178_5 rfl (lv_at hl 2 rfl) ?_
    refine lv_iload_n hx hb dJ7_fill_53178_6 rfl (lv_at hl 3 rfl) ?_
    refine lv_icmp_ge (tgt := 20) hx hb dJ7_fill_53178_7 (by decide) (fun k2 => ?_) (fun k2 => ?_)
    · have hp := owp_t k2 hp
      exact hk20 _ _ _ _ hR hS (lv_sub hl [] rfl) hp
    · have hp := owp_f k2 hp
      refine lv_aload_n hx hb dJ7_fill_53178_10 rfl (lv_at hl 0 rfl) ?_
      refine lv_iload_n hx hb dJ7_fill_53178_11 rfl (lv_at hl 2 rfl) ?_
      refine lv_iload_n hx hb dJ7_fill_53178_12 rfl (lv_at hl 1 rfl) ?_
      obtain ⟨N3, e_N3, hp⟩ := owp_ob hp
      refine ab_iast X hR hS e_N3 dJ7_fill_53178_13 (fun H locs hR hS => ?_)
      refine lv_iinc (v := v2 + 1) (lv' := [(2, .int (v2 + 1)), (0, .ref v0), (1, .int v1), (3, .int v3)]) hx hb dJ7_fill_53178_14 hl (k := 2) rfl rfl (by decide) rfl (fun ls hl => ?_)
      refine lv_goto (tgt := 5) hx hb dJ7_fill_53178_17 (by decide) ?_
      exact ih _ _ _ _ _ hR hS (lv_sub hl [1, 2, 0, 3] rfl) hp
def f_J7_fill_53178 (v0 : Nat) (v1 : Int32) (N : AH) : Option (Unit × AH) := ob (aL N v0) (fun x1 => f_J7_fill_53178_L5 v0 v1 x1 (fun N4 => some ((), N4)) FU (0 : Int32) N)
set_option maxHeartbeats 4000000 in
set_option maxRecDepth 100000 in
theorem wk_J7_fill_53178 {P : Unit × AH → Prop} (X : CX cJ7_fill_53178 RJ7 4 G aC t b0 p s m args c) (hr : RtV p l e rm_J7_fill_53178 s m args below meth c 0 0 Q cJ7_fill_53178 G aC b0 P) (v0 : Nat) (v1 : Int32) (N : AH) (H : Heap) (locs : List Loc) (ls : Array Slot) (hR : Rp G aC b0 N H) (hS : va_S (fun q => b0 ≤ q) s.heap H locs) (hl : lv_has ls 4 [(0, .ref v0), (1, .int v1)]) (hp : owp (f_J7_fill_53178 v0 v1 N) P) : W p l e rm_J7_fill_53178 s m args below meth c H locs 0 0 Q (F0 m 0 ls []) := by
  have hx := X.1.1
  have hb := X.1.2.1
  unfold f_J7_fill_53178 at hp
  refine lv_iconst (v := (0)) hx hb dJ7_fill_53178_0 (by decide) ?_
  refine lv_istore_n (lv' := [(2, .int (0 : Int32)), (0, .ref v0), (1, .int v1)]) hx hb dJ7_fill_53178_1 rfl hl (by decide) rfl (fun ls hl => ?_)
  refine lv_aload_n hx hb dJ7_fill_53178_2 rfl (lv_at hl 1 rfl) ?_
  obtain ⟨x1, e_x1, hp⟩ := owp_ob hp
  refine ab_alen X hR e_x1 dJ7_fill_53178_3 ?_
  refine lv_istore_n (lv' := [(3, .int x1), (2, .int (0 : Int32)), (0, .ref v0), (1, .int v1)]) hx hb dJ7_fill_53178_4 rfl hl (by decide) rfl (fun ls hl => ?_)
  refine w_J7_fill_53178_L5 X hr _ _ _ (fun N4 H locs ls hR hS hl hp => ?_) _ _ _ _ _ _ hR hS (lv_sub hl [2, 3, 1, 0] rfl) hp
  exact hr _ _ _ _ _ hR hS dJ7_fill_53178_20 hp
end
theorem ct_J7_fill_53178 {v0 : Nat} {v1 : Int32} {N N1 : AH} {r : Unit} (h : f_J7_fill_53178 v0 v1 N = some (r, N1)) : Ct yJ7_fill_53178 cJ7_fill_53178 4 none rm_J7_fill_53178 [.ref v0, .int v1] N none N1 :=
  ab_met (own := RJ7) (by decide +kernel) rfl (Nat.le_of_ble_eq_true rfl) (fun l G aC t b0 p e s m below meth c ls X hr hlk hnm hR hS hl => wk_J7_fill_53178 X (RtV_met X.1.1 X.1.2.1 hr hlk) _ _ _ _ _ _ hR hS hl (owp_of h))
theorem cw_J7_fill_53178 : Cond.code yJ7_fill_53178 cJ7_fill_53178 4 none ∈ WT := WT_of 176 (by decide +kernel) (by decide +kernel)
theorem iv_J7_fill_53178 {p : Program} {l : Launch} {e : Env} {R : Room} {s : State} {m : MethodId} {args : Array Value} {below : List Frame} {meth : Method} {c : Code} {H : Heap} {locs : List Loc} {cells slots : Nat} {Q : State → Prop} {cc : ByteArray} {own : String} {nL : Nat} {G : va_G} {aC : Nat → ClassId} {t b0 : Nat} {N N1 : AH} {pc index : Nat} {ls : Array Slot} {rest : List Value} {v0 : Nat} {v1 : Int32} {r : Unit} (w1 : Cond.methodLink own index yJ7_fill_53178 ∈ WT) (X : CX cc own nL G aC t b0 p s m args c) (hR : Rp G aC b0 N H) (hS : va_S (fun q => b0 ≤ q) s.heap H locs) (h : f_J7_fill_53178 v0 v1 N = some (r, N1)) (hls : ls.size = nL) (hW : (rest.map fun v => v.category).sum ≤ 8) (hR1 : 1 ≤ R.frames ∧ 23 ≤ R.locals) (hcs : cells + 0 ≤ R.cells ∧ slots + 0 ≤ R.slots) (hdg : decode cc pc = .ok (.invokestatic index, 3)) (kk : ∀ (H1 : Heap) (locs1 : List Loc), Rp G aC b0 N1 H1 → va_S (fun q => b0 ≤ q) s.heap H1 locs1 → W p l e R s m args below meth c H1 locs1 cells slots Q (F0 m (pc + 3) ls rest)) : W p l e R s m args below meth c H locs cells slots Q (F0 m pc ls (.int v1 :: .ref v0 :: rest)) :=
  ab_callS (n := 2) (As := [.ref v0, .int v1]) X hR hS (ct_J7_fill_53178 h) w1 (WT_of 175 (by decide +kernel) (by decide +kernel)) (WT_of 85 (by decide +kernel) (by decide +kernel)) cw_J7_fill_53178 ⟨by decide +kernel, by decide +kernel, by decide +kernel⟩ rfl hls hW hR1 hcs rfl hdg kk
-- X4_init
theorem mw_X4_11 : Cond.methodLink RX4 11 yX1_init ∈ WT := WT_of 187 (by decide +kernel) (by decide +kernel)
theorem pf_X4_12 {p : Program} {l : Launch} {e : Env} {R : Room} {s : State} {m : MethodId} {args : Array Value} {below : List Frame} {meth : Method} {c : Code} {H : Heap} {locs : List Loc} {cells slots : Nat} {Q : State → Prop} {cc : ByteArray} {nL : Nat} {G : va_G} {aC : Nat → ClassId} {t b0 : Nat} {N : AH} {pc : Nat} {ls : Array Slot} {rest : List Value} {N1 : AH} {a : Nat} {v : Nat} (X : CX cc RX4 nL G aC t b0 p s m args c) (hR0 : Rp G aC b0 N H) (hS : va_S (fun q => b0 ≤ q) s.heap H locs) (hmn : meth.name = "<init>") (hv : pR N a 4 5 v = some N1) (hdg : decode cc pc = .ok (.putfield 12, 3)) (kk : ∀ (H1 : Heap) (locs1 : List Loc), Rp G aC b0 N1 H1 → va_S (fun q => b0 ≤ q) s.heap H1 locs1 → W p l e R s m args below meth c H1 locs1 cells slots Q (F0 m (pc + 3) ls rest)) : W p l e R s m args below meth c H locs cells slots Q (F0 m pc ls (.ref v :: .ref a :: rest)) := by
  obtain ⟨fs, h1, h2, h3⟩ := pV_ok hv
  subst h3
  exact ab_putF (C := RX4) (T := TX4) (n := 6) X hR0 hS hmn h1 h2 rfl inX4 tyX4 tyX4_ok nmX4 (by decide) (WT_of 209 (by decide +kernel) (by decide +kernel)) rfl rfl rfl rfl hdg kk
theorem dX4_init_0 : decode cX4_init 0 = .ok (.aload_n 0, 1) := by decide +kernel
theorem dX4_init_1 : decode cX4_init 1 = .ok (.invokespecial 3, 3) := by decide +kernel
theorem dX4_init_4 : decode cX4_init 4 = .ok (.aload_n 0, 1) := by decide +kernel
theorem dX4_init_5 : decode cX4_init 5 = .ok (.new 9, 3) := by decide +kernel
theorem dX4_init_8 : decode cX4_init 8 = .ok (.dup, 1) := by decide +kernel
theorem dX4_init_9 : decode cX4_init 9 = .ok (.invokespecial 11, 3) := by decide +kernel
theorem dX4_init_12 : decode cX4_init 12 = .ok (.putfield 12, 3) := by decide +kernel
theorem dX4_init_15 : decode cX4_init 15 = .ok (.return_, 1) := by decide +kernel
def rm_X4_init : Room := { frames := 2, cells := 6, slots := 86, locals := 32 }
section
variable {p : Program} {l : Launch} {e : Env} {s : State} {m : MethodId} {args : Array Value} {below : List Frame} {meth : Method} {c : Code} {Q : State → Prop} {G : va_G} {aC : Nat → ClassId} {t b0 : Nat}
def f_X4_init (v0 : Nat) (N : AH) : Option (Unit × AH) := ob2 (f_X1_init N.1 (nO N 1 zX1)) (fun _ N1 => ob (pR N1 v0 4 5 N.1) (fun N2 => some ((), N2)))
set_option maxHeartbeats 4000000 in
set_option maxRecDepth 100000 in
theorem wk_X4_init {P : Unit × AH → Prop} (X : CX cX4_init RX4 1 G aC t b0 p s m args c) (hr : RtV p l e rm_X4_init s m args below meth c 6 86 Q cX4_init G aC b0 P) (hmn : meth.name = "<init>") (v0 : Nat) (N : AH) (H : Heap) (locs : List Loc) (ls : Array Slot) (hR : Rp G aC b0 N H) (hS : va_S (fun q => b0 ≤ q) s.heap H locs) (hl : lv_has ls 1 [(0, .ref v0)]) (hp : owp (f_X4_init v0 N) P) : W p l e rm_X4_init s m args below meth c H locs 0 0 Q (F0 m 0 ls []) := by
  have hx := X.1.1
  have hb := X.1.2.1
  unfold f_X4_init at hp
  refine lv_aload_n hx hb dX4_init_0 rfl (lv_at hl 0 rfl) ?_
  refine ab_objI X (WT_of 185 (by decide +kernel) (by decide +kernel)) w_objI w_objC hl.1 (Nat.le_of_ble_eq_true rfl) (Nat.le_of_ble_eq_true rfl) dX4_init_1 ?_
  refine lv_aload_n hx hb dX4_init_4 rfl (lv_at hl 0 rfl) ?_
  refine no_X1 (own := RX4) X hR hS (WT_of 186 (by decide +kernel) (by decide +kernel)) (Nat.le_of_ble_eq_true rfl) (Nat.le_of_ble_eq_true rfl) dX4_init_5 (fun H hR hS => ?_)
  refine W.widen (k := 1) (n := 6) (Nat.le_of_ble_eq_true rfl) (Nat.le_of_ble_eq_true rfl) ?_
  refine lv_dup hx hb dX4_init_8 rfl ?_
  obtain ⟨_, N1, e_N1, hp⟩ := owp_ob2 hp
  refine iv_X1_init (rest := [.ref N.1, .ref v0]) mw_X4_11 X hR hS e_N1 hl.1 (Nat.le_of_ble_eq_true rfl) ⟨Nat.le_of_ble_eq_true rfl, Nat.le_of_ble_eq_true rfl⟩ ⟨Nat.le_of_ble_eq_true rfl, Nat.le_of_ble_eq_true rfl⟩ dX4_init_9 (fun H locs hR hS => ?_)
  refine W.widen (k := 6) (n := 86) (Nat.le_of_ble_eq_true rfl) (Nat.le_of_ble_eq_true rfl) ?_
  obtain ⟨N2, e_N2, hp⟩ := owp_ob hp
  refine pf_X4_12 X hR hS hmn e_N2 dX4_init_12 (fun H locs hR hS => ?_)
  exact hr _ _ _ _ _ hR hS dX4_init_15 hp
end
theorem ct_X4_init {v0 : Nat} {N N1 : AH} {r : Unit} (h : f_X4_init v0 N = some (r, N1)) : Ct yX4_init cX4_init 1 none rm_X4_init [.ref v0] N none N1 :=
  ab_met (own := RX4) (by decide +kernel) rfl (Nat.le_of_ble_eq_true rfl) (fun l G aC t b0 p e s m below meth c ls X hr hlk hnm hR hS hl => wk_X4_init X (RtV_met X.1.1 X.1.2.1 hr hlk) hnm _ _ _ _ _ hR hS hl (owp_of h))
theorem cw_X4_init : Cond.code yX4_init cX4_init 1 none ∈ WT := WT_of 184 (by decide +kernel) (by decide +kernel)
theorem iv_X4_init {p : Program} {l : Launch} {e : Env} {R : Room} {s : State} {m : MethodId} {args : Array Value} {below : List Frame} {meth : Method} {c : Code} {H : Heap} {locs : List Loc} {cells slots : Nat} {Q : State → Prop} {cc : ByteArray} {own : String} {nL : Nat} {G : va_G} {aC : Nat → ClassId} {t b0 : Nat} {N N1 : AH} {pc index : Nat} {ls : Array Slot} {rest : List Value} {v0 : Nat} {r : Unit} (w1 : Cond.methodLink own index yX4_init ∈ WT) (X : CX cc own nL G aC t b0 p s m args c) (hR : Rp G aC b0 N H) (hS : va_S (fun q => b0 ≤ q) s.heap H locs) (h : f_X4_init v0 N = some (r, N1)) (hls : ls.size = nL) (hW : (rest.map fun v => v.category).sum ≤ 8) (hR1 : 3 ≤ R.frames ∧ 52 ≤ R.locals) (hcs : cells + 6 ≤ R.cells ∧ slots + 86 ≤ R.slots) (hdg : decode cc pc = .ok (.invokespecial index, 3)) (kk : ∀ (H1 : Heap) (locs1 : List Loc), Rp G aC b0 N1 H1 → va_S (fun q => b0 ≤ q) s.heap H1 locs1 → W p l e R s m args below meth c H1 locs1 (cells + 6) (slots + 86) Q (F0 m (pc + 3) ls rest)) : W p l e R s m args below meth c H locs cells slots Q (F0 m pc ls (.ref v0 :: rest)) :=
  ab_callI (n := 0) (As := []) X hR hS (ct_X4_init h) w1 (WT_of 183 (by decide +kernel) (by decide +kernel)) (WT_of 86 (by decide +kernel) (by decide +kernel)) cw_X4_init rfl ⟨by decide +kernel, by decide +kernel, by decide +kernel⟩ rfl hls hW hR1 hcs rfl hdg kk
-- X7_init
theorem gf_X7_19 {p : Program} {l : Launch} {e : Env} {R : Room} {s : State} {m : MethodId} {args : Array Value} {below : List Frame} {meth : Method} {c : Code} {H : Heap} {locs : List Loc} {cells slots : Nat} {Q : State → Prop} {cc : ByteArray} {nL : Nat} {G : va_G} {aC : Nat → ClassId} {t b0 : Nat} {N : AH} {pc : Nat} {ls : Array Slot} {rest : List Value} {a : Nat} {v : Nat} (X : CX cc RX7 nL G aC t b0 p s m args c) (hR0 : Rp G aC b0 N H) (hv : hR N a 7 7 = some v) (hdg : decode cc pc = .ok (.getfield 19, 3)) (kk : W p l e R s m args below meth c H locs cells slots Q (F0 m (pc + 3) ls (.ref v :: rest))) : W p l e R s m args below meth c H locs cells slots Q (F0 m pc ls (.ref a :: rest)) := by
  obtain ⟨fs, h1, h2⟩ := hR_ok hv
  exact ab_get (C := RX7) (T := TX7) (n := 12) X hR0 h1 h2 rfl inX7 (by decide) (WT_of 278 (by decide +kernel) (by decide +kernel)) hdg kk
theorem gf_X7_41 {p : Program} {l : Launch} {e : Env} {R : Room} {s : State} {m : MethodId} {args : Array Value} {below : List Frame} {meth : Method} {c : Code} {H : Heap} {locs : List Loc} {cells slots : Nat} {Q : State → Prop} {cc : ByteArray} {nL : Nat} {G : va_G} {aC : Nat → ClassId} {t b0 : Nat} {N : AH} {pc : Nat} {ls : Array Slot} {rest : List Value} {a : Nat} {v : Nat} (X : CX cc RX7 nL G aC t b0 p s m args c) (hR0 : Rp G aC b0 N H) (hv : hR N a 7 10 = some v) (hdg : decode cc pc = .ok (.getfield 41, 3)) (kk : W p l e R s m args below meth c H locs cells slots Q (F0 m (pc + 3) ls (.ref v :: rest))) : W p l e R s m args below meth c H locs cells slots Q (F0 m pc ls (.ref a :: rest)) := by
  obtain ⟨fs, h1, h2⟩ := hR_ok hv
  exact ab_get (C := RX7) (T := TX7) (n := 12) X hR0 h1 h2 rfl inX7 (by decide) (WT_of 288 (by decide +kernel) (by decide +kernel)) hdg kk
theorem mw_X7_23 : Cond.methodLink RX7 23 yJ7_fill_53178 ∈ WT := WT_of 174 (by decide +kernel) (by decide +kernel)
theorem mw_X7_34 : Cond.methodLink RX7 34 yX1_init ∈ WT := WT_of 178 (by decide +kernel) (by decide +kernel)
theorem mw_X7_45 : Cond.methodLink RX7 45 yX4_init ∈ WT := WT_of 182 (by decide +kernel) (by decide +kernel)
theorem mw_X7_48 : Cond.methodLink RX7 48 yX0_init ∈ WT := WT_of 229 (by decide +kernel) (by decide +kernel)
abbrev zX0 : List Value := [.int 0, .int 0, .null, .null, .null]
theorem no_X0 {p : Program} {l : Launch} {e : Env} {R : Room} {s : State} {m : MethodId} {args : Array Value} {below : List Frame} {meth : Method} {c : Code} {H : Heap} {locs : List Loc} {cells slots : Nat} {Q : State → Prop} {cc : ByteArray} {nL : Nat} {G : va_G} {aC : Nat → ClassId} {t b0 : Nat} {N : AH} {pc : Nat} {ls : Array Slot} {rest : List Value} {own : String} {index : Nat} (X : CX cc own nL G aC t b0 p s m args c) (hR0 : Rp G aC b0 N H) (hS : va_S (fun q => b0 ≤ q) s.heap H locs) (w1 : Cond.classLink own index RX0 ∈ WT) (hc1 : cells + 1 ≤ R.cells) (hs1 : slots + 5 ≤ R.slots) (hdg : decode cc pc = .ok (.new index, 3)) (kk : ∀ (H1 : Heap), Rp G aC b0 (nO N 0 zX0) H1 → va_S (fun q => b0 ≤ q) s.heap H1 locs → W p l e R s m args below meth c H1 locs (cells + 1) (slots + 5) Q (F0 m (pc + 3) ls (.ref N.1 :: rest))) : W p l e R s m args below meth c H locs cells slots Q (F0 m pc ls rest) :=
  ab_new_o (C := RX0) (T := TX0) (n := 5) X hR0 hS rfl inX0 tyX0 tyX0_ok w1 (WT_of 228 (by decide +kernel) (by decide +kernel)) (WT_of 87 (by decide +kernel) (by decide +kernel)) (fun j hj => by
    match j, hj with
    | 0, _ => rfl
    | 1, _ => rfl
    | 2, _ => rfl
    | 3, _ => rfl
    | 4, _ => rfl
    | j + 5, h => exact absurd h (by omega)) hc1 hs1 hdg kk
abbrev zX4 : List Value := [.int 0, .int 0, .int 0, .int 0, .int 0, .null]
theorem no_X4 {p : Program} {l : Launch} {e : Env} {R : Room} {s : State} {m : MethodId} {args : Array Value} {below : List Frame} {meth : Method} {c : Code} {H : Heap} {locs : List Loc} {cells slots : Nat} {Q : State → Prop} {cc : ByteArray} {nL : Nat} {G : va_G} {aC : Nat → ClassId} {t b0 : Nat} {N : AH} {pc : Nat} {ls : Array Slot} {rest : List Value} {own : String} {index : Nat} (X : CX cc own nL G aC t b0 p s m args c) (hR0 : Rp G aC b0 N H) (hS : va_S (fun q => b0 ≤ q) s.heap H locs) (w1 : Cond.classLink own index RX4 ∈ WT) (hc1 : cells + 1 ≤ R.cells) (hs1 : slots + 6 ≤ R.slots) (hdg : decode cc pc = .ok (.new index, 3)) (kk : ∀ (H1 : Heap), Rp G aC b0 (nO N 4 zX4) H1 → va_S (fun q => b0 ≤ q) s.heap H1 locs → W p l e R s m args below meth c H1 locs (cells + 1) (slots + 6) Q (F0 m (pc + 3) ls (.ref N.1 :: rest))) : W p l e R s m args below meth c H locs cells slots Q (F0 m pc ls rest) :=
  ab_new_o (C := RX4) (T := TX4) (n := 6) X hR0 hS rfl inX4 tyX4 tyX4_ok w1 (WT_of 181 (by decide +kernel) (by decide +kernel)) (WT_of 86 (by decide +kernel) (by decide +kernel)) (fun j hj => by
    match j, hj with
    | 0, _ => rfl
    | 1, _ => rfl
    | 2, _ => rfl
    | 3, _ => rfl
    | 4, _ => rfl
    | 5, _ => rfl
    | j + 6, h => exact absurd h (by omega)) hc1 hs1 hdg kk
theorem pf_X7_9 {p : Program} {l : Launch} {e : Env} {R : Room} {s : State} {m : MethodId} {args : Array Value} {below : List Frame} {meth : Method} {c : Code} {H : Heap} {locs : List Loc} {cells slots : Nat} {Q : State → Prop} {cc : ByteArray} {nL : Nat} {G : va_G} {aC : Nat → ClassId} {t b0 : Nat} {N : AH} {pc : Nat} {ls : Array Slot} {rest : List Value} {N1 : AH} {a : Nat} {v : Int32} (X : CX cc RX7 nL G aC t b0 p s m args c) (hR0 : Rp G aC b0 N H) (hS : va_S (fun q => b0 ≤ q) s.heap H locs) (hv : pZ N a 7 2 v = some N1) (hdg : decode cc pc = .ok (.putfield 9, 3)) (kk : ∀ (H1 : Heap) (locs1 : List Loc), Rp G aC b0 N1 H1 → va_S (fun q => b0 ≤ q) s.heap H1 locs1 → W p l e R s m args below meth c H1 locs1 cells slots Q (F0 m (pc + 3) ls rest)) : W p l e R s m args below meth c H locs cells slots Q (F0 m pc ls (.int v :: .ref a :: rest)) := by
  unfold pZ at hv
  split at hv
  case isFalse => cases hv
  rename_i h01
  obtain ⟨fs, h1, h2, h3⟩ := pV_ok hv
  subst h3
  exact ab_put (C := RX7) (T := TX7) (n := 12) X hR0 hS h1 h2 rfl inX7 tyX7 tyX7_ok nmX7 (by decide) (WT_of 261 (by decide +kernel) (by decide +kernel)) rfl (by rcases h01 with rfl | rfl <;> rfl) (by rcases h01 with rfl | rfl <;> rfl) hdg kk
theorem pf_X7_15 {p : Program} {l : Launch} {e : Env} {R : Room} {s : State} {m : MethodId} {args : Array Value} {below : List Frame} {meth : Method} {c : Code} {H : Heap} {locs : List Loc} {cells slots : Nat} {Q : State → Prop} {cc : ByteArray} {nL : Nat} {G : va_G} {aC : Nat → ClassId} {t b0 : Nat} {N : AH} {pc : Nat} {ls : Array Slot} {rest : List Value} {N1 : AH} {a : Nat} {v : Int32} (X : CX cc RX7 nL G aC t b0 p s m args c) (hR0 : Rp G aC b0 N H) (hS : va_S (fun q => b0 ≤ q) s.heap H locs) (hv : pI N a 7 5 v = some N1) (hdg : decode cc pc = .ok (.putfield 15, 3)) (kk : ∀ (H1 : Heap) (locs1 : List Loc), Rp G aC b0 N1 H1 → va_S (fun q => b0 ≤ q) s.heap H1 locs1 → W p l e R s m args below meth c H1 locs1 cells slots Q (F0 m (pc + 3) ls rest)) : W p l e R s m args below meth c H locs cells slots Q (F0 m pc ls (.int v :: .ref a :: rest)) := by
  obtain ⟨fs, h1, h2, h3⟩ := pV_ok hv
  subst h3
  exact ab_put (C := RX7) (T := TX7) (n := 12) X hR0 hS h1 h2 rfl inX7 tyX7 tyX7_ok nmX7 (by decide) (WT_of 271 (by decide +kernel) (by decide +kernel)) rfl rfl rfl hdg kk
theorem pf_X7_19 {p : Program} {l : Launch} {e : Env} {R : Room} {s : State} {m : MethodId} {args : Array Value} {below : List Frame} {meth : Method} {c : Code} {H : Heap} {locs : List Loc} {cells slots : Nat} {Q : State → Prop} {cc : ByteArray} {nL : Nat} {G : va_G} {aC : Nat → ClassId} {t b0 : Nat} {N : AH} {pc : Nat} {ls : Array Slot} {rest : List Value} {N1 : AH} {a : Nat} {v : Nat} (X : CX cc RX7 nL G aC t b0 p s m args c) (hR0 : Rp G aC b0 N H) (hS : va_S (fun q => b0 ≤ q) s.heap H locs) (hmn : meth.name = "<init>") (hv : pR N a 7 7 v = some N1) (hdg : decode cc pc = .ok (.putfield 19, 3)) (kk : ∀ (H1 : Heap) (locs1 : List Loc), Rp G aC b0 N1 H1 → va_S (fun q => b0 ≤ q) s.heap H1 locs1 → W p l e R s m args below meth c H1 locs1 cells slots Q (F0 m (pc + 3) ls rest)) : W p l e R s m args below meth c H locs cells slots Q (F0 m pc ls (.ref v :: .ref a :: rest)) := by
  obtain ⟨fs, h1, h2, h3⟩ := pV_ok hv
  subst h3
  exact ab_putF (C := RX7) (T := TX7) (n := 12) X hR0 hS hmn h1 h2 rfl inX7 tyX7 tyX7_ok nmX7 (by decide) (WT_of 278 (by decide +kernel) (by decide +kernel)) rfl rfl rfl rfl hdg kk
theorem pf_X7_29 {p : Program} {l : Launch} {e : Env} {R : Room} {s : State} {m : MethodId} {args : Array Value} {below : List Frame} {meth : Method} {c : Code} {H : Heap} {locs : List Loc} {cells slots : Nat} {Q : State → Prop} {cc : ByteArray} {nL : Nat} {G : va_G} {aC : Nat → ClassId} {t b0 : Nat} {N : AH} {pc : Nat} {ls : Array Slot} {rest : List Value} {N1 : AH} {a : Nat} {v : Nat} (X : CX cc RX7 nL G aC t b0 p s m args c) (hR0 : Rp G aC b0 N H) (hS : va_S (fun q => b0 ≤ q) s.heap H locs) (hmn : meth.name = "<init>") (hv : pR N a 7 8 v = some N1) (hdg : decode cc pc = .ok (.putfield 29, 3)) (kk : ∀ (H1 : Heap) (locs1 : List Loc), Rp G aC b0 N1 H1 → va_S (fun q => b0 ≤ q) s.heap H1 locs1 → W p l e R s m args below meth c H1 locs1 cells slots Q (F0 m (pc + 3) ls rest)) : W p l e R s m args below meth c H locs cells slots Q (F0 m pc ls (.ref v :: .ref a :: rest)) := by
  obtain ⟨fs, h1, h2, h3⟩ := pV_ok hv
  subst h3
  exact ab_putF (C := RX7) (T := TX7) (n := 12) X hR0 hS hmn h1 h2 rfl inX7 tyX7 tyX7_ok nmX7 (by decide) (WT_of 282 (by decide +kernel) (by decide +kernel)) rfl rfl rfl rfl hdg kk
theorem pf_X7_35 {p : Program} {l : Launch} {e : Env} {R : Room} {s : State} {m : MethodId} {args : Array Value} {below : List Frame} {meth : Method} {c : Code} {H : Heap} {locs : List Loc} {cells slots : Nat} {Q : State → Prop} {cc : ByteArray} {nL : Nat} {G : va_G} {aC : Nat → ClassId} {t b0 : Nat} {N : AH} {pc : Nat} {ls : Array Slot} {rest : List Value} {N1 : AH} {a : Nat} {v : Nat} (X : CX cc RX7 nL G aC t b0 p s m args c) (hR0 : Rp G aC b0 N H) (hS : va_S (fun q => b0 ≤ q) s.heap H locs) (hmn : meth.name = "<init>") (hv : pR N a 7 9 v = some N1) (hdg : decode cc pc = .ok (.putfield 35, 3)) (kk : ∀ (H1 : Heap) (locs1 : List Loc), Rp G aC b0 N1 H1 → va_S (fun q => b0 ≤ q) s.heap H1 locs1 → W p l e R s m args below meth c H1 locs1 cells slots Q (F0 m (pc + 3) ls rest)) : W p l e R s m args below meth c H locs cells slots Q (F0 m pc ls (.ref v :: .ref a :: rest)) := by
  obtain ⟨fs, h1, h2, h3⟩ := pV_ok hv
  subst h3
  exact ab_putF (C := RX7) (T := TX7) (n := 12) X hR0 hS hmn h1 h2 rfl inX7 tyX7 tyX7_ok nmX7 (by decide) (WT_of 285 (by decide +kernel) (by decide +kernel)) rfl rfl rfl rfl hdg kk
theorem pf_X7_41 {p : Program} {l : Launch} {e : Env} {R : Room} {s : State} {m : MethodId} {args : Array Value} {below : List Frame} {meth : Method} {c : Code} {H : Heap} {locs : List Loc} {cells slots : Nat} {Q : State → Prop} {cc : ByteArray} {nL : Nat} {G : va_G} {aC : Nat → ClassId} {t b0 : Nat} {N : AH} {pc : Nat} {ls : Array Slot} {rest : List Value} {N1 : AH} {a : Nat} {v : Nat} (X : CX cc RX7 nL G aC t b0 p s m args c) (hR0 : Rp G aC b0 N H) (hS : va_S (fun q => b0 ≤ q) s.heap H locs) (hmn : meth.name = "<init>") (hv : pR N a 7 10 v = some N1) (hdg : decode cc pc = .ok (.putfield 41, 3)) (kk : ∀ (H1 : Heap) (locs1 : List Loc), Rp G aC b0 N1 H1 → va_S (fun q => b0 ≤ q) s.heap H1 locs1 → W p l e R s m args below meth c H1 locs1 cells slots Q (F0 m (pc + 3) ls rest)) : W p l e R s m args below meth c H locs cells slots Q (F0 m pc ls (.ref v :: .ref a :: rest)) := by
  obtain ⟨fs, h1, h2, h3⟩ := pV_ok hv
  subst h3
  exact ab_putF (C := RX7) (T := TX7) (n := 12) X hR0 hS hmn h1 h2 rfl inX7 tyX7 tyX7_ok nmX7 (by decide) (WT_of 288 (by decide +kernel) (by decide +kernel)) rfl rfl rfl rfl hdg kk
theorem pf_X7_49 {p : Program} {l : Launch} {e : Env} {R : Room} {s : State} {m : MethodId} {args : Array Value} {below : List Frame} {meth : Method} {c : Code} {H : Heap} {locs : List Loc} {cells slots : Nat} {Q : State → Prop} {cc : ByteArray} {nL : Nat} {G : va_G} {aC : Nat → ClassId} {t b0 : Nat} {N : AH} {pc : Nat} {ls : Array Slot} {rest : List Value} {N1 : AH} {a : Nat} {v : Nat} (X : CX cc RX7 nL G aC t b0 p s m args c) (hR0 : Rp G aC b0 N H) (hS : va_S (fun q => b0 ≤ q) s.heap H locs) (hmn : meth.name = "<init>") (hv : pR N a 7 11 v = some N1) (hdg : decode cc pc = .ok (.putfield 49, 3)) (kk : ∀ (H1 : Heap) (locs1 : List Loc), Rp G aC b0 N1 H1 → va_S (fun q => b0 ≤ q) s.heap H1 locs1 → W p l e R s m args below meth c H1 locs1 cells slots Q (F0 m (pc + 3) ls rest)) : W p l e R s m args below meth c H locs cells slots Q (F0 m pc ls (.ref v :: .ref a :: rest)) := by
  obtain ⟨fs, h1, h2, h3⟩ := pV_ok hv
  subst h3
  exact ab_putF (C := RX7) (T := TX7) (n := 12) X hR0 hS hmn h1 h2 rfl inX7 tyX7 tyX7_ok nmX7 (by decide) (WT_of 293 (by decide +kernel) (by decide +kernel)) rfl rfl rfl rfl hdg kk
theorem dX7_init_0 : decode cX7_init 0 = .ok (.aload_n 0, 1) := by decide +kernel
theorem dX7_init_1 : decode cX7_init 1 = .ok (.invokespecial 3, 3) := by decide +kernel
theorem dX7_init_4 : decode cX7_init 4 = .ok (.aload_n 0, 1) := by decide +kernel
theorem dX7_init_5 : decode cX7_init 5 = .ok (.iconst 1, 1) := by decide +kernel
theorem dX7_init_6 : decode cX7_init 6 = .ok (.putfield 9, 3) := by decide +kernel
theorem dX7_init_9 : decode cX7_init 9 = .ok (.aload_n 0, 1) := by decide +kernel
theorem dX7_init_10 : decode cX7_init 10 = .ok (.iconst (-1), 1) := by decide +kernel
theorem dX7_init_11 : decode cX7_init 11 = .ok (.putfield 15, 3) := by decide +kernel
theorem dX7_init_14 : decode cX7_init 14 = .ok (.aload_n 0, 1) := by decide +kernel
theorem dX7_init_15 : decode cX7_init 15 = .ok (.bipush 16, 2) := by decide +kernel
theorem dX7_init_17 : decode cX7_init 17 = .ok (.newarray .int, 2) := by decide +kernel
theorem dX7_init_19 : decode cX7_init 19 = .ok (.putfield 19, 3) := by decide +kernel
theorem dX7_init_22 : decode cX7_init 22 = .ok (.aload_n 0, 1) := by decide +kernel
theorem dX7_init_23 : decode cX7_init 23 = .ok (.getfield 19, 3) := by decide +kernel
theorem dX7_init_26 : decode cX7_init 26 = .ok (.bipush 100, 2) := by decide +kernel
theorem dX7_init_28 : decode cX7_init 28 = .ok (.invokestatic 23, 3) := by decide +kernel
theorem dX7_init_31 : decode cX7_init 31 = .ok (.aload_n 0, 1) := by decide +kernel
theorem dX7_init_32 : decode cX7_init 32 = .ok (.bipush 16, 2) := by decide +kernel
theorem dX7_init_34 : decode cX7_init 34 = .ok (.newarray .int, 2) := by decide +kernel
theorem dX7_init_36 : decode cX7_init 36 = .ok (.putfield 29, 3) := by decide +kernel
theorem dX7_init_39 : decode cX7_init 39 = .ok (.aload_n 0, 1) := by decide +kernel
theorem dX7_init_40 : decode cX7_init 40 = .ok (.new 32, 3) := by decide +kernel
theorem dX7_init_43 : decode cX7_init 43 = .ok (.dup, 1) := by decide +kernel
theorem dX7_init_44 : decode cX7_init 44 = .ok (.invokespecial 34, 3) := by decide +kernel
theorem dX7_init_47 : decode cX7_init 47 = .ok (.putfield 35, 3) := by decide +kernel
theorem dX7_init_50 : decode cX7_init 50 = .ok (.aload_n 0, 1) := by decide +kernel
theorem dX7_init_51 : decode cX7_init 51 = .ok (.bipush 12, 2) := by decide +kernel
theorem dX7_init_53 : decode cX7_init 53 = .ok (.anewarray 39, 3) := by decide +kernel
theorem dX7_init_56 : decode cX7_init 56 = .ok (.putfield 41, 3) := by decide +kernel
theorem dX7_init_59 : decode cX7_init 59 = .ok (.iconst 0, 1) := by decide +kernel
theorem dX7_init_60 : decode cX7_init 60 = .ok (.istore_n 1, 1) := by decide +kernel
theorem dX7_init_61 : decode cX7_init 61 = .ok (.iload_n 1, 1) := by decide +kernel
theorem dX7_init_62 : decode cX7_init 62 = .ok (.bipush 12, 2) := by decide +kernel
theorem dX7_init_64 : decode cX7_init 64 = .ok (.if_icmp .ge 22, 3) := by decide +kernel
theorem dX7_init_67 : decode cX7_init 67 = .ok (.aload_n 0, 1) := by decide +kernel
theorem dX7_init_68 : decode cX7_init 68 = .ok (.getfield 41, 3) := by decide +kernel
theorem dX7_init_71 : decode cX7_init 71 = .ok (.iload_n 1, 1) := by decide +kernel
theorem dX7_init_72 : decode cX7_init 72 = .ok (.new 39, 3) := by decide +kernel
theorem dX7_init_75 : decode cX7_init 75 = .ok (.dup, 1) := by decide +kernel
theorem dX7_init_76 : decode cX7_init 76 = .ok (.invokespecial 45, 3) := by decide +kernel
theorem dX7_init_79 : decode cX7_init 79 = .ok (.aastore, 1) := by decide +kernel
theorem dX7_init_80 : decode cX7_init 80 = .ok (.iinc 1 1, 3) := by decide +kernel
theorem dX7_init_83 : decode cX7_init 83 = .ok (.goto (-22), 3) := by decide +kernel
theorem dX7_init_86 : decode cX7_init 86 = .ok (.aload_n 0, 1) := by decide +kernel
theorem dX7_init_87 : decode cX7_init 87 = .ok (.new 46, 3) := by decide +kernel
theorem dX7_init_90 : decode cX7_init 90 = .ok (.dup, 1) := by decide +kernel
theorem dX7_init_91 : decode cX7_init 91 = .ok (.invokespecial 48, 3) := by decide +kernel
theorem dX7_init_94 : decode cX7_init 94 = .ok (.putfield 49, 3) := by decide +kernel
theorem dX7_init_97 : decode cX7_init 97 = .ok (.return_, 1) := by decide +kernel
def rm_X7_init : Room := { frames := 3, cells := 97, slots := 1299, locals := 52 }
section
variable {p : Program} {l : Launch} {e : Env} {s : State} {m : MethodId} {args : Array Value} {below : List Frame} {meth : Method} {c : Code} {Q : State → Prop} {G : va_G} {aC : Nat → ClassId} {t b0 : Nat}
def f_X7_init (v0 : Nat) (N : AH) : Option (Unit × AH) := ob (pZ N v0 7 2 (1 : Int32)) (fun N1 => ob (pI N1 v0 7 5 (-1 : Int32)) (fun N2 => ob (pR (nI0 N2 16) v0 7 7 N2.1) (fun N3 => ob (hR N3 v0 7 7) (fun x4 => ob2 (f_J7_fill_53178 x4 (100 : Int32) N3) (fun _ N5 => ob (pR (nI0 N5 16) v0 7 8 N5.1) (fun N6 => ob2 (f_X1_init N6.1 (nO N6 1 zX1)) (fun _ N7 => ob (pR N7 v0 7 9 N6.1) (fun N8 => ob (pR (nR0 N8 2 12) v0 7 10 N8.1) (fun N9 => ob (hR N9 v0 7 10) (fun x11 => ob2 (f_X4_init N9.1 (nO N9 4 zX4)) (fun _ N12 => ob (sR N12 2 4 x11 (0 : Int32) N9.1) (fun N13 => ob (hR N13 v0 7 10) (fun x15 => ob2 (f_X4_init N13.1 (nO N13 4 zX4)) (fun _ N16 => ob (sR N16 2 4 x15 (1 : Int32) N13.1) (fun N17 => ob (hR N17 v0 7 10) (fun x19 => ob2 (f_X4_init N17.1 (nO N17 4 zX4)) (fun _ N20 => ob (sR N20 2 4 x19 (2 : Int32) N17.1) (fun N21 => ob (hR N21 v0 7 10) (fun x23 => ob2 (f_X4_init N21.1 (nO N21 4 zX4)) (fun _ N24 => ob (sR N24 2 4 x23 (3 : Int32) N21.1) (fun N25 => ob (hR N25 v0 7 10) (fun x27 => ob2 (f_X4_init N25.1 (nO N25 4 zX4)) (fun _ N28 => ob (sR N28 2 4 x27 (4 : Int32) N25.1) (fun N29 => ob (hR N29 v0 7 10) (fun x31 => ob2 (f_X4_init N29.1 (nO N29 4 zX4)) (fun _ N32 => ob (sR N32 2 4 x31 (5 : Int32) N29.1) (fun N33 => ob (hR N33 v0 7 10) (fun x35 => ob2 (f_X4_init N33.1 (nO N33 4 zX4)) (fun _ N36 => ob (sR N36 2 4 x35 (6 : Int32) N33.1) (fun N37 => ob (hR N37 v0 7 10) (fun x39 => ob2 (f_X4_init N37.1 (nO N37 4 zX4)) (fun _ N40 => ob (sR N40 2 4 x39 (7 : Int32) N37.1) (fun N41 => ob (hR N41 v0 7 10) (fun x43 => ob2 (f_X4_init N41.1 (nO N41 4 zX4)) (fun _ N44 => ob (sR N44 2 4 x43 (8 : Int32) N41.1) (fun N45 => ob (hR N45 v0 7 10) (fun x47 => ob2 (f_X4_init N45.1 (nO N45 4 zX4)) (fun _ N48 => ob (sR N48 2 4 x47 (9 : Int32) N45.1) (fun N49 => ob (hR N49 v0 7 10) (fun x51 => ob2 (f_X4_init N49.1 (nO N49 4 zX4)) (fun _ N52 => ob (sR N52 2 4 x51 (10 : Int32) N49.1) (fun N53 => ob (hR N53 v0 7 10) (fun x55 => ob2 (f_X4_init N53.1 (nO N53 4 zX4)) (fun _ N56 => ob (sR N56 2 4 x55 (11 : Int32) N53.1) (fun N57 => ob2 (f_X0_init N57.1 (nO N57 0 zX0)) (fun _ N59 => ob (pR N59 v0 7 11 N57.1) (fun N60 => some ((), N60))))))))))))))))))))))))))))))))))))))))))))))))
set_option maxHeartbeats 4000000 in
set_option maxRecDepth 100000 in
theorem wk_X7_init {P : Unit × AH → Prop} (X : CX cX7_init RX7 2 G aC t b0 p s m args c) (hr : RtV p l e rm_X7_init s m args below meth c 97 1299 Q cX7_init G aC b0 P) (hmn : meth.name = "<init>") (v0 : Nat) (N : AH) (H : Heap) (locs : List Loc) (ls : Array Slot) (hR : Rp G aC b0 N H) (hS : va_S (fun q => b0 ≤ q) s.heap H locs) (hl : lv_has ls 2 [(0, .ref v0)]) (hp : owp (f_X7_init v0 N) P) : W p l e rm_X7_init s m args below meth c H locs 0 0 Q (F0 m 0 ls []) := by
  have hx := X.1.1
  have hb := X.1.2.1
  unfold f_X7_init at hp
  refine lv_aload_n hx hb dX7_init_0 rfl (lv_at hl 0 rfl) ?_
  refine ab_objI X (WT_of 173 (by decide +kernel) (by decide +kernel)) w_objI w_objC hl.1 (Nat.le_of_ble_eq_true rfl) (Nat.le_of_ble_eq_true rfl) dX7_init_1 ?_
  refine lv_aload_n hx hb dX7_init_4 rfl (lv_at hl 0 rfl) ?_
  refine lv_iconst (v := (1)) hx hb dX7_init_5 (by decide) ?_
  obtain ⟨N1, e_N1, hp⟩ := owp_ob hp
  refine pf_X7_9 X hR hS e_N1 dX7_init_6 (fun H locs hR hS => ?_)
  refine lv_aload_n hx hb dX7_init_9 rfl (lv_at hl 0 rfl) ?_
  refine lv_iconst (v := (-1)) hx hb dX7_init_10 (by decide) ?_
  obtain ⟨N2, e_N2, hp⟩ := owp_ob hp
  refine pf_X7_15 X hR hS e_N2 dX7_init_11 (fun H locs hR hS => ?_)
  refine lv_aload_n hx hb dX7_init_14 rfl (lv_at hl 0 rfl) ?_
  refine lv_bipush (v := (16)) hx hb dX7_init_15 (by decide) ?_
  refine ab_newI (k := 16) X hR hS (WT_of 152 (by decide +kernel) (by decide +kernel)) (by decide) rfl (Nat.le_of_ble_eq_true rfl) (Nat.le_of_ble_eq_true rfl) (Nat.le_of_ble_eq_true rfl) dX7_init_17 (fun H hR hS => ?_)
  refine W.widen (k := 1) (n := 16) (Nat.le_of_ble_eq_true rfl) (Nat.le_of_ble_eq_true rfl) ?_
  obtain ⟨N3, e_N3, hp⟩ := owp_ob hp
  refine pf_X7_19 X hR hS hmn e_N3 dX7_init_19 (fun H locs hR hS => ?_)
  refine lv_aload_n hx hb dX7_init_22 rfl (lv_at hl 0 rfl) ?_
  obtain ⟨x4, e_x4, hp⟩ := owp_ob hp
  refine gf_X7_19 X hR e_x4 dX7_init_23 ?_
  refine lv_bipush (v := (100)) hx hb dX7_init_26 (by decide) ?_
  obtain ⟨_, N5, e_N5, hp⟩ := owp_ob2 hp
  refine iv_J7_fill_53178 (rest := []) mw_X7_23 X hR hS e_N5 hl.1 (Nat.le_of_ble_eq_true rfl) ⟨Nat.le_of_ble_eq_true rfl, Nat.le_of_ble_eq_true rfl⟩ ⟨Nat.le_of_ble_eq_true rfl, Nat.le_of_ble_eq_true rfl⟩ dX7_init_28 (fun H locs hR hS => ?_)
  refine lv_aload_n hx hb dX7_init_31 rfl (lv_at hl 0 rfl) ?_
  refine lv_bipush (v := (16)) hx hb dX7_init_32 (by decide) ?_
  refine ab_newI (k := 16) X hR hS (WT_of 152 (by decide +kernel) (by decide +kernel)) (by decide) rfl (Nat.le_of_ble_eq_true rfl) (Nat.le_of_ble_eq_true rfl) (Nat.le_of_ble_eq_true rfl) dX7_init_34 (fun H hR hS => ?_)
  refine W.widen (k := 2) (n := 32) (Nat.le_of_ble_eq_true rfl) (Nat.le_of_ble_eq_true rfl) ?_
  obtain ⟨N6, e_N6, hp⟩ := owp_ob hp
  refine pf_X7_29 X hR hS hmn e_N6 dX7_init_36 (fun H locs hR hS => ?_)
  refine lv_aload_n hx hb dX7_init_39 rfl (lv_at hl 0 rfl) ?_
  refine no_X1 (own := RX7) X hR hS (WT_of 177 (by decide +kernel) (by decide +kernel)) (Nat.le_of_ble_eq_true rfl) (Nat.le_of_ble_eq_true rfl) dX7_init_40 (fun H hR hS => ?_)
  refine W.widen (k := 3) (n := 38) (Nat.le_of_ble_eq_true rfl) (Nat.le_of_ble_eq_true rfl) ?_
  refine lv_dup hx hb dX7_init_43 rfl ?_
  obtain ⟨_, N7, e_N7, hp⟩ := owp_ob2 hp
  refine iv_X1_init (rest := [.ref N6.1, .ref v0]) mw_X7_34 X hR hS e_N7 hl.1 (Nat.le_of_ble_eq_true rfl) ⟨Nat.le_of_ble_eq_true rfl, Nat.le_of_ble_eq_true rfl⟩ ⟨Nat.le_of_ble_eq_true rfl, Nat.le_of_ble_eq_true rfl⟩ dX7_init_44 (fun H locs hR hS => ?_)
  refine W.widen (k := 8) (n := 118) (Nat.le_of_ble_eq_true rfl) (Nat.le_of_ble_eq_true rfl) ?_
  obtain ⟨N8, e_N8, hp⟩ := owp_ob hp
  refine pf_X7_35 X hR hS hmn e_N8 dX7_init_47 (fun H locs hR hS => ?_)
  refine lv_aload_n hx hb dX7_init_50 rfl (lv_at hl 0 rfl) ?_
  refine lv_bipush (v := (12)) hx hb dX7_init_51 (by decide) ?_
  refine ab_newR (kd := 2) (C := RX4) (k := 12) X hR hS rfl (WT_of 179 (by decide +kernel) (by decide +kernel)) X.2.2.2.1.1 (by decide) rfl (Nat.le_of_ble_eq_true rfl) (Nat.le_of_ble_eq_true rfl) (Nat.le_of_ble_eq_true rfl) dX7_init_53 (fun H hR hS => ?_)
  refine W.widen (k := 9) (n := 130) (Nat.le_of_ble_eq_true rfl) (Nat.le_of_ble_eq_true rfl) ?_
  obtain ⟨N9, e_N9, hp⟩ := owp_ob hp
  refine pf_X7_41 X hR hS hmn e_N9 dX7_init_56 (fun H locs hR hS => ?_)
  refine lv_iconst (v := (0)) hx hb dX7_init_59 (by decide) ?_
  refine lv_istore_n (lv' := [(1, .int (0 : Int32)), (0, .ref v0)]) hx hb dX7_init_60 rfl hl (by decide) rfl (fun ls hl => ?_)
  refine lv_iload_n hx hb dX7_init_61 rfl (lv_at hl 0 rfl) ?_
  refine lv_bipush (v := (12)) hx hb dX7_init_62 (by decide) ?_
  refine lv_icmp_ge (tgt := 86) hx hb dX7_init_64 (by decide) (fun k10 => absurd k10 (by decide)) (fun k10 => ?_)
  refine lv_aload_n hx hb dX7_init_67 rfl (lv_at hl 1 rfl) ?_
  obtain ⟨x11, e_x11, hp⟩ := owp_ob hp
  refine gf_X7_41 X hR e_x11 dX7_init_68 ?_
  refine lv_iload_n hx hb dX7_init_71 rfl (lv_at hl 0 rfl) ?_
  refine no_X4 (own := RX7) X hR hS (WT_of 179 (by decide +kernel) (by decide +kernel)) (Nat.le_of_ble_eq_true rfl) (Nat.le_of_ble_eq_true rfl) dX7_init_72 (fun H hR hS => ?_)
  refine W.widen (k := 10) (n := 136) (Nat.le_of_ble_eq_true rfl) (Nat.le_of_ble_eq_true rfl) ?_
  refine lv_dup hx hb dX7_init_75 rfl ?_
  obtain ⟨_, N12, e_N12, hp⟩ := owp_ob2 hp
  refine iv_X4_init (rest := [.ref N9.1, .int (0 : Int32), .ref x11]) mw_X7_45 X hR hS e_N12 hl.1 (Nat.le_of_ble_eq_true rfl) ⟨Nat.le_of_ble_eq_true rfl, Nat.le_of_ble_eq_true rfl⟩ ⟨Nat.le_of_ble_eq_true rfl, Nat.le_of_ble_eq_true rfl⟩ dX7_init_76 (fun H locs hR hS => ?_)
  refine W.widen (k := 16) (n := 222) (Nat.le_of_ble_eq_true rfl) (Nat.le_of_ble_eq_true rfl) ?_
  obtain ⟨N13, e_N13, hp⟩ := owp_ob hp
  refine ab_aast X hR hS (kd := 2) (r := (RX4, TX4, 6)) rfl rfl e_N13 dX7_init_79 (fun H locs hR hS => ?_)
  refine lv_iinc (v := (1 : Int32)) (lv' := [(1, .int (1 : Int32)), (0, .ref v0)]) hx hb dX7_init_80 hl (k := 0) rfl rfl (by decide) rfl (fun ls hl => ?_)
  refine lv_goto (tgt := 61) hx hb dX7_init_83 (by decide) ?_
  refine lv_iload_n hx hb dX7_init_61 rfl (lv_at hl 0 rfl) ?_
  refine lv_bipush (v := (12)) hx hb dX7_init_62 (by decide) ?_
  refine lv_icmp_ge (tgt := 86) hx hb dX7_init_64 (by decide) (fun k14 => absurd k14 (by decide)) (fun k14 => ?_)
  refine lv_aload_n hx hb dX7_init_67 rfl (lv_at hl 1 rfl) ?_
  obtain ⟨x15, e_x15, hp⟩ := owp_ob hp
  refine gf_X7_41 X hR e_x15 dX7_init_68 ?_
  refine lv_iload_n hx hb dX7_init_71 rfl (lv_at hl 0 rfl) ?_
  refine no_X4 (own := RX7) X hR hS (WT_of 179 (by decide +kernel) (by decide +kernel)) (Nat.le_of_ble_eq_true rfl) (Nat.le_of_ble_eq_true rfl) dX7_init_72 (fun H hR hS => ?_)
  refine W.widen (k := 17) (n := 228) (Nat.le_of_ble_eq_true rfl) (Nat.le_of_ble_eq_true rfl) ?_
  refine lv_dup hx hb dX7_init_75 rfl ?_
  obtain ⟨_, N16, e_N16, hp⟩ := owp_ob2 hp
  refine iv_X4_init (rest := [.ref N13.1, .int (1 : Int32), .ref x15]) mw_X7_45 X hR hS e_N16 hl.1 (Nat.le_of_ble_eq_true rfl) ⟨Nat.le_of_ble_eq_true rfl, Nat.le_of_ble_eq_true rfl⟩ ⟨Nat.le_of_ble_eq_true rfl, Nat.le_of_ble_eq_true rfl⟩ dX7_init_76 (fun H locs hR hS => ?_)
  refine W.widen (k := 23) (n := 314) (Nat.le_of_ble_eq_true rfl) (Nat.le_of_ble_eq_true rfl) ?_
  obtain ⟨N17, e_N17, hp⟩ := owp_ob hp
  refine ab_aast X hR hS (kd := 2) (r := (RX4, TX4, 6)) rfl rfl e_N17 dX7_init_79 (fun H locs hR hS => ?_)
  refine lv_iinc (v := (2 : Int32)) (lv' := [(1, .int (2 : Int32)), (0, .ref v0)]) hx hb dX7_init_80 hl (k := 0) rfl rfl (by decide) rfl (fun ls hl => ?_)
  refine lv_goto (tgt := 61) hx hb dX7_init_83 (by decide) ?_
  refine lv_iload_n hx hb dX7_init_61 rfl (lv_at hl 0 rfl) ?_
  refine lv_bipush (v := (12)) hx hb dX7_init_62 (by decide) ?_
  refine lv_icmp_ge (tgt := 86) hx hb dX7_init_64 (by decide) (fun k18 => absurd k18 (by decide)) (fun k18 => ?_)
  refine lv_aload_n hx hb dX7_init_67 rfl (lv_at hl 1 rfl) ?_
  obtain ⟨x19, e_x19, hp⟩ := owp_ob hp
  refine gf_X7_41 X hR e_x19 dX7_init_68 ?_
  refine lv_iload_n hx hb dX7_init_71 rfl (lv_at hl 0 rfl) ?_
  refine no_X4 (own := RX7) X hR hS (WT_of 179 (by decide +kernel) (by decide +kernel)) (Nat.le_of_ble_eq_true rfl) (Nat.le_of_ble_eq_true rfl) dX7_init_72 (fun H hR hS => ?_)
  refine W.widen (k := 24) (n := 320) (Nat.le_of_ble_eq_true rfl) (Nat.le_of_ble_eq_true rfl) ?_
  refine lv_dup hx hb dX7_init_75 rfl ?_
  obtain ⟨_, N20, e_N20, hp⟩ := owp_ob2 hp
  refine iv_X4_init (rest := [.ref N17.1, .int (2 : Int32), .ref x19]) mw_X7_45 X hR hS e_N20 hl.1 (Nat.le_of_ble_eq_true rfl) ⟨Nat.le_of_ble_eq_true rfl, Nat.le_of_ble_eq_true rfl⟩ ⟨Nat.le_of_ble_eq_true rfl, Nat.le_of_ble_eq_true rfl⟩ dX7_init_76 (fun H locs hR hS => ?_)
  refine W.widen (k := 30) (n := 406) (Nat.le_of_ble_eq_true rfl) (Nat.le_of_ble_eq_true rfl) ?_
  obtain ⟨N21, e_N21, hp⟩ := owp_ob hp
  refine ab_aast X hR hS (kd := 2) (r := (RX4, TX4, 6)) rfl rfl e_N21 dX7_init_79 (fun H locs hR hS => ?_)
  refine lv_iinc (v := (3 : Int32)) (lv' := [(1, .int (3 : Int32)), (0, .ref v0)]) hx hb dX7_init_80 hl (k := 0) rfl rfl (by decide) rfl (fun ls hl => ?_)
  refine lv_goto (tgt := 61) hx hb dX7_init_83 (by decide) ?_
  refine lv_iload_n hx hb dX7_init_61 rfl (lv_at hl 0 rfl) ?_
  refine lv_bipush (v := (12)) hx hb dX7_init_62 (by decide) ?_
  refine lv_icmp_ge (tgt := 86) hx hb dX7_init_64 (by decide) (fun k22 => absurd k22 (by decide)) (fun k22 => ?_)
  refine lv_aload_n hx hb dX7_init_67 rfl (lv_at hl 1 rfl) ?_
  obtain ⟨x23, e_x23, hp⟩ := owp_ob hp
  refine gf_X7_41 X hR e_x23 dX7_init_68 ?_
  refine lv_iload_n hx hb dX7_init_71 rfl (lv_at hl 0 rfl) ?_
  refine no_X4 (own := RX7) X hR hS (WT_of 179 (by decide +kernel) (by decide +kernel)) (Nat.le_of_ble_eq_true rfl) (Nat.le_of_ble_eq_true rfl) dX7_init_72 (fun H hR hS => ?_)
  refine W.widen (k := 31) (n := 412) (Nat.le_of_ble_eq_true rfl) (Nat.le_of_ble_eq_true rfl) ?_
  refine lv_dup hx hb dX7_init_75 rfl ?_
  obtain ⟨_, N24, e_N24, hp⟩ := owp_ob2 hp
  refine iv_X4_init (rest := [.ref N21.1, .int (3 : Int32), .ref x23]) mw_X7_45 X hR hS e_N24 hl.1 (Nat.le_of_ble_eq_true rfl) ⟨Nat.le_of_ble_eq_true rfl, Nat.le_of_ble_eq_true rfl⟩ ⟨Nat.le_of_ble_eq_true rfl, Nat.le_of_ble_eq_true rfl⟩ dX7_init_76 (fun H locs hR hS => ?_)
  refine W.widen (k := 37) (n := 498) (Nat.le_of_ble_eq_true rfl) (Nat.le_of_ble_eq_true rfl) ?_
  obtain ⟨N25, e_N25, hp⟩ := owp_ob hp
  refine ab_aast X hR hS (kd := 2) (r := (RX4, TX4, 6)) rfl rfl e_N25 dX7_init_79 (fun H locs hR hS => ?_)
  refine lv_iinc (v := (4 : Int32)) (lv' := [(1, .int (4 : Int32)), (0, .ref v0)]) hx hb dX7_init_80 hl (k := 0) rfl rfl (by decide) rfl (fun ls hl => ?_)
  refine lv_goto (tgt := 61) hx hb dX7_init_83 (by decide) ?_
  refine lv_iload_n hx hb dX7_init_61 rfl (lv_at hl 0 rfl) ?_
  refine lv_bipush (v := (12)) hx hb dX7_init_62 (by decide) ?_
  refine lv_icmp_ge (tgt := 86) hx hb dX7_init_64 (by decide) (fun k26 => absurd k26 (by decide)) (fun k26 => ?_)
  refine lv_aload_n hx hb dX7_init_67 rfl (lv_at hl 1 rfl) ?_
  obtain ⟨x27, e_x27, hp⟩ := owp_ob hp
  refine gf_X7_41 X hR e_x27 dX7_init_68 ?_
  refine lv_iload_n hx hb dX7_init_71 rfl (lv_at hl 0 rfl) ?_
  refine no_X4 (own := RX7) X hR hS (WT_of 179 (by decide +kernel) (by decide +kernel)) (Nat.le_of_ble_eq_true rfl) (Nat.le_of_ble_eq_true rfl) dX7_init_72 (fun H hR hS => ?_)
  refine W.widen (k := 38) (n := 504) (Nat.le_of_ble_eq_true rfl) (Nat.le_of_ble_eq_true rfl) ?_
  refine lv_dup hx hb dX7_init_75 rfl ?_
  obtain ⟨_, N28, e_N28, hp⟩ := owp_ob2 hp
  refine iv_X4_init (rest := [.ref N25.1, .int (4 : Int32), .ref x27]) mw_X7_45 X hR hS e_N28 hl.1 (Nat.le_of_ble_eq_true rfl) ⟨Nat.le_of_ble_eq_true rfl, Nat.le_of_ble_eq_true rfl⟩ ⟨Nat.le_of_ble_eq_true rfl, Nat.le_of_ble_eq_true rfl⟩ dX7_init_76 (fun H locs hR hS => ?_)
  refine W.widen (k := 44) (n := 590) (Nat.le_of_ble_eq_true rfl) (Nat.le_of_ble_eq_true rfl) ?_
  obtain ⟨N29, e_N29, hp⟩ := owp_ob hp
  refine ab_aast X hR hS (kd := 2) (r := (RX4, TX4, 6)) rfl rfl e_N29 dX7_init_79 (fun H locs hR hS => ?_)
  refine lv_iinc (v := (5 : Int32)) (lv' := [(1, .int (5 : Int32)), (0, .ref v0)]) hx hb dX7_init_80 hl (k := 0) rfl rfl (by decide) rfl (fun ls hl => ?_)
  refine lv_goto (tgt := 61) hx hb dX7_init_83 (by decide) ?_
  refine lv_iload_n hx hb dX7_init_61 rfl (lv_at hl 0 rfl) ?_
  refine lv_bipush (v := (12)) hx hb dX7_init_62 (by decide) ?_
  refine lv_icmp_ge (tgt := 86) hx hb dX7_init_64 (by decide) (fun k30 => absurd k30 (by decide)) (fun k30 => ?_)
  refine lv_aload_n hx hb dX7_init_67 rfl (lv_at hl 1 rfl) ?_
  obtain ⟨x31, e_x31, hp⟩ := owp_ob hp
  refine gf_X7_41 X hR e_x31 dX7_init_68 ?_
  refine lv_iload_n hx hb dX7_init_71 rfl (lv_at hl 0 rfl) ?_
  refine no_X4 (own := RX7) X hR hS (WT_of 179 (by decide +kernel) (by decide +kernel)) (Nat.le_of_ble_eq_true rfl) (Nat.le_of_ble_eq_true rfl) dX7_init_72 (fun H hR hS => ?_)
  refine W.widen (k := 45) (n := 596) (Nat.le_of_ble_eq_true rfl) (Nat.le_of_ble_eq_true rfl) ?_
  refine lv_dup hx hb dX7_init_75 rfl ?_
  obtain ⟨_, N32, e_N32, hp⟩ := owp_ob2 hp
  refine iv_X4_init (rest := [.ref N29.1, .int (5 : Int32), .ref x31]) mw_X7_45 X hR hS e_N32 hl.1 (Nat.le_of_ble_eq_true rfl) ⟨Nat.le_of_ble_eq_true rfl, Nat.le_of_ble_eq_true rfl⟩ ⟨Nat.le_of_ble_eq_true rfl, Nat.le_of_ble_eq_true rfl⟩ dX7_init_76 (fun H locs hR hS => ?_)
  refine W.widen (k := 51) (n := 682) (Nat.le_of_ble_eq_true rfl) (Nat.le_of_ble_eq_true rfl) ?_
  obtain ⟨N33, e_N33, hp⟩ := owp_ob hp
  refine ab_aast X hR hS (kd := 2) (r := (RX4, TX4, 6)) rfl rfl e_N33 dX7_init_79 (fun H locs hR hS => ?_)
  refine lv_iinc (v := (6 : Int32)) (lv' := [(1, .int (6 : Int32)), (0, .ref v0)]) hx hb dX7_init_80 hl (k := 0) rfl rfl (by decide) rfl (fun ls hl => ?_)
  refine lv_goto (tgt := 61) hx hb dX7_init_83 (by decide) ?_
  refine lv_iload_n hx hb dX7_init_61 rfl (lv_at hl 0 rfl) ?_
  refine lv_bipush (v := (12)) hx hb dX7_init_62 (by decide) ?_
  refine lv_icmp_ge (tgt := 86) hx hb dX7_init_64 (by decide) (fun k34 => absurd k34 (by decide)) (fun k34 => ?_)
  refine lv_aload_n hx hb dX7_init_67 rfl (lv_at hl 1 rfl) ?_
  obtain ⟨x35, e_x35, hp⟩ := owp_ob hp
  refine gf_X7_41 X hR e_x35 dX7_init_68 ?_
  refine lv_iload_n hx hb dX7_init_71 rfl (lv_at hl 0 rfl) ?_
  refine no_X4 (own := RX7) X hR hS (WT_of 179 (by decide +kernel) (by decide +kernel)) (Nat.le_of_ble_eq_true rfl) (Nat.le_of_ble_eq_true rfl) dX7_init_72 (fun H hR hS => ?_)
  refine W.widen (k := 52) (n := 688) (Nat.le_of_ble_eq_true rfl) (Nat.le_of_ble_eq_true rfl) ?_
  refine lv_dup hx hb dX7_init_75 rfl ?_
  obtain ⟨_, N36, e_N36, hp⟩ := owp_ob2 hp
  refine iv_X4_init (rest := [.ref N33.1, .int (6 : Int32), .ref x35]) mw_X7_45 X hR hS e_N36 hl.1 (Nat.le_of_ble_eq_true rfl) ⟨Nat.le_of_ble_eq_true rfl, Nat.le_of_ble_eq_true rfl⟩ ⟨Nat.le_of_ble_eq_true rfl, Nat.le_of_ble_eq_true rfl⟩ dX7_init_76 (fun H locs hR hS => ?_)
  refine W.widen (k := 58) (n := 774) (Nat.le_of_ble_eq_true rfl) (Nat.le_of_ble_eq_true rfl) ?_
  obtain ⟨N37, e_N37, hp⟩ := owp_ob hp
  refine ab_aast X hR hS (kd := 2) (r := (RX4, TX4, 6)) rfl rfl e_N37 dX7_init_79 (fun H locs hR hS => ?_)
  refine lv_iinc (v := (7 : Int32)) (lv' := [(1, .int (7 : Int32)), (0, .ref v0)]) hx hb dX7_init_80 hl (k := 0) rfl rfl (by decide) rfl (fun ls hl => ?_)
  refine lv_goto (tgt := 61) hx hb dX7_init_83 (by decide) ?_
  refine lv_iload_n hx hb dX7_init_61 rfl (lv_at hl 0 rfl) ?_
  refine lv_bipush (v := (12)) hx hb dX7_init_62 (by decide) ?_
  refine lv_icmp_ge (tgt := 86) hx hb dX7_init_64 (by decide) (fun k38 => absurd k38 (by decide)) (fun k38 => ?_)
  refine lv_aload_n hx hb dX7_init_67 rfl (lv_at hl 1 rfl) ?_
  obtain ⟨x39, e_x39, hp⟩ := owp_ob hp
  refine gf_X7_41 X hR e_x39 dX7_init_68 ?_
  refine lv_iload_n hx hb dX7_init_71 rfl (lv_at hl 0 rfl) ?_
  refine no_X4 (own := RX7) X hR hS (WT_of 179 (by decide +kernel) (by decide +kernel)) (Nat.le_of_ble_eq_true rfl) (Nat.le_of_ble_eq_true rfl) dX7_init_72 (fun H hR hS => ?_)
  refine W.widen (k := 59) (n := 780) (Nat.le_of_ble_eq_true rfl) (Nat.le_of_ble_eq_true rfl) ?_
  refine lv_dup hx hb dX7_init_75 rfl ?_
  obtain ⟨_, N40, e_N40, hp⟩ := owp_ob2 hp
  refine iv_X4_init (rest := [.ref N37.1, .int (7 : Int32), .ref x39]) mw_X7_45 X hR hS e_N40 hl.1 (Nat.le_of_ble_eq_true rfl) ⟨Nat.le_of_ble_eq_true rfl, Nat.le_of_ble_eq_true rfl⟩ ⟨Nat.le_of_ble_eq_true rfl, Nat.le_of_ble_eq_true rfl⟩ dX7_init_76 (fun H locs hR hS => ?_)
  refine W.widen (k := 65) (n := 866) (Nat.le_of_ble_eq_true rfl) (Nat.le_of_ble_eq_true rfl) ?_
  obtain ⟨N41, e_N41, hp⟩ := owp_ob hp
  refine ab_aast X hR hS (kd := 2) (r := (RX4, TX4, 6)) rfl rfl e_N41 dX7_init_79 (fun H locs hR hS => ?_)
  refine lv_iinc (v := (8 : Int32)) (lv' := [(1, .int (8 : Int32)), (0, .ref v0)]) hx hb dX7_init_80 hl (k := 0) rfl rfl (by decide) rfl (fun ls hl => ?_)
  refine lv_goto (tgt := 61) hx hb dX7_init_83 (by decide) ?_
  refine lv_iload_n hx hb dX7_init_61 rfl (lv_at hl 0 rfl) ?_
  refine lv_bipush (v := (12)) hx hb dX7_init_62 (by decide) ?_
  refine lv_icmp_ge (tgt := 86) hx hb dX7_init_64 (by decide) (fun k42 => absurd k42 (by decide)) (fun k42 => ?_)
  refine lv_aload_n hx hb dX7_init_67 rfl (lv_at hl 1 rfl) ?_
  obtain ⟨x43, e_x43, hp⟩ := owp_ob hp
  refine gf_X7_41 X hR e_x43 dX7_init_68 ?_
  refine lv_iload_n hx hb dX7_init_71 rfl (lv_at hl 0 rfl) ?_
  refine no_X4 (own := RX7) X hR hS (WT_of 179 (by decide +kernel) (by decide +kernel)) (Nat.le_of_ble_eq_true rfl) (Nat.le_of_ble_eq_true rfl) dX7_init_72 (fun H hR hS => ?_)
  refine W.widen (k := 66) (n := 872) (Nat.le_of_ble_eq_true rfl) (Nat.le_of_ble_eq_true rfl) ?_
  refine lv_dup hx hb dX7_init_75 rfl ?_
  obtain ⟨_, N44, e_N44, hp⟩ := owp_ob2 hp
  refine iv_X4_init (rest := [.ref N41.1, .int (8 : Int32), .ref x43]) mw_X7_45 X hR hS e_N44 hl.1 (Nat.le_of_ble_eq_true rfl) ⟨Nat.le_of_ble_eq_true rfl, Nat.le_of_ble_eq_true rfl⟩ ⟨Nat.le_of_ble_eq_true rfl, Nat.le_of_ble_eq_true rfl⟩ dX7_init_76 (fun H locs hR hS => ?_)
  refine W.widen (k := 72) (n := 958) (Nat.le_of_ble_eq_true rfl) (Nat.le_of_ble_eq_true rfl) ?_
  obtain ⟨N45, e_N45, hp⟩ := owp_ob hp
  refine ab_aast X hR hS (kd := 2) (r := (RX4, TX4, 6)) rfl rfl e_N45 dX7_init_79 (fun H locs hR hS => ?_)
  refine lv_iinc (v := (9 : Int32)) (lv' := [(1, .int (9 : Int32)), (0, .ref v0)]) hx hb dX7_init_80 hl (k := 0) rfl rfl (by decide) rfl (fun ls hl => ?_)
  refine lv_goto (tgt := 61) hx hb dX7_init_83 (by decide) ?_
  refine lv_iload_n hx hb dX7_init_61 rfl (lv_at hl 0 rfl) ?_
  refine lv_bipush (v := (12)) hx hb dX7_init_62 (by decide) ?_
  refine lv_icmp_ge (tgt := 86) hx hb dX7_init_64 (by decide) (fun k46 => absurd k46 (by decide)) (fun k46 => ?_)
  refine lv_aload_n hx hb dX7_init_67 rfl (lv_at hl 1 rfl) ?_
  obtain ⟨x47, e_x47, hp⟩ := owp_ob hp
  refine gf_X7_41 X hR e_x47 dX7_init_68 ?_
  refine lv_iload_n hx hb dX7_init_71 rfl (lv_at hl 0 rfl) ?_
  refine no_X4 (own := RX7) X hR hS (WT_of 179 (by decide +kernel) (by decide +kernel)) (Nat.le_of_ble_eq_true rfl) (Nat.le_of_ble_eq_true rfl) dX7_init_72 (fun H hR hS => ?_)
  refine W.widen (k := 73) (n := 964) (Nat.le_of_ble_eq_true rfl) (Nat.le_of_ble_eq_true rfl) ?_
  refine lv_dup hx hb dX7_init_75 rfl ?_
  obtain ⟨_, N48, e_N48, hp⟩ := owp_ob2 hp
  refine iv_X4_init (rest := [.ref N45.1, .int (9 : Int32), .ref x47]) mw_X7_45 X hR hS e_N48 hl.1 (Nat.le_of_ble_eq_true rfl) ⟨Nat.le_of_ble_eq_true rfl, Nat.le_of_ble_eq_true rfl⟩ ⟨Nat.le_of_ble_eq_true rfl, Nat.le_of_ble_eq_true rfl⟩ dX7_init_76 (fun H locs hR hS => ?_)
  refine W.widen (k := 79) (n := 1050) (Nat.le_of_ble_eq_true rfl) (Nat.le_of_ble_eq_true rfl) ?_
  obtain ⟨N49, e_N49, hp⟩ := owp_ob hp
  refine ab_aast X hR hS (kd := 2) (r := (RX4, TX4, 6)) rfl rfl e_N49 dX7_init_79 (fun H locs hR hS => ?_)
  refine lv_iinc (v := (10 : Int32)) (lv' := [(1, .int (10 : Int32)), (0, .ref v0)]) hx hb dX7_init_80 hl (k := 0) rfl rfl (by decide) rfl (fun ls hl => ?_)
  refine lv_goto (tgt := 61) hx hb dX7_init_83 (by decide) ?_
  refine lv_iload_n hx hb dX7_init_61 rfl (lv_at hl 0 rfl) ?_
  refine lv_bipush (v := (12)) hx hb dX7_init_62 (by decide) ?_
  refine lv_icmp_ge (tgt := 86) hx hb dX7_init_64 (by decide) (fun k50 => absurd k50 (by decide)) (fun k50 => ?_)
  refine lv_aload_n hx hb dX7_init_67 rfl (lv_at hl 1 rfl) ?_
  obtain ⟨x51, e_x51, hp⟩ := owp_ob hp
  refine gf_X7_41 X hR e_x51 dX7_init_68 ?_
  refine lv_iload_n hx hb dX7_init_71 rfl (lv_at hl 0 rfl) ?_
  refine no_X4 (own := RX7) X hR hS (WT_of 179 (by decide +kernel) (by decide +kernel)) (Nat.le_of_ble_eq_true rfl) (Nat.le_of_ble_eq_true rfl) dX7_init_72 (fun H hR hS => ?_)
  refine W.widen (k := 80) (n := 1056) (Nat.le_of_ble_eq_true rfl) (Nat.le_of_ble_eq_true rfl) ?_
  refine lv_dup hx hb dX7_init_75 rfl ?_
  obtain ⟨_, N52, e_N52, hp⟩ := owp_ob2 hp
  refine iv_X4_init (rest := [.ref N49.1, .int (10 : Int32), .ref x51]) mw_X7_45 X hR hS e_N52 hl.1 (Nat.le_of_ble_eq_true rfl) ⟨Nat.le_of_ble_eq_true rfl, Nat.le_of_ble_eq_true rfl⟩ ⟨Nat.le_of_ble_eq_true rfl, Nat.le_of_ble_eq_true rfl⟩ dX7_init_76 (fun H locs hR hS => ?_)
  refine W.widen (k := 86) (n := 1142) (Nat.le_of_ble_eq_true rfl) (Nat.le_of_ble_eq_true rfl) ?_
  obtain ⟨N53, e_N53, hp⟩ := owp_ob hp
  refine ab_aast X hR hS (kd := 2) (r := (RX4, TX4, 6)) rfl rfl e_N53 dX7_init_79 (fun H locs hR hS => ?_)
  refine lv_iinc (v := (11 : Int32)) (lv' := [(1, .int (11 : Int32)), (0, .ref v0)]) hx hb dX7_init_80 hl (k := 0) rfl rfl (by decide) rfl (fun ls hl => ?_)
  refine lv_goto (tgt := 61) hx hb dX7_init_83 (by decide) ?_
  refine lv_iload_n hx hb dX7_init_61 rfl (lv_at hl 0 rfl) ?_
  refine lv_bipush (v := (12)) hx hb dX7_init_62 (by decide) ?_
  refine lv_icmp_ge (tgt := 86) hx hb dX7_init_64 (by decide) (fun k54 => absurd k54 (by decide)) (fun k54 => ?_)
  refine lv_aload_n hx hb dX7_init_67 rfl (lv_at hl 1 rfl) ?_
  obtain ⟨x55, e_x55, hp⟩ := owp_ob hp
  refine gf_X7_41 X hR e_x55 dX7_init_68 ?_
  refine lv_iload_n hx hb dX7_init_71 rfl (lv_at hl 0 rfl) ?_
  refine no_X4 (own := RX7) X hR hS (WT_of 179 (by decide +kernel) (by decide +kernel)) (Nat.le_of_ble_eq_true rfl) (Nat.le_of_ble_eq_true rfl) dX7_init_72 (fun H hR hS => ?_)
  refine W.widen (k := 87) (n := 1148) (Nat.le_of_ble_eq_true rfl) (Nat.le_of_ble_eq_true rfl) ?_
  refine lv_dup hx hb dX7_init_75 rfl ?_
  obtain ⟨_, N56, e_N56, hp⟩ := owp_ob2 hp
  refine iv_X4_init (rest := [.ref N53.1, .int (11 : Int32), .ref x55]) mw_X7_45 X hR hS e_N56 hl.1 (Nat.le_of_ble_eq_true rfl) ⟨Nat.le_of_ble_eq_true rfl, Nat.le_of_ble_eq_true rfl⟩ ⟨Nat.le_of_ble_eq_true rfl, Nat.le_of_ble_eq_true rfl⟩ dX7_init_76 (fun H locs hR hS => ?_)
  refine W.widen (k := 93) (n := 1234) (Nat.le_of_ble_eq_true rfl) (Nat.le_of_ble_eq_true rfl) ?_
  obtain ⟨N57, e_N57, hp⟩ := owp_ob hp
  refine ab_aast X hR hS (kd := 2) (r := (RX4, TX4, 6)) rfl rfl e_N57 dX7_init_79 (fun H locs hR hS => ?_)
  refine lv_iinc (v := (12 : Int32)) (lv' := [(1, .int (12 : Int32)), (0, .ref v0)]) hx hb dX7_init_80 hl (k := 0) rfl rfl (by decide) rfl (fun ls hl => ?_)
  refine lv_goto (tgt := 61) hx hb dX7_init_83 (by decide) ?_
  refine lv_iload_n hx hb dX7_init_61 rfl (lv_at hl 0 rfl) ?_
  refine lv_bipush (v := (12)) hx hb dX7_init_62 (by decide) ?_
  refine lv_icmp_ge (tgt := 86) hx hb dX7_init_64 (by decide) (fun k58 => ?_) (fun k58 => absurd k58 (by decide))
  refine lv_aload_n hx hb dX7_init_86 rfl (lv_at hl 1 rfl) ?_
  refine no_X0 (own := RX7) X hR hS (WT_of 227 (by decide +kernel) (by decide +kernel)) (Nat.le_of_ble_eq_true rfl) (Nat.le_of_ble_eq_true rfl) dX7_init_87 (fun H hR hS => ?_)
  refine W.widen (k := 94) (n := 1239) (Nat.le_of_ble_eq_true rfl) (Nat.le_of_ble_eq_true rfl) ?_
  refine lv_dup hx hb dX7_init_90 rfl ?_
  obtain ⟨_, N59, e_N59, hp⟩ := owp_ob2 hp
  refine iv_X0_init (rest := [.ref N57.1, .ref v0]) mw_X7_48 X hR hS e_N59 hl.1 (Nat.le_of_ble_eq_true rfl) ⟨Nat.le_of_ble_eq_true rfl, Nat.le_of_ble_eq_true rfl⟩ ⟨Nat.le_of_ble_eq_true rfl, Nat.le_of_ble_eq_true rfl⟩ dX7_init_91 (fun H locs hR hS => ?_)
  refine W.widen (k := 97) (n := 1299) (Nat.le_of_ble_eq_true rfl) (Nat.le_of_ble_eq_true rfl) ?_
  obtain ⟨N60, e_N60, hp⟩ := owp_ob hp
  refine pf_X7_49 X hR hS hmn e_N60 dX7_init_94 (fun H locs hR hS => ?_)
  exact hr _ _ _ _ _ hR hS dX7_init_97 hp
end
theorem ct_X7_init {v0 : Nat} {N N1 : AH} {r : Unit} (h : f_X7_init v0 N = some (r, N1)) : Ct yX7_init cX7_init 2 none rm_X7_init [.ref v0] N none N1 :=
  ab_met (own := RX7) (by decide +kernel) rfl (Nat.le_of_ble_eq_true rfl) (fun l G aC t b0 p e s m below meth c ls X hr hlk hnm hR hS hl => wk_X7_init X (RtV_met X.1.1 X.1.2.1 hr hlk) hnm _ _ _ _ _ hR hS hl (owp_of h))
theorem cw_X7_init : Cond.code yX7_init cX7_init 2 none ∈ WT := WT_of 172 (by decide +kernel) (by decide +kernel)
theorem iv_X7_init {p : Program} {l : Launch} {e : Env} {R : Room} {s : State} {m : MethodId} {args : Array Value} {below : List Frame} {meth : Method} {c : Code} {H : Heap} {locs : List Loc} {cells slots : Nat} {Q : State → Prop} {cc : ByteArray} {own : String} {nL : Nat} {G : va_G} {aC : Nat → ClassId} {t b0 : Nat} {N N1 : AH} {pc index : Nat} {ls : Array Slot} {rest : List Value} {v0 : Nat} {r : Unit} (w1 : Cond.methodLink own index yX7_init ∈ WT) (X : CX cc own nL G aC t b0 p s m args c) (hR : Rp G aC b0 N H) (hS : va_S (fun q => b0 ≤ q) s.heap H locs) (h : f_X7_init v0 N = some (r, N1)) (hls : ls.size = nL) (hW : (rest.map fun v => v.category).sum ≤ 8) (hR1 : 4 ≤ R.frames ∧ 73 ≤ R.locals) (hcs : cells + 97 ≤ R.cells ∧ slots + 1299 ≤ R.slots) (hdg : decode cc pc = .ok (.invokespecial index, 3)) (kk : ∀ (H1 : Heap) (locs1 : List Loc), Rp G aC b0 N1 H1 → va_S (fun q => b0 ≤ q) s.heap H1 locs1 → W p l e R s m args below meth c H1 locs1 (cells + 97) (slots + 1299) Q (F0 m (pc + 3) ls rest)) : W p l e R s m args below meth c H locs cells slots Q (F0 m pc ls (.ref v0 :: rest)) :=
  ab_callI (n := 0) (As := []) X hR hS (ct_X7_init h) w1 (WT_of 171 (by decide +kernel) (by decide +kernel)) (WT_of 84 (by decide +kernel) (by decide +kernel)) cw_X7_init rfl ⟨by decide +kernel, by decide +kernel, by decide +kernel⟩ rfl hls hW hR1 hcs rfl hdg kk
-- X8_init
theorem pf_X8_9 {p : Program} {l : Launch} {e : Env} {R : Room} {s : State} {m : MethodId} {args : Array Value} {below : List Frame} {meth : Method} {c : Code} {H : Heap} {locs : List Loc} {cells slots : Nat} {Q : State → Prop} {cc : ByteArray} {nL : Nat} {G : va_G} {aC : Nat → ClassId} {t b0 : Nat} {N : AH} {pc : Nat} {ls : Array Slot} {rest : List Value} {N1 : AH} {a : Nat} {v : Nat} (X : CX cc RX8 nL G aC t b0 p s m args c) (hR0 : Rp G aC b0 N H) (hS : va_S (fun q => b0 ≤ q) s.heap H locs) (hmn : meth.name = "<init>") (hv : pR N a 8 1 v = some N1) (hdg : decode cc pc = .ok (.putfield 9, 3)) (kk : ∀ (H1 : Heap) (locs1 : List Loc), Rp G aC b0 N1 H1 → va_S (fun q => b0 ≤ q) s.heap H1 locs1 → W p l e R s m args below meth c H1 locs1 cells slots Q (F0 m (pc + 3) ls rest)) : W p l e R s m args below meth c H locs cells slots Q (F0 m pc ls (.ref v :: .ref a :: rest)) := by
  obtain ⟨fs, h1, h2, h3⟩ := pV_ok hv
  subst h3
  exact ab_putF (C := RX8) (T := TX8) (n := 11) X hR0 hS hmn h1 h2 rfl inX8 tyX8 tyX8_ok nmX8 (by decide) (WT_of 348 (by decide +kernel) (by decide +kernel)) rfl rfl rfl rfl hdg kk
theorem pf_X8_15 {p : Program} {l : Launch} {e : Env} {R : Room} {s : State} {m : MethodId} {args : Array Value} {below : List Frame} {meth : Method} {c : Code} {H : Heap} {locs : List Loc} {cells slots : Nat} {Q : State → Prop} {cc : ByteArray} {nL : Nat} {G : va_G} {aC : Nat → ClassId} {t b0 : Nat} {N : AH} {pc : Nat} {ls : Array Slot} {rest : List Value} {N1 : AH} {a : Nat} {v : Nat} (X : CX cc RX8 nL G aC t b0 p s m args c) (hR0 : Rp G aC b0 N H) (hS : va_S (fun q => b0 ≤ q) s.heap H locs) (hmn : meth.name = "<init>") (hv : pR N a 8 2 v = some N1) (hdg : decode cc pc = .ok (.putfield 15, 3)) (kk : ∀ (H1 : Heap) (locs1 : List Loc), Rp G aC b0 N1 H1 → va_S (fun q => b0 ≤ q) s.heap H1 locs1 → W p l e R s m args below meth c H1 locs1 cells slots Q (F0 m (pc + 3) ls rest)) : W p l e R s m args below meth c H locs cells slots Q (F0 m pc ls (.ref v :: .ref a :: rest)) := by
  obtain ⟨fs, h1, h2, h3⟩ := pV_ok hv
  subst h3
  exact ab_putF (C := RX8) (T := TX8) (n := 11) X hR0 hS hmn h1 h2 rfl inX8 tyX8 tyX8_ok nmX8 (by decide) (WT_of 349 (by decide +kernel) (by decide +kernel)) rfl rfl rfl rfl hdg kk
theorem pf_X8_18 {p : Program} {l : Launch} {e : Env} {R : Room} {s : State} {m : MethodId} {args : Array Value} {below : List Frame} {meth : Method} {c : Code} {H : Heap} {locs : List Loc} {cells slots : Nat} {Q : State → Prop} {cc : ByteArray} {nL : Nat} {G : va_G} {aC : Nat → ClassId} {t b0 : Nat} {N : AH} {pc : Nat} {ls : Array Slot} {rest : List Value} {N1 : AH} {a : Nat} {v : Nat} (X : CX cc RX8 nL G aC t b0 p s m args c) (hR0 : Rp G aC b0 N H) (hS : va_S (fun q => b0 ≤ q) s.heap H locs) (hmn : meth.name = "<init>") (hv : pR N a 8 3 v = some N1) (hdg : decode cc pc = .ok (.putfield 18, 3)) (kk : ∀ (H1 : Heap) (locs1 : List Loc), Rp G aC b0 N1 H1 → va_S (fun q => b0 ≤ q) s.heap H1 locs1 → W p l e R s m args below meth c H1 locs1 cells slots Q (F0 m (pc + 3) ls rest)) : W p l e R s m args below meth c H locs cells slots Q (F0 m pc ls (.ref v :: .ref a :: rest)) := by
  obtain ⟨fs, h1, h2, h3⟩ := pV_ok hv
  subst h3
  exact ab_putF (C := RX8) (T := TX8) (n := 11) X hR0 hS hmn h1 h2 rfl inX8 tyX8 tyX8_ok nmX8 (by decide) (WT_of 351 (by decide +kernel) (by decide +kernel)) rfl rfl rfl rfl hdg kk
theorem pf_X8_21 {p : Program} {l : Launch} {e : Env} {R : Room} {s : State} {m : MethodId} {args : Array Value} {below : List Frame} {meth : Method} {c : Code} {H : Heap} {locs : List Loc} {cells slots : Nat} {Q : State → Prop} {cc : ByteArray} {nL : Nat} {G : va_G} {aC : Nat → ClassId} {t b0 : Nat} {N : AH} {pc : Nat} {ls : Array Slot} {rest : List Value} {N1 : AH} {a : Nat} {v : Nat} (X : CX cc RX8 nL G aC t b0 p s m args c) (hR0 : Rp G aC b0 N H) (hS : va_S (fun q => b0 ≤ q) s.heap H locs) (hmn : meth.name = "<init>") (hv : pR N a 8 4 v = some N1) (hdg : decode cc pc = .ok (.putfield 21, 3)) (kk : ∀ (H1 : Heap) (locs1 : List Loc), Rp G aC b0 N1 H1 → va_S (fun q => b0 ≤ q) s.heap H1 locs1 → W p l e R s m args below meth c H1 locs1 cells slots Q (F0 m (pc + 3) ls rest)) : W p l e R s m args below meth c H locs cells slots Q (F0 m pc ls (.ref v :: .ref a :: rest)) := by
  obtain ⟨fs, h1, h2, h3⟩ := pV_ok hv
  subst h3
  exact ab_putF (C := RX8) (T := TX8) (n := 11) X hR0 hS hmn h1 h2 rfl inX8 tyX8 tyX8_ok nmX8 (by decide) (WT_of 353 (by decide +kernel) (by decide +kernel)) rfl rfl rfl rfl hdg kk
theorem pf_X8_24 {p : Program} {l : Launch} {e : Env} {R : Room} {s : State} {m : MethodId} {args : Array Value} {below : List Frame} {meth : Method} {c : Code} {H : Heap} {locs : List Loc} {cells slots : Nat} {Q : State → Prop} {cc : ByteArray} {nL : Nat} {G : va_G} {aC : Nat → ClassId} {t b0 : Nat} {N : AH} {pc : Nat} {ls : Array Slot} {rest : List Value} {N1 : AH} {a : Nat} {v : Nat} (X : CX cc RX8 nL G aC t b0 p s m args c) (hR0 : Rp G aC b0 N H) (hS : va_S (fun q => b0 ≤ q) s.heap H locs) (hmn : meth.name = "<init>") (hv : pR N a 8 5 v = some N1) (hdg : decode cc pc = .ok (.putfield 24, 3)) (kk : ∀ (H1 : Heap) (locs1 : List Loc), Rp G aC b0 N1 H1 → va_S (fun q => b0 ≤ q) s.heap H1 locs1 → W p l e R s m args below meth c H1 locs1 cells slots Q (F0 m (pc + 3) ls rest)) : W p l e R s m args below meth c H locs cells slots Q (F0 m pc ls (.ref v :: .ref a :: rest)) := by
  obtain ⟨fs, h1, h2, h3⟩ := pV_ok hv
  subst h3
  exact ab_putF (C := RX8) (T := TX8) (n := 11) X hR0 hS hmn h1 h2 rfl inX8 tyX8 tyX8_ok nmX8 (by decide) (WT_of 355 (by decide +kernel) (by decide +kernel)) rfl rfl rfl rfl hdg kk
theorem pf_X8_27 {p : Program} {l : Launch} {e : Env} {R : Room} {s : State} {m : MethodId} {args : Array Value} {below : List Frame} {meth : Method} {c : Code} {H : Heap} {locs : List Loc} {cells slots : Nat} {Q : State → Prop} {cc : ByteArray} {nL : Nat} {G : va_G} {aC : Nat → ClassId} {t b0 : Nat} {N : AH} {pc : Nat} {ls : Array Slot} {rest : List Value} {N1 : AH} {a : Nat} {v : Nat} (X : CX cc RX8 nL G aC t b0 p s m args c) (hR0 : Rp G aC b0 N H) (hS : va_S (fun q => b0 ≤ q) s.heap H locs) (hmn : meth.name = "<init>") (hv : pR N a 8 6 v = some N1) (hdg : decode cc pc = .ok (.putfield 27, 3)) (kk : ∀ (H1 : Heap) (locs1 : List Loc), Rp G aC b0 N1 H1 → va_S (fun q => b0 ≤ q) s.heap H1 locs1 → W p l e R s m args below meth c H1 locs1 cells slots Q (F0 m (pc + 3) ls rest)) : W p l e R s m args below meth c H locs cells slots Q (F0 m pc ls (.ref v :: .ref a :: rest)) := by
  obtain ⟨fs, h1, h2, h3⟩ := pV_ok hv
  subst h3
  exact ab_putF (C := RX8) (T := TX8) (n := 11) X hR0 hS hmn h1 h2 rfl inX8 tyX8 tyX8_ok nmX8 (by decide) (WT_of 356 (by decide +kernel) (by decide +kernel)) rfl rfl rfl rfl hdg kk
theorem pf_X8_31 {p : Program} {l : Launch} {e : Env} {R : Room} {s : State} {m : MethodId} {args : Array Value} {below : List Frame} {meth : Method} {c : Code} {H : Heap} {locs : List Loc} {cells slots : Nat} {Q : State → Prop} {cc : ByteArray} {nL : Nat} {G : va_G} {aC : Nat → ClassId} {t b0 : Nat} {N : AH} {pc : Nat} {ls : Array Slot} {rest : List Value} {N1 : AH} {a : Nat} {v : Nat} (X : CX cc RX8 nL G aC t b0 p s m args c) (hR0 : Rp G aC b0 N H) (hS : va_S (fun q => b0 ≤ q) s.heap H locs) (hmn : meth.name = "<init>") (hv : pR N a 8 7 v = some N1) (hdg : decode cc pc = .ok (.putfield 31, 3)) (kk : ∀ (H1 : Heap) (locs1 : List Loc), Rp G aC b0 N1 H1 → va_S (fun q => b0 ≤ q) s.heap H1 locs1 → W p l e R s m args below meth c H1 locs1 cells slots Q (F0 m (pc + 3) ls rest)) : W p l e R s m args below meth c H locs cells slots Q (F0 m pc ls (.ref v :: .ref a :: rest)) := by
  obtain ⟨fs, h1, h2, h3⟩ := pV_ok hv
  subst h3
  exact ab_putF (C := RX8) (T := TX8) (n := 11) X hR0 hS hmn h1 h2 rfl inX8 tyX8 tyX8_ok nmX8 (by decide) (WT_of 357 (by decide +kernel) (by decide +kernel)) rfl rfl rfl rfl hdg kk
theorem pf_X8_34 {p : Program} {l : Launch} {e : Env} {R : Room} {s : State} {m : MethodId} {args : Array Value} {below : List Frame} {meth : Method} {c : Code} {H : Heap} {locs : List Loc} {cells slots : Nat} {Q : State → Prop} {cc : ByteArray} {nL : Nat} {G : va_G} {aC : Nat → ClassId} {t b0 : Nat} {N : AH} {pc : Nat} {ls : Array Slot} {rest : List Value} {N1 : AH} {a : Nat} {v : Nat} (X : CX cc RX8 nL G aC t b0 p s m args c) (hR0 : Rp G aC b0 N H) (hS : va_S (fun q => b0 ≤ q) s.heap H locs) (hmn : meth.name = "<init>") (hv : pR N a 8 8 v = some N1) (hdg : decode cc pc = .ok (.putfield 34, 3)) (kk : ∀ (H1 : Heap) (locs1 : List Loc), Rp G aC b0 N1 H1 → va_S (fun q => b0 ≤ q) s.heap H1 locs1 → W p l e R s m args below meth c H1 locs1 cells slots Q (F0 m (pc + 3) ls rest)) : W p l e R s m args below meth c H locs cells slots Q (F0 m pc ls (.ref v :: .ref a :: rest)) := by
  obtain ⟨fs, h1, h2, h3⟩ := pV_ok hv
  subst h3
  exact ab_putF (C := RX8) (T := TX8) (n := 11) X hR0 hS hmn h1 h2 rfl inX8 tyX8 tyX8_ok nmX8 (by decide) (WT_of 358 (by decide +kernel) (by decide +kernel)) rfl rfl rfl rfl hdg kk
theorem pf_X8_37 {p : Program} {l : Launch} {e : Env} {R : Room} {s : State} {m : MethodId} {args : Array Value} {below : List Frame} {meth : Method} {c : Code} {H : Heap} {locs : List Loc} {cells slots : Nat} {Q : State → Prop} {cc : ByteArray} {nL : Nat} {G : va_G} {aC : Nat → ClassId} {t b0 : Nat} {N : AH} {pc : Nat} {ls : Array Slot} {rest : List Value} {N1 : AH} {a : Nat} {v : Nat} (X : CX cc RX8 nL G aC t b0 p s m args c) (hR0 : Rp G aC b0 N H) (hS : va_S (fun q => b0 ≤ q) s.heap H locs) (hmn : meth.name = "<init>") (hv : pR N a 8 9 v = some N1) (hdg : decode cc pc = .ok (.putfield 37, 3)) (kk : ∀ (H1 : Heap) (locs1 : List Loc), Rp G aC b0 N1 H1 → va_S (fun q => b0 ≤ q) s.heap H1 locs1 → W p l e R s m args below meth c H1 locs1 cells slots Q (F0 m (pc + 3) ls rest)) : W p l e R s m args below meth c H locs cells slots Q (F0 m pc ls (.ref v :: .ref a :: rest)) := by
  obtain ⟨fs, h1, h2, h3⟩ := pV_ok hv
  subst h3
  exact ab_putF (C := RX8) (T := TX8) (n := 11) X hR0 hS hmn h1 h2 rfl inX8 tyX8 tyX8_ok nmX8 (by decide) (WT_of 359 (by decide +kernel) (by decide +kernel)) rfl rfl rfl rfl hdg kk
theorem pf_X8_40 {p : Program} {l : Launch} {e : Env} {R : Room} {s : State} {m : MethodId} {args : Array Value} {below : List Frame} {meth : Method} {c : Code} {H : Heap} {locs : List Loc} {cells slots : Nat} {Q : State → Prop} {cc : ByteArray} {nL : Nat} {G : va_G} {aC : Nat → ClassId} {t b0 : Nat} {N : AH} {pc : Nat} {ls : Array Slot} {rest : List Value} {N1 : AH} {a : Nat} {v : Nat} (X : CX cc RX8 nL G aC t b0 p s m args c) (hR0 : Rp G aC b0 N H) (hS : va_S (fun q => b0 ≤ q) s.heap H locs) (hmn : meth.name = "<init>") (hv : pR N a 8 10 v = some N1) (hdg : decode cc pc = .ok (.putfield 40, 3)) (kk : ∀ (H1 : Heap) (locs1 : List Loc), Rp G aC b0 N1 H1 → va_S (fun q => b0 ≤ q) s.heap H1 locs1 → W p l e R s m args below meth c H1 locs1 cells slots Q (F0 m (pc + 3) ls rest)) : W p l e R s m args below meth c H locs cells slots Q (F0 m pc ls (.ref v :: .ref a :: rest)) := by
  obtain ⟨fs, h1, h2, h3⟩ := pV_ok hv
  subst h3
  exact ab_putF (C := RX8) (T := TX8) (n := 11) X hR0 hS hmn h1 h2 rfl inX8 tyX8 tyX8_ok nmX8 (by decide) (WT_of 360 (by decide +kernel) (by decide +kernel)) rfl rfl rfl rfl hdg kk
theorem dX8_init_0 : decode cX8_init 0 = .ok (.aload_n 0, 1) := by decide +kernel
theorem dX8_init_1 : decode cX8_init 1 = .ok (.invokespecial 3, 3) := by decide +kernel
theorem dX8_init_4 : decode cX8_init 4 = .ok (.aload_n 0, 1) := by decide +kernel
theorem dX8_init_5 : decode cX8_init 5 = .ok (.bipush 12, 2) := by decide +kernel
theorem dX8_init_7 : decode cX8_init 7 = .ok (.newarray .int, 2) := by decide +kernel
theorem dX8_init_9 : decode cX8_init 9 = .ok (.putfield 9, 3) := by decide +kernel
theorem dX8_init_12 : decode cX8_init 12 = .ok (.aload_n 0, 1) := by decide +kernel
theorem dX8_init_13 : decode cX8_init 13 = .ok (.bipush 12, 2) := by decide +kernel
theorem dX8_init_15 : decode cX8_init 15 = .ok (.newarray .int, 2) := by decide +kernel
theorem dX8_init_17 : decode cX8_init 17 = .ok (.putfield 15, 3) := by decide +kernel
theorem dX8_init_20 : decode cX8_init 20 = .ok (.aload_n 0, 1) := by decide +kernel
theorem dX8_init_21 : decode cX8_init 21 = .ok (.bipush 16, 2) := by decide +kernel
theorem dX8_init_23 : decode cX8_init 23 = .ok (.newarray .int, 2) := by decide +kernel
theorem dX8_init_25 : decode cX8_init 25 = .ok (.putfield 18, 3) := by decide +kernel
theorem dX8_init_28 : decode cX8_init 28 = .ok (.aload_n 0, 1) := by decide +kernel
theorem dX8_init_29 : decode cX8_init 29 = .ok (.bipush 12, 2) := by decide +kernel
theorem dX8_init_31 : decode cX8_init 31 = .ok (.newarray .int, 2) := by decide +kernel
theorem dX8_init_33 : decode cX8_init 33 = .ok (.putfield 21, 3) := by decide +kernel
theorem dX8_init_36 : decode cX8_init 36 = .ok (.aload_n 0, 1) := by decide +kernel
theorem dX8_init_37 : decode cX8_init 37 = .ok (.bipush 12, 2) := by decide +kernel
theorem dX8_init_39 : decode cX8_init 39 = .ok (.newarray .int, 2) := by decide +kernel
theorem dX8_init_41 : decode cX8_init 41 = .ok (.putfield 24, 3) := by decide +kernel
theorem dX8_init_44 : decode cX8_init 44 = .ok (.aload_n 0, 1) := by decide +kernel
theorem dX8_init_45 : decode cX8_init 45 = .ok (.bipush 12, 2) := by decide +kernel
theorem dX8_init_47 : decode cX8_init 47 = .ok (.newarray .long, 2) := by decide +kernel
theorem dX8_init_49 : decode cX8_init 49 = .ok (.putfield 27, 3) := by decide +kernel
theorem dX8_init_52 : decode cX8_init 52 = .ok (.aload_n 0, 1) := by decide +kernel
theorem dX8_init_53 : decode cX8_init 53 = .ok (.bipush 12, 2) := by decide +kernel
theorem dX8_init_55 : decode cX8_init 55 = .ok (.newarray .int, 2) := by decide +kernel
theorem dX8_init_57 : decode cX8_init 57 = .ok (.putfield 31, 3) := by decide +kernel
theorem dX8_init_60 : decode cX8_init 60 = .ok (.aload_n 0, 1) := by decide +kernel
theorem dX8_init_61 : decode cX8_init 61 = .ok (.bipush 16, 2) := by decide +kernel
theorem dX8_init_63 : decode cX8_init 63 = .ok (.newarray .int, 2) := by decide +kernel
theorem dX8_init_65 : decode cX8_init 65 = .ok (.putfield 34, 3) := by decide +kernel
theorem dX8_init_68 : decode cX8_init 68 = .ok (.aload_n 0, 1) := by decide +kernel
theorem dX8_init_69 : decode cX8_init 69 = .ok (.bipush 16, 2) := by decide +kernel
theorem dX8_init_71 : decode cX8_init 71 = .ok (.newarray .int, 2) := by decide +kernel
theorem dX8_init_73 : decode cX8_init 73 = .ok (.putfield 37, 3) := by decide +kernel
theorem dX8_init_76 : decode cX8_init 76 = .ok (.aload_n 0, 1) := by decide +kernel
theorem dX8_init_77 : decode cX8_init 77 = .ok (.bipush 16, 2) := by decide +kernel
theorem dX8_init_79 : decode cX8_init 79 = .ok (.newarray .int, 2) := by decide +kernel
theorem dX8_init_81 : decode cX8_init 81 = .ok (.putfield 40, 3) := by decide +kernel
theorem dX8_init_84 : decode cX8_init 84 = .ok (.return_, 1) := by decide +kernel
def rm_X8_init : Room := { frames := 1, cells := 10, slots := 136, locals := 12 }
section
variable {p : Program} {l : Launch} {e : Env} {s : State} {m : MethodId} {args : Array Value} {below : List Frame} {meth : Method} {c : Code} {Q : State → Prop} {G : va_G} {aC : Nat → ClassId} {t b0 : Nat}
def f_X8_init (v0 : Nat) (N : AH) : Option (Unit × AH) := ob (pR (nI0 N 12) v0 8 1 N.1) (fun N1 => ob (pR (nI0 N1 12) v0 8 2 N1.1) (fun N2 => ob (pR (nI0 N2 16) v0 8 3 N2.1) (fun N3 => ob (pR (nI0 N3 12) v0 8 4 N3.1) (fun N4 => ob (pR (nI0 N4 12) v0 8 5 N4.1) (fun N5 => ob (pR (nJ0 N5 12) v0 8 6 N5.1) (fun N6 => ob (pR (nI0 N6 12) v0 8 7 N6.1) (fun N7 => ob (pR (nI0 N7 16) v0 8 8 N7.1) (fun N8 => ob (pR (nI0 N8 16) v0 8 9 N8.1) (fun N9 => ob (pR (nI0 N9 16) v0 8 10 N9.1) (fun N10 => some ((), N10)))))))))))
set_option maxHeartbeats 4000000 in
set_option maxRecDepth 100000 in
theorem wk_X8_init {P : Unit × AH → Prop} (X : CX cX8_init RX8 1 G aC t b0 p s m args c) (hr : RtV p l e rm_X8_init s m args below meth c 10 136 Q cX8_init G aC b0 P) (hmn : meth.name = "<init>") (v0 : Nat) (N : AH) (H : Heap) (locs : List Loc) (ls : Array Slot) (hR : Rp G aC b0 N H) (hS : va_S (fun q => b0 ≤ q) s.heap H locs) (hl : lv_has ls 1 [(0, .ref v0)]) (hp : owp (f_X8_init v0 N) P) : W p l e rm_X8_init s m args below meth c H locs 0 0 Q (F0 m 0 ls []) := by
  have hx := X.1.1
  have hb := X.1.2.1
  unfold f_X8_init at hp
  refine lv_aload_n hx hb dX8_init_0 rfl (lv_at hl 0 rfl) ?_
  refine ab_objI X (WT_of 346 (by decide +kernel) (by decide +kernel)) w_objI w_objC hl.1 (Nat.le_of_ble_eq_true rfl) (Nat.le_of_ble_eq_true rfl) dX8_init_1 ?_
  refine lv_aload_n hx hb dX8_init_4 rfl (lv_at hl 0 rfl) ?_
  refine lv_bipush (v := (12)) hx hb dX8_init_5 (by decide) ?_
  refine ab_newI (k := 12) X hR hS (WT_of 152 (by decide +kernel) (by decide +kernel)) (by decide) rfl (Nat.le_of_ble_eq_true rfl) (Nat.le_of_ble_eq_true rfl) (Nat.le_of_ble_eq_true rfl) dX8_init_7 (fun H hR hS => ?_)
  refine W.widen (k := 1) (n := 12) (Nat.le_of_ble_eq_true rfl) (Nat.le_of_ble_eq_true rfl) ?_
  obtain ⟨N1, e_N1, hp⟩ := owp_ob hp
  refine pf_X8_9 X hR hS hmn e_N1 dX8_init_9 (fun H locs hR hS => ?_)
  refine lv_aload_n hx hb dX8_init_12 rfl (lv_at hl 0 rfl) ?_
  refine lv_bipush (v := (12)) hx hb dX8_init_13 (by decide) ?_
  refine ab_newI (k := 12) X hR hS (WT_of 152 (by decide +kernel) (by decide +kernel)) (by decide) rfl (Nat.le_of_ble_eq_true rfl) (Nat.le_of_ble_eq_true rfl) (Nat.le_of_ble_eq_true rfl) dX8_init_15 (fun H hR hS => ?_)
  refine W.widen (k := 2) (n := 24) (Nat.le_of_ble_eq_true rfl) (Nat.le_of_ble_eq_true rfl) ?_
  obtain ⟨N2, e_N2, hp⟩ := owp_ob hp
  refine pf_X8_15 X hR hS hmn e_N2 dX8_init_17 (fun H locs hR hS => ?_)
  refine lv_aload_n hx hb dX8_init_20 rfl (lv_at hl 0 rfl) ?_
  refine lv_bipush (v := (16)) hx hb dX8_init_21 (by decide) ?_
  refine ab_newI (k := 16) X hR hS (WT_of 152 (by decide +kernel) (by decide +kernel)) (by decide) rfl (Nat.le_of_ble_eq_true rfl) (Nat.le_of_ble_eq_true rfl) (Nat.le_of_ble_eq_true rfl) dX8_init_23 (fun H hR hS => ?_)
  refine W.widen (k := 3) (n := 40) (Nat.le_of_ble_eq_true rfl) (Nat.le_of_ble_eq_true rfl) ?_
  obtain ⟨N3, e_N3, hp⟩ := owp_ob hp
  refine pf_X8_18 X hR hS hmn e_N3 dX8_init_25 (fun H locs hR hS => ?_)
  refine lv_aload_n hx hb dX8_init_28 rfl (lv_at hl 0 rfl) ?_
  refine lv_bipush (v := (12)) hx hb dX8_init_29 (by decide) ?_
  refine ab_newI (k := 12) X hR hS (WT_of 152 (by decide +kernel) (by decide +kernel)) (by decide) rfl (Nat.le_of_ble_eq_true rfl) (Nat.le_of_ble_eq_true rfl) (Nat.le_of_ble_eq_true rfl) dX8_init_31 (fun H hR hS => ?_)
  refine W.widen (k := 4) (n := 52) (Nat.le_of_ble_eq_true rfl) (Nat.le_of_ble_eq_true rfl) ?_
  obtain ⟨N4, e_N4, hp⟩ := owp_ob hp
  refine pf_X8_21 X hR hS hmn e_N4 dX8_init_33 (fun H locs hR hS => ?_)
  refine lv_aload_n hx hb dX8_init_36 rfl (lv_at hl 0 rfl) ?_
  refine lv_bipush (v := (12)) hx hb dX8_init_37 (by decide) ?_
  refine ab_newI (k := 12) X hR hS (WT_of 152 (by decide +kernel) (by decide +kernel)) (by decide) rfl (Nat.le_of_ble_eq_true rfl) (Nat.le_of_ble_eq_true rfl) (Nat.le_of_ble_eq_true rfl) dX8_init_39 (fun H hR hS => ?_)
  refine W.widen (k := 5) (n := 64) (Nat.le_of_ble_eq_true rfl) (Nat.le_of_ble_eq_true rfl) ?_
  obtain ⟨N5, e_N5, hp⟩ := owp_ob hp
  refine pf_X8_24 X hR hS hmn e_N5 dX8_init_41 (fun H locs hR hS => ?_)
  refine lv_aload_n hx hb dX8_init_44 rfl (lv_at hl 0 rfl) ?_
  refine lv_bipush (v := (12)) hx hb dX8_init_45 (by decide) ?_
  refine ab_newJ (k := 12) X hR hS (WT_of 384 (by decide +kernel) (by decide +kernel)) (by decide) rfl (Nat.le_of_ble_eq_true rfl) (Nat.le_of_ble_eq_true rfl) (Nat.le_of_ble_eq_true rfl) dX8_init_47 (fun H hR hS => ?_)
  refine W.widen (k := 6) (n := 76) (Nat.le_of_ble_eq_true rfl) (Nat.le_of_ble_eq_true rfl) ?_
  obtain ⟨N6, e_N6, hp⟩ := owp_ob hp
  refine pf_X8_27 X hR hS hmn e_N6 dX8_init_49 (fun H locs hR hS => ?_)
  refine lv_aload_n hx hb dX8_init_52 rfl (lv_at hl 0 rfl) ?_
  refine lv_bipush (v := (12)) hx hb dX8_init_53 (by decide) ?_
  refine ab_newI (k := 12) X hR hS (WT_of 152 (by decide +kernel) (by decide +kernel)) (by decide) rfl (Nat.le_of_ble_eq_true rfl) (Nat.le_of_ble_eq_true rfl) (Nat.le_of_ble_eq_true rfl) dX8_init_55 (fun H hR hS => ?_)
  refine W.widen (k := 7) (n := 88) (Nat.le_of_ble_eq_true rfl) (Nat.le_of_ble_eq_true rfl) ?_
  obtain ⟨N7, e_N7, hp⟩ := owp_ob hp
  refine pf_X8_31 X hR hS hmn e_N7 dX8_init_57 (fun H locs hR hS => ?_)
  refine lv_aload_n hx hb dX8_init_60 rfl (lv_at hl 0 rfl) ?_
  refine lv_bipush (v := (16)) hx hb dX8_init_61 (by decide) ?_
  refine ab_newI (k := 16) X hR hS (WT_of 152 (by decide +kernel) (by decide +kernel)) (by decide) rfl (Nat.le_of_ble_eq_true rfl) (Nat.le_of_ble_eq_true rfl) (Nat.le_of_ble_eq_true rfl) dX8_init_63 (fun H hR hS => ?_)
  refine W.widen (k := 8) (n := 104) (Nat.le_of_ble_eq_true rfl) (Nat.le_of_ble_eq_true rfl) ?_
  obtain ⟨N8, e_N8, hp⟩ := owp_ob hp
  refine pf_X8_34 X hR hS hmn e_N8 dX8_init_65 (fun H locs hR hS => ?_)
  refine lv_aload_n hx hb dX8_init_68 rfl (lv_at hl 0 rfl) ?_
  refine lv_bipush (v := (16)) hx hb dX8_init_69 (by decide) ?_
  refine ab_newI (k := 16) X hR hS (WT_of 152 (by decide +kernel) (by decide +kernel)) (by decide) rfl (Nat.le_of_ble_eq_true rfl) (Nat.le_of_ble_eq_true rfl) (Nat.le_of_ble_eq_true rfl) dX8_init_71 (fun H hR hS => ?_)
  refine W.widen (k := 9) (n := 120) (Nat.le_of_ble_eq_true rfl) (Nat.le_of_ble_eq_true rfl) ?_
  obtain ⟨N9, e_N9, hp⟩ := owp_ob hp
  refine pf_X8_37 X hR hS hmn e_N9 dX8_init_73 (fun H locs hR hS => ?_)
  refine lv_aload_n hx hb dX8_init_76 rfl (lv_at hl 0 rfl) ?_
  refine lv_bipush (v := (16)) hx hb dX8_init_77 (by decide) ?_
  refine ab_newI (k := 16) X hR hS (WT_of 152 (by decide +kernel) (by decide +kernel)) (by decide) rfl (Nat.le_of_ble_eq_true rfl) (Nat.le_of_ble_eq_true rfl) (Nat.le_of_ble_eq_true rfl) dX8_init_79 (fun H hR hS => ?_)
  refine W.widen (k := 10) (n := 136) (Nat.le_of_ble_eq_true rfl) (Nat.le_of_ble_eq_true rfl) ?_
  obtain ⟨N10, e_N10, hp⟩ := owp_ob hp
  refine pf_X8_40 X hR hS hmn e_N10 dX8_init_81 (fun H locs hR hS => ?_)
  exact hr _ _ _ _ _ hR hS dX8_init_84 hp
end
theorem ct_X8_init {v0 : Nat} {N N1 : AH} {r : Unit} (h : f_X8_init v0 N = some (r, N1)) : Ct yX8_init cX8_init 1 none rm_X8_init [.ref v0] N none N1 :=
  ab_met (own := RX8) (by decide +kernel) rfl (Nat.le_of_ble_eq_true rfl) (fun l G aC t b0 p e s m below meth c ls X hr hlk hnm hR hS hl => wk_X8_init X (RtV_met X.1.1 X.1.2.1 hr hlk) hnm _ _ _ _ _ hR hS hl (owp_of h))
theorem cw_X8_init : Cond.code yX8_init cX8_init 1 none ∈ WT := WT_of 345 (by decide +kernel) (by decide +kernel)
theorem iv_X8_init {p : Program} {l : Launch} {e : Env} {R : Room} {s : State} {m : MethodId} {args : Array Value} {below : List Frame} {meth : Method} {c : Code} {H : Heap} {locs : List Loc} {cells slots : Nat} {Q : State → Prop} {cc : ByteArray} {own : String} {nL : Nat} {G : va_G} {aC : Nat → ClassId} {t b0 : Nat} {N N1 : AH} {pc index : Nat} {ls : Array Slot} {rest : List Value} {v0 : Nat} {r : Unit} (w1 : Cond.methodLink own index yX8_init ∈ WT) (X : CX cc own nL G aC t b0 p s m args c) (hR : Rp G aC b0 N H) (hS : va_S (fun q => b0 ≤ q) s.heap H locs) (h : f_X8_init v0 N = some (r, N1)) (hls : ls.size = nL) (hW : (rest.map fun v => v.category).sum ≤ 8) (hR1 : 2 ≤ R.frames ∧ 32 ≤ R.locals) (hcs : cells + 10 ≤ R.cells ∧ slots + 136 ≤ R.slots) (hdg : decode cc pc = .ok (.invokespecial index, 3)) (kk : ∀ (H1 : Heap) (locs1 : List Loc), Rp G aC b0 N1 H1 → va_S (fun q => b0 ≤ q) s.heap H1 locs1 → W p l e R s m args below meth c H1 locs1 (cells + 10) (slots + 136) Q (F0 m (pc + 3) ls rest)) : W p l e R s m args below meth c H locs cells slots Q (F0 m pc ls (.ref v0 :: rest)) :=
  ab_callI (n := 0) (As := []) X hR hS (ct_X8_init h) w1 (WT_of 344 (by decide +kernel) (by decide +kernel)) (WT_of 89 (by decide +kernel) (by decide +kernel)) cw_X8_init rfl ⟨by decide +kernel, by decide +kernel, by decide +kernel⟩ rfl hls hW hR1 hcs rfl hdg kk
