-- X6_init
theorem pf_X6_9 {p : Program} {l : Launch} {e : Env} {R : Room} {s : State} {m : MethodId} {args : Array Value} {below : List Frame} {meth : Method} {c : Code} {H : Heap} {locs : List Loc} {cells slots : Nat} {Q : State → Prop} {cc : ByteArray} {nL : Nat} {G : va_G} {aC : Nat → ClassId} {t b0 : Nat} {N : AH} {pc : Nat} {ls : Array Slot} {rest : List Value} {N1 : AH} {a : Nat} {v : Nat} (X : CX cc RX6 nL G aC t b0 p s m args c) (hR0 : Rp G aC b0 N H) (hS : va_S (fun q => b0 ≤ q) s.heap H locs) (hmn : meth.name = "<init>") (hv : pR N a 6 0 v = some N1) (hdg : decode cc pc = .ok (.putfield 9, 3)) (kk : ∀ (H1 : Heap) (locs1 : List Loc), Rp G aC b0 N1 H1 → va_S (fun q => b0 ≤ q) s.heap H1 locs1 → W p l e R s m args below meth c H1 locs1 cells slots Q (F0 m (pc + 3) ls rest)) : W p l e R s m args below meth c H locs cells slots Q (F0 m pc ls (.ref v :: .ref a :: rest)) := by
  obtain ⟨fs, h1, h2, h3⟩ := pV_ok hv
  subst h3
  exact ab_putF (C := RX6) (T := TX6) (n := 1) X hR0 hS hmn h1 h2 rfl inX6 tyX6 tyX6_ok nmX6 (by decide) (WT_of 391 (by decide +kernel) (by decide +kernel)) rfl rfl rfl rfl hdg kk
theorem dX6_init_0 : decode cX6_init 0 = .ok (.aload_n 0, 1) := by decide +kernel
theorem dX6_init_1 : decode cX6_init 1 = .ok (.invokespecial 3, 3) := by decide +kernel
theorem dX6_init_4 : decode cX6_init 4 = .ok (.aload_n 0, 1) := by decide +kernel
theorem dX6_init_5 : decode cX6_init 5 = .ok (.bipush 16, 2) := by decide +kernel
theorem dX6_init_7 : decode cX6_init 7 = .ok (.newarray .int, 2) := by decide +kernel
theorem dX6_init_9 : decode cX6_init 9 = .ok (.putfield 9, 3) := by decide +kernel
theorem dX6_init_12 : decode cX6_init 12 = .ok (.return_, 1) := by decide +kernel
def rm_X6_init : Room := { frames := 1, cells := 1, slots := 16, locals := 12 }
section
variable {p : Program} {l : Launch} {e : Env} {s : State} {m : MethodId} {args : Array Value} {below : List Frame} {meth : Method} {c : Code} {Q : State → Prop} {G : va_G} {aC : Nat → ClassId} {t b0 : Nat}
def f_X6_init (v0 : Nat) (N : AH) : Option (Unit × AH) := ob (pR (nI0 N 16) v0 6 0 N.1) (fun N1 => some ((), N1))
set_option maxHeartbeats 4000000 in
set_option maxRecDepth 100000 in
theorem wk_X6_init {P : Unit × AH → Prop} (X : CX cX6_init RX6 1 G aC t b0 p s m args c) (hr : RtV p l e rm_X6_init s m args below meth c 1 16 Q cX6_init G aC b0 P) (hmn : meth.name = "<init>") (v0 : Nat) (N : AH) (H : Heap) (locs : List Loc) (ls : Array Slot) (hR : Rp G aC b0 N H) (hS : va_S (fun q => b0 ≤ q) s.heap H locs) (hl : lv_has ls 1 [(0, .ref v0)]) (hp : owp (f_X6_init v0 N) P) : W p l e rm_X6_init s m args below meth c H locs 0 0 Q (F0 m 0 ls []) := by
  have hx := X.1.1
  have hb := X.1.2.1
  unfold f_X6_init at hp
  refine lv_aload_n hx hb dX6_init_0 rfl (lv_at hl 0 rfl) ?_
  refine ab_objI X (WT_of 390 (by decide +kernel) (by decide +kernel)) w_objI w_objC hl.1 (Nat.le_of_ble_eq_true rfl) (Nat.le_of_ble_eq_true rfl) dX6_init_1 ?_
  refine lv_aload_n hx hb dX6_init_4 rfl (lv_at hl 0 rfl) ?_
  refine lv_bipush (v := (16)) hx hb dX6_init_5 (by decide) ?_
  refine ab_newI (k := 16) X hR hS (WT_of 152 (by decide +kernel) (by decide +kernel)) (by decide) rfl (Nat.le_of_ble_eq_true rfl) (Nat.le_of_ble_eq_true rfl) (Nat.le_of_ble_eq_true rfl) dX6_init_7 (fun H hR hS => ?_)
  refine W.widen (k := 1) (n := 16) (Nat.le_of_ble_eq_true rfl) (Nat.le_of_ble_eq_true rfl) ?_
  obtain ⟨N1, e_N1, hp⟩ := owp_ob hp
  refine pf_X6_9 X hR hS hmn e_N1 dX6_init_9 (fun H locs hR hS => ?_)
  exact hr _ _ _ _ _ hR hS dX6_init_12 hp
end
theorem ct_X6_init {v0 : Nat} {N N1 : AH} {r : Unit} (h : f_X6_init v0 N = some (r, N1)) : Ct yX6_init cX6_init 1 none rm_X6_init [.ref v0] N none N1 :=
  ab_met (own := RX6) (by decide +kernel) rfl (Nat.le_of_ble_eq_true rfl) (fun l G aC t b0 p e s m below meth c ls X hr hlk hnm hR hS hl => wk_X6_init X (RtV_met X.1.1 X.1.2.1 hr hlk) hnm _ _ _ _ _ hR hS hl (owp_of h))
theorem cw_X6_init : Cond.code yX6_init cX6_init 1 none ∈ WT := WT_of 389 (by decide +kernel) (by decide +kernel)
theorem iv_X6_init {p : Program} {l : Launch} {e : Env} {R : Room} {s : State} {m : MethodId} {args : Array Value} {below : List Frame} {meth : Method} {c : Code} {H : Heap} {locs : List Loc} {cells slots : Nat} {Q : State → Prop} {cc : ByteArray} {own : String} {nL : Nat} {G : va_G} {aC : Nat → ClassId} {t b0 : Nat} {N N1 : AH} {pc index : Nat} {ls : Array Slot} {rest : List Value} {v0 : Nat} {r : Unit} (w1 : Cond.methodLink own index yX6_init ∈ WT) (X : CX cc own nL G aC t b0 p s m args c) (hR : Rp G aC b0 N H) (hS : va_S (fun q => b0 ≤ q) s.heap H locs) (h : f_X6_init v0 N = some (r, N1)) (hls : ls.size = nL) (hW : (rest.map fun v => v.category).sum ≤ 8) (hR1 : 2 ≤ R.frames ∧ 32 ≤ R.locals) (hcs : cells + 1 ≤ R.cells ∧ slots + 16 ≤ R.slots) (hdg : decode cc pc = .ok (.invokespecial index, 3)) (kk : ∀ (H1 : Heap) (locs1 : List Loc), Rp G aC b0 N1 H1 → va_S (fun q => b0 ≤ q) s.heap H1 locs1 → W p l e R s m args below meth c H1 locs1 (cells + 1) (slots + 16) Q (F0 m (pc + 3) ls rest)) : W p l e R s m args below meth c H locs cells slots Q (F0 m pc ls (.ref v0 :: rest)) :=
  ab_callI (n := 0) (As := []) X hR hS (ct_X6_init h) w1 (WT_of 388 (by decide +kernel) (by decide +kernel)) (WT_of 90 (by decide +kernel) (by decide +kernel)) cw_X6_init rfl ⟨by decide +kernel, by decide +kernel, by decide +kernel⟩ rfl hls hW hR1 hcs rfl hdg kk
-- X3_init
theorem mw_X3_11 : Cond.methodLink RX3 11 yX7_init ∈ WT := WT_of 402 (by decide +kernel) (by decide +kernel)
theorem mw_X3_20 : Cond.methodLink RX3 20 yX8_init ∈ WT := WT_of 404 (by decide +kernel) (by decide +kernel)
theorem mw_X3_27 : Cond.methodLink RX3 27 yX6_init ∈ WT := WT_of 406 (by decide +kernel) (by decide +kernel)
abbrev zX6 : List Value := [.null]
theorem no_X6 {p : Program} {l : Launch} {e : Env} {R : Room} {s : State} {m : MethodId} {args : Array Value} {below : List Frame} {meth : Method} {c : Code} {H : Heap} {locs : List Loc} {cells slots : Nat} {Q : State → Prop} {cc : ByteArray} {nL : Nat} {G : va_G} {aC : Nat → ClassId} {t b0 : Nat} {N : AH} {pc : Nat} {ls : Array Slot} {rest : List Value} {own : String} {index : Nat} (X : CX cc own nL G aC t b0 p s m args c) (hR0 : Rp G aC b0 N H) (hS : va_S (fun q => b0 ≤ q) s.heap H locs) (w1 : Cond.classLink own index RX6 ∈ WT) (hc1 : cells + 1 ≤ R.cells) (hs1 : slots + 1 ≤ R.slots) (hdg : decode cc pc = .ok (.new index, 3)) (kk : ∀ (H1 : Heap), Rp G aC b0 (nO N 6 zX6) H1 → va_S (fun q => b0 ≤ q) s.heap H1 locs → W p l e R s m args below meth c H1 locs (cells + 1) (slots + 1) Q (F0 m (pc + 3) ls (.ref N.1 :: rest))) : W p l e R s m args below meth c H locs cells slots Q (F0 m pc ls rest) :=
  ab_new_o (C := RX6) (T := TX6) (n := 1) X hR0 hS rfl inX6 tyX6 tyX6_ok w1 (WT_of 386 (by decide +kernel) (by decide +kernel)) (WT_of 90 (by decide +kernel) (by decide +kernel)) (fun j hj => by
    match j, hj with
    | 0, _ => rfl
    | j + 1, h => exact absurd h (by omega)) hc1 hs1 hdg kk
abbrev zX7 : List Value := [.int 0, .int 0, .int 0, .int 0, .int 0, .int 0, .int 0, .null, .null, .null, .null, .null]
theorem no_X7 {p : Program} {l : Launch} {e : Env} {R : Room} {s : State} {m : MethodId} {args : Array Value} {below : List Frame} {meth : Method} {c : Code} {H : Heap} {locs : List Loc} {cells slots : Nat} {Q : State → Prop} {cc : ByteArray} {nL : Nat} {G : va_G} {aC : Nat → ClassId} {t b0 : Nat} {N : AH} {pc : Nat} {ls : Array Slot} {rest : List Value} {own : String} {index : Nat} (X : CX cc own nL G aC t b0 p s m args c) (hR0 : Rp G aC b0 N H) (hS : va_S (fun q => b0 ≤ q) s.heap H locs) (w1 : Cond.classLink own index RX7 ∈ WT) (hc1 : cells + 1 ≤ R.cells) (hs1 : slots + 12 ≤ R.slots) (hdg : decode cc pc = .ok (.new index, 3)) (kk : ∀ (H1 : Heap), Rp G aC b0 (nO N 7 zX7) H1 → va_S (fun q => b0 ≤ q) s.heap H1 locs → W p l e R s m args below meth c H1 locs (cells + 1) (slots + 12) Q (F0 m (pc + 3) ls (.ref N.1 :: rest))) : W p l e R s m args below meth c H locs cells slots Q (F0 m pc ls rest) :=
  ab_new_o (C := RX7) (T := TX7) (n := 12) X hR0 hS rfl inX7 tyX7 tyX7_ok w1 (WT_of 169 (by decide +kernel) (by decide +kernel)) (WT_of 84 (by decide +kernel) (by decide +kernel)) (fun j hj => by
    match j, hj with
    | 0, _ => rfl
    | 1, _ => rfl
    | 2, _ => rfl
    | 3, _ => rfl
    | 4, _ => rfl
    | 5, _ => rfl
    | 6, _ => rfl
    | 7, _ => rfl
    | 8, _ => rfl
    | 9, _ => rfl
    | 10, _ => rfl
    | 11, _ => rfl
    | j + 12, h => exact absurd h (by omega)) hc1 hs1 hdg kk
abbrev zX8 : List Value := [.int 0, .null, .null, .null, .null, .null, .null, .null, .null, .null, .null]
theorem no_X8 {p : Program} {l : Launch} {e : Env} {R : Room} {s : State} {m : MethodId} {args : Array Value} {below : List Frame} {meth : Method} {c : Code} {H : Heap} {locs : List Loc} {cells slots : Nat} {Q : State → Prop} {cc : ByteArray} {nL : Nat} {G : va_G} {aC : Nat → ClassId} {t b0 : Nat} {N : AH} {pc : Nat} {ls : Array Slot} {rest : List Value} {own : String} {index : Nat} (X : CX cc own nL G aC t b0 p s m args c) (hR0 : Rp G aC b0 N H) (hS : va_S (fun q => b0 ≤ q) s.heap H locs) (w1 : Cond.classLink own index RX8 ∈ WT) (hc1 : cells + 1 ≤ R.cells) (hs1 : slots + 11 ≤ R.slots) (hdg : decode cc pc = .ok (.new index, 3)) (kk : ∀ (H1 : Heap), Rp G aC b0 (nO N 8 zX8) H1 → va_S (fun q => b0 ≤ q) s.heap H1 locs → W p l e R s m args below meth c H1 locs (cells + 1) (slots + 11) Q (F0 m (pc + 3) ls (.ref N.1 :: rest))) : W p l e R s m args below meth c H locs cells slots Q (F0 m pc ls rest) :=
  ab_new_o (C := RX8) (T := TX8) (n := 11) X hR0 hS rfl inX8 tyX8 tyX8_ok w1 (WT_of 342 (by decide +kernel) (by decide +kernel)) (WT_of 89 (by decide +kernel) (by decide +kernel)) (fun j hj => by
    match j, hj with
    | 0, _ => rfl
    | 1, _ => rfl
    | 2, _ => rfl
    | 3, _ => rfl
    | 4, _ => rfl
    | 5, _ => rfl
    | 6, _ => rfl
    | 7, _ => rfl
    | 8, _ => rfl
    | 9, _ => rfl
    | 10, _ => rfl
    | j + 11, h => exact absurd h (by omega)) hc1 hs1 hdg kk
theorem pf_X3_12 {p : Program} {l : Launch} {e : Env} {R : Room} {s : State} {m : MethodId} {args : Array Value} {below : List Frame} {meth : Method} {c : Code} {H : Heap} {locs : List Loc} {cells slots : Nat} {Q : State → Prop} {cc : ByteArray} {nL : Nat} {G : va_G} {aC : Nat → ClassId} {t b0 : Nat} {N : AH} {pc : Nat} {ls : Array Slot} {rest : List Value} {N1 : AH} {a : Nat} {v : Nat} (X : CX cc RX3 nL G aC t b0 p s m args c) (hR0 : Rp G aC b0 N H) (hS : va_S (fun q => b0 ≤ q) s.heap H locs) (hmn : meth.name = "<init>") (hv : pR N a 3 0 v = some N1) (hdg : decode cc pc = .ok (.putfield 12, 3)) (kk : ∀ (H1 : Heap) (locs1 : List Loc), Rp G aC b0 N1 H1 → va_S (fun q => b0 ≤ q) s.heap H1 locs1 → W p l e R s m args below meth c H1 locs1 cells slots Q (F0 m (pc + 3) ls rest)) : W p l e R s m args below meth c H locs cells slots Q (F0 m pc ls (.ref v :: .ref a :: rest)) := by
  obtain ⟨fs, h1, h2, h3⟩ := pV_ok hv
  subst h3
  exact ab_putF (C := RX3) (T := TX3) (n := 7) X hR0 hS hmn h1 h2 rfl inX3 tyX3 tyX3_ok nmX3 (by decide) (WT_of 407 (by decide +kernel) (by decide +kernel)) rfl rfl rfl rfl hdg kk
theorem pf_X3_21 {p : Program} {l : Launch} {e : Env} {R : Room} {s : State} {m : MethodId} {args : Array Value} {below : List Frame} {meth : Method} {c : Code} {H : Heap} {locs : List Loc} {cells slots : Nat} {Q : State → Prop} {cc : ByteArray} {nL : Nat} {G : va_G} {aC : Nat → ClassId} {t b0 : Nat} {N : AH} {pc : Nat} {ls : Array Slot} {rest : List Value} {N1 : AH} {a : Nat} {v : Nat} (X : CX cc RX3 nL G aC t b0 p s m args c) (hR0 : Rp G aC b0 N H) (hS : va_S (fun q => b0 ≤ q) s.heap H locs) (hmn : meth.name = "<init>") (hv : pR N a 3 1 v = some N1) (hdg : decode cc pc = .ok (.putfield 21, 3)) (kk : ∀ (H1 : Heap) (locs1 : List Loc), Rp G aC b0 N1 H1 → va_S (fun q => b0 ≤ q) s.heap H1 locs1 → W p l e R s m args below meth c H1 locs1 cells slots Q (F0 m (pc + 3) ls rest)) : W p l e R s m args below meth c H locs cells slots Q (F0 m pc ls (.ref v :: .ref a :: rest)) := by
  obtain ⟨fs, h1, h2, h3⟩ := pV_ok hv
  subst h3
  exact ab_putF (C := RX3) (T := TX3) (n := 7) X hR0 hS hmn h1 h2 rfl inX3 tyX3 tyX3_ok nmX3 (by decide) (WT_of 409 (by decide +kernel) (by decide +kernel)) rfl rfl rfl rfl hdg kk
theorem pf_X3_28 {p : Program} {l : Launch} {e : Env} {R : Room} {s : State} {m : MethodId} {args : Array Value} {below : List Frame} {meth : Method} {c : Code} {H : Heap} {locs : List Loc} {cells slots : Nat} {Q : State → Prop} {cc : ByteArray} {nL : Nat} {G : va_G} {aC : Nat → ClassId} {t b0 : Nat} {N : AH} {pc : Nat} {ls : Array Slot} {rest : List Value} {N1 : AH} {a : Nat} {v : Nat} (X : CX cc RX3 nL G aC t b0 p s m args c) (hR0 : Rp G aC b0 N H) (hS : va_S (fun q => b0 ≤ q) s.heap H locs) (hmn : meth.name = "<init>") (hv : pR N a 3 2 v = some N1) (hdg : decode cc pc = .ok (.putfield 28, 3)) (kk : ∀ (H1 : Heap) (locs1 : List Loc), Rp G aC b0 N1 H1 → va_S (fun q => b0 ≤ q) s.heap H1 locs1 → W p l e R s m args below meth c H1 locs1 cells slots Q (F0 m (pc + 3) ls rest)) : W p l e R s m args below meth c H locs cells slots Q (F0 m pc ls (.ref v :: .ref a :: rest)) := by
  obtain ⟨fs, h1, h2, h3⟩ := pV_ok hv
  subst h3
  exact ab_putF (C := RX3) (T := TX3) (n := 7) X hR0 hS hmn h1 h2 rfl inX3 tyX3 tyX3_ok nmX3 (by decide) (WT_of 411 (by decide +kernel) (by decide +kernel)) rfl rfl rfl rfl hdg kk
theorem pf_X3_32 {p : Program} {l : Launch} {e : Env} {R : Room} {s : State} {m : MethodId} {args : Array Value} {below : List Frame} {meth : Method} {c : Code} {H : Heap} {locs : List Loc} {cells slots : Nat} {Q : State → Prop} {cc : ByteArray} {nL : Nat} {G : va_G} {aC : Nat → ClassId} {t b0 : Nat} {N : AH} {pc : Nat} {ls : Array Slot} {rest : List Value} {N1 : AH} {a : Nat} {v : Nat} (X : CX cc RX3 nL G aC t b0 p s m args c) (hR0 : Rp G aC b0 N H) (hS : va_S (fun q => b0 ≤ q) s.heap H locs) (hmn : meth.name = "<init>") (hv : pR N a 3 4 v = some N1) (hdg : decode cc pc = .ok (.putfield 32, 3)) (kk : ∀ (H1 : Heap) (locs1 : List Loc), Rp G aC b0 N1 H1 → va_S (fun q => b0 ≤ q) s.heap H1 locs1 → W p l e R s m args below meth c H1 locs1 cells slots Q (F0 m (pc + 3) ls rest)) : W p l e R s m args below meth c H locs cells slots Q (F0 m pc ls (.ref v :: .ref a :: rest)) := by
  obtain ⟨fs, h1, h2, h3⟩ := pV_ok hv
  subst h3
  exact ab_putF (C := RX3) (T := TX3) (n := 7) X hR0 hS hmn h1 h2 rfl inX3 tyX3 tyX3_ok nmX3 (by decide) (WT_of 414 (by decide +kernel) (by decide +kernel)) rfl rfl rfl rfl hdg kk
theorem pf_X3_36 {p : Program} {l : Launch} {e : Env} {R : Room} {s : State} {m : MethodId} {args : Array Value} {below : List Frame} {meth : Method} {c : Code} {H : Heap} {locs : List Loc} {cells slots : Nat} {Q : State → Prop} {cc : ByteArray} {nL : Nat} {G : va_G} {aC : Nat → ClassId} {t b0 : Nat} {N : AH} {pc : Nat} {ls : Array Slot} {rest : List Value} {N1 : AH} {a : Nat} {v : Nat} (X : CX cc RX3 nL G aC t b0 p s m args c) (hR0 : Rp G aC b0 N H) (hS : va_S (fun q => b0 ≤ q) s.heap H locs) (hmn : meth.name = "<init>") (hv : pR N a 3 6 v = some N1) (hdg : decode cc pc = .ok (.putfield 36, 3)) (kk : ∀ (H1 : Heap) (locs1 : List Loc), Rp G aC b0 N1 H1 → va_S (fun q => b0 ≤ q) s.heap H1 locs1 → W p l e R s m args below meth c H1 locs1 cells slots Q (F0 m (pc + 3) ls rest)) : W p l e R s m args below meth c H locs cells slots Q (F0 m pc ls (.ref v :: .ref a :: rest)) := by
  obtain ⟨fs, h1, h2, h3⟩ := pV_ok hv
  subst h3
  exact ab_putF (C := RX3) (T := TX3) (n := 7) X hR0 hS hmn h1 h2 rfl inX3 tyX3 tyX3_ok nmX3 (by decide) (WT_of 417 (by decide +kernel) (by decide +kernel)) rfl rfl rfl rfl hdg kk
theorem dX3_init_0 : decode cX3_init 0 = .ok (.aload_n 0, 1) := by decide +kernel
theorem dX3_init_1 : decode cX3_init 1 = .ok (.invokespecial 3, 3) := by decide +kernel
theorem dX3_init_4 : decode cX3_init 4 = .ok (.aload_n 0, 1) := by decide +kernel
theorem dX3_init_5 : decode cX3_init 5 = .ok (.new 9, 3) := by decide +kernel
theorem dX3_init_8 : decode cX3_init 8 = .ok (.dup, 1) := by decide +kernel
theorem dX3_init_9 : decode cX3_init 9 = .ok (.invokespecial 11, 3) := by decide +kernel
theorem dX3_init_12 : decode cX3_init 12 = .ok (.putfield 12, 3) := by decide +kernel
theorem dX3_init_15 : decode cX3_init 15 = .ok (.aload_n 0, 1) := by decide +kernel
theorem dX3_init_16 : decode cX3_init 16 = .ok (.new 18, 3) := by decide +kernel
theorem dX3_init_19 : decode cX3_init 19 = .ok (.dup, 1) := by decide +kernel
theorem dX3_init_20 : decode cX3_init 20 = .ok (.invokespecial 20, 3) := by decide +kernel
theorem dX3_init_23 : decode cX3_init 23 = .ok (.putfield 21, 3) := by decide +kernel
theorem dX3_init_26 : decode cX3_init 26 = .ok (.aload_n 0, 1) := by decide +kernel
theorem dX3_init_27 : decode cX3_init 27 = .ok (.new 25, 3) := by decide +kernel
theorem dX3_init_30 : decode cX3_init 30 = .ok (.dup, 1) := by decide +kernel
theorem dX3_init_31 : decode cX3_init 31 = .ok (.invokespecial 27, 3) := by decide +kernel
theorem dX3_init_34 : decode cX3_init 34 = .ok (.putfield 28, 3) := by decide +kernel
theorem dX3_init_37 : decode cX3_init 37 = .ok (.aload_n 0, 1) := by decide +kernel
theorem dX3_init_38 : decode cX3_init 38 = .ok (.iconst 4, 1) := by decide +kernel
theorem dX3_init_39 : decode cX3_init 39 = .ok (.newarray .int, 2) := by decide +kernel
theorem dX3_init_41 : decode cX3_init 41 = .ok (.putfield 32, 3) := by decide +kernel
theorem dX3_init_44 : decode cX3_init 44 = .ok (.aload_n 0, 1) := by decide +kernel
theorem dX3_init_45 : decode cX3_init 45 = .ok (.iconst 4, 1) := by decide +kernel
theorem dX3_init_46 : decode cX3_init 46 = .ok (.newarray .int, 2) := by decide +kernel
theorem dX3_init_48 : decode cX3_init 48 = .ok (.putfield 36, 3) := by decide +kernel
theorem dX3_init_51 : decode cX3_init 51 = .ok (.return_, 1) := by decide +kernel
def rm_X3_init : Room := { frames := 4, cells := 113, slots := 1483, locals := 73 }
section
variable {p : Program} {l : Launch} {e : Env} {s : State} {m : MethodId} {args : Array Value} {below : List Frame} {meth : Method} {c : Code} {Q : State → Prop} {G : va_G} {aC : Nat → ClassId} {t b0 : Nat}
def f_X3_init (v0 : Nat) (N : AH) : Option (Unit × AH) := ob2 (f_X7_init N.1 (nO N 7 zX7)) (fun _ N1 => ob (pR N1 v0 3 0 N.1) (fun N2 => ob2 (f_X8_init N2.1 (nO N2 8 zX8)) (fun _ N3 => ob (pR N3 v0 3 1 N2.1) (fun N4 => ob2 (f_X6_init N4.1 (nO N4 6 zX6)) (fun _ N5 => ob (pR N5 v0 3 2 N4.1) (fun N6 => ob (pR (nI0 N6 4) v0 3 4 N6.1) (fun N7 => ob (pR (nI0 N7 4) v0 3 6 N7.1) (fun N8 => some ((), N8)))))))))
set_option maxHeartbeats 4000000 in
set_option maxRecDepth 100000 in
theorem wk_X3_init {P : Unit × AH → Prop} (X : CX cX3_init RX3 1 G aC t b0 p s m args c) (hr : RtV p l e rm_X3_init s m args below meth c 113 1483 Q cX3_init G aC b0 P) (hmn : meth.name = "<init>") (v0 : Nat) (N : AH) (H : Heap) (locs : List Loc) (ls : Array Slot) (hR : Rp G aC b0 N H) (hS : va_S (fun q => b0 ≤ q) s.heap H locs) (hl : lv_has ls 1 [(0, .ref v0)]) (hp : owp (f_X3_init v0 N) P) : W p l e rm_X3_init s m args below meth c H locs 0 0 Q (F0 m 0 ls []) := by
  have hx := X.1.1
  have hb := X.1.2.1
  unfold f_X3_init at hp
  refine lv_aload_n hx hb dX3_init_0 rfl (lv_at hl 0 rfl) ?_
  refine ab_objI X (WT_of 400 (by decide +kernel) (by decide +kernel)) w_objI w_objC hl.1 (Nat.le_of_ble_eq_true rfl) (Nat.le_of_ble_eq_true rfl) dX3_init_1 ?_
  refine lv_aload_n hx hb dX3_init_4 rfl (lv_at hl 0 rfl) ?_
  refine no_X7 (own := RX3) X hR hS (WT_of 401 (by decide +kernel) (by decide +kernel)) (Nat.le_of_ble_eq_true rfl) (Nat.le_of_ble_eq_true rfl) dX3_init_5 (fun H hR hS => ?_)
  refine W.widen (k := 1) (n := 12) (Nat.le_of_ble_eq_true rfl) (Nat.le_of_ble_eq_true rfl) ?_
  refine lv_dup hx hb dX3_init_8 rfl ?_
  obtain ⟨_, N1, e_N1, hp⟩ := owp_ob2 hp
  refine iv_X7_init (rest := [.ref N.1, .ref v0]) mw_X3_11 X hR hS e_N1 hl.1 (Nat.le_of_ble_eq_true rfl) ⟨Nat.le_of_ble_eq_true rfl, Nat.le_of_ble_eq_true rfl⟩ ⟨Nat.le_of_ble_eq_true rfl, Nat.le_of_ble_eq_true rfl⟩ dX3_init_9 (fun H locs hR hS => ?_)
  refine W.widen (k := 98) (n := 1311) (Nat.le_of_ble_eq_true rfl) (Nat.le_of_ble_eq_true rfl) ?_
  obtain ⟨N2, e_N2, hp⟩ := owp_ob hp
  refine pf_X3_12 X hR hS hmn e_N2 dX3_init_12 (fun H locs hR hS => ?_)
  refine lv_aload_n hx hb dX3_init_15 rfl (lv_at hl 0 rfl) ?_
  refine no_X8 (own := RX3) X hR hS (WT_of 403 (by decide +kernel) (by decide +kernel)) (Nat.le_of_ble_eq_true rfl) (Nat.le_of_ble_eq_true rfl) dX3_init_16 (fun H hR hS => ?_)
  refine W.widen (k := 99) (n := 1322) (Nat.le_of_ble_eq_true rfl) (Nat.le_of_ble_eq_true rfl) ?_
  refine lv_dup hx hb dX3_init_19 rfl ?_
  obtain ⟨_, N3, e_N3, hp⟩ := owp_ob2 hp
  refine iv_X8_init (rest := [.ref N2.1, .ref v0]) mw_X3_20 X hR hS e_N3 hl.1 (Nat.le_of_ble_eq_true rfl) ⟨Nat.le_of_ble_eq_true rfl, Nat.le_of_ble_eq_true rfl⟩ ⟨Nat.le_of_ble_eq_true rfl, Nat.le_of_ble_eq_true rfl⟩ dX3_init_20 (fun H locs hR hS => ?_)
  refine W.widen (k := 109) (n := 1458) (Nat.le_of_ble_eq_true rfl) (Nat.le_of_ble_eq_true rfl) ?_
  obtain ⟨N4, e_N4, hp⟩ := owp_ob hp
  refine pf_X3_21 X hR hS hmn e_N4 dX3_init_23 (fun H locs hR hS => ?_)
  refine lv_aload_n hx hb dX3_init_26 rfl (lv_at hl 0 rfl) ?_
  refine no_X6 (own := RX3) X hR hS (WT_of 405 (by decide +kernel) (by decide +kernel)) (Nat.le_of_ble_eq_true rfl) (Nat.le_of_ble_eq_true rfl) dX3_init_27 (fun H hR hS => ?_)
  refine W.widen (k := 110) (n := 1459) (Nat.le_of_ble_eq_true rfl) (Nat.le_of_ble_eq_true rfl) ?_
  refine lv_dup hx hb dX3_init_30 rfl ?_
  obtain ⟨_, N5, e_N5, hp⟩ := owp_ob2 hp
  refine iv_X6_init (rest := [.ref N4.1, .ref v0]) mw_X3_27 X hR hS e_N5 hl.1 (Nat.le_of_ble_eq_true rfl) ⟨Nat.le_of_ble_eq_true rfl, Nat.le_of_ble_eq_true rfl⟩ ⟨Nat.le_of_ble_eq_true rfl, Nat.le_of_ble_eq_true rfl⟩ dX3_init_31 (fun H locs hR hS => ?_)
  refine W.widen (k := 111) (n := 1475) (Nat.le_of_ble_eq_true rfl) (Nat.le_of_ble_eq_true rfl) ?_
  obtain ⟨N6, e_N6, hp⟩ := owp_ob hp
  refine pf_X3_28 X hR hS hmn e_N6 dX3_init_34 (fun H locs hR hS => ?_)
  refine lv_aload_n hx hb dX3_init_37 rfl (lv_at hl 0 rfl) ?_
  refine lv_iconst (v := (4)) hx hb dX3_init_38 (by decide) ?_
  refine ab_newI (k := 4) X hR hS (WT_of 152 (by decide +kernel) (by decide +kernel)) (by decide) rfl (Nat.le_of_ble_eq_true rfl) (Nat.le_of_ble_eq_true rfl) (Nat.le_of_ble_eq_true rfl) dX3_init_39 (fun H hR hS => ?_)
  refine W.widen (k := 112) (n := 1479) (Nat.le_of_ble_eq_true rfl) (Nat.le_of_ble_eq_true rfl) ?_
  obtain ⟨N7, e_N7, hp⟩ := owp_ob hp
  refine pf_X3_32 X hR hS hmn e_N7 dX3_init_41 (fun H locs hR hS => ?_)
  refine lv_aload_n hx hb dX3_init_44 rfl (lv_at hl 0 rfl) ?_
  refine lv_iconst (v := (4)) hx hb dX3_init_45 (by decide) ?_
  refine ab_newI (k := 4) X hR hS (WT_of 152 (by decide +kernel) (by decide +kernel)) (by decide) rfl (Nat.le_of_ble_eq_true rfl) (Nat.le_of_ble_eq_true rfl) (Nat.le_of_ble_eq_true rfl) dX3_init_46 (fun H hR hS => ?_)
  refine W.widen (k := 113) (n := 1483) (Nat.le_of_ble_eq_true rfl) (Nat.le_of_ble_eq_true rfl) ?_
  obtain ⟨N8, e_N8, hp⟩ := owp_ob hp
  refine pf_X3_36 X hR hS hmn e_N8 dX3_init_48 (fun H locs hR hS => ?_)
  exact hr _ _ _ _ _ hR hS dX3_init_51 hp
end
theorem ct_X3_init {v0 : Nat} {N N1 : AH} {r : Unit} (h : f_X3_init v0 N = some (r, N1)) : Ct yX3_init cX3_init 1 none rm_X3_init [.ref v0] N none N1 :=
  ab_met (own := RX3) (by decide +kernel) rfl (Nat.le_of_ble_eq_true rfl) (fun l G aC t b0 p e s m below meth c ls X hr hlk hnm hR hS hl => wk_X3_init X (RtV_met X.1.1 X.1.2.1 hr hlk) hnm _ _ _ _ _ hR hS hl (owp_of h))
theorem cw_X3_init : Cond.code yX3_init cX3_init 1 none ∈ WT := WT_of 399 (by decide +kernel) (by decide +kernel)
theorem iv_X3_init {p : Program} {l : Launch} {e : Env} {R : Room} {s : State} {m : MethodId} {args : Array Value} {below : List Frame} {meth : Method} {c : Code} {H : Heap} {locs : List Loc} {cells slots : Nat} {Q : State → Prop} {cc : ByteArray} {own : String} {nL : Nat} {G : va_G} {aC : Nat → ClassId} {t b0 : Nat} {N N1 : AH} {pc index : Nat} {ls : Array Slot} {rest : List Value} {v0 : Nat} {r : Unit} (w1 : Cond.methodLink own index yX3_init ∈ WT) (X : CX cc own nL G aC t b0 p s m args c) (hR : Rp G aC b0 N H) (hS : va_S (fun q => b0 ≤ q) s.heap H locs) (h : f_X3_init v0 N = some (r, N1)) (hls : ls.size = nL) (hW : (rest.map fun v => v.category).sum ≤ 8) (hR1 : 5 ≤ R.frames ∧ 93 ≤ R.locals) (hcs : cells + 113 ≤ R.cells ∧ slots + 1483 ≤ R.slots) (hdg : decode cc pc = .ok (.invokespecial index, 3)) (kk : ∀ (H1 : Heap) (locs1 : List Loc), Rp G aC b0 N1 H1 → va_S (fun q => b0 ≤ q) s.heap H1 locs1 → W p l e R s m args below meth c H1 locs1 (cells + 113) (slots + 1483) Q (F0 m (pc + 3) ls rest)) : W p l e R s m args below meth c H locs cells slots Q (F0 m pc ls (.ref v0 :: rest)) :=
  ab_callI (n := 0) (As := []) X hR hS (ct_X3_init h) w1 (WT_of 398 (by decide +kernel) (by decide +kernel)) (WT_of 91 (by decide +kernel) (by decide +kernel)) cw_X3_init rfl ⟨by decide +kernel, by decide +kernel, by decide +kernel⟩ rfl hls hW hR1 hcs rfl hdg kk
-- X3_forget
theorem pf_X3_39 {p : Program} {l : Launch} {e : Env} {R : Room} {s : State} {m : MethodId} {args : Array Value} {below : List Frame} {meth : Method} {c : Code} {H : Heap} {locs : List Loc} {cells slots : Nat} {Q : State → Prop} {cc : ByteArray} {nL : Nat} {G : va_G} {aC : Nat → ClassId} {t b0 : Nat} {N : AH} {pc : Nat} {ls : Array Slot} {rest : List Value} {N1 : AH} {a : Nat} {v : Int32} (X : CX cc RX3 nL G aC t b0 p s m args c) (hR0 : Rp G aC b0 N H) (hS : va_S (fun q => b0 ≤ q) s.heap H locs) (hv : pZ N a 3 5 v = some N1) (hdg : decode cc pc = .ok (.putfield 39, 3)) (kk : ∀ (H1 : Heap) (locs1 : List Loc), Rp G aC b0 N1 H1 → va_S (fun q => b0 ≤ q) s.heap H1 locs1 → W p l e R s m args below meth c H1 locs1 cells slots Q (F0 m (pc + 3) ls rest)) : W p l e R s m args below meth c H locs cells slots Q (F0 m pc ls (.int v :: .ref a :: rest)) := by
  unfold pZ at hv
  split at hv
  case isFalse => cases hv
  rename_i h01
  obtain ⟨fs, h1, h2, h3⟩ := pV_ok hv
  subst h3
  exact ab_put (C := RX3) (T := TX3) (n := 7) X hR0 hS h1 h2 rfl inX3 tyX3 tyX3_ok nmX3 (by decide) (WT_of 416 (by decide +kernel) (by decide +kernel)) rfl (by rcases h01 with rfl | rfl <;> rfl) (by rcases h01 with rfl | rfl <;> rfl) hdg kk
theorem dX3_forget_0 : decode cX3_forget 0 = .ok (.aload_n 0, 1) := by decide +kernel
theorem dX3_forget_1 : decode cX3_forget 1 = .ok (.iconst 0, 1) := by decide +kernel
theorem dX3_forget_2 : decode cX3_forget 2 = .ok (.putfield 39, 3) := by decide +kernel
theorem dX3_forget_5 : decode cX3_forget 5 = .ok (.return_, 1) := by decide +kernel
def rm_X3_forget : Room := { frames := 0, cells := 0, slots := 0, locals := 0 }
section
variable {p : Program} {l : Launch} {e : Env} {s : State} {m : MethodId} {args : Array Value} {below : List Frame} {meth : Method} {c : Code} {Q : State → Prop} {G : va_G} {aC : Nat → ClassId} {t b0 : Nat}
def f_X3_forget (v0 : Nat) (N : AH) : Option (Unit × AH) := ob (iO N v0 3) (fun _ => ob (pZ N v0 3 5 (0 : Int32)) (fun N1 => some ((), N1)))
set_option maxHeartbeats 4000000 in
set_option maxRecDepth 100000 in
theorem wk_X3_forget {P : Unit × AH → Prop} (X : CX cX3_forget RX3 1 G aC t b0 p s m args c) (hr : RtV p l e rm_X3_forget s m args below meth c 0 0 Q cX3_forget G aC b0 P) (v0 : Nat) (N : AH) (H : Heap) (locs : List Loc) (ls : Array Slot) (hR : Rp G aC b0 N H) (hS : va_S (fun q => b0 ≤ q) s.heap H locs) (hl : lv_has ls 1 [(0, .ref v0)]) (hp : owp (f_X3_forget v0 N) P) : W p l e rm_X3_forget s m args below meth c H locs 0 0 Q (F0 m 0 ls []) := by
  have hx := X.1.1
  have hb := X.1.2.1
  unfold f_X3_forget at hp
  obtain ⟨_, _, hp⟩ := owp_ob hp
  refine lv_aload_n hx hb dX3_forget_0 rfl (lv_at hl 0 rfl) ?_
  refine lv_iconst (v := (0)) hx hb dX3_forget_1 (by decide) ?_
  obtain ⟨N1, e_N1, hp⟩ := owp_ob hp
  refine pf_X3_39 X hR hS e_N1 dX3_forget_2 (fun H locs hR hS => ?_)
  exact hr _ _ _ _ _ hR hS dX3_forget_5 hp
end
theorem ct_X3_forget {v0 : Nat} {N N1 : AH} {r : Unit} (h : f_X3_forget v0 N = some (r, N1)) : Ct yX3_forget cX3_forget 1 none rm_X3_forget [.ref v0] N none N1 :=
  ab_met (own := RX3) (by decide +kernel) rfl (Nat.le_of_ble_eq_true rfl) (fun l G aC t b0 p e s m below meth c ls X hr hlk hnm hR hS hl => wk_X3_forget X (RtV_met X.1.1 X.1.2.1 hr hlk) _ _ _ _ _ hR hS hl (owp_of h))
theorem cw_X3_forget : Cond.code yX3_forget cX3_forget 1 none ∈ WT := WT_of 540 (by decide +kernel) (by decide +kernel)
theorem iv_X3_forget {p : Program} {l : Launch} {e : Env} {R : Room} {s : State} {m : MethodId} {args : Array Value} {below : List Frame} {meth : Method} {c : Code} {H : Heap} {locs : List Loc} {cells slots : Nat} {Q : State → Prop} {cc : ByteArray} {own : String} {nL : Nat} {G : va_G} {aC : Nat → ClassId} {t b0 : Nat} {N N1 : AH} {pc index : Nat} {ls : Array Slot} {rest : List Value} {v0 : Nat} {r : Unit} (w1 : Cond.methodLink own index yX3_forget ∈ WT) (X : CX cc own nL G aC t b0 p s m args c) (hR : Rp G aC b0 N H) (hS : va_S (fun q => b0 ≤ q) s.heap H locs) (h : f_X3_forget v0 N = some (r, N1)) (hls : ls.size = nL) (hW : (rest.map fun v => v.category).sum ≤ 8) (hR1 : 1 ≤ R.frames ∧ 20 ≤ R.locals) (hcs : cells + 0 ≤ R.cells ∧ slots + 0 ≤ R.slots) (hdg : decode cc pc = .ok (.invokevirtual index, 3)) (kk : ∀ (H1 : Heap) (locs1 : List Loc), Rp G aC b0 N1 H1 → va_S (fun q => b0 ≤ q) s.heap H1 locs1 → W p l e R s m args below meth c H1 locs1 cells slots Q (F0 m (pc + 3) ls rest)) : W p l e R s m args below meth c H locs cells slots Q (F0 m pc ls (.ref v0 :: rest)) :=
  ab_callV (n := 0) (As := []) X hR hS (ct_X3_forget h) (ob_rc (c := 3) (N := N) (a := v0) h) (T := TX3) (k := 7) (C := RX3) rfl w1 (WT_of 538 (by decide +kernel) (by decide +kernel)) (WT_of 539 (by decide +kernel) (by decide +kernel)) (WT_of 91 (by decide +kernel) (by decide +kernel)) cw_X3_forget ⟨rfl, by decide +kernel, by decide +kernel, by decide +kernel⟩ rfl hls hW hR1 hcs rfl hdg kk
-- X4_copyFrom
theorem gf_X4_12 {p : Program} {l : Launch} {e : Env} {R : Room} {s : State} {m : MethodId} {args : Array Value} {below : List Frame} {meth : Method} {c : Code} {H : Heap} {locs : List Loc} {cells slots : Nat} {Q : State → Prop} {cc : ByteArray} {nL : Nat} {G : va_G} {aC : Nat → ClassId} {t b0 : Nat} {N : AH} {pc : Nat} {ls : Array Slot} {rest : List Value} {a : Nat} {v : Nat} (X : CX cc RX4 nL G aC t b0 p s m args c) (hR0 : Rp G aC b0 N H) (hv : hR N a 4 5 = some v) (hdg : decode cc pc = .ok (.getfield 12, 3)) (kk : W p l e R s m args below meth c H locs cells slots Q (F0 m (pc + 3) ls (.ref v :: rest))) : W p l e R s m args below meth c H locs cells slots Q (F0 m pc ls (.ref a :: rest)) := by
  obtain ⟨fs, h1, h2⟩ := hR_ok hv
  exact ab_get (C := RX4) (T := TX4) (n := 6) X hR0 h1 h2 rfl inX4 (by decide) (WT_of 209 (by decide +kernel) (by decide +kernel)) hdg kk
theorem gf_X4_18 {p : Program} {l : Launch} {e : Env} {R : Room} {s : State} {m : MethodId} {args : Array Value} {below : List Frame} {meth : Method} {c : Code} {H : Heap} {locs : List Loc} {cells slots : Nat} {Q : State → Prop} {cc : ByteArray} {nL : Nat} {G : va_G} {aC : Nat → ClassId} {t b0 : Nat} {N : AH} {pc : Nat} {ls : Array Slot} {rest : List Value} {a : Nat} {v : Int32} (X : CX cc RX4 nL G aC t b0 p s m args c) (hR0 : Rp G aC b0 N H) (hv : hI N a 4 0 = some v) (hdg : decode cc pc = .ok (.getfield 18, 3)) (kk : W p l e R s m args below meth c H locs cells slots Q (F0 m (pc + 3) ls (.int v :: rest))) : W p l e R s m args below meth c H locs cells slots Q (F0 m pc ls (.ref a :: rest)) := by
  obtain ⟨fs, h1, h2⟩ := hI_ok hv
  exact ab_get (C := RX4) (T := TX4) (n := 6) X hR0 h1 h2 rfl inX4 (by decide) (WT_of 188 (by decide +kernel) (by decide +kernel)) hdg kk
theorem gf_X4_22 {p : Program} {l : Launch} {e : Env} {R : Room} {s : State} {m : MethodId} {args : Array Value} {below : List Frame} {meth : Method} {c : Code} {H : Heap} {locs : List Loc} {cells slots : Nat} {Q : State → Prop} {cc : ByteArray} {nL : Nat} {G : va_G} {aC : Nat → ClassId} {t b0 : Nat} {N : AH} {pc : Nat} {ls : Array Slot} {rest : List Value} {a : Nat} {v : Int32} (X : CX cc RX4 nL G aC t b0 p s m args c) (hR0 : Rp G aC b0 N H) (hv : hI N a 4 1 = some v) (hdg : decode cc pc = .ok (.getfield 22, 3)) (kk : W p l e R s m args below meth c H locs cells slots Q (F0 m (pc + 3) ls (.int v :: rest))) : W p l e R s m args below meth c H locs cells slots Q (F0 m pc ls (.ref a :: rest)) := by
  obtain ⟨fs, h1, h2⟩ := hI_ok hv
  exact ab_get (C := RX4) (T := TX4) (n := 6) X hR0 h1 h2 rfl inX4 (by decide) (WT_of 193 (by decide +kernel) (by decide +kernel)) hdg kk
theorem gf_X4_25 {p : Program} {l : Launch} {e : Env} {R : Room} {s : State} {m : MethodId} {args : Array Value} {below : List Frame} {meth : Method} {c : Code} {H : Heap} {locs : List Loc} {cells slots : Nat} {Q : State → Prop} {cc : ByteArray} {nL : Nat} {G : va_G} {aC : Nat → ClassId} {t b0 : Nat} {N : AH} {pc : Nat} {ls : Array Slot} {rest : List Value} {a : Nat} {v : Int32} (X : CX cc RX4 nL G aC t b0 p s m args c) (hR0 : Rp G aC b0 N H) (hv : hI N a 4 2 = some v) (hdg : decode cc pc = .ok (.getfield 25, 3)) (kk : W p l e R s m args below meth c H locs cells slots Q (F0 m (pc + 3) ls (.int v :: rest))) : W p l e R s m args below meth c H locs cells slots Q (F0 m pc ls (.ref a :: rest)) := by
  obtain ⟨fs, h1, h2⟩ := hI_ok hv
  exact ab_get (C := RX4) (T := TX4) (n := 6) X hR0 h1 h2 rfl inX4 (by decide) (WT_of 197 (by decide +kernel) (by decide +kernel)) hdg kk
theorem gf_X4_28 {p : Program} {l : Launch} {e : Env} {R : Room} {s : State} {m : MethodId} {args : Array Value} {below : List Frame} {meth : Method} {c : Code} {H : Heap} {locs : List Loc} {cells slots : Nat} {Q : State → Prop} {cc : ByteArray} {nL : Nat} {G : va_G} {aC : Nat → ClassId} {t b0 : Nat} {N : AH} {pc : Nat} {ls : Array Slot} {rest : List Value} {a : Nat} {v : Int32} (X : CX cc RX4 nL G aC t b0 p s m args c) (hR0 : Rp G aC b0 N H) (hv : hI N a 4 3 = some v) (hdg : decode cc pc = .ok (.getfield 28, 3)) (kk : W p l e R s m args below meth c H locs cells slots Q (F0 m (pc + 3) ls (.int v :: rest))) : W p l e R s m args below meth c H locs cells slots Q (F0 m pc ls (.ref a :: rest)) := by
  obtain ⟨fs, h1, h2⟩ := hI_ok hv
  exact ab_get (C := RX4) (T := TX4) (n := 6) X hR0 h1 h2 rfl inX4 (by decide) (WT_of 202 (by decide +kernel) (by decide +kernel)) hdg kk
theorem gf_X4_31 {p : Program} {l : Launch} {e : Env} {R : Room} {s : State} {m : MethodId} {args : Array Value} {below : List Frame} {meth : Method} {c : Code} {H : Heap} {locs : List Loc} {cells slots : Nat} {Q : State → Prop} {cc : ByteArray} {nL : Nat} {G : va_G} {aC : Nat → ClassId} {t b0 : Nat} {N : AH} {pc : Nat} {ls : Array Slot} {rest : List Value} {a : Nat} {v : Int32} (X : CX cc RX4 nL G aC t b0 p s m args c) (hR0 : Rp G aC b0 N H) (hv : hI N a 4 4 = some v) (hdg : decode cc pc = .ok (.getfield 31, 3)) (kk : W p l e R s m args below meth c H locs cells slots Q (F0 m (pc + 3) ls (.int v :: rest))) : W p l e R s m args below meth c H locs cells slots Q (F0 m pc ls (.ref a :: rest)) := by
  obtain ⟨fs, h1, h2⟩ := hI_ok hv
  exact ab_get (C := RX4) (T := TX4) (n := 6) X hR0 h1 h2 rfl inX4 (by decide) (WT_of 207 (by decide +kernel) (by decide +kernel)) hdg kk
theorem mw_X4_35 : Cond.methodLink RX4 35 yX1_copyFrom ∈ WT := WT_of 531 (by decide +kernel) (by decide +kernel)
theorem pf_X4_18 {p : Program} {l : Launch} {e : Env} {R : Room} {s : State} {m : MethodId} {args : Array Value} {below : List Frame} {meth : Method} {c : Code} {H : Heap} {locs : List Loc} {cells slots : Nat} {Q : State → Prop} {cc : ByteArray} {nL : Nat} {G : va_G} {aC : Nat → ClassId} {t b0 : Nat} {N : AH} {pc : Nat} {ls : Array Slot} {rest : List Value} {N1 : AH} {a : Nat} {v : Int32} (X : CX cc RX4 nL G aC t b0 p s m args c) (hR0 : Rp G aC b0 N H) (hS : va_S (fun q => b0 ≤ q) s.heap H locs) (hv : pI N a 4 0 v = some N1) (hdg : decode cc pc = .ok (.putfield 18, 3)) (kk : ∀ (H1 : Heap) (locs1 : List Loc), Rp G aC b0 N1 H1 → va_S (fun q => b0 ≤ q) s.heap H1 locs1 → W p l e R s m args below meth c H1 locs1 cells slots Q (F0 m (pc + 3) ls rest)) : W p l e R s m args below meth c H locs cells slots Q (F0 m pc ls (.int v :: .ref a :: rest)) := by
  obtain ⟨fs, h1, h2, h3⟩ := pV_ok hv
  subst h3
  exact ab_put (C := RX4) (T := TX4) (n := 6) X hR0 hS h1 h2 rfl inX4 tyX4 tyX4_ok nmX4 (by decide) (WT_of 188 (by decide +kernel) (by decide +kernel)) rfl rfl rfl hdg kk
theorem pf_X4_22 {p : Program} {l : Launch} {e : Env} {R : Room} {s : State} {m : MethodId} {args : Array Value} {below : List Frame} {meth : Method} {c : Code} {H : Heap} {locs : List Loc} {cells slots : Nat} {Q : State → Prop} {cc : ByteArray} {nL : Nat} {G : va_G} {aC : Nat → ClassId} {t b0 : Nat} {N : AH} {pc : Nat} {ls : Array Slot} {rest : List Value} {N1 : AH} {a : Nat} {v : Int32} (X : CX cc RX4 nL G aC t b0 p s m args c) (hR0 : Rp G aC b0 N H) (hS : va_S (fun q => b0 ≤ q) s.heap H locs) (hv : pI N a 4 1 v = some N1) (hdg : decode cc pc = .ok (.putfield 22, 3)) (kk : ∀ (H1 : Heap) (locs1 : List Loc), Rp G aC b0 N1 H1 → va_S (fun q => b0 ≤ q) s.heap H1 locs1 → W p l e R s m args below meth c H1 locs1 cells slots Q (F0 m (pc + 3) ls rest)) : W p l e R s m args below meth c H locs cells slots Q (F0 m pc ls (.int v :: .ref a :: rest)) := by
  obtain ⟨fs, h1, h2, h3⟩ := pV_ok hv
  subst h3
  exact ab_put (C := RX4) (T := TX4) (n := 6) X hR0 hS h1 h2 rfl inX4 tyX4 tyX4_ok nmX4 (by decide) (WT_of 193 (by decide +kernel) (by decide +kernel)) rfl rfl rfl hdg kk
theorem pf_X4_25 {p : Program} {l : Launch} {e : Env} {R : Room} {s : State} {m : MethodId} {args : Array Value} {below : List Frame} {meth : Method} {c : Code} {H : Heap} {locs : List Loc} {cells slots : Nat} {Q : State → Prop} {cc : ByteArray} {nL : Nat} {G : va_G} {aC : Nat → ClassId} {t b0 : Nat} {N : AH} {pc : Nat} {ls : Array Slot} {rest : List Value} {N1 : AH} {a : Nat} {v : Int32} (X : CX cc RX4 nL G aC t b0 p s m args c) (hR0 : Rp G aC b0 N H) (hS : va_S (fun q => b0 ≤ q) s.heap H locs) (hv : pI N a 4 2 v = some N1) (hdg : decode cc pc = .ok (.putfield 25, 3)) (kk : ∀ (H1 : Heap) (locs1 : List Loc), Rp G aC b0 N1 H1 → va_S (fun q => b0 ≤ q) s.heap H1 locs1 → W p l e R s m args below meth c H1 locs1 cells slots Q (F0 m (pc + 3) ls rest)) : W p l e R s m args below meth c H locs cells slots Q (F0 m pc ls (.int v :: .ref a :: rest)) := by
  obtain ⟨fs, h1, h2, h3⟩ := pV_ok hv
  subst h3
  exact ab_put (C := RX4) (T := TX4) (n := 6) X hR0 hS h1 h2 rfl inX4 tyX4 tyX4_ok nmX4 (by decide) (WT_of 197 (by decide +kernel) (by decide +kernel)) rfl rfl rfl hdg kk
theorem pf_X4_28 {p : Program} {l : Launch} {e : Env} {R : Room} {s : State} {m : MethodId} {args : Array Value} {below : List Frame} {meth : Method} {c : Code} {H : Heap} {locs : List Loc} {cells slots : Nat} {Q : State → Prop} {cc : ByteArray} {nL : Nat} {G : va_G} {aC : Nat → ClassId} {t b0 : Nat} {N : AH} {pc : Nat} {ls : Array Slot} {rest : List Value} {N1 : AH} {a : Nat} {v : Int32} (X : CX cc RX4 nL G aC t b0 p s m args c) (hR0 : Rp G aC b0 N H) (hS : va_S (fun q => b0 ≤ q) s.heap H locs) (hv : pI N a 4 3 v = some N1) (hdg : decode cc pc = .ok (.putfield 28, 3)) (kk : ∀ (H1 : Heap) (locs1 : List Loc), Rp G aC b0 N1 H1 → va_S (fun q => b0 ≤ q) s.heap H1 locs1 → W p l e R s m args below meth c H1 locs1 cells slots Q (F0 m (pc + 3) ls rest)) : W p l e R s m args below meth c H locs cells slots Q (F0 m pc ls (.int v :: .ref a :: rest)) := by
  obtain ⟨fs, h1, h2, h3⟩ := pV_ok hv
  subst h3
  exact ab_put (C := RX4) (T := TX4) (n := 6) X hR0 hS h1 h2 rfl inX4 tyX4 tyX4_ok nmX4 (by decide) (WT_of 202 (by decide +kernel) (by decide +kernel)) rfl rfl rfl hdg kk
theorem pf_X4_31 {p : Program} {l : Launch} {e : Env} {R : Room} {s : State} {m : MethodId} {args : Array Value} {below : List Frame} {meth : Method} {c : Code} {H : Heap} {locs : List Loc} {cells slots : Nat} {Q : State → Prop} {cc : ByteArray} {nL : Nat} {G : va_G} {aC : Nat → ClassId} {t b0 : Nat} {N : AH} {pc : Nat} {ls : Array Slot} {rest : List Value} {N1 : AH} {a : Nat} {v : Int32} (X : CX cc RX4 nL G aC t b0 p s m args c) (hR0 : Rp G aC b0 N H) (hS : va_S (fun q => b0 ≤ q) s.heap H locs) (hv : pZ N a 4 4 v = some N1) (hdg : decode cc pc = .ok (.putfield 31, 3)) (kk : ∀ (H1 : Heap) (locs1 : List Loc), Rp G aC b0 N1 H1 → va_S (fun q => b0 ≤ q) s.heap H1 locs1 → W p l e R s m args below meth c H1 locs1 cells slots Q (F0 m (pc + 3) ls rest)) : W p l e R s m args below meth c H locs cells slots Q (F0 m pc ls (.int v :: .ref a :: rest)) := by
  unfold pZ at hv
  split at hv
  case isFalse => cases hv
  rename_i h01
  obtain ⟨fs, h1, h2, h3⟩ := pV_ok hv
  subst h3
  exact ab_put (C := RX4) (T := TX4) (n := 6) X hR0 hS h1 h2 rfl inX4 tyX4 tyX4_ok nmX4 (by decide) (WT_of 207 (by decide +kernel) (by decide +kernel)) rfl (by rcases h01 with rfl | rfl <;> rfl) (by rcases h01 with rfl | rfl <;> rfl) hdg kk
theorem dX4_copyFrom_0 : decode cX4_copyFrom 0 = .ok (.aload_n 0, 1) := by decide +kernel
theorem dX4_copyFrom_1 : decode cX4_copyFrom 1 = .ok (.aload_n 1, 1) := by decide +kernel
theorem dX4_copyFrom_2 : decode cX4_copyFrom 2 = .ok (.getfield 18, 3) := by decide +kernel
theorem dX4_copyFrom_5 : decode cX4_copyFrom 5 = .ok (.putfield 18, 3) := by decide +kernel
theorem dX4_copyFrom_8 : decode cX4_copyFrom 8 = .ok (.aload_n 0, 1) := by decide +kernel
theorem dX4_copyFrom_9 : decode cX4_copyFrom 9 = .ok (.aload_n 1, 1) := by decide +kernel
theorem dX4_copyFrom_10 : decode cX4_copyFrom 10 = .ok (.getfield 22, 3) := by decide +kernel
theorem dX4_copyFrom_13 : decode cX4_copyFrom 13 = .ok (.putfield 22, 3) := by decide +kernel
theorem dX4_copyFrom_16 : decode cX4_copyFrom 16 = .ok (.aload_n 0, 1) := by decide +kernel
theorem dX4_copyFrom_17 : decode cX4_copyFrom 17 = .ok (.aload_n 1, 1) := by decide +kernel
theorem dX4_copyFrom_18 : decode cX4_copyFrom 18 = .ok (.getfield 25, 3) := by decide +kernel
theorem dX4_copyFrom_21 : decode cX4_copyFrom 21 = .ok (.putfield 25, 3) := by decide +kernel
theorem dX4_copyFrom_24 : decode cX4_copyFrom 24 = .ok (.aload_n 0, 1) := by decide +kernel
theorem dX4_copyFrom_25 : decode cX4_copyFrom 25 = .ok (.aload_n 1, 1) := by decide +kernel
theorem dX4_copyFrom_26 : decode cX4_copyFrom 26 = .ok (.getfield 28, 3) := by decide +kernel
theorem dX4_copyFrom_29 : decode cX4_copyFrom 29 = .ok (.putfield 28, 3) := by decide +kernel
theorem dX4_copyFrom_32 : decode cX4_copyFrom 32 = .ok (.aload_n 0, 1) := by decide +kernel
theorem dX4_copyFrom_33 : decode cX4_copyFrom 33 = .ok (.aload_n 1, 1) := by decide +kernel
theorem dX4_copyFrom_34 : decode cX4_copyFrom 34 = .ok (.getfield 31, 3) := by decide +kernel
theorem dX4_copyFrom_37 : decode cX4_copyFrom 37 = .ok (.putfield 31, 3) := by decide +kernel
theorem dX4_copyFrom_40 : decode cX4_copyFrom 40 = .ok (.aload_n 0, 1) := by decide +kernel
theorem dX4_copyFrom_41 : decode cX4_copyFrom 41 = .ok (.getfield 12, 3) := by decide +kernel
theorem dX4_copyFrom_44 : decode cX4_copyFrom 44 = .ok (.aload_n 1, 1) := by decide +kernel
theorem dX4_copyFrom_45 : decode cX4_copyFrom 45 = .ok (.getfield 12, 3) := by decide +kernel
theorem dX4_copyFrom_48 : decode cX4_copyFrom 48 = .ok (.invokevirtual 35, 3) := by decide +kernel
theorem dX4_copyFrom_51 : decode cX4_copyFrom 51 = .ok (.return_, 1) := by decide +kernel
def rm_X4_copyFrom : Room := { frames := 2, cells := 0, slots := 0, locals := 39 }
section
variable {p : Program} {l : Launch} {e : Env} {s : State} {m : MethodId} {args : Array Value} {below : List Frame} {meth : Method} {c : Code} {Q : State → Prop} {G : va_G} {aC : Nat → ClassId} {t b0 : Nat}
def f_X4_copyFrom (v0 : Nat) (v1 : Nat) (N : AH) : Option (Unit × AH) := ob (iO N v0 4) (fun _ => ob (hI N v1 4 0) (fun x1 => ob (pI N v0 4 0 x1) (fun N2 => ob (hI N2 v1 4 1) (fun x3 => ob (pI N2 v0 4 1 x3) (fun N4 => ob (hI N4 v1 4 2) (fun x5 => ob (pI N4 v0 4 2 x5) (fun N6 => ob (hI N6 v1 4 3) (fun x7 => ob (pI N6 v0 4 3 x7) (fun N8 => ob (hI N8 v1 4 4) (fun x9 => ob (pZ N8 v0 4 4 x9) (fun N10 => ob (hR N10 v0 4 5) (fun x11 => ob (hR N10 v1 4 5) (fun x12 => ob2 (f_X1_copyFrom x11 x12 N10) (fun _ N13 => some ((), N13)))))))))))))))
set_option maxHeartbeats 4000000 in
set_option maxRecDepth 100000 in
theorem wk_X4_copyFrom {P : Unit × AH → Prop} (X : CX cX4_copyFrom RX4 2 G aC t b0 p s m args c) (hr : RtV p l e rm_X4_copyFrom s m args below meth c 0 0 Q cX4_copyFrom G aC b0 P) (v0 : Nat) (v1 : Nat) (N : AH) (H : Heap) (locs : List Loc) (ls : Array Slot) (hR : Rp G aC b0 N H) (hS : va_S (fun q => b0 ≤ q) s.heap H locs) (hl : lv_has ls 2 [(0, .ref v0), (1, .ref v1)]) (hp : owp (f_X4_copyFrom v0 v1 N) P) : W p l e rm_X4_copyFrom s m args below meth c H locs 0 0 Q (F0 m 0 ls []) := by
  have hx := X.1.1
  have hb := X.1.2.1
  unfold f_X4_copyFrom at hp
  obtain ⟨_, _, hp⟩ := owp_ob hp
  refine lv_aload_n hx hb dX4_copyFrom_0 rfl (lv_at hl 0 rfl) ?_
  refine lv_aload_n hx hb dX4_copyFrom_1 rfl (lv_at hl 1 rfl) ?_
  obtain ⟨x1, e_x1, hp⟩ := owp_ob hp
  refine gf_X4_18 X hR e_x1 dX4_copyFrom_2 ?_
  obtain ⟨N2, e_N2, hp⟩ := owp_ob hp
  refine pf_X4_18 X hR hS e_N2 dX4_copyFrom_5 (fun H locs hR hS => ?_)
  refine lv_aload_n hx hb dX4_copyFrom_8 rfl (lv_at hl 0 rfl) ?_
  refine lv_aload_n hx hb dX4_copyFrom_9 rfl (lv_at hl 1 rfl) ?_
  obtain ⟨x3, e_x3, hp⟩ := owp_ob hp
  refine gf_X4_22 X hR e_x3 dX4_copyFrom_10 ?_
  obtain ⟨N4, e_N4, hp⟩ := owp_ob hp
  refine pf_X4_22 X hR hS e_N4 dX4_copyFrom_13 (fun H locs hR hS => ?_)
  refine lv_aload_n hx hb dX4_copyFrom_16 rfl (lv_at hl 0 rfl) ?_
  refine lv_aload_n hx hb dX4_copyFrom_17 rfl (lv_at hl 1 rfl) ?_
  obtain ⟨x5, e_x5, hp⟩ := owp_ob hp
  refine gf_X4_25 X hR e_x5 dX4_copyFrom_18 ?_
  obtain ⟨N6, e_N6, hp⟩ := owp_ob hp
  refine pf_X4_25 X hR hS e_N6 dX4_copyFrom_21 (fun H locs hR hS => ?_)
  refine lv_aload_n hx hb dX4_copyFrom_24 rfl (lv_at hl 0 rfl) ?_
  refine lv_aload_n hx hb dX4_copyFrom_25 rfl (lv_at hl 1 rfl) ?_
  obtain ⟨x7, e_x7, hp⟩ := owp_ob hp
  refine gf_X4_28 X hR e_x7 dX4_copyFrom_26 ?_
  obtain ⟨N8, e_N8, hp⟩ := owp_ob hp
  refine pf_X4_28 X hR hS e_N8 dX4_copyFrom_29 (fun H locs hR hS => ?_)
  refine lv_aload_n hx hb dX4_copyFrom_32 rfl (lv_at hl 0 rfl) ?_
  refine lv_aload_n hx hb dX4_copyFrom_33 rfl (lv_at hl 1 rfl) ?_
  obtain ⟨x9, e_x9, hp⟩ := owp_ob hp
  refine gf_X4_31 X hR e_x9 dX4_copyFrom_34 ?_
  obtain ⟨N10, e_N10, hp⟩ := owp_ob hp
  refine pf_X4_31 X hR hS e_N10 dX4_copyFrom_37 (fun H locs hR hS => ?_)
  refine lv_aload_n hx hb dX4_copyFrom_40 rfl (lv_at hl 0 rfl) ?_
  obtain ⟨x11, e_x11, hp⟩ := owp_ob hp
  refine gf_X4_12 X hR e_x11 dX4_copyFrom_41 ?_
  refine lv_aload_n hx hb dX4_copyFrom_44 rfl (lv_at hl 1 rfl) ?_
  obtain ⟨x12, e_x12, hp⟩ := owp_ob hp
  refine gf_X4_12 X hR e_x12 dX4_copyFrom_45 ?_
  obtain ⟨_, N13, e_N13, hp⟩ := owp_ob2 hp
  refine iv_X1_copyFrom (rest := []) mw_X4_35 X hR hS e_N13 hl.1 (Nat.le_of_ble_eq_true rfl) ⟨Nat.le_of_ble_eq_true rfl, Nat.le_of_ble_eq_true rfl⟩ ⟨Nat.le_of_ble_eq_true rfl, Nat.le_of_ble_eq_true rfl⟩ dX4_copyFrom_48 (fun H locs hR hS => ?_)
  exact hr _ _ _ _ _ hR hS dX4_copyFrom_51 hp
end
theorem ct_X4_copyFrom {v0 : Nat} {v1 : Nat} {N N1 : AH} {r : Unit} (h : f_X4_copyFrom v0 v1 N = some (r, N1)) : Ct yX4_copyFrom cX4_copyFrom 2 none rm_X4_copyFrom [.ref v0, .ref v1] N none N1 :=
  ab_met (own := RX4) (by decide +kernel) rfl (Nat.le_of_ble_eq_true rfl) (fun l G aC t b0 p e s m below meth c ls X hr hlk hnm hR hS hl => wk_X4_copyFrom X (RtV_met X.1.1 X.1.2.1 hr hlk) _ _ _ _ _ _ hR hS hl (owp_of h))
theorem cw_X4_copyFrom : Cond.code yX4_copyFrom cX4_copyFrom 2 none ∈ WT := WT_of 530 (by decide +kernel) (by decide +kernel)
theorem iv_X4_copyFrom {p : Program} {l : Launch} {e : Env} {R : Room} {s : State} {m : MethodId} {args : Array Value} {below : List Frame} {meth : Method} {c : Code} {H : Heap} {locs : List Loc} {cells slots : Nat} {Q : State → Prop} {cc : ByteArray} {own : String} {nL : Nat} {G : va_G} {aC : Nat → ClassId} {t b0 : Nat} {N N1 : AH} {pc index : Nat} {ls : Array Slot} {rest : List Value} {v0 : Nat} {v1 : Nat} {r : Unit} (w1 : Cond.methodLink own index yX4_copyFrom ∈ WT) (X : CX cc own nL G aC t b0 p s m args c) (hR : Rp G aC b0 N H) (hS : va_S (fun q => b0 ≤ q) s.heap H locs) (h : f_X4_copyFrom v0 v1 N = some (r, N1)) (hls : ls.size = nL) (hW : (rest.map fun v => v.category).sum ≤ 8) (hR1 : 3 ≤ R.frames ∧ 60 ≤ R.locals) (hcs : cells + 0 ≤ R.cells ∧ slots + 0 ≤ R.slots) (hdg : decode cc pc = .ok (.invokevirtual index, 3)) (kk : ∀ (H1 : Heap) (locs1 : List Loc), Rp G aC b0 N1 H1 → va_S (fun q => b0 ≤ q) s.heap H1 locs1 → W p l e R s m args below meth c H1 locs1 cells slots Q (F0 m (pc + 3) ls rest)) : W p l e R s m args below meth c H locs cells slots Q (F0 m pc ls (.ref v1 :: .ref v0 :: rest)) :=
  ab_callV (n := 1) (As := [.ref v1]) X hR hS (ct_X4_copyFrom h) (ob_rc (c := 4) (N := N) (a := v0) h) (T := TX4) (k := 6) (C := RX4) rfl w1 (WT_of 528 (by decide +kernel) (by decide +kernel)) (WT_of 529 (by decide +kernel) (by decide +kernel)) (WT_of 86 (by decide +kernel) (by decide +kernel)) cw_X4_copyFrom ⟨rfl, by decide +kernel, by decide +kernel, by decide +kernel⟩ rfl hls hW hR1 hcs rfl hdg kk
-- X7_copyFrom
theorem gf_X7_9 {p : Program} {l : Launch} {e : Env} {R : Room} {s : State} {m : MethodId} {args : Array Value} {below : List Frame} {meth : Method} {c : Code} {H : Heap} {locs : List Loc} {cells slots : Nat} {Q : State → Prop} {cc : ByteArray} {nL : Nat} {G : va_G} {aC : Nat → ClassId} {t b0 : Nat} {N : AH} {pc : Nat} {ls : Array Slot} {rest : List Value} {a : Nat} {v : Int32} (X : CX cc RX7 nL G aC t b0 p s m args c) (hR0 : Rp G aC b0 N H) (hv : hI N a 7 2 = some v) (hdg : decode cc pc = .ok (.getfield 9, 3)) (kk : W p l e R s m args below meth c H locs cells slots Q (F0 m (pc + 3) ls (.int v :: rest))) : W p l e R s m args below meth c H locs cells slots Q (F0 m pc ls (.ref a :: rest)) := by
  obtain ⟨fs, h1, h2⟩ := hI_ok hv
  exact ab_get (C := RX7) (T := TX7) (n := 12) X hR0 h1 h2 rfl inX7 (by decide) (WT_of 261 (by decide +kernel) (by decide +kernel)) hdg kk
theorem gf_X7_15 {p : Program} {l : Launch} {e : Env} {R : Room} {s : State} {m : MethodId} {args : Array Value} {below : List Frame} {meth : Method} {c : Code} {H : Heap} {locs : List Loc} {cells slots : Nat} {Q : State → Prop} {cc : ByteArray} {nL : Nat} {G : va_G} {aC : Nat → ClassId} {t b0 : Nat} {N : AH} {pc : Nat} {ls : Array Slot} {rest : List Value} {a : Nat} {v : Int32} (X : CX cc RX7 nL G aC t b0 p s m args c) (hR0 : Rp G aC b0 N H) (hv : hI N a 7 5 = some v) (hdg : decode cc pc = .ok (.getfield 15, 3)) (kk : W p l e R s m args below meth c H locs cells slots Q (F0 m (pc + 3) ls (.int v :: rest))) : W p l e R s m args below meth c H locs cells slots Q (F0 m pc ls (.ref a :: rest)) := by
  obtain ⟨fs, h1, h2⟩ := hI_ok hv
  exact ab_get (C := RX7) (T := TX7) (n := 12) X hR0 h1 h2 rfl inX7 (by decide) (WT_of 271 (by decide +kernel) (by decide +kernel)) hdg kk
theorem gf_X7_29 {p : Program} {l : Launch} {e : Env} {R : Room} {s : State} {m : MethodId} {args : Array Value} {below : List Frame} {meth : Method} {c : Code} {H : Heap} {locs : List Loc} {cells slots : Nat} {Q : State → Prop} {cc : ByteArray} {nL : Nat} {G : va_G} {aC : Nat → ClassId} {t b0 : Nat} {N : AH} {pc : Nat} {ls : Array Slot} {rest : List Value} {a : Nat} {v : Nat} (X : CX cc RX7 nL G aC t b0 p s m args c) (hR0 : Rp G aC b0 N H) (hv : hR N a 7 8 = some v) (hdg : decode cc pc = .ok (.getfield 29, 3)) (kk : W p l e R s m args below meth c H locs cells slots Q (F0 m (pc + 3) ls (.ref v :: rest))) : W p l e R s m args below meth c H locs cells slots Q (F0 m pc ls (.ref a :: rest)) := by
  obtain ⟨fs, h1, h2⟩ := hR_ok hv
  exact ab_get (C := RX7) (T := TX7) (n := 12) X hR0 h1 h2 rfl inX7 (by decide) (WT_of 282 (by decide +kernel) (by decide +kernel)) hdg kk
theorem gf_X7_35 {p : Program} {l : Launch} {e : Env} {R : Room} {s : State} {m : MethodId} {args : Array Value} {below : List Frame} {meth : Method} {c : Code} {H : Heap} {locs : List Loc} {cells slots : Nat} {Q : State → Prop} {cc : ByteArray} {nL : Nat} {G : va_G} {aC : Nat → ClassId} {t b0 : Nat} {N : AH} {pc : Nat} {ls : Array Slot} {rest : List Value} {a : Nat} {v : Nat} (X : CX cc RX7 nL G aC t b0 p s m args c) (hR0 : Rp G aC b0 N H) (hv : hR N a 7 9 = some v) (hdg : decode cc pc = .ok (.getfield 35, 3)) (kk : W p l e R s m args below meth c H locs cells slots Q (F0 m (pc + 3) ls (.ref v :: rest))) : W p l e R s m args below meth c H locs cells slots Q (F0 m pc ls (.ref a :: rest)) := by
  obtain ⟨fs, h1, h2⟩ := hR_ok hv
  exact ab_get (C := RX7) (T := TX7) (n := 12) X hR0 h1 h2 rfl inX7 (by decide) (WT_of 285 (by decide +kernel) (by decide +kernel)) hdg kk
theorem gf_X7_49 {p : Program} {l : Launch} {e : Env} {R : Room} {s : State} {m : MethodId} {args : Array Value} {below : List Frame} {meth : Method} {c : Code} {H : Heap} {locs : List Loc} {cells slots : Nat} {Q : State → Prop} {cc : ByteArray} {nL : Nat} {G : va_G} {aC : Nat → ClassId} {t b0 : Nat} {N : AH} {pc : Nat} {ls : Array Slot} {rest : List Value} {a : Nat} {v : Nat} (X : CX cc RX7 nL G aC t b0 p s m args c) (hR0 : Rp G aC b0 N H) (hv : hR N a 7 11 = some v) (hdg : decode cc pc = .ok (.getfield 49, 3)) (kk : W p l e R s m args below meth c H locs cells slots Q (F0 m (pc + 3) ls (.ref v :: rest))) : W p l e R s m args below meth c H locs cells slots Q (F0 m pc ls (.ref a :: rest)) := by
  obtain ⟨fs, h1, h2⟩ := hR_ok hv
  exact ab_get (C := RX7) (T := TX7) (n := 12) X hR0 h1 h2 rfl inX7 (by decide) (WT_of 293 (by decide +kernel) (by decide +kernel)) hdg kk
theorem gf_X7_53 {p : Program} {l : Launch} {e : Env} {R : Room} {s : State} {m : MethodId} {args : Array Value} {below : List Frame} {meth : Method} {c : Code} {H : Heap} {locs : List Loc} {cells slots : Nat} {Q : State → Prop} {cc : ByteArray} {nL : Nat} {G : va_G} {aC : Nat → ClassId} {t b0 : Nat} {N : AH} {pc : Nat} {ls : Array Slot} {rest : List Value} {a : Nat} {v : Int32} (X : CX cc RX7 nL G aC t b0 p s m args c) (hR0 : Rp G aC b0 N H) (hv : hI N a 7 0 = some v) (hdg : decode cc pc = .ok (.getfield 53, 3)) (kk : W p l e R s m args below meth c H locs cells slots Q (F0 m (pc + 3) ls (.int v :: rest))) : W p l e R s m args below meth c H locs cells slots Q (F0 m pc ls (.ref a :: rest)) := by
  obtain ⟨fs, h1, h2⟩ := hI_ok hv
  exact ab_get (C := RX7) (T := TX7) (n := 12) X hR0 h1 h2 rfl inX7 (by decide) (WT_of 253 (by decide +kernel) (by decide +kernel)) hdg kk
theorem gf_X7_56 {p : Program} {l : Launch} {e : Env} {R : Room} {s : State} {m : MethodId} {args : Array Value} {below : List Frame} {meth : Method} {c : Code} {H : Heap} {locs : List Loc} {cells slots : Nat} {Q : State → Prop} {cc : ByteArray} {nL : Nat} {G : va_G} {aC : Nat → ClassId} {t b0 : Nat} {N : AH} {pc : Nat} {ls : Array Slot} {rest : List Value} {a : Nat} {v : Int32} (X : CX cc RX7 nL G aC t b0 p s m args c) (hR0 : Rp G aC b0 N H) (hv : hI N a 7 1 = some v) (hdg : decode cc pc = .ok (.getfield 56, 3)) (kk : W p l e R s m args below meth c H locs cells slots Q (F0 m (pc + 3) ls (.int v :: rest))) : W p l e R s m args below meth c H locs cells slots Q (F0 m pc ls (.ref a :: rest)) := by
  obtain ⟨fs, h1, h2⟩ := hI_ok hv
  exact ab_get (C := RX7) (T := TX7) (n := 12) X hR0 h1 h2 rfl inX7 (by decide) (WT_of 257 (by decide +kernel) (by decide +kernel)) hdg kk
theorem gf_X7_59 {p : Program} {l : Launch} {e : Env} {R : Room} {s : State} {m : MethodId} {args : Array Value} {below : List Frame} {meth : Method} {c : Code} {H : Heap} {locs : List Loc} {cells slots : Nat} {Q : State → Prop} {cc : ByteArray} {nL : Nat} {G : va_G} {aC : Nat → ClassId} {t b0 : Nat} {N : AH} {pc : Nat} {ls : Array Slot} {rest : List Value} {a : Nat} {v : Int32} (X : CX cc RX7 nL G aC t b0 p s m args c) (hR0 : Rp G aC b0 N H) (hv : hI N a 7 3 = some v) (hdg : decode cc pc = .ok (.getfield 59, 3)) (kk : W p l e R s m args below meth c H locs cells slots Q (F0 m (pc + 3) ls (.int v :: rest))) : W p l e R s m args below meth c H locs cells slots Q (F0 m pc ls (.ref a :: rest)) := by
  obtain ⟨fs, h1, h2⟩ := hI_ok hv
  exact ab_get (C := RX7) (T := TX7) (n := 12) X hR0 h1 h2 rfl inX7 (by decide) (WT_of 264 (by decide +kernel) (by decide +kernel)) hdg kk
theorem gf_X7_62 {p : Program} {l : Launch} {e : Env} {R : Room} {s : State} {m : MethodId} {args : Array Value} {below : List Frame} {meth : Method} {c : Code} {H : Heap} {locs : List Loc} {cells slots : Nat} {Q : State → Prop} {cc : ByteArray} {nL : Nat} {G : va_G} {aC : Nat → ClassId} {t b0 : Nat} {N : AH} {pc : Nat} {ls : Array Slot} {rest : List Value} {a : Nat} {v : Int32} (X : CX cc RX7 nL G aC t b0 p s m args c) (hR0 : Rp G aC b0 N H) (hv : hI N a 7 4 = some v) (hdg : decode cc pc = .ok (.getfield 62, 3)) (kk : W p l e R s m args below meth c H locs cells slots Q (F0 m (pc + 3) ls (.int v :: rest))) : W p l e R s m args below meth c H locs cells slots Q (F0 m pc ls (.ref a :: rest)) := by
  obtain ⟨fs, h1, h2⟩ := hI_ok hv
  exact ab_get (C := RX7) (T := TX7) (n := 12) X hR0 h1 h2 rfl inX7 (by decide) (WT_of 268 (by decide +kernel) (by decide +kernel)) hdg kk
theorem gf_X7_65 {p : Program} {l : Launch} {e : Env} {R : Room} {s : State} {m : MethodId} {args : Array Value} {below : List Frame} {meth : Method} {c : Code} {H : Heap} {locs : List Loc} {cells slots : Nat} {Q : State → Prop} {cc : ByteArray} {nL : Nat} {G : va_G} {aC : Nat → ClassId} {t b0 : Nat} {N : AH} {pc : Nat} {ls : Array Slot} {rest : List Value} {a : Nat} {v : Int32} (X : CX cc RX7 nL G aC t b0 p s m args c) (hR0 : Rp G aC b0 N H) (hv : hI N a 7 6 = some v) (hdg : decode cc pc = .ok (.getfield 65, 3)) (kk : W p l e R s m args below meth c H locs cells slots Q (F0 m (pc + 3) ls (.int v :: rest))) : W p l e R s m args below meth c H locs cells slots Q (F0 m pc ls (.ref a :: rest)) := by
  obtain ⟨fs, h1, h2⟩ := hI_ok hv
  exact ab_get (C := RX7) (T := TX7) (n := 12) X hR0 h1 h2 rfl inX7 (by decide) (WT_of 273 (by decide +kernel) (by decide +kernel)) hdg kk
theorem mw_X7_74 : Cond.methodLink RX7 74 yX1_copyFrom ∈ WT := WT_of 522 (by decide +kernel) (by decide +kernel)
theorem mw_X7_78 : Cond.methodLink RX7 78 yX4_copyFrom ∈ WT := WT_of 527 (by decide +kernel) (by decide +kernel)
theorem mw_X7_81 : Cond.methodLink RX7 81 yX0_copyFrom ∈ WT := WT_of 532 (by decide +kernel) (by decide +kernel)
theorem pf_X7_53 {p : Program} {l : Launch} {e : Env} {R : Room} {s : State} {m : MethodId} {args : Array Value} {below : List Frame} {meth : Method} {c : Code} {H : Heap} {locs : List Loc} {cells slots : Nat} {Q : State → Prop} {cc : ByteArray} {nL : Nat} {G : va_G} {aC : Nat → ClassId} {t b0 : Nat} {N : AH} {pc : Nat} {ls : Array Slot} {rest : List Value} {N1 : AH} {a : Nat} {v : Int32} (X : CX cc RX7 nL G aC t b0 p s m args c) (hR0 : Rp G aC b0 N H) (hS : va_S (fun q => b0 ≤ q) s.heap H locs) (hv : pI N a 7 0 v = some N1) (hdg : decode cc pc = .ok (.putfield 53, 3)) (kk : ∀ (H1 : Heap) (locs1 : List Loc), Rp G aC b0 N1 H1 → va_S (fun q => b0 ≤ q) s.heap H1 locs1 → W p l e R s m args below meth c H1 locs1 cells slots Q (F0 m (pc + 3) ls rest)) : W p l e R s m args below meth c H locs cells slots Q (F0 m pc ls (.int v :: .ref a :: rest)) := by
  obtain ⟨fs, h1, h2, h3⟩ := pV_ok hv
  subst h3
  exact ab_put (C := RX7) (T := TX7) (n := 12) X hR0 hS h1 h2 rfl inX7 tyX7 tyX7_ok nmX7 (by decide) (WT_of 253 (by decide +kernel) (by decide +kernel)) rfl rfl rfl hdg kk
theorem pf_X7_56 {p : Program} {l : Launch} {e : Env} {R : Room} {s : State} {m : MethodId} {args : Array Value} {below : List Frame} {meth : Method} {c : Code} {H : Heap} {locs : List Loc} {cells slots : Nat} {Q : State → Prop} {cc : ByteArray} {nL : Nat} {G : va_G} {aC : Nat → ClassId} {t b0 : Nat} {N : AH} {pc : Nat} {ls : Array Slot} {rest : List Value} {N1 : AH} {a : Nat} {v : Int32} (X : CX cc RX7 nL G aC t b0 p s m args c) (hR0 : Rp G aC b0 N H) (hS : va_S (fun q => b0 ≤ q) s.heap H locs) (hv : pI N a 7 1 v = some N1) (hdg : decode cc pc = .ok (.putfield 56, 3)) (kk : ∀ (H1 : Heap) (locs1 : List Loc), Rp G aC b0 N1 H1 → va_S (fun q => b0 ≤ q) s.heap H1 locs1 → W p l e R s m args below meth c H1 locs1 cells slots Q (F0 m (pc + 3) ls rest)) : W p l e R s m args below meth c H locs cells slots Q (F0 m pc ls (.int v :: .ref a :: rest)) := by
  obtain ⟨fs, h1, h2, h3⟩ := pV_ok hv
  subst h3
  exact ab_put (C := RX7) (T := TX7) (n := 12) X hR0 hS h1 h2 rfl inX7 tyX7 tyX7_ok nmX7 (by decide) (WT_of 257 (by decide +kernel) (by decide +kernel)) rfl rfl rfl hdg kk
theorem pf_X7_59 {p : Program} {l : Launch} {e : Env} {R : Room} {s : State} {m : MethodId} {args : Array Value} {below : List Frame} {meth : Method} {c : Code} {H : Heap} {locs : List Loc} {cells slots : Nat} {Q : State → Prop} {cc : ByteArray} {nL : Nat} {G : va_G} {aC : Nat → ClassId} {t b0 : Nat} {N : AH} {pc : Nat} {ls : Array Slot} {rest : List Value} {N1 : AH} {a : Nat} {v : Int32} (X : CX cc RX7 nL G aC t b0 p s m args c) (hR0 : Rp G aC b0 N H) (hS : va_S (fun q => b0 ≤ q) s.heap H locs) (hv : pZ N a 7 3 v = some N1) (hdg : decode cc pc = .ok (.putfield 59, 3)) (kk : ∀ (H1 : Heap) (locs1 : List Loc), Rp G aC b0 N1 H1 → va_S (fun q => b0 ≤ q) s.heap H1 locs1 → W p l e R s m args below meth c H1 locs1 cells slots Q (F0 m (pc + 3) ls rest)) : W p l e R s m args below meth c H locs cells slots Q (F0 m pc ls (.int v :: .ref a :: rest)) := by
  unfold pZ at hv
  split at hv
  case isFalse => cases hv
  rename_i h01
  obtain ⟨fs, h1, h2, h3⟩ := pV_ok hv
  subst h3
  exact ab_put (C := RX7) (T := TX7) (n := 12) X hR0 hS h1 h2 rfl inX7 tyX7 tyX7_ok nmX7 (by decide) (WT_of 264 (by decide +kernel) (by decide +kernel)) rfl (by rcases h01 with rfl | rfl <;> rfl) (by rcases h01 with rfl | rfl <;> rfl) hdg kk
theorem pf_X7_62 {p : Program} {l : Launch} {e : Env} {R : Room} {s : State} {m : MethodId} {args : Array Value} {below : List Frame} {meth : Method} {c : Code} {H : Heap} {locs : List Loc} {cells slots : Nat} {Q : State → Prop} {cc : ByteArray} {nL : Nat} {G : va_G} {aC : Nat → ClassId} {t b0 : Nat} {N : AH} {pc : Nat} {ls : Array Slot} {rest : List Value} {N1 : AH} {a : Nat} {v : Int32} (X : CX cc RX7 nL G aC t b0 p s m args c) (hR0 : Rp G aC b0 N H) (hS : va_S (fun q => b0 ≤ q) s.heap H locs) (hv : pI N a 7 4 v = some N1) (hdg : decode cc pc = .ok (.putfield 62, 3)) (kk : ∀ (H1 : Heap) (locs1 : List Loc), Rp G aC b0 N1 H1 → va_S (fun q => b0 ≤ q) s.heap H1 locs1 → W p l e R s m args below meth c H1 locs1 cells slots Q (F0 m (pc + 3) ls rest)) : W p l e R s m args below meth c H locs cells slots Q (F0 m pc ls (.int v :: .ref a :: rest)) := by
  obtain ⟨fs, h1, h2, h3⟩ := pV_ok hv
  subst h3
  exact ab_put (C := RX7) (T := TX7) (n := 12) X hR0 hS h1 h2 rfl inX7 tyX7 tyX7_ok nmX7 (by decide) (WT_of 268 (by decide +kernel) (by decide +kernel)) rfl rfl rfl hdg kk
theorem pf_X7_65 {p : Program} {l : Launch} {e : Env} {R : Room} {s : State} {m : MethodId} {args : Array Value} {below : List Frame} {meth : Method} {c : Code} {H : Heap} {locs : List Loc} {cells slots : Nat} {Q : State → Prop} {cc : ByteArray} {nL : Nat} {G : va_G} {aC : Nat → ClassId} {t b0 : Nat} {N : AH} {pc : Nat} {ls : Array Slot} {rest : List Value} {N1 : AH} {a : Nat} {v : Int32} (X : CX cc RX7 nL G aC t b0 p s m args c) (hR0 : Rp G aC b0 N H) (hS : va_S (fun q => b0 ≤ q) s.heap H locs) (hv : pI N a 7 6 v = some N1) (hdg : decode cc pc = .ok (.putfield 65, 3)) (kk : ∀ (H1 : Heap) (locs1 : List Loc), Rp G aC b0 N1 H1 → va_S (fun q => b0 ≤ q) s.heap H1 locs1 → W p l e R s m args below meth c H1 locs1 cells slots Q (F0 m (pc + 3) ls rest)) : W p l e R s m args below meth c H locs cells slots Q (F0 m pc ls (.int v :: .ref a :: rest)) := by
  obtain ⟨fs, h1, h2, h3⟩ := pV_ok hv
  subst h3
  exact ab_put (C := RX7) (T := TX7) (n := 12) X hR0 hS h1 h2 rfl inX7 tyX7 tyX7_ok nmX7 (by decide) (WT_of 273 (by decide +kernel) (by decide +kernel)) rfl rfl rfl hdg kk
theorem dX7_copyFrom_0 : decode cX7_copyFrom 0 = .ok (.aload_n 0, 1) := by decide +kernel
theorem dX7_copyFrom_1 : decode cX7_copyFrom 1 = .ok (.aload_n 1, 1) := by decide +kernel
theorem dX7_copyFrom_2 : decode cX7_copyFrom 2 = .ok (.getfield 53, 3) := by decide +kernel
theorem dX7_copyFrom_5 : decode cX7_copyFrom 5 = .ok (.putfield 53, 3) := by decide +kernel
theorem dX7_copyFrom_8 : decode cX7_copyFrom 8 = .ok (.aload_n 0, 1) := by decide +kernel
theorem dX7_copyFrom_9 : decode cX7_copyFrom 9 = .ok (.aload_n 1, 1) := by decide +kernel
theorem dX7_copyFrom_10 : decode cX7_copyFrom 10 = .ok (.getfield 56, 3) := by decide +kernel
theorem dX7_copyFrom_13 : decode cX7_copyFrom 13 = .ok (.putfield 56, 3) := by decide +kernel
theorem dX7_copyFrom_16 : decode cX7_copyFrom 16 = .ok (.aload_n 0, 1) := by decide +kernel
theorem dX7_copyFrom_17 : decode cX7_copyFrom 17 = .ok (.aload_n 1, 1) := by decide +kernel
theorem dX7_copyFrom_18 : decode cX7_copyFrom 18 = .ok (.getfield 9, 3) := by decide +kernel
theorem dX7_copyFrom_21 : decode cX7_copyFrom 21 = .ok (.putfield 9, 3) := by decide +kernel
theorem dX7_copyFrom_24 : decode cX7_copyFrom 24 = .ok (.aload_n 0, 1) := by decide +kernel
theorem dX7_copyFrom_25 : decode cX7_copyFrom 25 = .ok (.aload_n 1, 1) := by decide +kernel
theorem dX7_copyFrom_26 : decode cX7_copyFrom 26 = .ok (.getfield 59, 3) := by decide +kernel
theorem dX7_copyFrom_29 : decode cX7_copyFrom 29 = .ok (.putfield 59, 3) := by decide +kernel
theorem dX7_copyFrom_32 : decode cX7_copyFrom 32 = .ok (.aload_n 0, 1) := by decide +kernel
theorem dX7_copyFrom_33 : decode cX7_copyFrom 33 = .ok (.aload_n 1, 1) := by decide +kernel
theorem dX7_copyFrom_34 : decode cX7_copyFrom 34 = .ok (.getfield 62, 3) := by decide +kernel
theorem dX7_copyFrom_37 : decode cX7_copyFrom 37 = .ok (.putfield 62, 3) := by decide +kernel
theorem dX7_copyFrom_40 : decode cX7_copyFrom 40 = .ok (.aload_n 0, 1) := by decide +kernel
theorem dX7_copyFrom_41 : decode cX7_copyFrom 41 = .ok (.aload_n 1, 1) := by decide +kernel
theorem dX7_copyFrom_42 : decode cX7_copyFrom 42 = .ok (.getfield 15, 3) := by decide +kernel
theorem dX7_copyFrom_45 : decode cX7_copyFrom 45 = .ok (.putfield 15, 3) := by decide +kernel
theorem dX7_copyFrom_48 : decode cX7_copyFrom 48 = .ok (.aload_n 0, 1) := by decide +kernel
theorem dX7_copyFrom_49 : decode cX7_copyFrom 49 = .ok (.aload_n 1, 1) := by decide +kernel
theorem dX7_copyFrom_50 : decode cX7_copyFrom 50 = .ok (.getfield 65, 3) := by decide +kernel
theorem dX7_copyFrom_53 : decode cX7_copyFrom 53 = .ok (.putfield 65, 3) := by decide +kernel
theorem dX7_copyFrom_56 : decode cX7_copyFrom 56 = .ok (.aload_n 1, 1) := by decide +kernel
theorem dX7_copyFrom_57 : decode cX7_copyFrom 57 = .ok (.getfield 19, 3) := by decide +kernel
theorem dX7_copyFrom_60 : decode cX7_copyFrom 60 = .ok (.iconst 0, 1) := by decide +kernel
theorem dX7_copyFrom_61 : decode cX7_copyFrom 61 = .ok (.aload_n 0, 1) := by decide +kernel
theorem dX7_copyFrom_62 : decode cX7_copyFrom 62 = .ok (.getfield 19, 3) := by decide +kernel
theorem dX7_copyFrom_65 : decode cX7_copyFrom 65 = .ok (.iconst 0, 1) := by decide +kernel
theorem dX7_copyFrom_66 : decode cX7_copyFrom 66 = .ok (.bipush 16, 2) := by decide +kernel
theorem dX7_copyFrom_68 : decode cX7_copyFrom 68 = .ok (.invokestatic 68, 3) := by decide +kernel
theorem dX7_copyFrom_71 : decode cX7_copyFrom 71 = .ok (.aload_n 1, 1) := by decide +kernel
theorem dX7_copyFrom_72 : decode cX7_copyFrom 72 = .ok (.getfield 29, 3) := by decide +kernel
theorem dX7_copyFrom_75 : decode cX7_copyFrom 75 = .ok (.iconst 0, 1) := by decide +kernel
theorem dX7_copyFrom_76 : decode cX7_copyFrom 76 = .ok (.aload_n 0, 1) := by decide +kernel
theorem dX7_copyFrom_77 : decode cX7_copyFrom 77 = .ok (.getfield 29, 3) := by decide +kernel
theorem dX7_copyFrom_80 : decode cX7_copyFrom 80 = .ok (.iconst 0, 1) := by decide +kernel
theorem dX7_copyFrom_81 : decode cX7_copyFrom 81 = .ok (.bipush 16, 2) := by decide +kernel
theorem dX7_copyFrom_83 : decode cX7_copyFrom 83 = .ok (.invokestatic 68, 3) := by decide +kernel
theorem dX7_copyFrom_86 : decode cX7_copyFrom 86 = .ok (.aload_n 0, 1) := by decide +kernel
theorem dX7_copyFrom_87 : decode cX7_copyFrom 87 = .ok (.getfield 35, 3) := by decide +kernel
theorem dX7_copyFrom_90 : decode cX7_copyFrom 90 = .ok (.aload_n 1, 1) := by decide +kernel
theorem dX7_copyFrom_91 : decode cX7_copyFrom 91 = .ok (.getfield 35, 3) := by decide +kernel
theorem dX7_copyFrom_94 : decode cX7_copyFrom 94 = .ok (.invokevirtual 74, 3) := by decide +kernel
theorem dX7_copyFrom_97 : decode cX7_copyFrom 97 = .ok (.iconst 0, 1) := by decide +kernel
theorem dX7_copyFrom_98 : decode cX7_copyFrom 98 = .ok (.istore_n 2, 1) := by decide +kernel
theorem dX7_copyFrom_99 : decode cX7_copyFrom 99 = .ok (.iload_n 2, 1) := by decide +kernel
theorem dX7_copyFrom_100 : decode cX7_copyFrom 100 = .ok (.aload_n 0, 1) := by decide +kernel
theorem dX7_copyFrom_101 : decode cX7_copyFrom 101 = .ok (.getfield 65, 3) := by decide +kernel
theorem dX7_copyFrom_104 : decode cX7_copyFrom 104 = .ok (.if_icmp .ge 24, 3) := by decide +kernel
theorem dX7_copyFrom_107 : decode cX7_copyFrom 107 = .ok (.aload_n 0, 1) := by decide +kernel
theorem dX7_copyFrom_108 : decode cX7_copyFrom 108 = .ok (.getfield 41, 3) := by decide +kernel
theorem dX7_copyFrom_111 : decode cX7_copyFrom 111 = .ok (.iload_n 2, 1) := by decide +kernel
theorem dX7_copyFrom_112 : decode cX7_copyFrom 112 = .ok (.aaload, 1) := by decide +kernel
theorem dX7_copyFrom_113 : decode cX7_copyFrom 113 = .ok (.aload_n 1, 1) := by decide +kernel
theorem dX7_copyFrom_114 : decode cX7_copyFrom 114 = .ok (.getfield 41, 3) := by decide +kernel
theorem dX7_copyFrom_117 : decode cX7_copyFrom 117 = .ok (.iload_n 2, 1) := by decide +kernel
theorem dX7_copyFrom_118 : decode cX7_copyFrom 118 = .ok (.aaload, 1) := by decide +kernel
theorem dX7_copyFrom_119 : decode cX7_copyFrom 119 = .ok (.invokevirtual 78, 3) := by decide +kernel
theorem dX7_copyFrom_122 : decode cX7_copyFrom 122 = .ok (.iinc 2 1, 3) := by decide +kernel
theorem dX7_copyFrom_125 : decode cX7_copyFrom 125 = .ok (.goto (-26), 3) := by decide +kernel
theorem dX7_copyFrom_128 : decode cX7_copyFrom 128 = .ok (.aload_n 0, 1) := by decide +kernel
theorem dX7_copyFrom_129 : decode cX7_copyFrom 129 = .ok (.getfield 49, 3) := by decide +kernel
theorem dX7_copyFrom_132 : decode cX7_copyFrom 132 = .ok (.aload_n 1, 1) := by decide +kernel
theorem dX7_copyFrom_133 : decode cX7_copyFrom 133 = .ok (.getfield 49, 3) := by decide +kernel
theorem dX7_copyFrom_136 : decode cX7_copyFrom 136 = .ok (.invokevirtual 81, 3) := by decide +kernel
theorem dX7_copyFrom_139 : decode cX7_copyFrom 139 = .ok (.return_, 1) := by decide +kernel
def rm_X7_copyFrom : Room := { frames := 3, cells := 0, slots := 0, locals := 60 }
section
variable {p : Program} {l : Launch} {e : Env} {s : State} {m : MethodId} {args : Array Value} {below : List Frame} {meth : Method} {c : Code} {Q : State → Prop} {G : va_G} {aC : Nat → ClassId} {t b0 : Nat}
def f_X7_copyFrom_L99 (v0 : Nat) (v1 : Nat) (k128 : AH → Option (Unit × AH)) : Nat → Int32 → AH → Option (Unit × AH)
  | 0, _, _ => none
  | n + 1, v2, N => ob (hI N v0 7 6) (fun x24 => if x24 ≤ v2 then k128 N else ob (hR N v0 7 10) (fun x26 => ob (aR N 2 x26 v2) (fun x27 => ob (hR N v1 7 10) (fun x28 => ob (aR N 2 x28 v2) (fun x29 => ob2 (f_X4_copyFrom x27 x29 N) (fun _ N30 => f_X7_copyFrom_L99 v0 v1 k128 n (v2 + 1) N30))))))
set_option maxHeartbeats 4000000 in
set_option maxRecDepth 100000 in
theorem w_X7_copyFrom_L99 {P : Unit × AH → Prop} (X : CX cX7_copyFrom RX7 3 G aC t b0 p s m args c) (hr : RtV p l e rm_X7_copyFrom s m args below meth c 0 0 Q cX7_copyFrom G aC b0 P) (v0 : Nat) (v1 : Nat) {k128 : AH → Option (Unit × AH)}
    (hk128 : ∀ (N : AH) (H : Heap) (locs : List Loc) (ls : Array Slot), Rp G aC b0 N H → va_S (fun q => b0 ≤ q) s.heap H locs → lv_has ls 3 [(0, .ref v0), (1, .ref v1)] → owp (k128 N) P → W p l e rm_X7_copyFrom s m args below meth c H locs 0 0 Q (F0 m 128 ls [])) :
    ∀ (n : Nat) (v2 : Int32) (N : AH) (H : Heap) (locs : List Loc) (ls : Array Slot), Rp G aC b0 N H → va_S (fun q => b0 ≤ q) s.heap H locs → lv_has ls 3 [(0, .ref v0), (1, .ref v1), (2, .int v2)] → owp (f_X7_copyFrom_L99 v0 v1 k128 n v2 N) P → W p l e rm_X7_copyFrom s m args below meth c H locs 0 0 Q (F0 m 99 ls []) := by
  have hx := X.1.1
  have hb := X.1.2.1
  intro n
  induction n with
  | zero =>
    intro v2 N H locs ls hR hS hl hp
    exact (show False from hp).elim
  | succ n ih =>
    intro v2 N H locs ls hR hS hl hp
    rw [f_X7_copyFrom_L99] at hp
    refine lv_iload_n hx hb dX7_copyFrom_99 rfl (lv_at hl 2 rfl) ?_
    refine lv_aload_n hx hb dX7_copyFrom_100 rfl (lv_at hl 0 rfl) ?_
    obtain ⟨x24, e_x24, hp⟩ := owp_ob hp
    refine gf_X7_65 X hR e_x24 dX7_copyFrom_101 ?_
    refine lv_icmp_ge (tgt := 128) hx hb dX7_copyFrom_104 (by decide) (fun k25 => ?_) (fun k25 => ?_)
    · have hp := owp_t k25 hp
      exact hk128 _ _ _ _ hR hS (lv_sub hl [0, 1] rfl) hp
    · have hp := owp_f k25 hp
      refine lv_aload_n hx hb dX7_copyFrom_107 rfl (lv_at hl 0 rfl) ?_
      obtain ⟨x26, e_x26, hp⟩ := owp_ob hp
      refine gf_X7_41 X hR e_x26 dX7_copyFrom_108 ?_
      refine lv_iload_n hx hb dX7_copyFrom_111 rfl (lv_at hl 2 rfl) ?_
      obtain ⟨x27, e_x27, hp⟩ := owp_ob hp
      refine ab_aald X hR (kd := 2) rfl e_x27 dX7_copyFrom_112 ?_
      refine lv_aload_n hx hb dX7_copyFrom_113 rfl (lv_at hl 1 rfl) ?_
      obtain ⟨x28, e_x28, hp⟩ := owp_ob hp
      refine gf_X7_41 X hR e_x28 dX7_copyFrom_114 ?_
      refine lv_iload_n hx hb dX7_copyFrom_117 rfl (lv_at hl 2 rfl) ?_
      obtain ⟨x29, e_x29, hp⟩ := owp_ob hp
      refine ab_aald X hR (kd := 2) rfl e_x29 dX7_copyFrom_118 ?_
      obtain ⟨_, N30, e_N30, hp⟩ := owp_ob2 hp
      refine iv_X4_copyFrom (rest := []) mw_X7_78 X hR hS e_N30 hl.1 (Nat.le_of_ble_eq_true rfl) ⟨Nat.le_of_ble_eq_true rfl, Nat.le_of_ble_eq_true rfl⟩ ⟨Nat.le_of_ble_eq_true rfl, Nat.le_of_ble_eq_true rfl⟩ dX7_copyFrom_119 (fun H locs hR hS => ?_)
      refine lv_iinc (v := v2 + 1) (lv' := [(2, .int (v2 + 1)), (0, .ref v0), (1, .ref v1)]) hx hb dX7_copyFrom_122 hl (k := 2) rfl rfl (by decide) rfl (fun ls hl => ?_)
      refine lv_goto (tgt := 99) hx hb dX7_copyFrom_125 (by decide) ?_
      exact ih _ _ _ _ _ hR hS (lv_sub hl [1, 2, 0] rfl) hp
def f_X7_copyFrom (v0 : Nat) (v1 : Nat) (N : AH) : Option (Unit × AH) := ob (iO N v0 7) (fun _ => ob (hI N v1 7 0) (fun x1 => ob (pI N v0 7 0 x1) (fun N2 => ob (hI N2 v1 7 1) (fun x3 => ob (pI N2 v0 7 1 x3) (fun N4 => ob (hI N4 v1 7 2) (fun x5 => ob (pZ N4 v0 7 2 x5) (fun N6 => ob (hI N6 v1 7 3) (fun x7 => ob (pZ N6 v0 7 3 x7) (fun N8 => ob (hI N8 v1 7 4) (fun x9 => ob (pI N8 v0 7 4 x9) (fun N10 => ob (hI N10 v1 7 5) (fun x11 => ob (pI N10 v0 7 5 x11) (fun N12 => ob (hI N12 v1 7 6) (fun x13 => ob (pI N12 v0 7 6 x13) (fun N14 => ob (hR N14 v1 7 7) (fun x15 => ob (hR N14 v0 7 7) (fun x16 => ob (cI N14 x15 (0 : Int32) x16 (0 : Int32) (16 : Int32)) (fun N17 => ob (hR N17 v1 7 8) (fun x18 => ob (hR N17 v0 7 8) (fun x19 => ob (cI N17 x18 (0 : Int32) x19 (0 : Int32) (16 : Int32)) (fun N20 => ob (hR N20 v0 7 9) (fun x21 => ob (hR N20 v1 7 9) (fun x22 => ob2 (f_X1_copyFrom x21 x22 N20) (fun _ N23 => f_X7_copyFrom_L99 v0 v1 (fun N31 => ob (hR N31 v0 7 11) (fun x32 => ob (hR N31 v1 7 11) (fun x33 => ob2 (f_X0_copyFrom x32 x33 N31) (fun _ N34 => some ((), N34))))) FU (0 : Int32) N23))))))))))))))))))))))))
set_option maxHeartbeats 4000000 in
set_option maxRecDepth 100000 in
theorem wk_X7_copyFrom {P : Unit × AH → Prop} (X : CX cX7_copyFrom RX7 3 G aC t b0 p s m args c) (hr : RtV p l e rm_X7_copyFrom s m args below meth c 0 0 Q cX7_copyFrom G aC b0 P) (v0 : Nat) (v1 : Nat) (N : AH) (H : Heap) (locs : List Loc) (ls : Array Slot) (hR : Rp G aC b0 N H) (hS : va_S (fun q => b0 ≤ q) s.heap H locs) (hl : lv_has ls 3 [(0, .ref v0), (1, .ref v1)]) (hp : owp (f_X7_copyFrom v0 v1 N) P) : W p l e rm_X7_copyFrom s m args below meth c H locs 0 0 Q (F0 m 0 ls []) := by
  have hx := X.1.1
  have hb := X.1.2.1
  unfold f_X7_copyFrom at hp
  obtain ⟨_, _, hp⟩ := owp_ob hp
  refine lv_aload_n hx hb dX7_copyFrom_0 rfl (lv_at hl 0 rfl) ?_
  refine lv_aload_n hx hb dX7_copyFrom_1 rfl (lv_at hl 1 rfl) ?_
  obtain ⟨x1, e_x1, hp⟩ := owp_ob hp
  refine gf_X7_53 X hR e_x1 dX7_copyFrom_2 ?_
  obtain ⟨N2, e_N2, hp⟩ := owp_ob hp
  refine pf_X7_53 X hR hS e_N2 dX7_copyFrom_5 (fun H locs hR hS => ?_)
  refine lv_aload_n hx hb dX7_copyFrom_8 rfl (lv_at hl 0 rfl) ?_
  refine lv_aload_n hx hb dX7_copyFrom_9 rfl (lv_at hl 1 rfl) ?_
  obtain ⟨x3, e_x3, hp⟩ := owp_ob hp
  refine gf_X7_56 X hR e_x3 dX7_copyFrom_10 ?_
  obtain ⟨N4, e_N4, hp⟩ := owp_ob hp
  refine pf_X7_56 X hR hS e_N4 dX7_copyFrom_13 (fun H locs hR hS => ?_)
  refine lv_aload_n hx hb dX7_copyFrom_16 rfl (lv_at hl 0 rfl) ?_
  refine lv_aload_n hx hb dX7_copyFrom_17 rfl (lv_at hl 1 rfl) ?_
  obtain ⟨x5, e_x5, hp⟩ := owp_ob hp
  refine gf_X7_9 X hR e_x5 dX7_copyFrom_18 ?_
  obtain ⟨N6, e_N6, hp⟩ := owp_ob hp
  refine pf_X7_9 X hR hS e_N6 dX7_copyFrom_21 (fun H locs hR hS => ?_)
  refine lv_aload_n hx hb dX7_copyFrom_24 rfl (lv_at hl 0 rfl) ?_
  refine lv_aload_n hx hb dX7_copyFrom_25 rfl (lv_at hl 1 rfl) ?_
  obtain ⟨x7, e_x7, hp⟩ := owp_ob hp
  refine gf_X7_59 X hR e_x7 dX7_copyFrom_26 ?_
  obtain ⟨N8, e_N8, hp⟩ := owp_ob hp
  refine pf_X7_59 X hR hS e_N8 dX7_copyFrom_29 (fun H locs hR hS => ?_)
  refine lv_aload_n hx hb dX7_copyFrom_32 rfl (lv_at hl 0 rfl) ?_
  refine lv_aload_n hx hb dX7_copyFrom_33 rfl (lv_at hl 1 rfl) ?_
  obtain ⟨x9, e_x9, hp⟩ := owp_ob hp
  refine gf_X7_62 X hR e_x9 dX7_copyFrom_34 ?_
  obtain ⟨N10, e_N10, hp⟩ := owp_ob hp
  refine pf_X7_62 X hR hS e_N10 dX7_copyFrom_37 (fun H locs hR hS => ?_)
  refine lv_aload_n hx hb dX7_copyFrom_40 rfl (lv_at hl 0 rfl) ?_
  refine lv_aload_n hx hb dX7_copyFrom_41 rfl (lv_at hl 1 rfl) ?_
  obtain ⟨x11, e_x11, hp⟩ := owp_ob hp
  refine gf_X7_15 X hR e_x11 dX7_copyFrom_42 ?_
  obtain ⟨N12, e_N12, hp⟩ := owp_ob hp
  refine pf_X7_15 X hR hS e_N12 dX7_copyFrom_45 (fun H locs hR hS => ?_)
  refine lv_aload_n hx hb dX7_copyFrom_48 rfl (lv_at hl 0 rfl) ?_
  refine lv_aload_n hx hb dX7_copyFrom_49 rfl (lv_at hl 1 rfl) ?_
  obtain ⟨x13, e_x13, hp⟩ := owp_ob hp
  refine gf_X7_65 X hR e_x13 dX7_copyFrom_50 ?_
  obtain ⟨N14, e_N14, hp⟩ := owp_ob hp
  refine pf_X7_65 X hR hS e_N14 dX7_copyFrom_53 (fun H locs hR hS => ?_)
  refine lv_aload_n hx hb dX7_copyFrom_56 rfl (lv_at hl 1 rfl) ?_
  obtain ⟨x15, e_x15, hp⟩ := owp_ob hp
  refine gf_X7_19 X hR e_x15 dX7_copyFrom_57 ?_
  refine lv_iconst (v := (0)) hx hb dX7_copyFrom_60 (by decide) ?_
  refine lv_aload_n hx hb dX7_copyFrom_61 rfl (lv_at hl 0 rfl) ?_
  obtain ⟨x16, e_x16, hp⟩ := owp_ob hp
  refine gf_X7_19 X hR e_x16 dX7_copyFrom_62 ?_
  refine lv_iconst (v := (0)) hx hb dX7_copyFrom_65 (by decide) ?_
  refine lv_bipush (v := (16)) hx hb dX7_copyFrom_66 (by decide) ?_
  obtain ⟨N17, e_N17, hp⟩ := owp_ob hp
  refine ab_copy X hR hS (WT_of 519 (by decide +kernel) (by decide +kernel)) w_acN w_acS w_acI e_N17 hl.1 (Nat.le_of_ble_eq_true rfl) (Nat.le_of_ble_eq_true rfl) dX7_copyFrom_68 (fun H locs hR hS => ?_)
  refine lv_aload_n hx hb dX7_copyFrom_71 rfl (lv_at hl 1 rfl) ?_
  obtain ⟨x18, e_x18, hp⟩ := owp_ob hp
  refine gf_X7_29 X hR e_x18 dX7_copyFrom_72 ?_
  refine lv_iconst (v := (0)) hx hb dX7_copyFrom_75 (by decide) ?_
  refine lv_aload_n hx hb dX7_copyFrom_76 rfl (lv_at hl 0 rfl) ?_
  obtain ⟨x19, e_x19, hp⟩ := owp_ob hp
  refine gf_X7_29 X hR e_x19 dX7_copyFrom_77 ?_
  refine lv_iconst (v := (0)) hx hb dX7_copyFrom_80 (by decide) ?_
  refine lv_bipush (v := (16)) hx hb dX7_copyFrom_81 (by decide) ?_
  obtain ⟨N20, e_N20, hp⟩ := owp_ob hp
  refine ab_copy X hR hS (WT_of 519 (by decide +kernel) (by decide +kernel)) w_acN w_acS w_acI e_N20 hl.1 (Nat.le_of_ble_eq_true rfl) (Nat.le_of_ble_eq_true rfl) dX7_copyFrom_83 (fun H locs hR hS => ?_)
  refine lv_aload_n hx hb dX7_copyFrom_86 rfl (lv_at hl 0 rfl) ?_
  obtain ⟨x21, e_x21, hp⟩ := owp_ob hp
  refine gf_X7_35 X hR e_x21 dX7_copyFrom_87 ?_
  refine lv_aload_n hx hb dX7_copyFrom_90 rfl (lv_at hl 1 rfl) ?_
  obtain ⟨x22, e_x22, hp⟩ := owp_ob hp
  refine gf_X7_35 X hR e_x22 dX7_copyFrom_91 ?_
  obtain ⟨_, N23, e_N23, hp⟩ := owp_ob2 hp
  refine iv_X1_copyFrom (rest := []) mw_X7_74 X hR hS e_N23 hl.1 (Nat.le_of_ble_eq_true rfl) ⟨Nat.le_of_ble_eq_true rfl, Nat.le_of_ble_eq_true rfl⟩ ⟨Nat.le_of_ble_eq_true rfl, Nat.le_of_ble_eq_true rfl⟩ dX7_copyFrom_94 (fun H locs hR hS => ?_)
  refine lv_iconst (v := (0)) hx hb dX7_copyFrom_97 (by decide) ?_
  refine lv_istore_n (lv' := [(2, .int (0 : Int32)), (0, .ref v0), (1, .ref v1)]) hx hb dX7_copyFrom_98 rfl hl (by decide) rfl (fun ls hl => ?_)
  refine w_X7_copyFrom_L99 X hr _ _ (fun N31 H locs ls hR hS hl hp => ?_) _ _ _ _ _ _ hR hS (lv_sub hl [1, 2, 0] rfl) hp
  refine lv_aload_n hx hb dX7_copyFrom_128 rfl (lv_at hl 0 rfl) ?_
  obtain ⟨x32, e_x32, hp⟩ := owp_ob hp
  refine gf_X7_49 X hR e_x32 dX7_copyFrom_129 ?_
  refine lv_aload_n hx hb dX7_copyFrom_132 rfl (lv_at hl 1 rfl) ?_
  obtain ⟨x33, e_x33, hp⟩ := owp_ob hp
  refine gf_X7_49 X hR e_x33 dX7_copyFrom_133 ?_
  obtain ⟨_, N34, e_N34, hp⟩ := owp_ob2 hp
  refine iv_X0_copyFrom (rest := []) mw_X7_81 X hR hS e_N34 hl.1 (Nat.le_of_ble_eq_true rfl) ⟨Nat.le_of_ble_eq_true rfl, Nat.le_of_ble_eq_true rfl⟩ ⟨Nat.le_of_ble_eq_true rfl, Nat.le_of_ble_eq_true rfl⟩ dX7_copyFrom_136 (fun H locs hR hS => ?_)
  exact hr _ _ _ _ _ hR hS dX7_copyFrom_139 hp
end
theorem ct_X7_copyFrom {v0 : Nat} {v1 : Nat} {N N1 : AH} {r : Unit} (h : f_X7_copyFrom v0 v1 N = some (r, N1)) : Ct yX7_copyFrom cX7_copyFrom 3 none rm_X7_copyFrom [.ref v0, .ref v1] N none N1 :=
  ab_met (own := RX7) (by decide +kernel) rfl (Nat.le_of_ble_eq_true rfl) (fun l G aC t b0 p e s m below meth c ls X hr hlk hnm hR hS hl => wk_X7_copyFrom X (RtV_met X.1.1 X.1.2.1 hr hlk) _ _ _ _ _ _ hR hS hl (owp_of h))
theorem cw_X7_copyFrom : Cond.code yX7_copyFrom cX7_copyFrom 3 none ∈ WT := WT_of 518 (by decide +kernel) (by decide +kernel)
theorem iv_X7_copyFrom {p : Program} {l : Launch} {e : Env} {R : Room} {s : State} {m : MethodId} {args : Array Value} {below : List Frame} {meth : Method} {c : Code} {H : Heap} {locs : List Loc} {cells slots : Nat} {Q : State → Prop} {cc : ByteArray} {own : String} {nL : Nat} {G : va_G} {aC : Nat → ClassId} {t b0 : Nat} {N N1 : AH} {pc index : Nat} {ls : Array Slot} {rest : List Value} {v0 : Nat} {v1 : Nat} {r : Unit} (w1 : Cond.methodLink own index yX7_copyFrom ∈ WT) (X : CX cc own nL G aC t b0 p s m args c) (hR : Rp G aC b0 N H) (hS : va_S (fun q => b0 ≤ q) s.heap H locs) (h : f_X7_copyFrom v0 v1 N = some (r, N1)) (hls : ls.size = nL) (hW : (rest.map fun v => v.category).sum ≤ 8) (hR1 : 4 ≤ R.frames ∧ 82 ≤ R.locals) (hcs : cells + 0 ≤ R.cells ∧ slots + 0 ≤ R.slots) (hdg : decode cc pc = .ok (.invokevirtual index, 3)) (kk : ∀ (H1 : Heap) (locs1 : List Loc), Rp G aC b0 N1 H1 → va_S (fun q => b0 ≤ q) s.heap H1 locs1 → W p l e R s m args below meth c H1 locs1 cells slots Q (F0 m (pc + 3) ls rest)) : W p l e R s m args below meth c H locs cells slots Q (F0 m pc ls (.ref v1 :: .ref v0 :: rest)) :=
  ab_callV (n := 1) (As := [.ref v1]) X hR hS (ct_X7_copyFrom h) (ob_rc (c := 7) (N := N) (a := v0) h) (T := TX7) (k := 12) (C := RX7) rfl w1 (WT_of 516 (by decide +kernel) (by decide +kernel)) (WT_of 517 (by decide +kernel) (by decide +kernel)) (WT_of 84 (by decide +kernel) (by decide +kernel)) cw_X7_copyFrom ⟨rfl, by decide +kernel, by decide +kernel, by decide +kernel⟩ rfl hls hW hR1 hcs rfl hdg kk
-- X4_stateAt
theorem dX4_stateAt_0 : decode cX4_stateAt 0 = .ok (.aload_n 0, 1) := by decide +kernel
theorem dX4_stateAt_1 : decode cX4_stateAt 1 = .ok (.getfield 31, 3) := by decide +kernel
theorem dX4_stateAt_4 : decode cX4_stateAt 4 = .ok (.ifCond .eq 5, 3) := by decide +kernel
theorem dX4_stateAt_7 : decode cX4_stateAt 7 = .ok (.iconst 3, 1) := by decide +kernel
theorem dX4_stateAt_8 : decode cX4_stateAt 8 = .ok (.ireturn, 1) := by decide +kernel
theorem dX4_stateAt_9 : decode cX4_stateAt 9 = .ok (.aload_n 0, 1) := by decide +kernel
theorem dX4_stateAt_10 : decode cX4_stateAt 10 = .ok (.getfield 28, 3) := by decide +kernel
theorem dX4_stateAt_13 : decode cX4_stateAt 13 = .ok (.iconst (-1), 1) := by decide +kernel
theorem dX4_stateAt_14 : decode cX4_stateAt 14 = .ok (.if_icmp .eq 5, 3) := by decide +kernel
theorem dX4_stateAt_17 : decode cX4_stateAt 17 = .ok (.iconst 2, 1) := by decide +kernel
theorem dX4_stateAt_18 : decode cX4_stateAt 18 = .ok (.ireturn, 1) := by decide +kernel
theorem dX4_stateAt_19 : decode cX4_stateAt 19 = .ok (.iload_n 1, 1) := by decide +kernel
theorem dX4_stateAt_20 : decode cX4_stateAt 20 = .ok (.aload_n 0, 1) := by decide +kernel
theorem dX4_stateAt_21 : decode cX4_stateAt 21 = .ok (.getfield 18, 3) := by decide +kernel
theorem dX4_stateAt_24 : decode cX4_stateAt 24 = .ok (.if_icmp .ge 7, 3) := by decide +kernel
theorem dX4_stateAt_27 : decode cX4_stateAt 27 = .ok (.iconst 0, 1) := by decide +kernel
theorem dX4_stateAt_28 : decode cX4_stateAt 28 = .ok (.goto 4, 3) := by decide +kernel
theorem dX4_stateAt_31 : decode cX4_stateAt 31 = .ok (.iconst 1, 1) := by decide +kernel
theorem dX4_stateAt_32 : decode cX4_stateAt 32 = .ok (.ireturn, 1) := by decide +kernel
def rm_X4_stateAt : Room := { frames := 0, cells := 0, slots := 0, locals := 0 }
section
variable {p : Program} {l : Launch} {e : Env} {s : State} {m : MethodId} {args : Array Value} {below : List Frame} {meth : Method} {c : Code} {Q : State → Prop} {G : va_G} {aC : Nat → ClassId} {t b0 : Nat}
def f_X4_stateAt (v0 : Nat) (v1 : Int32) (N : AH) : Option (Int32 × AH) := ob (iO N v0 4) (fun _ => ob (hI N v0 4 4) (fun x1 => if x1 = 0 then ob (hI N v0 4 3) (fun x3 => if x3 = (-1 : Int32) then ob (hI N v0 4 0) (fun x5 => if x5 ≤ v1 then some ((1 : Int32), N) else some ((0 : Int32), N)) else some ((2 : Int32), N)) else some ((3 : Int32), N)))
set_option maxHeartbeats 4000000 in
set_option maxRecDepth 100000 in
theorem wk_X4_stateAt {P : Int32 × AH → Prop} (X : CX cX4_stateAt RX4 2 G aC t b0 p s m args c) (hr : RtI p l e rm_X4_stateAt s m args below meth c 0 0 Q cX4_stateAt G aC b0 P) (v0 : Nat) (v1 : Int32) (N : AH) (H : Heap) (locs : List Loc) (ls : Array Slot) (hR : Rp G aC b0 N H) (hS : va_S (fun q => b0 ≤ q) s.heap H locs) (hl : lv_has ls 2 [(0, .ref v0), (1, .int v1)]) (hp : owp (f_X4_stateAt v0 v1 N) P) : W p l e rm_X4_stateAt s m args below meth c H locs 0 0 Q (F0 m 0 ls []) := by
  have hx := X.1.1
  have hb := X.1.2.1
  unfold f_X4_stateAt at hp
  obtain ⟨_, _, hp⟩ := owp_ob hp
  refine lv_aload_n hx hb dX4_stateAt_0 rfl (lv_at hl 0 rfl) ?_
  obtain ⟨x1, e_x1, hp⟩ := owp_ob hp
  refine gf_X4_31 X hR e_x1 dX4_stateAt_1 ?_
  refine lv_if_eq (tgt := 9) hx hb dX4_stateAt_4 (by decide) (fun k2 => ?_) (fun k2 => ?_)
  · have hp := owp_t k2 hp
    refine lv_aload_n hx hb dX4_stateAt_9 rfl (lv_at hl 0 rfl) ?_
    obtain ⟨x3, e_x3, hp⟩ := owp_ob hp
    refine gf_X4_28 X hR e_x3 dX4_stateAt_10 ?_
    refine lv_iconst (v := (-1)) hx hb dX4_stateAt_13 (by decide) ?_
    refine lv_icmp_eq (tgt := 19) hx hb dX4_stateAt_14 (by decide) (fun k4 => ?_) (fun k4 => ?_)
    · have hp := owp_t k4 hp
      refine lv_iload_n hx hb dX4_stateAt_19 rfl (lv_at hl 1 rfl) ?_
      refine lv_aload_n hx hb dX4_stateAt_20 rfl (lv_at hl 0 rfl) ?_
      obtain ⟨x5, e_x5, hp⟩ := owp_ob hp
      refine gf_X4_18 X hR e_x5 dX4_stateAt_21 ?_
      refine lv_icmp_ge (tgt := 31) hx hb dX4_stateAt_24 (by decide) (fun k6 => ?_) (fun k6 => ?_)
      · have hp := owp_t k6 hp
        refine lv_iconst (v := (1)) hx hb dX4_stateAt_31 (by decide) ?_
        exact hr _ _ _ _ _ _ hR hS dX4_stateAt_32 hp
      · have hp := owp_f k6 hp
        refine lv_iconst (v := (0)) hx hb dX4_stateAt_27 (by decide) ?_
        refine lv_goto (tgt := 32) hx hb dX4_stateAt_28 (by decide) ?_
        exact hr _ _ _ _ _ _ hR hS dX4_stateAt_32 hp
    · have hp := owp_f k4 hp
      refine lv_iconst (v := (2)) hx hb dX4_stateAt_17 (by decide) ?_
      exact hr _ _ _ _ _ _ hR hS dX4_stateAt_18 hp
  · have hp := owp_f k2 hp
    refine lv_iconst (v := (3)) hx hb dX4_stateAt_7 (by decide) ?_
    exact hr _ _ _ _ _ _ hR hS dX4_stateAt_8 hp
end
theorem ct_X4_stateAt {v0 : Nat} {v1 : Int32} {N N1 : AH} {r : Int32} (h : f_X4_stateAt v0 v1 N = some (r, N1)) : Ct yX4_stateAt cX4_stateAt 2 (some .int) rm_X4_stateAt [.ref v0, .int v1] N (some (.int r)) N1 :=
  ab_met (own := RX4) (by decide +kernel) rfl (Nat.le_of_ble_eq_true rfl) (fun l G aC t b0 p e s m below meth c ls X hr hlk hnm hR hS hl => wk_X4_stateAt X (RtI_met X.1.1 X.1.2.1 hr hlk) _ _ _ _ _ _ hR hS hl (owp_of h))
theorem cw_X4_stateAt : Cond.code yX4_stateAt cX4_stateAt 2 (some .int) ∈ WT := WT_of 622 (by decide +kernel) (by decide +kernel)
theorem iv_X4_stateAt {p : Program} {l : Launch} {e : Env} {R : Room} {s : State} {m : MethodId} {args : Array Value} {below : List Frame} {meth : Method} {c : Code} {H : Heap} {locs : List Loc} {cells slots : Nat} {Q : State → Prop} {cc : ByteArray} {own : String} {nL : Nat} {G : va_G} {aC : Nat → ClassId} {t b0 : Nat} {N N1 : AH} {pc index : Nat} {ls : Array Slot} {rest : List Value} {v0 : Nat} {v1 : Int32} {r : Int32} (w1 : Cond.methodLink own index yX4_stateAt ∈ WT) (X : CX cc own nL G aC t b0 p s m args c) (hR : Rp G aC b0 N H) (hS : va_S (fun q => b0 ≤ q) s.heap H locs) (h : f_X4_stateAt v0 v1 N = some (r, N1)) (hls : ls.size = nL) (hW : (rest.map fun v => v.category).sum ≤ 8) (hR1 : 1 ≤ R.frames ∧ 21 ≤ R.locals) (hcs : cells + 0 ≤ R.cells ∧ slots + 0 ≤ R.slots) (hdg : decode cc pc = .ok (.invokevirtual index, 3)) (kk : ∀ (H1 : Heap) (locs1 : List Loc), Rp G aC b0 N1 H1 → va_S (fun q => b0 ≤ q) s.heap H1 locs1 → W p l e R s m args below meth c H1 locs1 cells slots Q (F0 m (pc + 3) ls (.int r :: rest))) : W p l e R s m args below meth c H locs cells slots Q (F0 m pc ls (.int v1 :: .ref v0 :: rest)) :=
  ab_callV (n := 1) (As := [.int v1]) X hR hS (ct_X4_stateAt h) (ob_rc (c := 4) (N := N) (a := v0) h) (T := TX4) (k := 6) (C := RX4) rfl w1 (WT_of 620 (by decide +kernel) (by decide +kernel)) (WT_of 621 (by decide +kernel) (by decide +kernel)) (WT_of 86 (by decide +kernel) (by decide +kernel)) cw_X4_stateAt ⟨rfl, by decide +kernel, by decide +kernel, by decide +kernel⟩ rfl hls hW hR1 hcs rfl hdg kk
-- X4_deadlineEnd
theorem dX4_deadlineEnd_0 : decode cX4_deadlineEnd 0 = .ok (.aload_n 0, 1) := by decide +kernel
theorem dX4_deadlineEnd_1 : decode cX4_deadlineEnd 1 = .ok (.getfield 18, 3) := by decide +kernel
theorem dX4_deadlineEnd_4 : decode cX4_deadlineEnd 4 = .ok (.aload_n 0, 1) := by decide +kernel
theorem dX4_deadlineEnd_5 : decode cX4_deadlineEnd 5 = .ok (.getfield 25, 3) := by decide +kernel
theorem dX4_deadlineEnd_8 : decode cX4_deadlineEnd 8 = .ok (.iadd, 1) := by decide +kernel
theorem dX4_deadlineEnd_9 : decode cX4_deadlineEnd 9 = .ok (.ireturn, 1) := by decide +kernel
def rm_X4_deadlineEnd : Room := { frames := 0, cells := 0, slots := 0, locals := 0 }
section
variable {p : Program} {l : Launch} {e : Env} {s : State} {m : MethodId} {args : Array Value} {below : List Frame} {meth : Method} {c : Code} {Q : State → Prop} {G : va_G} {aC : Nat → ClassId} {t b0 : Nat}
def f_X4_deadlineEnd (v0 : Nat) (N : AH) : Option (Int32 × AH) := ob (iO N v0 4) (fun _ => ob (hI N v0 4 0) (fun x1 => ob (hI N v0 4 2) (fun x2 => some (x1 + x2, N))))
set_option maxHeartbeats 4000000 in
set_option maxRecDepth 100000 in
theorem wk_X4_deadlineEnd {P : Int32 × AH → Prop} (X : CX cX4_deadlineEnd RX4 1 G aC t b0 p s m args c) (hr : RtI p l e rm_X4_deadlineEnd s m args below meth c 0 0 Q cX4_deadlineEnd G aC b0 P) (v0 : Nat) (N : AH) (H : Heap) (locs : List Loc) (ls : Array Slot) (hR : Rp G aC b0 N H) (hS : va_S (fun q => b0 ≤ q) s.heap H locs) (hl : lv_has ls 1 [(0, .ref v0)]) (hp : owp (f_X4_deadlineEnd v0 N) P) : W p l e rm_X4_deadlineEnd s m args below meth c H locs 0 0 Q (F0 m 0 ls []) := by
  have hx := X.1.1
  have hb := X.1.2.1
  unfold f_X4_deadlineEnd at hp
  obtain ⟨_, _, hp⟩ := owp_ob hp
  refine lv_aload_n hx hb dX4_deadlineEnd_0 rfl (lv_at hl 0 rfl) ?_
  obtain ⟨x1, e_x1, hp⟩ := owp_ob hp
  refine gf_X4_18 X hR e_x1 dX4_deadlineEnd_1 ?_
  refine lv_aload_n hx hb dX4_deadlineEnd_4 rfl (lv_at hl 0 rfl) ?_
  obtain ⟨x2, e_x2, hp⟩ := owp_ob hp
  refine gf_X4_25 X hR e_x2 dX4_deadlineEnd_5 ?_
  refine lv_iadd hx hb dX4_deadlineEnd_8 ?_
  exact hr _ _ _ _ _ _ hR hS dX4_deadlineEnd_9 hp
end
theorem ct_X4_deadlineEnd {v0 : Nat} {N N1 : AH} {r : Int32} (h : f_X4_deadlineEnd v0 N = some (r, N1)) : Ct yX4_deadlineEnd cX4_deadlineEnd 1 (some .int) rm_X4_deadlineEnd [.ref v0] N (some (.int r)) N1 :=
  ab_met (own := RX4) (by decide +kernel) rfl (Nat.le_of_ble_eq_true rfl) (fun l G aC t b0 p e s m below meth c ls X hr hlk hnm hR hS hl => wk_X4_deadlineEnd X (RtI_met X.1.1 X.1.2.1 hr hlk) _ _ _ _ _ hR hS hl (owp_of h))
theorem cw_X4_deadlineEnd : Cond.code yX4_deadlineEnd cX4_deadlineEnd 1 (some .int) ∈ WT := WT_of 571 (by decide +kernel) (by decide +kernel)
theorem iv_X4_deadlineEnd {p : Program} {l : Launch} {e : Env} {R : Room} {s : State} {m : MethodId} {args : Array Value} {below : List Frame} {meth : Method} {c : Code} {H : Heap} {locs : List Loc} {cells slots : Nat} {Q : State → Prop} {cc : ByteArray} {own : String} {nL : Nat} {G : va_G} {aC : Nat → ClassId} {t b0 : Nat} {N N1 : AH} {pc index : Nat} {ls : Array Slot} {rest : List Value} {v0 : Nat} {r : Int32} (w1 : Cond.methodLink own index yX4_deadlineEnd ∈ WT) (X : CX cc own nL G aC t b0 p s m args c) (hR : Rp G aC b0 N H) (hS : va_S (fun q => b0 ≤ q) s.heap H locs) (h : f_X4_deadlineEnd v0 N = some (r, N1)) (hls : ls.size = nL) (hW : (rest.map fun v => v.category).sum ≤ 8) (hR1 : 1 ≤ R.frames ∧ 20 ≤ R.locals) (hcs : cells + 0 ≤ R.cells ∧ slots + 0 ≤ R.slots) (hdg : decode cc pc = .ok (.invokevirtual index, 3)) (kk : ∀ (H1 : Heap) (locs1 : List Loc), Rp G aC b0 N1 H1 → va_S (fun q => b0 ≤ q) s.heap H1 locs1 → W p l e R s m args below meth c H1 locs1 cells slots Q (F0 m (pc + 3) ls (.int r :: rest))) : W p l e R s m args below meth c H locs cells slots Q (F0 m pc ls (.ref v0 :: rest)) :=
  ab_callV (n := 0) (As := []) X hR hS (ct_X4_deadlineEnd h) (ob_rc (c := 4) (N := N) (a := v0) h) (T := TX4) (k := 6) (C := RX4) rfl w1 (WT_of 569 (by decide +kernel) (by decide +kernel)) (WT_of 570 (by decide +kernel) (by decide +kernel)) (WT_of 86 (by decide +kernel) (by decide +kernel)) cw_X4_deadlineEnd ⟨rfl, by decide +kernel, by decide +kernel, by decide +kernel⟩ rfl hls hW hR1 hcs rfl hdg kk
-- X8_setKey
theorem gf_X8_24 {p : Program} {l : Launch} {e : Env} {R : Room} {s : State} {m : MethodId} {args : Array Value} {below : List Frame} {meth : Method} {c : Code} {H : Heap} {locs : List Loc} {cells slots : Nat} {Q : State → Prop} {cc : ByteArray} {nL : Nat} {G : va_G} {aC : Nat → ClassId} {t b0 : Nat} {N : AH} {pc : Nat} {ls : Array Slot} {rest : List Value} {a : Nat} {v : Nat} (X : CX cc RX8 nL G aC t b0 p s m args c) (hR0 : Rp G aC b0 N H) (hv : hR N a 8 5 = some v) (hdg : decode cc pc = .ok (.getfield 24, 3)) (kk : W p l e R s m args below meth c H locs cells slots Q (F0 m (pc + 3) ls (.ref v :: rest))) : W p l e R s m args below meth c H locs cells slots Q (F0 m pc ls (.ref a :: rest)) := by
  obtain ⟨fs, h1, h2⟩ := hR_ok hv
  exact ab_get (C := RX8) (T := TX8) (n := 11) X hR0 h1 h2 rfl inX8 (by decide) (WT_of 355 (by decide +kernel) (by decide +kernel)) hdg kk
theorem gf_X8_27 {p : Program} {l : Launch} {e : Env} {R : Room} {s : State} {m : MethodId} {args : Array Value} {below : List Frame} {meth : Method} {c : Code} {H : Heap} {locs : List Loc} {cells slots : Nat} {Q : State → Prop} {cc : ByteArray} {nL : Nat} {G : va_G} {aC : Nat → ClassId} {t b0 : Nat} {N : AH} {pc : Nat} {ls : Array Slot} {rest : List Value} {a : Nat} {v : Nat} (X : CX cc RX8 nL G aC t b0 p s m args c) (hR0 : Rp G aC b0 N H) (hv : hR N a 8 6 = some v) (hdg : decode cc pc = .ok (.getfield 27, 3)) (kk : W p l e R s m args below meth c H locs cells slots Q (F0 m (pc + 3) ls (.ref v :: rest))) : W p l e R s m args below meth c H locs cells slots Q (F0 m pc ls (.ref a :: rest)) := by
  obtain ⟨fs, h1, h2⟩ := hR_ok hv
  exact ab_get (C := RX8) (T := TX8) (n := 11) X hR0 h1 h2 rfl inX8 (by decide) (WT_of 356 (by decide +kernel) (by decide +kernel)) hdg kk
theorem gf_X8_31 {p : Program} {l : Launch} {e : Env} {R : Room} {s : State} {m : MethodId} {args : Array Value} {below : List Frame} {meth : Method} {c : Code} {H : Heap} {locs : List Loc} {cells slots : Nat} {Q : State → Prop} {cc : ByteArray} {nL : Nat} {G : va_G} {aC : Nat → ClassId} {t b0 : Nat} {N : AH} {pc : Nat} {ls : Array Slot} {rest : List Value} {a : Nat} {v : Nat} (X : CX cc RX8 nL G aC t b0 p s m args c) (hR0 : Rp G aC b0 N H) (hv : hR N a 8 7 = some v) (hdg : decode cc pc = .ok (.getfield 31, 3)) (kk : W p l e R s m args below meth c H locs cells slots Q (F0 m (pc + 3) ls (.ref v :: rest))) : W p l e R s m args below meth c H locs cells slots Q (F0 m pc ls (.ref a :: rest)) := by
  obtain ⟨fs, h1, h2⟩ := hR_ok hv
  exact ab_get (C := RX8) (T := TX8) (n := 11) X hR0 h1 h2 rfl inX8 (by decide) (WT_of 357 (by decide +kernel) (by decide +kernel)) hdg kk
theorem dX8_setKey_0 : decode cX8_setKey 0 = .ok (.aload_n 0, 1) := by decide +kernel
theorem dX8_setKey_1 : decode cX8_setKey 1 = .ok (.getfield 24, 3) := by decide +kernel
theorem dX8_setKey_4 : decode cX8_setKey 4 = .ok (.iload_n 1, 1) := by decide +kernel
theorem dX8_setKey_5 : decode cX8_setKey 5 = .ok (.iload_n 2, 1) := by decide +kernel
theorem dX8_setKey_6 : decode cX8_setKey 6 = .ok (.iastore, 1) := by decide +kernel
theorem dX8_setKey_7 : decode cX8_setKey 7 = .ok (.aload_n 0, 1) := by decide +kernel
theorem dX8_setKey_8 : decode cX8_setKey 8 = .ok (.getfield 27, 3) := by decide +kernel
theorem dX8_setKey_11 : decode cX8_setKey 11 = .ok (.iload_n 1, 1) := by decide +kernel
theorem dX8_setKey_12 : decode cX8_setKey 12 = .ok (.lload_n 3, 1) := by decide +kernel
theorem dX8_setKey_13 : decode cX8_setKey 13 = .ok (.lastore, 1) := by decide +kernel
theorem dX8_setKey_14 : decode cX8_setKey 14 = .ok (.aload_n 0, 1) := by decide +kernel
theorem dX8_setKey_15 : decode cX8_setKey 15 = .ok (.getfield 31, 3) := by decide +kernel
theorem dX8_setKey_18 : decode cX8_setKey 18 = .ok (.iload_n 1, 1) := by decide +kernel
theorem dX8_setKey_19 : decode cX8_setKey 19 = .ok (.iload 5, 2) := by decide +kernel
theorem dX8_setKey_21 : decode cX8_setKey 21 = .ok (.iastore, 1) := by decide +kernel
theorem dX8_setKey_22 : decode cX8_setKey 22 = .ok (.return_, 1) := by decide +kernel
def rm_X8_setKey : Room := { frames := 0, cells := 0, slots := 0, locals := 0 }
section
variable {p : Program} {l : Launch} {e : Env} {s : State} {m : MethodId} {args : Array Value} {below : List Frame} {meth : Method} {c : Code} {Q : State → Prop} {G : va_G} {aC : Nat → ClassId} {t b0 : Nat}
def f_X8_setKey (v0 : Nat) (v1 : Int32) (v2 : Int32) (v3 : Int64) (v5 : Int32) (N : AH) : Option (Unit × AH) := ob (iO N v0 8) (fun _ => ob (hR N v0 8 5) (fun x1 => ob (sI N x1 v1 v2) (fun N2 => ob (hR N2 v0 8 6) (fun x3 => ob (sJ N2 x3 v1 v3) (fun N4 => ob (hR N4 v0 8 7) (fun x5 => ob (sI N4 x5 v1 v5) (fun N6 => some ((), N6))))))))
set_option maxHeartbeats 4000000 in
set_option maxRecDepth 100000 in
theorem wk_X8_setKey {P : Unit × AH → Prop} (X : CX cX8_setKey RX8 6 G aC t b0 p s m args c) (hr : RtV p l e rm_X8_setKey s m args below meth c 0 0 Q cX8_setKey G aC b0 P) (v0 : Nat) (v1 : Int32) (v2 : Int32) (v3 : Int64) (v5 : Int32) (N : AH) (H : Heap) (locs : List Loc) (ls : Array Slot) (hR : Rp G aC b0 N H) (hS : va_S (fun q => b0 ≤ q) s.heap H locs) (hl : lv_has ls 6 [(0, .ref v0), (1, .int v1), (2, .int v2), (3, .long v3), (5, .int v5)]) (hp : owp (f_X8_setKey v0 v1 v2 v3 v5 N) P) : W p l e rm_X8_setKey s m args below meth c H locs 0 0 Q (F0 m 0 ls []) := by
  have hx := X.1.1
  have hb := X.1.2.1
  unfold f_X8_setKey at hp
  obtain ⟨_, _, hp⟩ := owp_ob hp
  refine lv_aload_n hx hb dX8_setKey_0 rfl (lv_at hl 0 rfl) ?_
  obtain ⟨x1, e_x1, hp⟩ := owp_ob hp
  refine gf_X8_24 X hR e_x1 dX8_setKey_1 ?_
  refine lv_iload_n hx hb dX8_setKey_4 rfl (lv_at hl 1 rfl) ?_
  refine lv_iload_n hx hb dX8_setKey_5 rfl (lv_at hl 2 rfl) ?_
  obtain ⟨N2, e_N2, hp⟩ := owp_ob hp
  refine ab_iast X hR hS e_N2 dX8_setKey_6 (fun H locs hR hS => ?_)
  refine lv_aload_n hx hb dX8_setKey_7 rfl (lv_at hl 0 rfl) ?_
  obtain ⟨x3, e_x3, hp⟩ := owp_ob hp
  refine gf_X8_27 X hR e_x3 dX8_setKey_8 ?_
  refine lv_iload_n hx hb dX8_setKey_11 rfl (lv_at hl 1 rfl) ?_
  refine lv_lload_n hx hb dX8_setKey_12 rfl (lv_at hl 3 rfl) ?_
  obtain ⟨N4, e_N4, hp⟩ := owp_ob hp
  refine ab_last X hR hS e_N4 dX8_setKey_13 (fun H locs hR hS => ?_)
  refine lv_aload_n hx hb dX8_setKey_14 rfl (lv_at hl 0 rfl) ?_
  obtain ⟨x5, e_x5, hp⟩ := owp_ob hp
  refine gf_X8_31 X hR e_x5 dX8_setKey_15 ?_
  refine lv_iload_n hx hb dX8_setKey_18 rfl (lv_at hl 1 rfl) ?_
  refine lv_iload hx hb dX8_setKey_19 (lv_at hl 4 rfl) ?_
  obtain ⟨N6, e_N6, hp⟩ := owp_ob hp
  refine ab_iast X hR hS e_N6 dX8_setKey_21 (fun H locs hR hS => ?_)
  exact hr _ _ _ _ _ hR hS dX8_setKey_22 hp
end
theorem ct_X8_setKey {v0 : Nat} {v1 : Int32} {v2 : Int32} {v3 : Int64} {v5 : Int32} {N N1 : AH} {r : Unit} (h : f_X8_setKey v0 v1 v2 v3 v5 N = some (r, N1)) : Ct yX8_setKey cX8_setKey 6 none rm_X8_setKey [.ref v0, .int v1, .int v2, .long v3, .int v5] N none N1 :=
  ab_met (own := RX8) (by decide +kernel) rfl (Nat.le_of_ble_eq_true rfl) (fun l G aC t b0 p e s m below meth c ls X hr hlk hnm hR hS hl => wk_X8_setKey X (RtV_met X.1.1 X.1.2.1 hr hlk) _ _ _ _ _ _ _ _ _ hR hS hl (owp_of h))
theorem cw_X8_setKey : Cond.code yX8_setKey cX8_setKey 6 none ∈ WT := WT_of 627 (by decide +kernel) (by decide +kernel)
theorem iv_X8_setKey {p : Program} {l : Launch} {e : Env} {R : Room} {s : State} {m : MethodId} {args : Array Value} {below : List Frame} {meth : Method} {c : Code} {H : Heap} {locs : List Loc} {cells slots : Nat} {Q : State → Prop} {cc : ByteArray} {own : String} {nL : Nat} {G : va_G} {aC : Nat → ClassId} {t b0 : Nat} {N N1 : AH} {pc index : Nat} {ls : Array Slot} {rest : List Value} {v0 : Nat} {v1 : Int32} {v2 : Int32} {v3 : Int64} {v5 : Int32} {r : Unit} (w1 : Cond.methodLink own index yX8_setKey ∈ WT) (X : CX cc own nL G aC t b0 p s m args c) (hR : Rp G aC b0 N H) (hS : va_S (fun q => b0 ≤ q) s.heap H locs) (h : f_X8_setKey v0 v1 v2 v3 v5 N = some (r, N1)) (hls : ls.size = nL) (hW : (rest.map fun v => v.category).sum ≤ 8) (hR1 : 1 ≤ R.frames ∧ 25 ≤ R.locals) (hcs : cells + 0 ≤ R.cells ∧ slots + 0 ≤ R.slots) (hdg : decode cc pc = .ok (.invokevirtual index, 3)) (kk : ∀ (H1 : Heap) (locs1 : List Loc), Rp G aC b0 N1 H1 → va_S (fun q => b0 ≤ q) s.heap H1 locs1 → W p l e R s m args below meth c H1 locs1 cells slots Q (F0 m (pc + 3) ls rest)) : W p l e R s m args below meth c H locs cells slots Q (F0 m pc ls (.int v5 :: .long v3 :: .int v2 :: .int v1 :: .ref v0 :: rest)) :=
  ab_callV (n := 4) (As := [.int v1, .int v2, .long v3, .int v5]) X hR hS (ct_X8_setKey h) (ob_rc (c := 8) (N := N) (a := v0) h) (T := TX8) (k := 11) (C := RX8) rfl w1 (WT_of 626 (by decide +kernel) (by decide +kernel)) (WT_of 8 (by decide +kernel) (by decide +kernel)) (WT_of 89 (by decide +kernel) (by decide +kernel)) cw_X8_setKey ⟨rfl, by decide +kernel, by decide +kernel, by decide +kernel⟩ rfl hls hW hR1 hcs rfl hdg kk
-- J9_max_7cf53
theorem dJ9_max_7cf53_0 : decode cJ9_max_7cf53 0 = .ok (.iload_n 0, 1) := by decide +kernel
theorem dJ9_max_7cf53_1 : decode cJ9_max_7cf53 1 = .ok (.iload_n 1, 1) := by decide +kernel
theorem dJ9_max_7cf53_2 : decode cJ9_max_7cf53 2 = .ok (.if_icmp .lt 7, 3) := by decide +kernel
theorem dJ9_max_7cf53_5 : decode cJ9_max_7cf53 5 = .ok (.iload_n 0, 1) := by decide +kernel
theorem dJ9_max_7cf53_6 : decode cJ9_max_7cf53 6 = .ok (.goto 4, 3) := by decide +kernel
theorem dJ9_max_7cf53_9 : decode cJ9_max_7cf53 9 = .ok (.iload_n 1, 1) := by decide +kernel
theorem dJ9_max_7cf53_10 : decode cJ9_max_7cf53 10 = .ok (.ireturn, 1) := by decide +kernel
def rm_J9_max_7cf53 : Room := { frames := 0, cells := 0, slots := 0, locals := 0 }
section
variable {p : Program} {l : Launch} {e : Env} {s : State} {m : MethodId} {args : Array Value} {below : List Frame} {meth : Method} {c : Code} {Q : State → Prop} {G : va_G} {aC : Nat → ClassId} {t b0 : Nat}
def f_J9_max_7cf53 (v0 : Int32) (v1 : Int32) (N : AH) : Option (Int32 × AH) := if v0 < v1 then some (v1, N) else some (v0, N)
set_option maxHeartbeats 4000000 in
set_option maxRecDepth 100000 in
theorem wk_J9_max_7cf53 {P : Int32 × AH → Prop} (X : CX cJ9_max_7cf53 RJ9 2 G aC t b0 p s m args c) (hr : RtI p l e rm_J9_max_7cf53 s m args below meth c 0 0 Q cJ9_max_7cf53 G aC b0 P) (v0 : Int32) (v1 : Int32) (N : AH) (H : Heap) (locs : List Loc) (ls : Array Slot) (hR : Rp G aC b0 N H) (hS : va_S (fun q => b0 ≤ q) s.heap H locs) (hl : lv_has ls 2 [(0, .int v0), (1, .int v1)]) (hp : owp (f_J9_max_7cf53 v0 v1 N) P) : W p l e rm_J9_max_7cf53 s m args below meth c H locs 0 0 Q (F0 m 0 ls []) := by
  have hx := X.1.1
  have hb := X.1.2.1
  unfold f_J9_max_7cf53 at hp
  refine lv_iload_n hx hb dJ9_max_7cf53_0 rfl (lv_at hl 0 rfl) ?_
  refine lv_iload_n hx hb dJ9_max_7cf53_1 rfl (lv_at hl 1 rfl) ?_
  refine lv_icmp_lt (tgt := 9) hx hb dJ9_max_7cf53_2 (by decide) (fun k1 => ?_) (fun k1 => ?_)
  · have hp := owp_t k1 hp
    refine lv_iload_n hx hb dJ9_max_7cf53_9 rfl (lv_at hl 1 rfl) ?_
    exact hr _ _ _ _ _ _ hR hS dJ9_max_7cf53_10 hp
  · have hp := owp_f k1 hp
    refine lv_iload_n hx hb dJ9_max_7cf53_5 rfl (lv_at hl 0 rfl) ?_
    refine lv_goto (tgt := 10) hx hb dJ9_max_7cf53_6 (by decide) ?_
    exact hr _ _ _ _ _ _ hR hS dJ9_max_7cf53_10 hp
end
theorem ct_J9_max_7cf53 {v0 : Int32} {v1 : Int32} {N N1 : AH} {r : Int32} (h : f_J9_max_7cf53 v0 v1 N = some (r, N1)) : Ct yJ9_max_7cf53 cJ9_max_7cf53 2 (some .int) rm_J9_max_7cf53 [.int v0, .int v1] N (some (.int r)) N1 :=
  ab_met (own := RJ9) (by decide +kernel) rfl (Nat.le_of_ble_eq_true rfl) (fun l G aC t b0 p e s m below meth c ls X hr hlk hnm hR hS hl => wk_J9_max_7cf53 X (RtI_met X.1.1 X.1.2.1 hr hlk) _ _ _ _ _ _ hR hS hl (owp_of h))
theorem cw_J9_max_7cf53 : Cond.code yJ9_max_7cf53 cJ9_max_7cf53 2 (some .int) ∈ WT := WT_of 574 (by decide +kernel) (by decide +kernel)
theorem iv_J9_max_7cf53 {p : Program} {l : Launch} {e : Env} {R : Room} {s : State} {m : MethodId} {args : Array Value} {below : List Frame} {meth : Method} {c : Code} {H : Heap} {locs : List Loc} {cells slots : Nat} {Q : State → Prop} {cc : ByteArray} {own : String} {nL : Nat} {G : va_G} {aC : Nat → ClassId} {t b0 : Nat} {N N1 : AH} {pc index : Nat} {ls : Array Slot} {rest : List Value} {v0 : Int32} {v1 : Int32} {r : Int32} (w1 : Cond.methodLink own index yJ9_max_7cf53 ∈ WT) (X : CX cc own nL G aC t b0 p s m args c) (hR : Rp G aC b0 N H) (hS : va_S (fun q => b0 ≤ q) s.heap H locs) (h : f_J9_max_7cf53 v0 v1 N = some (r, N1)) (hls : ls.size = nL) (hW : (rest.map fun v => v.category).sum ≤ 8) (hR1 : 1 ≤ R.frames ∧ 21 ≤ R.locals) (hcs : cells + 0 ≤ R.cells ∧ slots + 0 ≤ R.slots) (hdg : decode cc pc = .ok (.invokestatic index, 3)) (kk : ∀ (H1 : Heap) (locs1 : List Loc), Rp G aC b0 N1 H1 → va_S (fun q => b0 ≤ q) s.heap H1 locs1 → W p l e R s m args below meth c H1 locs1 cells slots Q (F0 m (pc + 3) ls (.int r :: rest))) : W p l e R s m args below meth c H locs cells slots Q (F0 m pc ls (.int v1 :: .int v0 :: rest)) :=
  ab_callS (n := 2) (As := [.int v0, .int v1]) X hR hS (ct_J9_max_7cf53 h) w1 (WT_of 573 (by decide +kernel) (by decide +kernel)) (WT_of 94 (by decide +kernel) (by decide +kernel)) cw_J9_max_7cf53 ⟨by decide +kernel, by decide +kernel, by decide +kernel⟩ rfl hls hW hR1 hcs rfl hdg kk
-- X8_addUp
theorem gf_X8_34 {p : Program} {l : Launch} {e : Env} {R : Room} {s : State} {m : MethodId} {args : Array Value} {below : List Frame} {meth : Method} {c : Code} {H : Heap} {locs : List Loc} {cells slots : Nat} {Q : State → Prop} {cc : ByteArray} {nL : Nat} {G : va_G} {aC : Nat → ClassId} {t b0 : Nat} {N : AH} {pc : Nat} {ls : Array Slot} {rest : List Value} {a : Nat} {v : Nat} (X : CX cc RX8 nL G aC t b0 p s m args c) (hR0 : Rp G aC b0 N H) (hv : hR N a 8 8 = some v) (hdg : decode cc pc = .ok (.getfield 34, 3)) (kk : W p l e R s m args below meth c H locs cells slots Q (F0 m (pc + 3) ls (.ref v :: rest))) : W p l e R s m args below meth c H locs cells slots Q (F0 m pc ls (.ref a :: rest)) := by
  obtain ⟨fs, h1, h2⟩ := hR_ok hv
  exact ab_get (C := RX8) (T := TX8) (n := 11) X hR0 h1 h2 rfl inX8 (by decide) (WT_of 358 (by decide +kernel) (by decide +kernel)) hdg kk
theorem gf_X8_37 {p : Program} {l : Launch} {e : Env} {R : Room} {s : State} {m : MethodId} {args : Array Value} {below : List Frame} {meth : Method} {c : Code} {H : Heap} {locs : List Loc} {cells slots : Nat} {Q : State → Prop} {cc : ByteArray} {nL : Nat} {G : va_G} {aC : Nat → ClassId} {t b0 : Nat} {N : AH} {pc : Nat} {ls : Array Slot} {rest : List Value} {a : Nat} {v : Nat} (X : CX cc RX8 nL G aC t b0 p s m args c) (hR0 : Rp G aC b0 N H) (hv : hR N a 8 9 = some v) (hdg : decode cc pc = .ok (.getfield 37, 3)) (kk : W p l e R s m args below meth c H locs cells slots Q (F0 m (pc + 3) ls (.ref v :: rest))) : W p l e R s m args below meth c H locs cells slots Q (F0 m pc ls (.ref a :: rest)) := by
  obtain ⟨fs, h1, h2⟩ := hR_ok hv
  exact ab_get (C := RX8) (T := TX8) (n := 11) X hR0 h1 h2 rfl inX8 (by decide) (WT_of 359 (by decide +kernel) (by decide +kernel)) hdg kk
theorem gf_X8_198 {p : Program} {l : Launch} {e : Env} {R : Room} {s : State} {m : MethodId} {args : Array Value} {below : List Frame} {meth : Method} {c : Code} {H : Heap} {locs : List Loc} {cells slots : Nat} {Q : State → Prop} {cc : ByteArray} {nL : Nat} {G : va_G} {aC : Nat → ClassId} {t b0 : Nat} {N : AH} {pc : Nat} {ls : Array Slot} {rest : List Value} {a : Nat} {v : Int32} (X : CX cc RX8 nL G aC t b0 p s m args c) (hR0 : Rp G aC b0 N H) (hv : hI N a 1 0 = some v) (hdg : decode cc pc = .ok (.getfield 198, 3)) (kk : W p l e R s m args below meth c H locs cells slots Q (F0 m (pc + 3) ls (.int v :: rest))) : W p l e R s m args below meth c H locs cells slots Q (F0 m pc ls (.ref a :: rest)) := by
  obtain ⟨fs, h1, h2⟩ := hI_ok hv
  exact ab_get (C := RX1) (T := TX1) (n := 6) X hR0 h1 h2 rfl inX1 (by decide) (WT_of 120 (by decide +kernel) (by decide +kernel)) hdg kk
theorem gf_X8_201 {p : Program} {l : Launch} {e : Env} {R : Room} {s : State} {m : MethodId} {args : Array Value} {below : List Frame} {meth : Method} {c : Code} {H : Heap} {locs : List Loc} {cells slots : Nat} {Q : State → Prop} {cc : ByteArray} {nL : Nat} {G : va_G} {aC : Nat → ClassId} {t b0 : Nat} {N : AH} {pc : Nat} {ls : Array Slot} {rest : List Value} {a : Nat} {v : Nat} (X : CX cc RX8 nL G aC t b0 p s m args c) (hR0 : Rp G aC b0 N H) (hv : hR N a 1 4 = some v) (hdg : decode cc pc = .ok (.getfield 201, 3)) (kk : W p l e R s m args below meth c H locs cells slots Q (F0 m (pc + 3) ls (.ref v :: rest))) : W p l e R s m args below meth c H locs cells slots Q (F0 m pc ls (.ref a :: rest)) := by
  obtain ⟨fs, h1, h2⟩ := hR_ok hv
  exact ab_get (C := RX1) (T := TX1) (n := 6) X hR0 h1 h2 rfl inX1 (by decide) (WT_of 134 (by decide +kernel) (by decide +kernel)) hdg kk
theorem gf_X8_211 {p : Program} {l : Launch} {e : Env} {R : Room} {s : State} {m : MethodId} {args : Array Value} {below : List Frame} {meth : Method} {c : Code} {H : Heap} {locs : List Loc} {cells slots : Nat} {Q : State → Prop} {cc : ByteArray} {nL : Nat} {G : va_G} {aC : Nat → ClassId} {t b0 : Nat} {N : AH} {pc : Nat} {ls : Array Slot} {rest : List Value} {a : Nat} {v : Nat} (X : CX cc RX8 nL G aC t b0 p s m args c) (hR0 : Rp G aC b0 N H) (hv : hR N a 1 1 = some v) (hdg : decode cc pc = .ok (.getfield 211, 3)) (kk : W p l e R s m args below meth c H locs cells slots Q (F0 m (pc + 3) ls (.ref v :: rest))) : W p l e R s m args below meth c H locs cells slots Q (F0 m pc ls (.ref a :: rest)) := by
  obtain ⟨fs, h1, h2⟩ := hR_ok hv
  exact ab_get (C := RX1) (T := TX1) (n := 6) X hR0 h1 h2 rfl inX1 (by decide) (WT_of 123 (by decide +kernel) (by decide +kernel)) hdg kk
theorem gf_X8_214 {p : Program} {l : Launch} {e : Env} {R : Room} {s : State} {m : MethodId} {args : Array Value} {below : List Frame} {meth : Method} {c : Code} {H : Heap} {locs : List Loc} {cells slots : Nat} {Q : State → Prop} {cc : ByteArray} {nL : Nat} {G : va_G} {aC : Nat → ClassId} {t b0 : Nat} {N : AH} {pc : Nat} {ls : Array Slot} {rest : List Value} {a : Nat} {v : Nat} (X : CX cc RX8 nL G aC t b0 p s m args c) (hR0 : Rp G aC b0 N H) (hv : hR N a 1 2 = some v) (hdg : decode cc pc = .ok (.getfield 214, 3)) (kk : W p l e R s m args below meth c H locs cells slots Q (F0 m (pc + 3) ls (.ref v :: rest))) : W p l e R s m args below meth c H locs cells slots Q (F0 m pc ls (.ref a :: rest)) := by
  obtain ⟨fs, h1, h2⟩ := hR_ok hv
  exact ab_get (C := RX1) (T := TX1) (n := 6) X hR0 h1 h2 rfl inX1 (by decide) (WT_of 127 (by decide +kernel) (by decide +kernel)) hdg kk
theorem mw_X8_182 : Cond.methodLink RX8 182 yJ7_fill_53178 ∈ WT := WT_of 636 (by decide +kernel) (by decide +kernel)
theorem mw_X8_188 : Cond.methodLink RX8 188 yJ9_max_7cf53 ∈ WT := WT_of 637 (by decide +kernel) (by decide +kernel)
theorem dX8_addUp_0 : decode cX8_addUp 0 = .ok (.aload_n 0, 1) := by decide +kernel
theorem dX8_addUp_1 : decode cX8_addUp 1 = .ok (.getfield 34, 3) := by decide +kernel
theorem dX8_addUp_4 : decode cX8_addUp 4 = .ok (.iconst 0, 1) := by decide +kernel
theorem dX8_addUp_5 : decode cX8_addUp 5 = .ok (.invokestatic 182, 3) := by decide +kernel
theorem dX8_addUp_8 : decode cX8_addUp 8 = .ok (.aload_n 0, 1) := by decide +kernel
theorem dX8_addUp_9 : decode cX8_addUp 9 = .ok (.getfield 37, 3) := by decide +kernel
theorem dX8_addUp_12 : decode cX8_addUp 12 = .ok (.iconst 0, 1) := by decide +kernel
theorem dX8_addUp_13 : decode cX8_addUp 13 = .ok (.invokestatic 182, 3) := by decide +kernel
theorem dX8_addUp_16 : decode cX8_addUp 16 = .ok (.iconst 0, 1) := by decide +kernel
theorem dX8_addUp_17 : decode cX8_addUp 17 = .ok (.istore_n 2, 1) := by decide +kernel
theorem dX8_addUp_18 : decode cX8_addUp 18 = .ok (.iconst 0, 1) := by decide +kernel
theorem dX8_addUp_19 : decode cX8_addUp 19 = .ok (.istore_n 3, 1) := by decide +kernel
theorem dX8_addUp_20 : decode cX8_addUp 20 = .ok (.iload_n 3, 1) := by decide +kernel
theorem dX8_addUp_21 : decode cX8_addUp 21 = .ok (.aload_n 1, 1) := by decide +kernel
theorem dX8_addUp_22 : decode cX8_addUp 22 = .ok (.getfield 198, 3) := by decide +kernel
theorem dX8_addUp_25 : decode cX8_addUp 25 = .ok (.if_icmp .ge 94, 3) := by decide +kernel
theorem dX8_addUp_28 : decode cX8_addUp 28 = .ok (.aload_n 1, 1) := by decide +kernel
theorem dX8_addUp_29 : decode cX8_addUp 29 = .ok (.getfield 201, 3) := by decide +kernel
theorem dX8_addUp_32 : decode cX8_addUp 32 = .ok (.iload_n 3, 1) := by decide +kernel
theorem dX8_addUp_33 : decode cX8_addUp 33 = .ok (.iaload, 1) := by decide +kernel
theorem dX8_addUp_34 : decode cX8_addUp 34 = .ok (.istore 4, 2) := by decide +kernel
theorem dX8_addUp_36 : decode cX8_addUp 36 = .ok (.iload 4, 2) := by decide +kernel
theorem dX8_addUp_38 : decode cX8_addUp 38 = .ok (.ifCond .le 75, 3) := by decide +kernel
theorem dX8_addUp_41 : decode cX8_addUp 41 = .ok (.aload_n 1, 1) := by decide +kernel
theorem dX8_addUp_42 : decode cX8_addUp 42 = .ok (.getfield 211, 3) := by decide +kernel
theorem dX8_addUp_45 : decode cX8_addUp 45 = .ok (.iload_n 3, 1) := by decide +kernel
theorem dX8_addUp_46 : decode cX8_addUp 46 = .ok (.iaload, 1) := by decide +kernel
theorem dX8_addUp_47 : decode cX8_addUp 47 = .ok (.istore 5, 2) := by decide +kernel
theorem dX8_addUp_49 : decode cX8_addUp 49 = .ok (.bipush 8, 2) := by decide +kernel
theorem dX8_addUp_51 : decode cX8_addUp 51 = .ok (.aload_n 1, 1) := by decide +kernel
theorem dX8_addUp_52 : decode cX8_addUp 52 = .ok (.getfield 214, 3) := by decide +kernel
theorem dX8_addUp_55 : decode cX8_addUp 55 = .ok (.iload_n 3, 1) := by decide +kernel
theorem dX8_addUp_56 : decode cX8_addUp 56 = .ok (.iaload, 1) := by decide +kernel
theorem dX8_addUp_57 : decode cX8_addUp 57 = .ok (.iadd, 1) := by decide +kernel
theorem dX8_addUp_58 : decode cX8_addUp 58 = .ok (.istore 6, 2) := by decide +kernel
theorem dX8_addUp_60 : decode cX8_addUp 60 = .ok (.aload_n 0, 1) := by decide +kernel
theorem dX8_addUp_61 : decode cX8_addUp 61 = .ok (.getfield 34, 3) := by decide +kernel
theorem dX8_addUp_64 : decode cX8_addUp 64 = .ok (.iload 5, 2) := by decide +kernel
theorem dX8_addUp_66 : decode cX8_addUp 66 = .ok (.dup2, 1) := by decide +kernel
theorem dX8_addUp_67 : decode cX8_addUp 67 = .ok (.iaload, 1) := by decide +kernel
theorem dX8_addUp_68 : decode cX8_addUp 68 = .ok (.iload 4, 2) := by decide +kernel
theorem dX8_addUp_70 : decode cX8_addUp 70 = .ok (.iadd, 1) := by decide +kernel
theorem dX8_addUp_71 : decode cX8_addUp 71 = .ok (.iastore, 1) := by decide +kernel
theorem dX8_addUp_72 : decode cX8_addUp 72 = .ok (.aload_n 0, 1) := by decide +kernel
theorem dX8_addUp_73 : decode cX8_addUp 73 = .ok (.getfield 34, 3) := by decide +kernel
theorem dX8_addUp_76 : decode cX8_addUp 76 = .ok (.iload 6, 2) := by decide +kernel
theorem dX8_addUp_78 : decode cX8_addUp 78 = .ok (.dup2, 1) := by decide +kernel
theorem dX8_addUp_79 : decode cX8_addUp 79 = .ok (.iaload, 1) := by decide +kernel
theorem dX8_addUp_80 : decode cX8_addUp 80 = .ok (.iload 4, 2) := by decide +kernel
theorem dX8_addUp_82 : decode cX8_addUp 82 = .ok (.iadd, 1) := by decide +kernel
theorem dX8_addUp_83 : decode cX8_addUp 83 = .ok (.iastore, 1) := by decide +kernel
theorem dX8_addUp_84 : decode cX8_addUp 84 = .ok (.aload_n 0, 1) := by decide +kernel
theorem dX8_addUp_85 : decode cX8_addUp 85 = .ok (.getfield 37, 3) := by decide +kernel
theorem dX8_addUp_88 : decode cX8_addUp 88 = .ok (.iload 5, 2) := by decide +kernel
theorem dX8_addUp_90 : decode cX8_addUp 90 = .ok (.dup2, 1) := by decide +kernel
theorem dX8_addUp_91 : decode cX8_addUp 91 = .ok (.iaload, 1) := by decide +kernel
theorem dX8_addUp_92 : decode cX8_addUp 92 = .ok (.iconst 1, 1) := by decide +kernel
theorem dX8_addUp_93 : decode cX8_addUp 93 = .ok (.iadd, 1) := by decide +kernel
theorem dX8_addUp_94 : decode cX8_addUp 94 = .ok (.iastore, 1) := by decide +kernel
theorem dX8_addUp_95 : decode cX8_addUp 95 = .ok (.aload_n 0, 1) := by decide +kernel
theorem dX8_addUp_96 : decode cX8_addUp 96 = .ok (.getfield 37, 3) := by decide +kernel
theorem dX8_addUp_99 : decode cX8_addUp 99 = .ok (.iload 6, 2) := by decide +kernel
theorem dX8_addUp_101 : decode cX8_addUp 101 = .ok (.dup2, 1) := by decide +kernel
theorem dX8_addUp_102 : decode cX8_addUp 102 = .ok (.iaload, 1) := by decide +kernel
theorem dX8_addUp_103 : decode cX8_addUp 103 = .ok (.iconst 1, 1) := by decide +kernel
theorem dX8_addUp_104 : decode cX8_addUp 104 = .ok (.iadd, 1) := by decide +kernel
theorem dX8_addUp_105 : decode cX8_addUp 105 = .ok (.iastore, 1) := by decide +kernel
theorem dX8_addUp_106 : decode cX8_addUp 106 = .ok (.iload_n 2, 1) := by decide +kernel
theorem dX8_addUp_107 : decode cX8_addUp 107 = .ok (.iload 4, 2) := by decide +kernel
theorem dX8_addUp_109 : decode cX8_addUp 109 = .ok (.invokestatic 188, 3) := by decide +kernel
theorem dX8_addUp_112 : decode cX8_addUp 112 = .ok (.istore_n 2, 1) := by decide +kernel
theorem dX8_addUp_113 : decode cX8_addUp 113 = .ok (.iinc 3 1, 3) := by decide +kernel
theorem dX8_addUp_116 : decode cX8_addUp 116 = .ok (.goto (-96), 3) := by decide +kernel
theorem dX8_addUp_119 : decode cX8_addUp 119 = .ok (.iload_n 2, 1) := by decide +kernel
theorem dX8_addUp_120 : decode cX8_addUp 120 = .ok (.ireturn, 1) := by decide +kernel
def rm_X8_addUp : Room := { frames := 1, cells := 0, slots := 0, locals := 23 }
section
variable {p : Program} {l : Launch} {e : Env} {s : State} {m : MethodId} {args : Array Value} {below : List Frame} {meth : Method} {c : Code} {Q : State → Prop} {G : va_G} {aC : Nat → ClassId} {t b0 : Nat}
def f_X8_addUp_L20 (v0 : Nat) (v1 : Nat) (k119 : Int32 → AH → Option (Int32 × AH)) : Nat → Int32 → Int32 → AH → Option (Int32 × AH)
  | 0, _, _, _ => none
  | n + 1, v2, v3, N => ob (hI N v1 1 0) (fun x5 => if x5 ≤ v3 then k119 v2 N else ob (hR N v1 1 4) (fun x7 => ob (aI N x7 v3) (fun x8 => if x8 ≤ 0 then f_X8_addUp_L20 v0 v1 k119 n v2 (v3 + 1) N else ob (hR N v1 1 1) (fun x10 => ob (aI N x10 v3) (fun x11 => ob (hR N v1 1 2) (fun x12 => ob (aI N x12 v3) (fun x13 => ob (hR N v0 8 8) (fun x14 => ob (aI N x14 x11) (fun x15 => ob (sI N x14 x11 (x15 + x8)) (fun N16 => ob (hR N16 v0 8 8) (fun x17 => ob (aI N16 x17 ((8 : Int32) + x13)) (fun x18 => ob (sI N16 x17 ((8 : Int32) + x13) (x18 + x8)) (fun N19 => ob (hR N19 v0 8 9) (fun x20 => ob (aI N19 x20 x11) (fun x21 => ob (sI N19 x20 x11 (x21 + (1 : Int32))) (fun N22 => ob (hR N22 v0 8 9) (fun x23 => ob (aI N22 x23 ((8 : Int32) + x13)) (fun x24 => ob (sI N22 x23 ((8 : Int32) + x13) (x24 + (1 : Int32))) (fun N25 => ob2 (f_J9_max_7cf53 v2 x8 N25) (fun x27 N26 => f_X8_addUp_L20 v0 v1 k119 n x27 (v3 + 1) N26))))))))))))))))))))
set_option maxHeartbeats 4000000 in
set_option maxRecDepth 100000 in
theorem w_X8_addUp_L20 {P : Int32 × AH → Prop} (X : CX cX8_addUp RX8 7 G aC t b0 p s m args c) (hr : RtI p l e rm_X8_addUp s m args below meth c 0 0 Q cX8_addUp G aC b0 P) (v0 : Nat) (v1 : Nat) {k119 : Int32 → AH → Option (Int32 × AH)}
    (hk119 : ∀ (v2 : Int32) (N : AH) (H : Heap) (locs : List Loc) (ls : Array Slot), Rp G aC b0 N H → va_S (fun q => b0 ≤ q) s.heap H locs → lv_has ls 7 [(2, .int v2)] → owp (k119 v2 N) P → W p l e rm_X8_addUp s m args below meth c H locs 0 0 Q (F0 m 119 ls [])) :
    ∀ (n : Nat) (v2 : Int32) (v3 : Int32) (N : AH) (H : Heap) (locs : List Loc) (ls : Array Slot), Rp G aC b0 N H → va_S (fun q => b0 ≤ q) s.heap H locs → lv_has ls 7 [(0, .ref v0), (1, .ref v1), (2, .int v2), (3, .int v3)] → owp (f_X8_addUp_L20 v0 v1 k119 n v2 v3 N) P → W p l e rm_X8_addUp s m args below meth c H locs 0 0 Q (F0 m 20 ls []) := by
  have hx := X.1.1
  have hb := X.1.2.1
  intro n
  induction n with
  | zero =>
    intro v2 v3 N H locs ls hR hS hl hp
    exact (show False from hp).elim
  | succ n ih =>
    intro v2 v3 N H locs ls hR hS hl hp
    rw [f_X8_addUp_L20] at hp
    refine lv_iload_n hx hb dX8_addUp_20 rfl (lv_at hl 3 rfl) ?_
    refine lv_aload_n hx hb dX8_addUp_21 rfl (lv_at hl 1 rfl) ?_
    obtain ⟨x5, e_x5, hp⟩ := owp_ob hp
    refine gf_X8_198 X hR e_x5 dX8_addUp_22 ?_
    refine lv_icmp_ge (tgt := 119) hx hb dX8_addUp_25 (by decide) (fun k6 => ?_) (fun k6 => ?_)
    · have hp := owp_t k6 hp
      exact hk119 _ _ _ _ _ hR hS (lv_sub hl [2] rfl) hp
    · have hp := owp_f k6 hp
      refine lv_aload_n hx hb dX8_addUp_28 rfl (lv_at hl 1 rfl) ?_
      obtain ⟨x7, e_x7, hp⟩ := owp_ob hp
      refine gf_X8_201 X hR e_x7 dX8_addUp_29 ?_
      refine lv_iload_n hx hb dX8_addUp_32 rfl (lv_at hl 3 rfl) ?_
      obtain ⟨x8, e_x8, hp⟩ := owp_ob hp
      refine ab_iald X hR e_x8 dX8_addUp_33 ?_
      refine lv_istore (lv' := [(4, .int x8), (0, .ref v0), (1, .ref v1), (2, .int v2), (3, .int v3)]) hx hb dX8_addUp_34 hl (by decide) rfl (fun ls hl => ?_)
      refine lv_iload hx hb dX8_addUp_36 (lv_at hl 0 rfl) ?_
      refine lv_if_le (tgt := 113) hx hb dX8_addUp_38 (by decide) (fun k9 => ?_) (fun k9 => ?_)
      · have hp := owp_t k9 hp
        refine lv_iinc (v := v3 + 1) (lv' := [(3, .int (v3 + 1)), (4, .int x8), (0, .ref v0), (1, .ref v1), (2, .int v2)]) hx hb dX8_addUp_113 hl (k := 4) rfl rfl (by decide) rfl (fun ls hl => ?_)
        refine lv_goto (tgt := 20) hx hb dX8_addUp_116 (by decide) ?_
        exact ih _ _ _ _ _ _ hR hS (lv_sub hl [2, 3, 4, 0] rfl) hp
      · have hp := owp_f k9 hp
        refine lv_aload_n hx hb dX8_addUp_41 rfl (lv_at hl 2 rfl) ?_
        obtain ⟨x10, e_x10, hp⟩ := owp_ob hp
        refine gf_X8_211 X hR e_x10 dX8_addUp_42 ?_
        refine lv_iload_n hx hb dX8_addUp_45 rfl (lv_at hl 4 rfl) ?_
        obtain ⟨x11, e_x11, hp⟩ := owp_ob hp
        refine ab_iald X hR e_x11 dX8_addUp_46 ?_
        refine lv_istore (lv' := [(5, .int x11), (4, .int x8), (0, .ref v0), (1, .ref v1), (2, .int v2), (3, .int v3)]) hx hb dX8_addUp_47 hl (by decide) rfl (fun ls hl => ?_)
        refine lv_bipush (v := (8)) hx hb dX8_addUp_49 (by decide) ?_
        refine lv_aload_n hx hb dX8_addUp_51 rfl (lv_at hl 3 rfl) ?_
        obtain ⟨x12, e_x12, hp⟩ := owp_ob hp
        refine gf_X8_214 X hR e_x12 dX8_addUp_52 ?_
        refine lv_iload_n hx hb dX8_addUp_55 rfl (lv_at hl 5 rfl) ?_
        obtain ⟨x13, e_x13, hp⟩ := owp_ob hp
        refine ab_iald X hR e_x13 dX8_addUp_56 ?_
        refine lv_iadd hx hb dX8_addUp_57 ?_
        refine lv_istore (lv' := [(6, .int ((8 : Int32) + x13)), (5, .int x11), (4, .int x8), (0, .ref v0), (1, .ref v1), (2, .int v2), (3, .int v3)]) hx hb dX8_addUp_58 hl (by decide) rfl (fun ls hl => ?_)
        refine lv_aload_n hx hb dX8_addUp_60 rfl (lv_at hl 3 rfl) ?_
        obtain ⟨x14, e_x14, hp⟩ := owp_ob hp
        refine gf_X8_34 X hR e_x14 dX8_addUp_61 ?_
        refine lv_iload hx hb dX8_addUp_64 (lv_at hl 1 rfl) ?_
        refine lv_dup2_11 hx hb dX8_addUp_66 rfl rfl ?_
        obtain ⟨x15, e_x15, hp⟩ := owp_ob hp
        refine ab_iald X hR e_x15 dX8_addUp_67 ?_
        refine lv_iload hx hb dX8_addUp_68 (lv_at hl 2 rfl) ?_
        refine lv_iadd hx hb dX8_addUp_70 ?_
        obtain ⟨N16, e_N16, hp⟩ := owp_ob hp
        refine ab_iast X hR hS e_N16 dX8_addUp_71 (fun H locs hR hS => ?_)
        refine lv_aload_n hx hb dX8_addUp_72 rfl (lv_at hl 3 rfl) ?_
        obtain ⟨x17, e_x17, hp⟩ := owp_ob hp
        refine gf_X8_34 X hR e_x17 dX8_addUp_73 ?_
        refine lv_iload hx hb dX8_addUp_76 (lv_at hl 0 rfl) ?_
        refine lv_dup2_11 hx hb dX8_addUp_78 rfl rfl ?_
        obtain ⟨x18, e_x18, hp⟩ := owp_ob hp
        refine ab_iald X hR e_x18 dX8_addUp_79 ?_
        refine lv_iload hx hb dX8_addUp_80 (lv_at hl 2 rfl) ?_
        refine lv_iadd hx hb dX8_addUp_82 ?_
        obtain ⟨N19, e_N19, hp⟩ := owp_ob hp
        refine ab_iast X hR hS e_N19 dX8_addUp_83 (fun H locs hR hS => ?_)
        refine lv_aload_n hx hb dX8_addUp_84 rfl (lv_at hl 3 rfl) ?_
        obtain ⟨x20, e_x20, hp⟩ := owp_ob hp
        refine gf_X8_37 X hR e_x20 dX8_addUp_85 ?_
        refine lv_iload hx hb dX8_addUp_88 (lv_at hl 1 rfl) ?_
        refine lv_dup2_11 hx hb dX8_addUp_90 rfl rfl ?_
        obtain ⟨x21, e_x21, hp⟩ := owp_ob hp
        refine ab_iald X hR e_x21 dX8_addUp_91 ?_
        refine lv_iconst (v := (1)) hx hb dX8_addUp_92 (by decide) ?_
        refine lv_iadd hx hb dX8_addUp_93 ?_
        obtain ⟨N22, e_N22, hp⟩ := owp_ob hp
        refine ab_iast X hR hS e_N22 dX8_addUp_94 (fun H locs hR hS => ?_)
        refine lv_aload_n hx hb dX8_addUp_95 rfl (lv_at hl 3 rfl) ?_
        obtain ⟨x23, e_x23, hp⟩ := owp_ob hp
        refine gf_X8_37 X hR e_x23 dX8_addUp_96 ?_
        refine lv_iload hx hb dX8_addUp_99 (lv_at hl 0 rfl) ?_
        refine lv_dup2_11 hx hb dX8_addUp_101 rfl rfl ?_
        obtain ⟨x24, e_x24, hp⟩ := owp_ob hp
        refine ab_iald X hR e_x24 dX8_addUp_102 ?_
        refine lv_iconst (v := (1)) hx hb dX8_addUp_103 (by decide) ?_
        refine lv_iadd hx hb dX8_addUp_104 ?_
        obtain ⟨N25, e_N25, hp⟩ := owp_ob hp
        refine ab_iast X hR hS e_N25 dX8_addUp_105 (fun H locs hR hS => ?_)
        refine lv_iload_n hx hb dX8_addUp_106 rfl (lv_at hl 5 rfl) ?_
        refine lv_iload hx hb dX8_addUp_107 (lv_at hl 2 rfl) ?_
        obtain ⟨x27, N26, e_N26, hp⟩ := owp_ob2 hp
        refine iv_J9_max_7cf53 (rest := []) mw_X8_188 X hR hS e_N26 hl.1 (Nat.le_of_ble_eq_true rfl) ⟨Nat.le_of_ble_eq_true rfl, Nat.le_of_ble_eq_true rfl⟩ ⟨Nat.le_of_ble_eq_true rfl, Nat.le_of_ble_eq_true rfl⟩ dX8_addUp_109 (fun H locs hR hS => ?_)
        refine lv_istore_n (lv' := [(2, .int x27), (6, .int ((8 : Int32) + x13)), (5, .int x11), (4, .int x8), (0, .ref v0), (1, .ref v1), (3, .int v3)]) hx hb dX8_addUp_112 rfl hl (by decide) rfl (fun ls hl => ?_)
        refine lv_iinc (v := v3 + 1) (lv' := [(3, .int (v3 + 1)), (2, .int x27), (6, .int ((8 : Int32) + x13)), (5, .int x11), (4, .int x8), (0, .ref v0), (1, .ref v1)]) hx hb dX8_addUp_113 hl (k := 6) rfl rfl (by decide) rfl (fun ls hl => ?_)
        refine lv_goto (tgt := 20) hx hb dX8_addUp_116 (by decide) ?_
        exact ih _ _ _ _ _ _ hR hS (lv_sub hl [5, 6, 1, 0] rfl) hp
def f_X8_addUp (v0 : Nat) (v1 : Nat) (N : AH) : Option (Int32 × AH) := ob (iO N v0 8) (fun _ => ob (hR N v0 8 8) (fun x1 => ob2 (f_J7_fill_53178 x1 (0 : Int32) N) (fun _ N2 => ob (hR N2 v0 8 9) (fun x3 => ob2 (f_J7_fill_53178 x3 (0 : Int32) N2) (fun _ N4 => f_X8_addUp_L20 v0 v1 (fun v28 N29 => some (v28, N29)) FU (0 : Int32) (0 : Int32) N4)))))
set_option maxHeartbeats 4000000 in
set_option maxRecDepth 100000 in
theorem wk_X8_addUp {P : Int32 × AH → Prop} (X : CX cX8_addUp RX8 7 G aC t b0 p s m args c) (hr : RtI p l e rm_X8_addUp s m args below meth c 0 0 Q cX8_addUp G aC b0 P) (v0 : Nat) (v1 : Nat) (N : AH) (H : Heap) (locs : List Loc) (ls : Array Slot) (hR : Rp G aC b0 N H) (hS : va_S (fun q => b0 ≤ q) s.heap H locs) (hl : lv_has ls 7 [(0, .ref v0), (1, .ref v1)]) (hp : owp (f_X8_addUp v0 v1 N) P) : W p l e rm_X8_addUp s m args below meth c H locs 0 0 Q (F0 m 0 ls []) := by
  have hx := X.1.1
  have hb := X.1.2.1
  unfold f_X8_addUp at hp
  obtain ⟨_, _, hp⟩ := owp_ob hp
  refine lv_aload_n hx hb dX8_addUp_0 rfl (lv_at hl 0 rfl) ?_
  obtain ⟨x1, e_x1, hp⟩ := owp_ob hp
  refine gf_X8_34 X hR e_x1 dX8_addUp_1 ?_
  refine lv_iconst (v := (0)) hx hb dX8_addUp_4 (by decide) ?_
  obtain ⟨_, N2, e_N2, hp⟩ := owp_ob2 hp
  refine iv_J7_fill_53178 (rest := []) mw_X8_182 X hR hS e_N2 hl.1 (Nat.le_of_ble_eq_true rfl) ⟨Nat.le_of_ble_eq_true rfl, Nat.le_of_ble_eq_true rfl⟩ ⟨Nat.le_of_ble_eq_true rfl, Nat.le_of_ble_eq_true rfl⟩ dX8_addUp_5 (fun H locs hR hS => ?_)
  refine lv_aload_n hx hb dX8_addUp_8 rfl (lv_at hl 0 rfl) ?_
  obtain ⟨x3, e_x3, hp⟩ := owp_ob hp
  refine gf_X8_37 X hR e_x3 dX8_addUp_9 ?_
  refine lv_iconst (v := (0)) hx hb dX8_addUp_12 (by decide) ?_
  obtain ⟨_, N4, e_N4, hp⟩ := owp_ob2 hp
  refine iv_J7_fill_53178 (rest := []) mw_X8_182 X hR hS e_N4 hl.1 (Nat.le_of_ble_eq_true rfl) ⟨Nat.le_of_ble_eq_true rfl, Nat.le_of_ble_eq_true rfl⟩ ⟨Nat.le_of_ble_eq_true rfl, Nat.le_of_ble_eq_true rfl⟩ dX8_addUp_13 (fun H locs hR hS => ?_)
  refine lv_iconst (v := (0)) hx hb dX8_addUp_16 (by decide) ?_
  refine lv_istore_n (lv' := [(2, .int (0 : Int32)), (0, .ref v0), (1, .ref v1)]) hx hb dX8_addUp_17 rfl hl (by decide) rfl (fun ls hl => ?_)
  refine lv_iconst (v := (0)) hx hb dX8_addUp_18 (by decide) ?_
  refine lv_istore_n (lv' := [(3, .int (0 : Int32)), (2, .int (0 : Int32)), (0, .ref v0), (1, .ref v1)]) hx hb dX8_addUp_19 rfl hl (by decide) rfl (fun ls hl => ?_)
  refine w_X8_addUp_L20 X hr _ _ (fun v28 N29 H locs ls hR hS hl hp => ?_) _ _ _ _ _ _ _ hR hS (lv_sub hl [2, 3, 1, 0] rfl) hp
  refine lv_iload_n hx hb dX8_addUp_119 rfl (lv_at hl 0 rfl) ?_
  exact hr _ _ _ _ _ _ hR hS dX8_addUp_120 hp
end
theorem ct_X8_addUp {v0 : Nat} {v1 : Nat} {N N1 : AH} {r : Int32} (h : f_X8_addUp v0 v1 N = some (r, N1)) : Ct yX8_addUp cX8_addUp 7 (some .int) rm_X8_addUp [.ref v0, .ref v1] N (some (.int r)) N1 :=
  ab_met (own := RX8) (by decide +kernel) rfl (Nat.le_of_ble_eq_true rfl) (fun l G aC t b0 p e s m below meth c ls X hr hlk hnm hR hS hl => wk_X8_addUp X (RtI_met X.1.1 X.1.2.1 hr hlk) _ _ _ _ _ _ hR hS hl (owp_of h))
theorem cw_X8_addUp : Cond.code yX8_addUp cX8_addUp 7 (some .int) ∈ WT := WT_of 635 (by decide +kernel) (by decide +kernel)
theorem iv_X8_addUp {p : Program} {l : Launch} {e : Env} {R : Room} {s : State} {m : MethodId} {args : Array Value} {below : List Frame} {meth : Method} {c : Code} {H : Heap} {locs : List Loc} {cells slots : Nat} {Q : State → Prop} {cc : ByteArray} {own : String} {nL : Nat} {G : va_G} {aC : Nat → ClassId} {t b0 : Nat} {N N1 : AH} {pc index : Nat} {ls : Array Slot} {rest : List Value} {v0 : Nat} {v1 : Nat} {r : Int32} (w1 : Cond.methodLink own index yX8_addUp ∈ WT) (X : CX cc own nL G aC t b0 p s m args c) (hR : Rp G aC b0 N H) (hS : va_S (fun q => b0 ≤ q) s.heap H locs) (h : f_X8_addUp v0 v1 N = some (r, N1)) (hls : ls.size = nL) (hW : (rest.map fun v => v.category).sum ≤ 8) (hR1 : 2 ≤ R.frames ∧ 49 ≤ R.locals) (hcs : cells + 0 ≤ R.cells ∧ slots + 0 ≤ R.slots) (hdg : decode cc pc = .ok (.invokevirtual index, 3)) (kk : ∀ (H1 : Heap) (locs1 : List Loc), Rp G aC b0 N1 H1 → va_S (fun q => b0 ≤ q) s.heap H1 locs1 → W p l e R s m args below meth c H1 locs1 cells slots Q (F0 m (pc + 3) ls (.int r :: rest))) : W p l e R s m args below meth c H locs cells slots Q (F0 m pc ls (.ref v1 :: .ref v0 :: rest)) :=
  ab_callV (n := 1) (As := [.ref v1]) X hR hS (ct_X8_addUp h) (ob_rc (c := 8) (N := N) (a := v0) h) (T := TX8) (k := 11) (C := RX8) rfl w1 (WT_of 634 (by decide +kernel) (by decide +kernel)) (WT_of 9 (by decide +kernel) (by decide +kernel)) (WT_of 89 (by decide +kernel) (by decide +kernel)) cw_X8_addUp ⟨rfl, by decide +kernel, by decide +kernel, by decide +kernel⟩ rfl hls hW hR1 hcs rfl hdg kk
-- X9_roundedUp
theorem dX9_roundedUp_0 : decode cX9_roundedUp 0 = .ok (.iload_n 1, 1) := by decide +kernel
theorem dX9_roundedUp_1 : decode cX9_roundedUp 1 = .ok (.iconst 1, 1) := by decide +kernel
theorem dX9_roundedUp_2 : decode cX9_roundedUp 2 = .ok (.if_icmp .ge 7, 3) := by decide +kernel
theorem dX9_roundedUp_5 : decode cX9_roundedUp 5 = .ok (.iconst 0, 1) := by decide +kernel
theorem dX9_roundedUp_6 : decode cX9_roundedUp 6 = .ok (.goto 10, 3) := by decide +kernel
theorem dX9_roundedUp_9 : decode cX9_roundedUp 9 = .ok (.iload_n 0, 1) := by decide +kernel
theorem dX9_roundedUp_10 : decode cX9_roundedUp 10 = .ok (.iload_n 1, 1) := by decide +kernel
theorem dX9_roundedUp_11 : decode cX9_roundedUp 11 = .ok (.iadd, 1) := by decide +kernel
theorem dX9_roundedUp_12 : decode cX9_roundedUp 12 = .ok (.iconst 1, 1) := by decide +kernel
theorem dX9_roundedUp_13 : decode cX9_roundedUp 13 = .ok (.isub, 1) := by decide +kernel
theorem dX9_roundedUp_14 : decode cX9_roundedUp 14 = .ok (.iload_n 1, 1) := by decide +kernel
theorem dX9_roundedUp_15 : decode cX9_roundedUp 15 = .ok (.idiv, 1) := by decide +kernel
theorem dX9_roundedUp_16 : decode cX9_roundedUp 16 = .ok (.ireturn, 1) := by decide +kernel
def rm_X9_roundedUp : Room := { frames := 0, cells := 0, slots := 0, locals := 0 }
section
variable {p : Program} {l : Launch} {e : Env} {s : State} {m : MethodId} {args : Array Value} {below : List Frame} {meth : Method} {c : Code} {Q : State → Prop} {G : va_G} {aC : Nat → ClassId} {t b0 : Nat}
def f_X9_roundedUp (v0 : Int32) (v1 : Int32) (N : AH) : Option (Int32 × AH) := if (1 : Int32) ≤ v1 then ob (dV ((v0 + v1) - (1 : Int32)) v1) (fun x2 => some (x2, N)) else some ((0 : Int32), N)
set_option maxHeartbeats 4000000 in
set_option maxRecDepth 100000 in
theorem wk_X9_roundedUp {P : Int32 × AH → Prop} (X : CX cX9_roundedUp RX9 2 G aC t b0 p s m args c) (hr : RtI p l e rm_X9_roundedUp s m args below meth c 0 0 Q cX9_roundedUp G aC b0 P) (v0 : Int32) (v1 : Int32) (N : AH) (H : Heap) (locs : List Loc) (ls : Array Slot) (hR : Rp G aC b0 N H) (hS : va_S (fun q => b0 ≤ q) s.heap H locs) (hl : lv_has ls 2 [(0, .int v0), (1, .int v1)]) (hp : owp (f_X9_roundedUp v0 v1 N) P) : W p l e rm_X9_roundedUp s m args below meth c H locs 0 0 Q (F0 m 0 ls []) := by
  have hx := X.1.1
  have hb := X.1.2.1
  unfold f_X9_roundedUp at hp
  refine lv_iload_n hx hb dX9_roundedUp_0 rfl (lv_at hl 1 rfl) ?_
  refine lv_iconst (v := (1)) hx hb dX9_roundedUp_1 (by decide) ?_
  refine lv_icmp_ge (tgt := 9) hx hb dX9_roundedUp_2 (by decide) (fun k1 => ?_) (fun k1 => ?_)
  · have hp := owp_t k1 hp
    refine lv_iload_n hx hb dX9_roundedUp_9 rfl (lv_at hl 0 rfl) ?_
    refine lv_iload_n hx hb dX9_roundedUp_10 rfl (lv_at hl 1 rfl) ?_
    refine lv_iadd hx hb dX9_roundedUp_11 ?_
    refine lv_iconst (v := (1)) hx hb dX9_roundedUp_12 (by decide) ?_
    refine lv_isub hx hb dX9_roundedUp_13 ?_
    refine lv_iload_n hx hb dX9_roundedUp_14 rfl (lv_at hl 1 rfl) ?_
    obtain ⟨x2, e_x2, hp⟩ := owp_ob hp
    refine ab_idiv X e_x2 dX9_roundedUp_15 ?_
    exact hr _ _ _ _ _ _ hR hS dX9_roundedUp_16 hp
  · have hp := owp_f k1 hp
    refine lv_iconst (v := (0)) hx hb dX9_roundedUp_5 (by decide) ?_
    refine lv_goto (tgt := 16) hx hb dX9_roundedUp_6 (by decide) ?_
    exact hr _ _ _ _ _ _ hR hS dX9_roundedUp_16 hp
end
theorem ct_X9_roundedUp {v0 : Int32} {v1 : Int32} {N N1 : AH} {r : Int32} (h : f_X9_roundedUp v0 v1 N = some (r, N1)) : Ct yX9_roundedUp cX9_roundedUp 2 (some .int) rm_X9_roundedUp [.int v0, .int v1] N (some (.int r)) N1 :=
  ab_met (own := RX9) (by decide +kernel) rfl (Nat.le_of_ble_eq_true rfl) (fun l G aC t b0 p e s m below meth c ls X hr hlk hnm hR hS hl => wk_X9_roundedUp X (RtI_met X.1.1 X.1.2.1 hr hlk) _ _ _ _ _ _ hR hS hl (owp_of h))
theorem cw_X9_roundedUp : Cond.code yX9_roundedUp cX9_roundedUp 2 (some .int) ∈ WT := WT_of 581 (by decide +kernel) (by decide +kernel)
theorem ivN_X9_roundedUp {p : Program} {l : Launch} {e : Env} {R : Room} {s : State} {m : MethodId} {args : Array Value} {below : List Frame} {meth : Method} {c : Code} {H : Heap} {locs : List Loc} {cells slots : Nat} {Q : State → Prop} {cc : ByteArray} {own : String} {nL : Nat} {G : va_G} {aC : Nat → ClassId} {t b0 : Nat} {N N1 : AH} {pc index : Nat} {ls : Array Slot} {rest : List Value} {v0 : Int32} {v1 : Int32} {r : Int32} (w1 : Cond.methodLinkNest own index yX9_roundedUp RX9 ∈ NWs) (X : CX cc own nL G aC t b0 p s m args c) (hR : Rp G aC b0 N H) (hS : va_S (fun q => b0 ≤ q) s.heap H locs) (h : f_X9_roundedUp v0 v1 N = some (r, N1)) (hls : ls.size = nL) (hW : (rest.map fun v => v.category).sum ≤ 8) (hR1 : 1 ≤ R.frames ∧ 21 ≤ R.locals) (hcs : cells + 0 ≤ R.cells ∧ slots + 0 ≤ R.slots) (hdg : decode cc pc = .ok (.invokestatic index, 3)) (kk : ∀ (H1 : Heap) (locs1 : List Loc), Rp G aC b0 N1 H1 → va_S (fun q => b0 ≤ q) s.heap H1 locs1 → W p l e R s m args below meth c H1 locs1 cells slots Q (F0 m (pc + 3) ls (.int r :: rest))) : W p l e R s m args below meth c H locs cells slots Q (F0 m pc ls (.int v1 :: .int v0 :: rest)) :=
  ab_callSN (n := 2) (As := [.int v0, .int v1]) X hR hS (ct_X9_roundedUp h) w1 (WT_of 580 (by decide +kernel) (by decide +kernel)) (WT_of 81 (by decide +kernel) (by decide +kernel)) cw_X9_roundedUp ⟨by decide +kernel, by decide +kernel, by decide +kernel⟩ rfl hls hW hR1 hcs rfl hdg kk
-- J9_min_7cf53
theorem dJ9_min_7cf53_0 : decode cJ9_min_7cf53 0 = .ok (.iload_n 0, 1) := by decide +kernel
theorem dJ9_min_7cf53_1 : decode cJ9_min_7cf53 1 = .ok (.iload_n 1, 1) := by decide +kernel
theorem dJ9_min_7cf53_2 : decode cJ9_min_7cf53 2 = .ok (.if_icmp .gt 7, 3) := by decide +kernel
theorem dJ9_min_7cf53_5 : decode cJ9_min_7cf53 5 = .ok (.iload_n 0, 1) := by decide +kernel
theorem dJ9_min_7cf53_6 : decode cJ9_min_7cf53 6 = .ok (.goto 4, 3) := by decide +kernel
theorem dJ9_min_7cf53_9 : decode cJ9_min_7cf53 9 = .ok (.iload_n 1, 1) := by decide +kernel
theorem dJ9_min_7cf53_10 : decode cJ9_min_7cf53 10 = .ok (.ireturn, 1) := by decide +kernel
def rm_J9_min_7cf53 : Room := { frames := 0, cells := 0, slots := 0, locals := 0 }
section
variable {p : Program} {l : Launch} {e : Env} {s : State} {m : MethodId} {args : Array Value} {below : List Frame} {meth : Method} {c : Code} {Q : State → Prop} {G : va_G} {aC : Nat → ClassId} {t b0 : Nat}
def f_J9_min_7cf53 (v0 : Int32) (v1 : Int32) (N : AH) : Option (Int32 × AH) := if v1 < v0 then some (v1, N) else some (v0, N)
set_option maxHeartbeats 4000000 in
set_option maxRecDepth 100000 in
theorem wk_J9_min_7cf53 {P : Int32 × AH → Prop} (X : CX cJ9_min_7cf53 RJ9 2 G aC t b0 p s m args c) (hr : RtI p l e rm_J9_min_7cf53 s m args below meth c 0 0 Q cJ9_min_7cf53 G aC b0 P) (v0 : Int32) (v1 : Int32) (N : AH) (H : Heap) (locs : List Loc) (ls : Array Slot) (hR : Rp G aC b0 N H) (hS : va_S (fun q => b0 ≤ q) s.heap H locs) (hl : lv_has ls 2 [(0, .int v0), (1, .int v1)]) (hp : owp (f_J9_min_7cf53 v0 v1 N) P) : W p l e rm_J9_min_7cf53 s m args below meth c H locs 0 0 Q (F0 m 0 ls []) := by
  have hx := X.1.1
  have hb := X.1.2.1
  unfold f_J9_min_7cf53 at hp
  refine lv_iload_n hx hb dJ9_min_7cf53_0 rfl (lv_at hl 0 rfl) ?_
  refine lv_iload_n hx hb dJ9_min_7cf53_1 rfl (lv_at hl 1 rfl) ?_
  refine lv_icmp_gt (tgt := 9) hx hb dJ9_min_7cf53_2 (by decide) (fun k1 => ?_) (fun k1 => ?_)
  · have hp := owp_t k1 hp
    refine lv_iload_n hx hb dJ9_min_7cf53_9 rfl (lv_at hl 1 rfl) ?_
    exact hr _ _ _ _ _ _ hR hS dJ9_min_7cf53_10 hp
  · have hp := owp_f k1 hp
    refine lv_iload_n hx hb dJ9_min_7cf53_5 rfl (lv_at hl 0 rfl) ?_
    refine lv_goto (tgt := 10) hx hb dJ9_min_7cf53_6 (by decide) ?_
    exact hr _ _ _ _ _ _ hR hS dJ9_min_7cf53_10 hp
end
theorem ct_J9_min_7cf53 {v0 : Int32} {v1 : Int32} {N N1 : AH} {r : Int32} (h : f_J9_min_7cf53 v0 v1 N = some (r, N1)) : Ct yJ9_min_7cf53 cJ9_min_7cf53 2 (some .int) rm_J9_min_7cf53 [.int v0, .int v1] N (some (.int r)) N1 :=
  ab_met (own := RJ9) (by decide +kernel) rfl (Nat.le_of_ble_eq_true rfl) (fun l G aC t b0 p e s m below meth c ls X hr hlk hnm hR hS hl => wk_J9_min_7cf53 X (RtI_met X.1.1 X.1.2.1 hr hlk) _ _ _ _ _ _ hR hS hl (owp_of h))
theorem cw_J9_min_7cf53 : Cond.code yJ9_min_7cf53 cJ9_min_7cf53 2 (some .int) ∈ WT := WT_of 641 (by decide +kernel) (by decide +kernel)
theorem iv_J9_min_7cf53 {p : Program} {l : Launch} {e : Env} {R : Room} {s : State} {m : MethodId} {args : Array Value} {below : List Frame} {meth : Method} {c : Code} {H : Heap} {locs : List Loc} {cells slots : Nat} {Q : State → Prop} {cc : ByteArray} {own : String} {nL : Nat} {G : va_G} {aC : Nat → ClassId} {t b0 : Nat} {N N1 : AH} {pc index : Nat} {ls : Array Slot} {rest : List Value} {v0 : Int32} {v1 : Int32} {r : Int32} (w1 : Cond.methodLink own index yJ9_min_7cf53 ∈ WT) (X : CX cc own nL G aC t b0 p s m args c) (hR : Rp G aC b0 N H) (hS : va_S (fun q => b0 ≤ q) s.heap H locs) (h : f_J9_min_7cf53 v0 v1 N = some (r, N1)) (hls : ls.size = nL) (hW : (rest.map fun v => v.category).sum ≤ 8) (hR1 : 1 ≤ R.frames ∧ 21 ≤ R.locals) (hcs : cells + 0 ≤ R.cells ∧ slots + 0 ≤ R.slots) (hdg : decode cc pc = .ok (.invokestatic index, 3)) (kk : ∀ (H1 : Heap) (locs1 : List Loc), Rp G aC b0 N1 H1 → va_S (fun q => b0 ≤ q) s.heap H1 locs1 → W p l e R s m args below meth c H1 locs1 cells slots Q (F0 m (pc + 3) ls (.int r :: rest))) : W p l e R s m args below meth c H locs cells slots Q (F0 m pc ls (.int v1 :: .int v0 :: rest)) :=
  ab_callS (n := 2) (As := [.int v0, .int v1]) X hR hS (ct_J9_min_7cf53 h) w1 (WT_of 640 (by decide +kernel) (by decide +kernel)) (WT_of 94 (by decide +kernel) (by decide +kernel)) cw_J9_min_7cf53 ⟨by decide +kernel, by decide +kernel, by decide +kernel⟩ rfl hls hW hR1 hcs rfl hdg kk
-- X8_isEnough
theorem gf_X8_40 {p : Program} {l : Launch} {e : Env} {R : Room} {s : State} {m : MethodId} {args : Array Value} {below : List Frame} {meth : Method} {c : Code} {H : Heap} {locs : List Loc} {cells slots : Nat} {Q : State → Prop} {cc : ByteArray} {nL : Nat} {G : va_G} {aC : Nat → ClassId} {t b0 : Nat} {N : AH} {pc : Nat} {ls : Array Slot} {rest : List Value} {a : Nat} {v : Nat} (X : CX cc RX8 nL G aC t b0 p s m args c) (hR0 : Rp G aC b0 N H) (hv : hR N a 8 10 = some v) (hdg : decode cc pc = .ok (.getfield 40, 3)) (kk : W p l e R s m args below meth c H locs cells slots Q (F0 m (pc + 3) ls (.ref v :: rest))) : W p l e R s m args below meth c H locs cells slots Q (F0 m pc ls (.ref a :: rest)) := by
  obtain ⟨fs, h1, h2⟩ := hR_ok hv
  exact ab_get (C := RX8) (T := TX8) (n := 11) X hR0 h1 h2 rfl inX8 (by decide) (WT_of 360 (by decide +kernel) (by decide +kernel)) hdg kk
theorem dX8_isEnough_0 : decode cX8_isEnough 0 = .ok (.iload_n 2, 1) := by decide +kernel
theorem dX8_isEnough_1 : decode cX8_isEnough 1 = .ok (.iconst 1, 1) := by decide +kernel
theorem dX8_isEnough_2 : decode cX8_isEnough 2 = .ok (.if_icmp .ge 5, 3) := by decide +kernel
theorem dX8_isEnough_5 : decode cX8_isEnough 5 = .ok (.iconst 0, 1) := by decide +kernel
theorem dX8_isEnough_6 : decode cX8_isEnough 6 = .ok (.ireturn, 1) := by decide +kernel
theorem dX8_isEnough_7 : decode cX8_isEnough 7 = .ok (.aload_n 0, 1) := by decide +kernel
theorem dX8_isEnough_8 : decode cX8_isEnough 8 = .ok (.getfield 40, 3) := by decide +kernel
theorem dX8_isEnough_11 : decode cX8_isEnough 11 = .ok (.iconst 0, 1) := by decide +kernel
theorem dX8_isEnough_12 : decode cX8_isEnough 12 = .ok (.invokestatic 182, 3) := by decide +kernel
theorem dX8_isEnough_15 : decode cX8_isEnough 15 = .ok (.iconst 0, 1) := by decide +kernel
theorem dX8_isEnough_16 : decode cX8_isEnough 16 = .ok (.istore 4, 2) := by decide +kernel
theorem dX8_isEnough_18 : decode cX8_isEnough 18 = .ok (.iload 4, 2) := by decide +kernel
theorem dX8_isEnough_20 : decode cX8_isEnough 20 = .ok (.aload_n 1, 1) := by decide +kernel
theorem dX8_isEnough_21 : decode cX8_isEnough 21 = .ok (.getfield 198, 3) := by decide +kernel
theorem dX8_isEnough_24 : decode cX8_isEnough 24 = .ok (.if_icmp .ge 99, 3) := by decide +kernel
theorem dX8_isEnough_27 : decode cX8_isEnough 27 = .ok (.aload_n 1, 1) := by decide +kernel
theorem dX8_isEnough_28 : decode cX8_isEnough 28 = .ok (.getfield 201, 3) := by decide +kernel
theorem dX8_isEnough_31 : decode cX8_isEnough 31 = .ok (.iload 4, 2) := by decide +kernel
theorem dX8_isEnough_33 : decode cX8_isEnough 33 = .ok (.iaload, 1) := by decide +kernel
theorem dX8_isEnough_34 : decode cX8_isEnough 34 = .ok (.iload_n 2, 1) := by decide +kernel
theorem dX8_isEnough_35 : decode cX8_isEnough 35 = .ok (.iadd, 1) := by decide +kernel
theorem dX8_isEnough_36 : decode cX8_isEnough 36 = .ok (.iconst 1, 1) := by decide +kernel
theorem dX8_isEnough_37 : decode cX8_isEnough 37 = .ok (.isub, 1) := by decide +kernel
theorem dX8_isEnough_38 : decode cX8_isEnough 38 = .ok (.iload_n 2, 1) := by decide +kernel
theorem dX8_isEnough_39 : decode cX8_isEnough 39 = .ok (.idiv, 1) := by decide +kernel
theorem dX8_isEnough_40 : decode cX8_isEnough 40 = .ok (.istore 5, 2) := by decide +kernel
theorem dX8_isEnough_42 : decode cX8_isEnough 42 = .ok (.aload_n 1, 1) := by decide +kernel
theorem dX8_isEnough_43 : decode cX8_isEnough 43 = .ok (.getfield 211, 3) := by decide +kernel
theorem dX8_isEnough_46 : decode cX8_isEnough 46 = .ok (.iload 4, 2) := by decide +kernel
theorem dX8_isEnough_48 : decode cX8_isEnough 48 = .ok (.iaload, 1) := by decide +kernel
theorem dX8_isEnough_49 : decode cX8_isEnough 49 = .ok (.istore 6, 2) := by decide +kernel
theorem dX8_isEnough_51 : decode cX8_isEnough 51 = .ok (.bipush 8, 2) := by decide +kernel
theorem dX8_isEnough_53 : decode cX8_isEnough 53 = .ok (.aload_n 1, 1) := by decide +kernel
theorem dX8_isEnough_54 : decode cX8_isEnough 54 = .ok (.getfield 214, 3) := by decide +kernel
theorem dX8_isEnough_57 : decode cX8_isEnough 57 = .ok (.iload 4, 2) := by decide +kernel
theorem dX8_isEnough_59 : decode cX8_isEnough 59 = .ok (.iaload, 1) := by decide +kernel
theorem dX8_isEnough_60 : decode cX8_isEnough 60 = .ok (.iadd, 1) := by decide +kernel
theorem dX8_isEnough_61 : decode cX8_isEnough 61 = .ok (.istore 7, 2) := by decide +kernel
theorem dX8_isEnough_63 : decode cX8_isEnough 63 = .ok (.aload_n 0, 1) := by decide +kernel
theorem dX8_isEnough_64 : decode cX8_isEnough 64 = .ok (.getfield 40, 3) := by decide +kernel
theorem dX8_isEnough_67 : decode cX8_isEnough 67 = .ok (.iload 6, 2) := by decide +kernel
theorem dX8_isEnough_69 : decode cX8_isEnough 69 = .ok (.dup2, 1) := by decide +kernel
theorem dX8_isEnough_70 : decode cX8_isEnough 70 = .ok (.iaload, 1) := by decide +kernel
theorem dX8_isEnough_71 : decode cX8_isEnough 71 = .ok (.iload 5, 2) := by decide +kernel
theorem dX8_isEnough_73 : decode cX8_isEnough 73 = .ok (.iadd, 1) := by decide +kernel
theorem dX8_isEnough_74 : decode cX8_isEnough 74 = .ok (.iastore, 1) := by decide +kernel
theorem dX8_isEnough_75 : decode cX8_isEnough 75 = .ok (.aload_n 0, 1) := by decide +kernel
theorem dX8_isEnough_76 : decode cX8_isEnough 76 = .ok (.getfield 40, 3) := by decide +kernel
theorem dX8_isEnough_79 : decode cX8_isEnough 79 = .ok (.iload 7, 2) := by decide +kernel
theorem dX8_isEnough_81 : decode cX8_isEnough 81 = .ok (.dup2, 1) := by decide +kernel
theorem dX8_isEnough_82 : decode cX8_isEnough 82 = .ok (.iaload, 1) := by decide +kernel
theorem dX8_isEnough_83 : decode cX8_isEnough 83 = .ok (.iload 5, 2) := by decide +kernel
theorem dX8_isEnough_85 : decode cX8_isEnough 85 = .ok (.iadd, 1) := by decide +kernel
theorem dX8_isEnough_86 : decode cX8_isEnough 86 = .ok (.iastore, 1) := by decide +kernel
theorem dX8_isEnough_87 : decode cX8_isEnough 87 = .ok (.aload_n 0, 1) := by decide +kernel
theorem dX8_isEnough_88 : decode cX8_isEnough 88 = .ok (.getfield 40, 3) := by decide +kernel
theorem dX8_isEnough_91 : decode cX8_isEnough 91 = .ok (.iload 6, 2) := by decide +kernel
theorem dX8_isEnough_93 : decode cX8_isEnough 93 = .ok (.iaload, 1) := by decide +kernel
theorem dX8_isEnough_94 : decode cX8_isEnough 94 = .ok (.aload_n 3, 1) := by decide +kernel
theorem dX8_isEnough_95 : decode cX8_isEnough 95 = .ok (.iload 6, 2) := by decide +kernel
theorem dX8_isEnough_97 : decode cX8_isEnough 97 = .ok (.iaload, 1) := by decide +kernel
theorem dX8_isEnough_98 : decode cX8_isEnough 98 = .ok (.if_icmp .gt 17, 3) := by decide +kernel
theorem dX8_isEnough_101 : decode cX8_isEnough 101 = .ok (.aload_n 0, 1) := by decide +kernel
theorem dX8_isEnough_102 : decode cX8_isEnough 102 = .ok (.getfield 40, 3) := by decide +kernel
theorem dX8_isEnough_105 : decode cX8_isEnough 105 = .ok (.iload 7, 2) := by decide +kernel
theorem dX8_isEnough_107 : decode cX8_isEnough 107 = .ok (.iaload, 1) := by decide +kernel
theorem dX8_isEnough_108 : decode cX8_isEnough 108 = .ok (.aload_n 3, 1) := by decide +kernel
theorem dX8_isEnough_109 : decode cX8_isEnough 109 = .ok (.iload 7, 2) := by decide +kernel
theorem dX8_isEnough_111 : decode cX8_isEnough 111 = .ok (.iaload, 1) := by decide +kernel
theorem dX8_isEnough_112 : decode cX8_isEnough 112 = .ok (.if_icmp .le 5, 3) := by decide +kernel
theorem dX8_isEnough_115 : decode cX8_isEnough 115 = .ok (.iconst 0, 1) := by decide +kernel
theorem dX8_isEnough_116 : decode cX8_isEnough 116 = .ok (.ireturn, 1) := by decide +kernel
theorem dX8_isEnough_117 : decode cX8_isEnough 117 = .ok (.iinc 4 1, 3) := by decide +kernel
theorem dX8_isEnough_120 : decode cX8_isEnough 120 = .ok (.goto (-102), 3) := by decide +kernel
theorem dX8_isEnough_123 : decode cX8_isEnough 123 = .ok (.iconst 1, 1) := by decide +kernel
theorem dX8_isEnough_124 : decode cX8_isEnough 124 = .ok (.ireturn, 1) := by decide +kernel
def rm_X8_isEnough : Room := { frames := 1, cells := 0, slots := 0, locals := 23 }
section
variable {p : Program} {l : Launch} {e : Env} {s : State} {m : MethodId} {args : Array Value} {below : List Frame} {meth : Method} {c : Code} {Q : State → Prop} {G : va_G} {aC : Nat → ClassId} {t b0 : Nat}
def f_X8_isEnough_L18 (v0 : Nat) (v1 : Nat) (v2 : Int32) (v3 : Nat) (k115 : AH → Option (Int32 × AH)) (k123 : AH → Option (Int32 × AH)) : Nat → Int32 → AH → Option (Int32 × AH)
  | 0, _, _ => none
  | n + 1, v4, N => ob (hI N v1 1 0) (fun x4 => if x4 ≤ v4 then k123 N else ob (hR N v1 1 4) (fun x6 => ob (aI N x6 v4) (fun x7 => ob (dV ((x7 + v2) - (1 : Int32)) v2) (fun x8 => ob (hR N v1 1 1) (fun x9 => ob (aI N x9 v4) (fun x10 => ob (hR N v1 1 2) (fun x11 => ob (aI N x11 v4) (fun x12 => ob (hR N v0 8 10) (fun x13 => ob (aI N x13 x10) (fun x14 => ob (sI N x13 x10 (x14 + x8)) (fun N15 => ob (hR N15 v0 8 10) (fun x16 => ob (aI N15 x16 ((8 : Int32) + x12)) (fun x17 => ob (sI N15 x16 ((8 : Int32) + x12) (x17 + x8)) (fun N18 => ob (hR N18 v0 8 10) (fun x19 => ob (aI N18 x19 x10) (fun x20 => ob (aI N18 v3 x10) (fun x21 => if x21 < x20 then k115 N18 else ob (hR N18 v0 8 10) (fun x23 => ob (aI N18 x23 ((8 : Int32) + x12)) (fun x24 => ob (aI N18 v3 ((8 : Int32) + x12)) (fun x25 => if x24 ≤ x25 then f_X8_isEnough_L18 v0 v1 v2 v3 k115 k123 n (v4 + 1) N18 else k115 N18))))))))))))))))))))
set_option maxHeartbeats 4000000 in
set_option maxRecDepth 100000 in
theorem w_X8_isEnough_L18 {P : Int32 × AH → Prop} (X : CX cX8_isEnough RX8 8 G aC t b0 p s m args c) (hr : RtZ p l e rm_X8_isEnough s m args below meth c 0 0 Q cX8_isEnough G aC b0 P) (v0 : Nat) (v1 : Nat) (v2 : Int32) (v3 : Nat) {k115 : AH → Option (Int32 × AH)} {k123 : AH → Option (Int32 × AH)}
    (hk115 : ∀ (N : AH) (H : Heap) (locs : List Loc) (ls : Array Slot), Rp G aC b0 N H → va_S (fun q => b0 ≤ q) s.heap H locs → lv_has ls 8 [] → owp (k115 N) P → W p l e rm_X8_isEnough s m args below meth c H locs 0 0 Q (F0 m 115 ls []))
    (hk123 : ∀ (N : AH) (H : Heap) (locs : List Loc) (ls : Array Slot), Rp G aC b0 N H → va_S (fun q => b0 ≤ q) s.heap H locs → lv_has ls 8 [] → owp (k123 N) P → W p l e rm_X8_isEnough s m args below meth c H locs 0 0 Q (F0 m 123 ls [])) :
    ∀ (n : Nat) (v4 : Int32) (N : AH) (H : Heap) (locs : List Loc) (ls : Array Slot), Rp G aC b0 N H → va_S (fun q => b0 ≤ q) s.heap H locs → lv_has ls 8 [(0, .ref v0), (1, .ref v1), (2, .int v2), (3, .ref v3), (4, .int v4)] → owp (f_X8_isEnough_L18 v0 v1 v2 v3 k115 k123 n v4 N) P → W p l e rm_X8_isEnough s m args below meth c H locs 0 0 Q (F0 m 18 ls []) := by
  have hx := X.1.1
  have hb := X.1.2.1
  intro n
  induction n with
  | zero =>
    intro v4 N H locs ls hR hS hl hp
    exact (show False from hp).elim
  | succ n ih =>
    intro v4 N H locs ls hR hS hl hp
    rw [f_X8_isEnough_L18] at hp
    refine lv_iload hx hb dX8_isEnough_18 (lv_at hl 4 rfl) ?_
    refine lv_aload_n hx hb dX8_isEnough_20 rfl (lv_at hl 1 rfl) ?_
    obtain ⟨x4, e_x4, hp⟩ := owp_ob hp
    refine gf_X8_198 X hR e_x4 dX8_isEnough_21 ?_
    refine lv_icmp_ge (tgt := 123) hx hb dX8_isEnough_24 (by decide) (fun k5 => ?_) (fun k5 => ?_)
    · have hp := owp_t k5 hp
      exact hk123 _ _ _ _ hR hS (lv_sub hl [] rfl) hp
    · have hp := owp_f k5 hp
      refine lv_aload_n hx hb dX8_isEnough_27 rfl (lv_at hl 1 rfl) ?_
      obtain ⟨x6, e_x6, hp⟩ := owp_ob hp
      refine gf_X8_201 X hR e_x6 dX8_isEnough_28 ?_
      refine lv_iload hx hb dX8_isEnough_31 (lv_at hl 4 rfl) ?_
      obtain ⟨x7, e_x7, hp⟩ := owp_ob hp
      refine ab_iald X hR e_x7 dX8_isEnough_33 ?_
      refine lv_iload_n hx hb dX8_isEnough_34 rfl (lv_at hl 2 rfl) ?_
      refine lv_iadd hx hb dX8_isEnough_35 ?_
      refine lv_iconst (v := (1)) hx hb dX8_isEnough_36 (by decide) ?_
      refine lv_isub hx hb dX8_isEnough_37 ?_
      refine lv_iload_n hx hb dX8_isEnough_38 rfl (lv_at hl 2 rfl) ?_
      obtain ⟨x8, e_x8, hp⟩ := owp_ob hp
      refine ab_idiv X e_x8 dX8_isEnough_39 ?_
      refine lv_istore (lv' := [(5, .int x8), (0, .ref v0), (1, .ref v1), (2, .int v2), (3, .ref v3), (4, .int v4)]) hx hb dX8_isEnough_40 hl (by decide) rfl (fun ls hl => ?_)
      refine lv_aload_n hx hb dX8_isEnough_42 rfl (lv_at hl 2 rfl) ?_
      obtain ⟨x9, e_x9, hp⟩ := owp_ob hp
      refine gf_X8_211 X hR e_x9 dX8_isEnough_43 ?_
      refine lv_iload hx hb dX8_isEnough_46 (lv_at hl 5 rfl) ?_
      obtain ⟨x10, e_x10, hp⟩ := owp_ob hp
      refine ab_iald X hR e_x10 dX8_isEnough_48 ?_
      refine lv_istore (lv' := [(6, .int x10), (5, .int x8), (0, .ref v0), (1, .ref v1), (2, .int v2), (3, .ref v3), (4, .int v4)]) hx hb dX8_isEnough_49 hl (by decide) rfl (fun ls hl => ?_)
      refine lv_bipush (v := (8)) hx hb dX8_isEnough_51 (by decide) ?_
      refine lv_aload_n hx hb dX8_isEnough_53 rfl (lv_at hl 3 rfl) ?_
      obtain ⟨x11, e_x11, hp⟩ := owp_ob hp
      refine gf_X8_214 X hR e_x11 dX8_isEnough_54 ?_
      refine lv_iload hx hb dX8_isEnough_57 (lv_at hl 6 rfl) ?_
      obtain ⟨x12, e_x12, hp⟩ := owp_ob hp
      refine ab_iald X hR e_x12 dX8_isEnough_59 ?_
      refine lv_iadd hx hb dX8_isEnough_60 ?_
      refine lv_istore (lv' := [(7, .int ((8 : Int32) + x12)), (6, .int x10), (5, .int x8), (0, .ref v0), (1, .ref v1), (2, .int v2), (3, .ref v3), (4, .int v4)]) hx hb dX8_isEnough_61 hl (by decide) rfl (fun ls hl => ?_)
      refine lv_aload_n hx hb dX8_isEnough_63 rfl (lv_at hl 3 rfl) ?_
      obtain ⟨x13, e_x13, hp⟩ := owp_ob hp
      refine gf_X8_40 X hR e_x13 dX8_isEnough_64 ?_
      refine lv_iload hx hb dX8_isEnough_67 (lv_at hl 1 rfl) ?_
      refine lv_dup2_11 hx hb dX8_isEnough_69 rfl rfl ?_
      obtain ⟨x14, e_x14, hp⟩ := owp_ob hp
      refine ab_iald X hR e_x14 dX8_isEnough_70 ?_
      refine lv_iload hx hb dX8_isEnough_71 (lv_at hl 2 rfl) ?_
      refine lv_iadd hx hb dX8_isEnough_73 ?_
      obtain ⟨N15, e_N15, hp⟩ := owp_ob hp
      refine ab_iast X hR hS e_N15 dX8_isEnough_74 (fun H locs hR hS => ?_)
      refine lv_aload_n hx hb dX8_isEnough_75 rfl (lv_at hl 3 rfl) ?_
      obtain ⟨x16, e_x16, hp⟩ := owp_ob hp
      refine gf_X8_40 X hR e_x16 dX8_isEnough_76 ?_
      refine lv_iload hx hb dX8_isEnough_79 (lv_at hl 0 rfl) ?_
      refine lv_dup2_11 hx hb dX8_isEnough_81 rfl rfl ?_
      obtain ⟨x17, e_x17, hp⟩ := owp_ob hp
      refine ab_iald X hR e_x17 dX8_isEnough_82 ?_
      refine lv_iload hx hb dX8_isEnough_83 (lv_at hl 2 rfl) ?_
      refine lv_iadd hx hb dX8_isEnough_85 ?_
      obtain ⟨N18, e_N18, hp⟩ := owp_ob hp
      refine ab_iast X hR hS e_N18 dX8_isEnough_86 (fun H locs hR hS => ?_)
      refine lv_aload_n hx hb dX8_isEnough_87 rfl (lv_at hl 3 rfl) ?_
      obtain ⟨x19, e_x19, hp⟩ := owp_ob hp
      refine gf_X8_40 X hR e_x19 dX8_isEnough_88 ?_
      refine lv_iload hx hb dX8_isEnough_91 (lv_at hl 1 rfl) ?_
      obtain ⟨x20, e_x20, hp⟩ := owp_ob hp
      refine ab_iald X hR e_x20 dX8_isEnough_93 ?_
      refine lv_aload_n hx hb dX8_isEnough_94 rfl (lv_at hl 6 rfl) ?_
      refine lv_iload hx hb dX8_isEnough_95 (lv_at hl 1 rfl) ?_
      obtain ⟨x21, e_x21, hp⟩ := owp_ob hp
      refine ab_iald X hR e_x21 dX8_isEnough_97 ?_
      refine lv_icmp_gt (tgt := 115) hx hb dX8_isEnough_98 (by decide) (fun k22 => ?_) (fun k22 => ?_)
      · have hp := owp_t k22 hp
        exact hk115 _ _ _ _ hR hS (lv_sub hl [] rfl) hp
      · have hp := owp_f k22 hp
        refine lv_aload_n hx hb dX8_isEnough_101 rfl (lv_at hl 3 rfl) ?_
        obtain ⟨x23, e_x23, hp⟩ := owp_ob hp
        refine gf_X8_40 X hR e_x23 dX8_isEnough_102 ?_
        refine lv_iload hx hb dX8_isEnough_105 (lv_at hl 0 rfl) ?_
        obtain ⟨x24, e_x24, hp⟩ := owp_ob hp
        refine ab_iald X hR e_x24 dX8_isEnough_107 ?_
        refine lv_aload_n hx hb dX8_isEnough_108 rfl (lv_at hl 6 rfl) ?_
        refine lv_iload hx hb dX8_isEnough_109 (lv_at hl 0 rfl) ?_
        obtain ⟨x25, e_x25, hp⟩ := owp_ob hp
        refine ab_iald X hR e_x25 dX8_isEnough_111 ?_
        refine lv_icmp_le (tgt := 117) hx hb dX8_isEnough_112 (by decide) (fun k26 => ?_) (fun k26 => ?_)
        · have hp := owp_t k26 hp
          refine lv_iinc (v := v4 + 1) (lv' := [(4, .int (v4 + 1)), (7, .int ((8 : Int32) + x12)), (6, .int x10), (5, .int x8), (0, .ref v0), (1, .ref v1), (2, .int v2), (3, .ref v3)]) hx hb dX8_isEnough_117 hl (k := 7) rfl rfl (by decide) rfl (fun ls hl => ?_)
          refine lv_goto (tgt := 18) hx hb dX8_isEnough_120 (by decide) ?_
          exact ih _ _ _ _ _ hR hS (lv_sub hl [4, 5, 6, 7, 0] rfl) hp
        · have hp := owp_f k26 hp
          exact hk115 _ _ _ _ hR hS (lv_sub hl [] rfl) hp
def f_X8_isEnough (v0 : Nat) (v1 : Nat) (v2 : Int32) (v3 : Nat) (N : AH) : Option (Int32 × AH) := ob (iO N v0 8) (fun _ => if (1 : Int32) ≤ v2 then ob (hR N v0 8 10) (fun x2 => ob2 (f_J7_fill_53178 x2 (0 : Int32) N) (fun _ N3 => f_X8_isEnough_L18 v0 v1 v2 v3 (fun N27 => some ((0 : Int32), N27)) (fun N28 => some ((1 : Int32), N28)) FU (0 : Int32) N3)) else some ((0 : Int32), N))
set_option maxHeartbeats 4000000 in
set_option maxRecDepth 100000 in
theorem wk_X8_isEnough {P : Int32 × AH → Prop} (X : CX cX8_isEnough RX8 8 G aC t b0 p s m args c) (hr : RtZ p l e rm_X8_isEnough s m args below meth c 0 0 Q cX8_isEnough G aC b0 P) (v0 : Nat) (v1 : Nat) (v2 : Int32) (v3 : Nat) (N : AH) (H : Heap) (locs : List Loc) (ls : Array Slot) (hR : Rp G aC b0 N H) (hS : va_S (fun q => b0 ≤ q) s.heap H locs) (hl : lv_has ls 8 [(0, .ref v0), (1, .ref v1), (2, .int v2), (3, .ref v3)]) (hp : owp (f_X8_isEnough v0 v1 v2 v3 N) P) : W p l e rm_X8_isEnough s m args below meth c H locs 0 0 Q (F0 m 0 ls []) := by
  have hx := X.1.1
  have hb := X.1.2.1
  unfold f_X8_isEnough at hp
  obtain ⟨_, _, hp⟩ := owp_ob hp
  refine lv_iload_n hx hb dX8_isEnough_0 rfl (lv_at hl 2 rfl) ?_
  refine lv_iconst (v := (1)) hx hb dX8_isEnough_1 (by decide) ?_
  refine lv_icmp_ge (tgt := 7) hx hb dX8_isEnough_2 (by decide) (fun k1 => ?_) (fun k1 => ?_)
  · have hp := owp_t k1 hp
    refine lv_aload_n hx hb dX8_isEnough_7 rfl (lv_at hl 0 rfl) ?_
    obtain ⟨x2, e_x2, hp⟩ := owp_ob hp
    refine gf_X8_40 X hR e_x2 dX8_isEnough_8 ?_
    refine lv_iconst (v := (0)) hx hb dX8_isEnough_11 (by decide) ?_
    obtain ⟨_, N3, e_N3, hp⟩ := owp_ob2 hp
    refine iv_J7_fill_53178 (rest := []) mw_X8_182 X hR hS e_N3 hl.1 (Nat.le_of_ble_eq_true rfl) ⟨Nat.le_of_ble_eq_true rfl, Nat.le_of_ble_eq_true rfl⟩ ⟨Nat.le_of_ble_eq_true rfl, Nat.le_of_ble_eq_true rfl⟩ dX8_isEnough_12 (fun H locs hR hS => ?_)
    refine lv_iconst (v := (0)) hx hb dX8_isEnough_15 (by decide) ?_
    refine lv_istore (lv' := [(4, .int (0 : Int32)), (0, .ref v0), (1, .ref v1), (2, .int v2), (3, .ref v3)]) hx hb dX8_isEnough_16 hl (by decide) rfl (fun ls hl => ?_)
    refine w_X8_isEnough_L18 X hr _ _ _ _ (fun N27 H locs ls hR hS hl hp => ?_) (fun N28 H locs ls hR hS hl hp => ?_) _ _ _ _ _ _ hR hS (lv_sub hl [1, 2, 3, 4, 0] rfl) hp
    · refine lv_iconst (v := (0)) hx hb dX8_isEnough_115 (by decide) ?_
      exact hr _ _ _ _ _ _ hR hS dX8_isEnough_116 (rZ_0 hp)
    · refine lv_iconst (v := (1)) hx hb dX8_isEnough_123 (by decide) ?_
      exact hr _ _ _ _ _ _ hR hS dX8_isEnough_124 (rZ_1 hp)
  · have hp := owp_f k1 hp
    refine lv_iconst (v := (0)) hx hb dX8_isEnough_5 (by decide) ?_
    exact hr _ _ _ _ _ _ hR hS dX8_isEnough_6 (rZ_0 hp)
end
theorem ct_X8_isEnough {v0 : Nat} {v1 : Nat} {v2 : Int32} {v3 : Nat} {N N1 : AH} {r : Int32} (h : f_X8_isEnough v0 v1 v2 v3 N = some (r, N1)) : Ct yX8_isEnough cX8_isEnough 8 (some .boolean) rm_X8_isEnough [.ref v0, .ref v1, .int v2, .ref v3] N (some (.int r)) N1 :=
  ab_met (own := RX8) (by decide +kernel) rfl (Nat.le_of_ble_eq_true rfl) (fun l G aC t b0 p e s m below meth c ls X hr hlk hnm hR hS hl => wk_X8_isEnough X (RtZ_met X.1.1 X.1.2.1 hr hlk) _ _ _ _ _ _ _ _ hR hS hl (owp_of h))
theorem cw_X8_isEnough : Cond.code yX8_isEnough cX8_isEnough 8 (some .boolean) ∈ WT := WT_of 645 (by decide +kernel) (by decide +kernel)
theorem iv_X8_isEnough {p : Program} {l : Launch} {e : Env} {R : Room} {s : State} {m : MethodId} {args : Array Value} {below : List Frame} {meth : Method} {c : Code} {H : Heap} {locs : List Loc} {cells slots : Nat} {Q : State → Prop} {cc : ByteArray} {own : String} {nL : Nat} {G : va_G} {aC : Nat → ClassId} {t b0 : Nat} {N N1 : AH} {pc index : Nat} {ls : Array Slot} {rest : List Value} {v0 : Nat} {v1 : Nat} {v2 : Int32} {v3 : Nat} {r : Int32} (w1 : Cond.methodLink own index yX8_isEnough ∈ WT) (X : CX cc own nL G aC t b0 p s m args c) (hR : Rp G aC b0 N H) (hS : va_S (fun q => b0 ≤ q) s.heap H locs) (h : f_X8_isEnough v0 v1 v2 v3 N = some (r, N1)) (hls : ls.size = nL) (hW : (rest.map fun v => v.category).sum ≤ 8) (hR1 : 2 ≤ R.frames ∧ 50 ≤ R.locals) (hcs : cells + 0 ≤ R.cells ∧ slots + 0 ≤ R.slots) (hdg : decode cc pc = .ok (.invokevirtual index, 3)) (kk : ∀ (H1 : Heap) (locs1 : List Loc), Rp G aC b0 N1 H1 → va_S (fun q => b0 ≤ q) s.heap H1 locs1 → W p l e R s m args below meth c H1 locs1 cells slots Q (F0 m (pc + 3) ls (.int r :: rest))) : W p l e R s m args below meth c H locs cells slots Q (F0 m pc ls (.ref v3 :: .int v2 :: .ref v1 :: .ref v0 :: rest)) :=
  ab_callV (n := 3) (As := [.ref v1, .int v2, .ref v3]) X hR hS (ct_X8_isEnough h) (ob_rc (c := 8) (N := N) (a := v0) h) (T := TX8) (k := 11) (C := RX8) rfl w1 (WT_of 644 (by decide +kernel) (by decide +kernel)) (WT_of 10 (by decide +kernel) (by decide +kernel)) (WT_of 89 (by decide +kernel) (by decide +kernel)) cw_X8_isEnough ⟨rfl, by decide +kernel, by decide +kernel, by decide +kernel⟩ rfl hls hW hR1 hcs rfl hdg kk
-- X8_spanOf
theorem mw_X8_220 : Cond.methodLink RX8 220 yJ9_min_7cf53 ∈ WT := WT_of 639 (by decide +kernel) (by decide +kernel)
theorem mw_X8_233 : Cond.methodLink RX8 233 yX8_addUp ∈ WT := WT_of 632 (by decide +kernel) (by decide +kernel)
theorem mw_X8_237 : Cond.methodLink RX8 237 yX8_isEnough ∈ WT := WT_of 642 (by decide +kernel) (by decide +kernel)
theorem dX8_spanOf_0 : decode cX8_spanOf 0 = .ok (.aload_n 0, 1) := by decide +kernel
theorem dX8_spanOf_1 : decode cX8_spanOf 1 = .ok (.aload_n 1, 1) := by decide +kernel
theorem dX8_spanOf_2 : decode cX8_spanOf 2 = .ok (.invokevirtual 233, 3) := by decide +kernel
theorem dX8_spanOf_5 : decode cX8_spanOf 5 = .ok (.istore_n 3, 1) := by decide +kernel
theorem dX8_spanOf_6 : decode cX8_spanOf 6 = .ok (.iconst 1, 1) := by decide +kernel
theorem dX8_spanOf_7 : decode cX8_spanOf 7 = .ok (.istore 4, 2) := by decide +kernel
theorem dX8_spanOf_9 : decode cX8_spanOf 9 = .ok (.iconst 1, 1) := by decide +kernel
theorem dX8_spanOf_10 : decode cX8_spanOf 10 = .ok (.istore 5, 2) := by decide +kernel
theorem dX8_spanOf_12 : decode cX8_spanOf 12 = .ok (.iconst 0, 1) := by decide +kernel
theorem dX8_spanOf_13 : decode cX8_spanOf 13 = .ok (.istore 6, 2) := by decide +kernel
theorem dX8_spanOf_15 : decode cX8_spanOf 15 = .ok (.iload 6, 2) := by decide +kernel
theorem dX8_spanOf_17 : decode cX8_spanOf 17 = .ok (.bipush 16, 2) := by decide +kernel
theorem dX8_spanOf_19 : decode cX8_spanOf 19 = .ok (.if_icmp .ge 97, 3) := by decide +kernel
theorem dX8_spanOf_22 : decode cX8_spanOf 22 = .ok (.aload_n 2, 1) := by decide +kernel
theorem dX8_spanOf_23 : decode cX8_spanOf 23 = .ok (.iload 6, 2) := by decide +kernel
theorem dX8_spanOf_25 : decode cX8_spanOf 25 = .ok (.iaload, 1) := by decide +kernel
theorem dX8_spanOf_26 : decode cX8_spanOf 26 = .ok (.aload_n 0, 1) := by decide +kernel
theorem dX8_spanOf_27 : decode cX8_spanOf 27 = .ok (.getfield 37, 3) := by decide +kernel
theorem dX8_spanOf_30 : decode cX8_spanOf 30 = .ok (.iload 6, 2) := by decide +kernel
theorem dX8_spanOf_32 : decode cX8_spanOf 32 = .ok (.iaload, 1) := by decide +kernel
theorem dX8_spanOf_33 : decode cX8_spanOf 33 = .ok (.isub, 1) := by decide +kernel
theorem dX8_spanOf_34 : decode cX8_spanOf 34 = .ok (.istore 7, 2) := by decide +kernel
theorem dX8_spanOf_36 : decode cX8_spanOf 36 = .ok (.iload 7, 2) := by decide +kernel
theorem dX8_spanOf_38 : decode cX8_spanOf 38 = .ok (.ifCond .ge 5, 3) := by decide +kernel
theorem dX8_spanOf_41 : decode cX8_spanOf 41 = .ok (.iconst (-1), 1) := by decide +kernel
theorem dX8_spanOf_42 : decode cX8_spanOf 42 = .ok (.ireturn, 1) := by decide +kernel
theorem dX8_spanOf_43 : decode cX8_spanOf 43 = .ok (.aload_n 0, 1) := by decide +kernel
theorem dX8_spanOf_44 : decode cX8_spanOf 44 = .ok (.getfield 37, 3) := by decide +kernel
theorem dX8_spanOf_47 : decode cX8_spanOf 47 = .ok (.iload 6, 2) := by decide +kernel
theorem dX8_spanOf_49 : decode cX8_spanOf 49 = .ok (.iaload, 1) := by decide +kernel
theorem dX8_spanOf_50 : decode cX8_spanOf 50 = .ok (.ifCond .le 60, 3) := by decide +kernel
theorem dX8_spanOf_53 : decode cX8_spanOf 53 = .ok (.iload 4, 2) := by decide +kernel
theorem dX8_spanOf_55 : decode cX8_spanOf 55 = .ok (.aload_n 0, 1) := by decide +kernel
theorem dX8_spanOf_56 : decode cX8_spanOf 56 = .ok (.getfield 34, 3) := by decide +kernel
theorem dX8_spanOf_59 : decode cX8_spanOf 59 = .ok (.iload 6, 2) := by decide +kernel
theorem dX8_spanOf_61 : decode cX8_spanOf 61 = .ok (.iaload, 1) := by decide +kernel
theorem dX8_spanOf_62 : decode cX8_spanOf 62 = .ok (.aload_n 2, 1) := by decide +kernel
theorem dX8_spanOf_63 : decode cX8_spanOf 63 = .ok (.iload 6, 2) := by decide +kernel
theorem dX8_spanOf_65 : decode cX8_spanOf 65 = .ok (.iaload, 1) := by decide +kernel
theorem dX8_spanOf_66 : decode cX8_spanOf 66 = .ok (.invokestatic 204, 3) := by decide +kernel
theorem dX8_spanOf_69 : decode cX8_spanOf 69 = .ok (.invokestatic 188, 3) := by decide +kernel
theorem dX8_spanOf_72 : decode cX8_spanOf 72 = .ok (.istore 4, 2) := by decide +kernel
theorem dX8_spanOf_74 : decode cX8_spanOf 74 = .ok (.iload 5, 2) := by decide +kernel
theorem dX8_spanOf_76 : decode cX8_spanOf 76 = .ok (.iload 7, 2) := by decide +kernel
theorem dX8_spanOf_78 : decode cX8_spanOf 78 = .ok (.ifCond .ne 7, 3) := by decide +kernel
theorem dX8_spanOf_81 : decode cX8_spanOf 81 = .ok (.iload_n 3, 1) := by decide +kernel
theorem dX8_spanOf_82 : decode cX8_spanOf 82 = .ok (.goto 23, 3) := by decide +kernel
theorem dX8_spanOf_85 : decode cX8_spanOf 85 = .ok (.aload_n 0, 1) := by decide +kernel
theorem dX8_spanOf_86 : decode cX8_spanOf 86 = .ok (.getfield 34, 3) := by decide +kernel
theorem dX8_spanOf_89 : decode cX8_spanOf 89 = .ok (.iload 6, 2) := by decide +kernel
theorem dX8_spanOf_91 : decode cX8_spanOf 91 = .ok (.iaload, 1) := by decide +kernel
theorem dX8_spanOf_92 : decode cX8_spanOf 92 = .ok (.aload_n 0, 1) := by decide +kernel
theorem dX8_spanOf_93 : decode cX8_spanOf 93 = .ok (.getfield 37, 3) := by decide +kernel
theorem dX8_spanOf_96 : decode cX8_spanOf 96 = .ok (.iload 6, 2) := by decide +kernel
theorem dX8_spanOf_98 : decode cX8_spanOf 98 = .ok (.iaload, 1) := by decide +kernel
theorem dX8_spanOf_99 : decode cX8_spanOf 99 = .ok (.isub, 1) := by decide +kernel
theorem dX8_spanOf_100 : decode cX8_spanOf 100 = .ok (.iload 7, 2) := by decide +kernel
theorem dX8_spanOf_102 : decode cX8_spanOf 102 = .ok (.invokestatic 204, 3) := by decide +kernel
theorem dX8_spanOf_105 : decode cX8_spanOf 105 = .ok (.invokestatic 188, 3) := by decide +kernel
theorem dX8_spanOf_108 : decode cX8_spanOf 108 = .ok (.istore 5, 2) := by decide +kernel
theorem dX8_spanOf_110 : decode cX8_spanOf 110 = .ok (.iinc 6 1, 3) := by decide +kernel
theorem dX8_spanOf_113 : decode cX8_spanOf 113 = .ok (.goto (-98), 3) := by decide +kernel
theorem dX8_spanOf_116 : decode cX8_spanOf 116 = .ok (.iload 5, 2) := by decide +kernel
theorem dX8_spanOf_118 : decode cX8_spanOf 118 = .ok (.iload_n 3, 1) := by decide +kernel
theorem dX8_spanOf_119 : decode cX8_spanOf 119 = .ok (.invokestatic 220, 3) := by decide +kernel
theorem dX8_spanOf_122 : decode cX8_spanOf 122 = .ok (.istore 5, 2) := by decide +kernel
theorem dX8_spanOf_124 : decode cX8_spanOf 124 = .ok (.iconst 0, 1) := by decide +kernel
theorem dX8_spanOf_125 : decode cX8_spanOf 125 = .ok (.istore 6, 2) := by decide +kernel
theorem dX8_spanOf_127 : decode cX8_spanOf 127 = .ok (.iload 6, 2) := by decide +kernel
theorem dX8_spanOf_129 : decode cX8_spanOf 129 = .ok (.bipush 20, 2) := by decide +kernel
theorem dX8_spanOf_131 : decode cX8_spanOf 131 = .ok (.if_icmp .ge 49, 3) := by decide +kernel
theorem dX8_spanOf_134 : decode cX8_spanOf 134 = .ok (.iload 4, 2) := by decide +kernel
theorem dX8_spanOf_136 : decode cX8_spanOf 136 = .ok (.iload 5, 2) := by decide +kernel
theorem dX8_spanOf_138 : decode cX8_spanOf 138 = .ok (.if_icmp .ge 42, 3) := by decide +kernel
theorem dX8_spanOf_141 : decode cX8_spanOf 141 = .ok (.iload 4, 2) := by decide +kernel
theorem dX8_spanOf_143 : decode cX8_spanOf 143 = .ok (.iload 5, 2) := by decide +kernel
theorem dX8_spanOf_145 : decode cX8_spanOf 145 = .ok (.iadd, 1) := by decide +kernel
theorem dX8_spanOf_146 : decode cX8_spanOf 146 = .ok (.iconst 2, 1) := by decide +kernel
theorem dX8_spanOf_147 : decode cX8_spanOf 147 = .ok (.idiv, 1) := by decide +kernel
theorem dX8_spanOf_148 : decode cX8_spanOf 148 = .ok (.istore 7, 2) := by decide +kernel
theorem dX8_spanOf_150 : decode cX8_spanOf 150 = .ok (.aload_n 0, 1) := by decide +kernel
theorem dX8_spanOf_151 : decode cX8_spanOf 151 = .ok (.aload_n 1, 1) := by decide +kernel
theorem dX8_spanOf_152 : decode cX8_spanOf 152 = .ok (.iload 7, 2) := by decide +kernel
theorem dX8_spanOf_154 : decode cX8_spanOf 154 = .ok (.aload_n 2, 1) := by decide +kernel
theorem dX8_spanOf_155 : decode cX8_spanOf 155 = .ok (.invokevirtual 237, 3) := by decide +kernel
theorem dX8_spanOf_158 : decode cX8_spanOf 158 = .ok (.ifCond .eq 10, 3) := by decide +kernel
theorem dX8_spanOf_161 : decode cX8_spanOf 161 = .ok (.iload 7, 2) := by decide +kernel
theorem dX8_spanOf_163 : decode cX8_spanOf 163 = .ok (.istore 5, 2) := by decide +kernel
theorem dX8_spanOf_165 : decode cX8_spanOf 165 = .ok (.goto 9, 3) := by decide +kernel
theorem dX8_spanOf_168 : decode cX8_spanOf 168 = .ok (.iload 7, 2) := by decide +kernel
theorem dX8_spanOf_170 : decode cX8_spanOf 170 = .ok (.iconst 1, 1) := by decide +kernel
theorem dX8_spanOf_171 : decode cX8_spanOf 171 = .ok (.iadd, 1) := by decide +kernel
theorem dX8_spanOf_172 : decode cX8_spanOf 172 = .ok (.istore 4, 2) := by decide +kernel
theorem dX8_spanOf_174 : decode cX8_spanOf 174 = .ok (.iinc 6 1, 3) := by decide +kernel
theorem dX8_spanOf_177 : decode cX8_spanOf 177 = .ok (.goto (-50), 3) := by decide +kernel
theorem dX8_spanOf_180 : decode cX8_spanOf 180 = .ok (.iload 4, 2) := by decide +kernel
theorem dX8_spanOf_182 : decode cX8_spanOf 182 = .ok (.ireturn, 1) := by decide +kernel
def rm_X8_spanOf : Room := { frames := 2, cells := 0, slots := 0, locals := 50 }
section
variable {p : Program} {l : Launch} {e : Env} {s : State} {m : MethodId} {args : Array Value} {below : List Frame} {meth : Method} {c : Code} {Q : State → Prop} {G : va_G} {aC : Nat → ClassId} {t b0 : Nat}
def f_X8_spanOf_L15 (v0 : Nat) (v1 : Nat) (v2 : Nat) (v3 : Int32) (k41 : AH → Option (Int32 × AH)) (k116 : Int32 → Int32 → AH → Option (Int32 × AH)) : Nat → Int32 → Int32 → Int32 → AH → Option (Int32 × AH)
  | 0, _, _, _, _ => none
  | n + 1, v4, v5, v6, N => if (16 : Int32) ≤ v6 then k116 v4 v5 N else ob (aI N v2 v6) (fun x4 => ob (hR N v0 8 9) (fun x5 => ob (aI N x5 v6) (fun x6 => if 0 ≤ (x4 - x6) then ob (hR N v0 8 9) (fun x8 => ob (aI N x8 v6) (fun x9 => if x9 ≤ 0 then f_X8_spanOf_L15 v0 v1 v2 v3 k41 k116 n v4 v5 (v6 + 1) N else ob (hR N v0 8 8) (fun x11 => ob (aI N x11 v6) (fun x12 => ob (aI N v2 v6) (fun x13 => ob2 (f_X9_roundedUp x12 x13 N) (fun x15 N14 => ob2 (f_J9_max_7cf53 v4 x15 N14) (fun x17 N16 => if ¬ (x4 - x6) = 0 then ob (hR N16 v0 8 8) (fun x19 => ob (aI N16 x19 v6) (fun x20 => ob (hR N16 v0 8 9) (fun x21 => ob (aI N16 x21 v6) (fun x22 => ob2 (f_X9_roundedUp (x20 - x22) (x4 - x6) N16) (fun x24 N23 => ob2 (f_J9_max_7cf53 v5 x24 N23) (fun x26 N25 => f_X8_spanOf_L15 v0 v1 v2 v3 k41 k116 n x17 x26 (v6 + 1) N25)))))) else ob2 (f_J9_max_7cf53 v5 v3 N16) (fun x28 N27 => f_X8_spanOf_L15 v0 v1 v2 v3 k41 k116 n x17 x28 (v6 + 1) N27)))))))) else k41 N)))
set_option maxHeartbeats 4000000 in
set_option maxRecDepth 100000 in
theorem w_X8_spanOf_L15 {P : Int32 × AH → Prop} (X : CX cX8_spanOf RX8 8 G aC t b0 p s m args c) (hr : RtI p l e rm_X8_spanOf s m args below meth c 0 0 Q cX8_spanOf G aC b0 P) (v0 : Nat) (v1 : Nat) (v2 : Nat) (v3 : Int32) {k41 : AH → Option (Int32 × AH)} {k116 : Int32 → Int32 → AH → Option (Int32 × AH)}
    (hk41 : ∀ (N : AH) (H : Heap) (locs : List Loc) (ls : Array Slot), Rp G aC b0 N H → va_S (fun q => b0 ≤ q) s.heap H locs → lv_has ls 8 [] → owp (k41 N) P → W p l e rm_X8_spanOf s m args below meth c H locs 0 0 Q (F0 m 41 ls []))
    (hk116 : ∀ (v4 : Int32) (v5 : Int32) (N : AH) (H : Heap) (locs : List Loc) (ls : Array Slot), Rp G aC b0 N H → va_S (fun q => b0 ≤ q) s.heap H locs → lv_has ls 8 [(0, .ref v0), (1, .ref v1), (2, .ref v2), (3, .int v3), (4, .int v4), (5, .int v5)] → owp (k116 v4 v5 N) P → W p l e rm_X8_spanOf s m args below meth c H locs 0 0 Q (F0 m 116 ls [])) :
    ∀ (n : Nat) (v4 : Int32) (v5 : Int32) (v6 : Int32) (N : AH) (H : Heap) (locs : List Loc) (ls : Array Slot), Rp G aC b0 N H → va_S (fun q => b0 ≤ q) s.heap H locs → lv_has ls 8 [(0, .ref v0), (1, .ref v1), (2, .ref v2), (3, .int v3), (4, .int v4), (5, .int v5), (6, .int v6)] → owp (f_X8_spanOf_L15 v0 v1 v2 v3 k41 k116 n v4 v5 v6 N) P → W p l e rm_X8_spanOf s m args below meth c H locs 0 0 Q (F0 m 15 ls []) := by
  have hx := X.1.1
  have hb := X.1.2.1
  intro n
  induction n with
  | zero =>
    intro v4 v5 v6 N H locs ls hR hS hl hp
    exact (show False from hp).elim
  | succ n ih =>
    intro v4 v5 v6 N H locs ls hR hS hl hp
    rw [f_X8_spanOf_L15] at hp
    refine lv_iload hx hb dX8_spanOf_15 (lv_at hl 6 rfl) ?_
    refine lv_bipush (v := (16)) hx hb dX8_spanOf_17 (by decide) ?_
    refine lv_icmp_ge (tgt := 116) hx hb dX8_spanOf_19 (by decide) (fun k3 => ?_) (fun k3 => ?_)
    · have hp := owp_t k3 hp
      exact hk116 _ _ _ _ _ _ hR hS (lv_sub hl [0, 1, 2, 3, 4, 5] rfl) hp
    · have hp := owp_f k3 hp
      refine lv_aload_n hx hb dX8_spanOf_22 rfl (lv_at hl 2 rfl) ?_
      refine lv_iload hx hb dX8_spanOf_23 (lv_at hl 6 rfl) ?_
      obtain ⟨x4, e_x4, hp⟩ := owp_ob hp
      refine ab_iald X hR e_x4 dX8_spanOf_25 ?_
      refine lv_aload_n hx hb dX8_spanOf_26 rfl (lv_at hl 0 rfl) ?_
      obtain ⟨x5, e_x5, hp⟩ := owp_ob hp
      refine gf_X8_37 X hR e_x5 dX8_spanOf_27 ?_
      refine lv_iload hx hb dX8_spanOf_30 (lv_at hl 6 rfl) ?_
      obtain ⟨x6, e_x6, hp⟩ := owp_ob hp
      refine ab_iald X hR e_x6 dX8_spanOf_32 ?_
      refine lv_isub hx hb dX8_spanOf_33 ?_
      refine lv_istore (lv' := [(7, .int (x4 - x6)), (0, .ref v0), (1, .ref v1), (2, .ref v2), (3, .int v3), (4, .int v4), (5, .int v5), (6, .int v6)]) hx hb dX8_spanOf_34 hl (by decide) rfl (fun ls hl => ?_)
      refine lv_iload hx hb dX8_spanOf_36 (lv_at hl 0 rfl) ?_
      refine lv_if_ge (tgt := 43) hx hb dX8_spanOf_38 (by decide) (fun k7 => ?_) (fun k7 => ?_)
      · have hp := owp_t k7 hp
        refine lv_aload_n hx hb dX8_spanOf_43 rfl (lv_at hl 1 rfl) ?_
        obtain ⟨x8, e_x8, hp⟩ := owp_ob hp
        refine gf_X8_37 X hR e_x8 dX8_spanOf_44 ?_
        refine lv_iload hx hb dX8_spanOf_47 (lv_at hl 7 rfl) ?_
        obtain ⟨x9, e_x9, hp⟩ := owp_ob hp
        refine ab_iald X hR e_x9 dX8_spanOf_49 ?_
        refine lv_if_le (tgt := 110) hx hb dX8_spanOf_50 (by decide) (fun k10 => ?_) (fun k10 => ?_)
        · have hp := owp_t k10 hp
          refine lv_iinc (v := v6 + 1) (lv' := [(6, .int (v6 + 1)), (7, .int (x4 - x6)), (0, .ref v0), (1, .ref v1), (2, .ref v2), (3, .int v3), (4, .int v4), (5, .int v5)]) hx hb dX8_spanOf_110 hl (k := 7) rfl rfl (by decide) rfl (fun ls hl => ?_)
          refine lv_goto (tgt := 15) hx hb dX8_spanOf_113 (by decide) ?_
          exact ih _ _ _ _ _ _ _ hR hS (lv_sub hl [2, 3, 4, 5, 6, 7, 0] rfl) hp
        · have hp := owp_f k10 hp
          refine lv_iload hx hb dX8_spanOf_53 (lv_at hl 5 rfl) ?_
          refine lv_aload_n hx hb dX8_spanOf_55 rfl (lv_at hl 1 rfl) ?_
          obtain ⟨x11, e_x11, hp⟩ := owp_ob hp
          refine gf_X8_34 X hR e_x11 dX8_spanOf_56 ?_
          refine lv_iload hx hb dX8_spanOf_59 (lv_at hl 7 rfl) ?_
          obtain ⟨x12, e_x12, hp⟩ := owp_ob hp
          refine ab_iald X hR e_x12 dX8_spanOf_61 ?_
          refine lv_aload_n hx hb dX8_spanOf_62 rfl (lv_at hl 3 rfl) ?_
          refine lv_iload hx hb dX8_spanOf_63 (lv_at hl 7 rfl) ?_
          obtain ⟨x13, e_x13, hp⟩ := owp_ob hp
          refine ab_iald X hR e_x13 dX8_spanOf_65 ?_
          obtain ⟨x15, N14, e_N14, hp⟩ := owp_ob2 hp
          refine ivN_X9_roundedUp (rest := [.int v4]) (by simp [NWs, yX9_roundedUp]) X hR hS e_N14 hl.1 (Nat.le_of_ble_eq_true rfl) ⟨Nat.le_of_ble_eq_true rfl, Nat.le_of_ble_eq_true rfl⟩ ⟨Nat.le_of_ble_eq_true rfl, Nat.le_of_ble_eq_true rfl⟩ dX8_spanOf_66 (fun H locs hR hS => ?_)
          obtain ⟨x17, N16, e_N16, hp⟩ := owp_ob2 hp
          refine iv_J9_max_7cf53 (rest := []) mw_X8_188 X hR hS e_N16 hl.1 (Nat.le_of_ble_eq_true rfl) ⟨Nat.le_of_ble_eq_true rfl, Nat.le_of_ble_eq_true rfl⟩ ⟨Nat.le_of_ble_eq_true rfl, Nat.le_of_ble_eq_true rfl⟩ dX8_spanOf_69 (fun H locs hR hS => ?_)
          refine lv_istore (lv' := [(4, .int x17), (7, .int (x4 - x6)), (0, .ref v0), (1, .ref v1), (2, .ref v2), (3, .int v3), (5, .int v5), (6, .int v6)]) hx hb dX8_spanOf_72 hl (by decide) rfl (fun ls hl => ?_)
          refine lv_iload hx hb dX8_spanOf_74 (lv_at hl 6 rfl) ?_
          refine lv_iload hx hb dX8_spanOf_76 (lv_at hl 1 rfl) ?_
          refine lv_if_ne (tgt := 85) hx hb dX8_spanOf_78 (by decide) (fun k18 => ?_) (fun k18 => ?_)
          · have hp := owp_t k18 hp
            refine lv_aload_n hx hb dX8_spanOf_85 rfl (lv_at hl 2 rfl) ?_
            obtain ⟨x19, e_x19, hp⟩ := owp_ob hp
            refine gf_X8_34 X hR e_x19 dX8_spanOf_86 ?_
            refine lv_iload hx hb dX8_spanOf_89 (lv_at hl 7 rfl) ?_
            obtain ⟨x20, e_x20, hp⟩ := owp_ob hp
            refine ab_iald X hR e_x20 dX8_spanOf_91 ?_
            refine lv_aload_n hx hb dX8_spanOf_92 rfl (lv_at hl 2 rfl) ?_
            obtain ⟨x21, e_x21, hp⟩ := owp_ob hp
            refine gf_X8_37 X hR e_x21 dX8_spanOf_93 ?_
            refine lv_iload hx hb dX8_spanOf_96 (lv_at hl 7 rfl) ?_
            obtain ⟨x22, e_x22, hp⟩ := owp_ob hp
            refine ab_iald X hR e_x22 dX8_spanOf_98 ?_
            refine lv_isub hx hb dX8_spanOf_99 ?_
            refine lv_iload hx hb dX8_spanOf_100 (lv_at hl 1 rfl) ?_
            obtain ⟨x24, N23, e_N23, hp⟩ := owp_ob2 hp
            refine ivN_X9_roundedUp (rest := [.int v5]) (by simp [NWs, yX9_roundedUp]) X hR hS e_N23 hl.1 (Nat.le_of_ble_eq_true rfl) ⟨Nat.le_of_ble_eq_true rfl, Nat.le_of_ble_eq_true rfl⟩ ⟨Nat.le_of_ble_eq_true rfl, Nat.le_of_ble_eq_true rfl⟩ dX8_spanOf_102 (fun H locs hR hS => ?_)
            obtain ⟨x26, N25, e_N25, hp⟩ := owp_ob2 hp
            refine iv_J9_max_7cf53 (rest := []) mw_X8_188 X hR hS e_N25 hl.1 (Nat.le_of_ble_eq_true rfl) ⟨Nat.le_of_ble_eq_true rfl, Nat.le_of_ble_eq_true rfl⟩ ⟨Nat.le_of_ble_eq_true rfl, Nat.le_of_ble_eq_true rfl⟩ dX8_spanOf_105 (fun H locs hR hS => ?_)
            refine lv_istore (lv' := [(5, .int x26), (4, .int x17), (7, .int (x4 - x6)), (0, .ref v0), (1, .ref v1), (2, .ref v2), (3, .int v3), (6, .int v6)]) hx hb dX8_spanOf_108 hl (by decide) rfl (fun ls hl => ?_)
            refine lv_iinc (v := v6 + 1) (lv' := [(6, .int (v6 + 1)), (5, .int x26), (4, .int x17), (7, .int (x4 - x6)), (0, .ref v0), (1, .ref v1), (2, .ref v2), (3, .int v3)]) hx hb dX8_spanOf_110 hl (k := 7) rfl rfl (by decide) rfl (fun ls hl => ?_)
            refine lv_goto (tgt := 15) hx hb dX8_spanOf_113 (by decide) ?_
            exact ih _ _ _ _ _ _ _ hR hS (lv_sub hl [4, 5, 6, 7, 2, 1, 0] rfl) hp
          · have hp := owp_f (fun q => q k18) hp
            refine lv_iload_n hx hb dX8_spanOf_81 rfl (lv_at hl 5 rfl) ?_
            refine lv_goto (tgt := 105) hx hb dX8_spanOf_82 (by decide) ?_
            obtain ⟨x28, N27, e_N27, hp⟩ := owp_ob2 hp
            refine iv_J9_max_7cf53 (rest := []) mw_X8_188 X hR hS e_N27 hl.1 (Nat.le_of_ble_eq_true rfl) ⟨Nat.le_of_ble_eq_true rfl, Nat.le_of_ble_eq_true rfl⟩ ⟨Nat.le_of_ble_eq_true rfl, Nat.le_of_ble_eq_true rfl⟩ dX8_spanOf_105 (fun H locs hR hS => ?_)
            refine lv_istore (lv' := [(5, .int x28), (4, .int x17), (7, .int (x4 - x6)), (0, .ref v0), (1, .ref v1), (2, .ref v2), (3, .int v3), (6, .int v6)]) hx hb dX8_spanOf_108 hl (by decide) rfl (fun ls hl => ?_)
            refine lv_iinc (v := v6 + 1) (lv' := [(6, .int (v6 + 1)), (5, .int x28), (4, .int x17), (7, .int (x4 - x6)), (0, .ref v0), (1, .ref v1), (2, .ref v2), (3, .int v3)]) hx hb dX8_spanOf_110 hl (k := 7) rfl rfl (by decide) rfl (fun ls hl => ?_)
            refine lv_goto (tgt := 15) hx hb dX8_spanOf_113 (by decide) ?_
            exact ih _ _ _ _ _ _ _ hR hS (lv_sub hl [4, 5, 6, 7, 2, 1, 0] rfl) hp
      · have hp := owp_f k7 hp
        exact hk41 _ _ _ _ hR hS (lv_sub hl [] rfl) hp
def f_X8_spanOf_L127 (v0 : Nat) (v1 : Nat) (v2 : Nat) (k180 : Int32 → AH → Option (Int32 × AH)) : Nat → Int32 → Int32 → Int32 → AH → Option (Int32 × AH)
  | 0, _, _, _, _ => none
  | n + 1, v4, v5, v6, N => if (20 : Int32) ≤ v6 then k180 v4 N else if v5 ≤ v4 then k180 v4 N else ob (dV (v4 + v5) (2 : Int32)) (fun x37 => ob2 (f_X8_isEnough v0 v1 x37 v2 N) (fun x39 N38 => if x39 = 0 then f_X8_spanOf_L127 v0 v1 v2 k180 n (x37 + (1 : Int32)) v5 (v6 + 1) N38 else f_X8_spanOf_L127 v0 v1 v2 k180 n v4 x37 (v6 + 1) N38))
set_option maxHeartbeats 4000000 in
set_option maxRecDepth 100000 in
theorem w_X8_spanOf_L127 {P : Int32 × AH → Prop} (X : CX cX8_spanOf RX8 8 G aC t b0 p s m args c) (hr : RtI p l e rm_X8_spanOf s m args below meth c 0 0 Q cX8_spanOf G aC b0 P) (v0 : Nat) (v1 : Nat) (v2 : Nat) {k180 : Int32 → AH → Option (Int32 × AH)}
    (hk180 : ∀ (v4 : Int32) (N : AH) (H : Heap) (locs : List Loc) (ls : Array Slot), Rp G aC b0 N H → va_S (fun q => b0 ≤ q) s.heap H locs → lv_has ls 8 [(4, .int v4)] → owp (k180 v4 N) P → W p l e rm_X8_spanOf s m args below meth c H locs 0 0 Q (F0 m 180 ls [])) :
    ∀ (n : Nat) (v4 : Int32) (v5 : Int32) (v6 : Int32) (N : AH) (H : Heap) (locs : List Loc) (ls : Array Slot), Rp G aC b0 N H → va_S (fun q => b0 ≤ q) s.heap H locs → lv_has ls 8 [(0, .ref v0), (1, .ref v1), (2, .ref v2), (4, .int v4), (5, .int v5), (6, .int v6)] → owp (f_X8_spanOf_L127 v0 v1 v2 k180 n v4 v5 v6 N) P → W p l e rm_X8_spanOf s m args below meth c H locs 0 0 Q (F0 m 127 ls []) := by
  have hx := X.1.1
  have hb := X.1.2.1
  intro n
  induction n with
  | zero =>
    intro v4 v5 v6 N H locs ls hR hS hl hp
    exact (show False from hp).elim
  | succ n ih =>
    intro v4 v5 v6 N H locs ls hR hS hl hp
    rw [f_X8_spanOf_L127] at hp
    refine lv_iload hx hb dX8_spanOf_127 (lv_at hl 5 rfl) ?_
    refine lv_bipush (v := (20)) hx hb dX8_spanOf_129 (by decide) ?_
    refine lv_icmp_ge (tgt := 180) hx hb dX8_spanOf_131 (by decide) (fun k35 => ?_) (fun k35 => ?_)
    · have hp := owp_t k35 hp
      exact hk180 _ _ _ _ _ hR hS (lv_sub hl [3] rfl) hp
    · have hp := owp_f k35 hp
      refine lv_iload hx hb dX8_spanOf_134 (lv_at hl 3 rfl) ?_
      refine lv_iload hx hb dX8_spanOf_136 (lv_at hl 4 rfl) ?_
      refine lv_icmp_ge (tgt := 180) hx hb dX8_spanOf_138 (by decide) (fun k36 => ?_) (fun k36 => ?_)
      · have hp := owp_t k36 hp
        exact hk180 _ _ _ _ _ hR hS (lv_sub hl [3] rfl) hp
      · have hp := owp_f k36 hp
        refine lv_iload hx hb dX8_spanOf_141 (lv_at hl 3 rfl) ?_
        refine lv_iload hx hb dX8_spanOf_143 (lv_at hl 4 rfl) ?_
        refine lv_iadd hx hb dX8_spanOf_145 ?_
        refine lv_iconst (v := (2)) hx hb dX8_spanOf_146 (by decide) ?_
        obtain ⟨x37, e_x37, hp⟩ := owp_ob hp
        refine ab_idiv X e_x37 dX8_spanOf_147 ?_
        refine lv_istore (lv' := [(7, .int x37), (0, .ref v0), (1, .ref v1), (2, .ref v2), (4, .int v4), (5, .int v5), (6, .int v6)]) hx hb dX8_spanOf_148 hl (by decide) rfl (fun ls hl => ?_)
        refine lv_aload_n hx hb dX8_spanOf_150 rfl (lv_at hl 1 rfl) ?_
        refine lv_aload_n hx hb dX8_spanOf_151 rfl (lv_at hl 2 rfl) ?_
        refine lv_iload hx hb dX8_spanOf_152 (lv_at hl 0 rfl) ?_
        refine lv_aload_n hx hb dX8_spanOf_154 rfl (lv_at hl 3 rfl) ?_
        obtain ⟨x39, N38, e_N38, hp⟩ := owp_ob2 hp
        refine iv_X8_isEnough (rest := []) mw_X8_237 X hR hS e_N38 hl.1 (Nat.le_of_ble_eq_true rfl) ⟨Nat.le_of_ble_eq_true rfl, Nat.le_of_ble_eq_true rfl⟩ ⟨Nat.le_of_ble_eq_true rfl, Nat.le_of_ble_eq_true rfl⟩ dX8_spanOf_155 (fun H locs hR hS => ?_)
        refine lv_if_eq (tgt := 168) hx hb dX8_spanOf_158 (by decide) (fun k40 => ?_) (fun k40 => ?_)
        · have hp := owp_t k40 hp
          refine lv_iload hx hb dX8_spanOf_168 (lv_at hl 0 rfl) ?_
          refine lv_iconst (v := (1)) hx hb dX8_spanOf_170 (by decide) ?_
          refine lv_iadd hx hb dX8_spanOf_171 ?_
          refine lv_istore (lv' := [(4, .int (x37 + (1 : Int32))), (7, .int x37), (0, .ref v0), (1, .ref v1), (2, .ref v2), (5, .int v5), (6, .int v6)]) hx hb dX8_spanOf_172 hl (by decide) rfl (fun ls hl => ?_)
          refine lv_iinc (v := v6 + 1) (lv' := [(6, .int (v6 + 1)), (4, .int (x37 + (1 : Int32))), (7, .int x37), (0, .ref v0), (1, .ref v1), (2, .ref v2), (5, .int v5)]) hx hb dX8_spanOf_174 hl (k := 6) rfl rfl (by decide) rfl (fun ls hl => ?_)
          refine lv_goto (tgt := 127) hx hb dX8_spanOf_177 (by decide) ?_
          exact ih _ _ _ _ _ _ _ hR hS (lv_sub hl [3, 4, 5, 1, 6, 0] rfl) hp
        · have hp := owp_f k40 hp
          refine lv_iload hx hb dX8_spanOf_161 (lv_at hl 0 rfl) ?_
          refine lv_istore (lv' := [(5, .int x37), (7, .int x37), (0, .ref v0), (1, .ref v1), (2, .ref v2), (4, .int v4), (6, .int v6)]) hx hb dX8_spanOf_163 hl (by decide) rfl (fun ls hl => ?_)
          refine lv_goto (tgt := 174) hx hb dX8_spanOf_165 (by decide) ?_
          refine lv_iinc (v := v6 + 1) (lv' := [(6, .int (v6 + 1)), (5, .int x37), (7, .int x37), (0, .ref v0), (1, .ref v1), (2, .ref v2), (4, .int v4)]) hx hb dX8_spanOf_174 hl (k := 6) rfl rfl (by decide) rfl (fun ls hl => ?_)
          refine lv_goto (tgt := 127) hx hb dX8_spanOf_177 (by decide) ?_
          exact ih _ _ _ _ _ _ _ hR hS (lv_sub hl [3, 4, 5, 6, 1, 0] rfl) hp
def f_X8_spanOf (v0 : Nat) (v1 : Nat) (v2 : Nat) (N : AH) : Option (Int32 × AH) := ob (iO N v0 8) (fun _ => ob2 (f_X8_addUp v0 v1 N) (fun x2 N1 => f_X8_spanOf_L15 v0 v1 v2 x2 (fun N29 => some ((-1 : Int32), N29)) (fun v30 v31 N32 => ob2 (f_J9_min_7cf53 v31 x2 N32) (fun x34 N33 => f_X8_spanOf_L127 v0 v1 v2 (fun v41 N42 => some (v41, N42)) FU v30 x34 (0 : Int32) N33)) FU (1 : Int32) (1 : Int32) (0 : Int32) N1))
set_option maxHeartbeats 4000000 in
set_option maxRecDepth 100000 in
theorem wk_X8_spanOf {P : Int32 × AH → Prop} (X : CX cX8_spanOf RX8 8 G aC t b0 p s m args c) (hr : RtI p l e rm_X8_spanOf s m args below meth c 0 0 Q cX8_spanOf G aC b0 P) (v0 : Nat) (v1 : Nat) (v2 : Nat) (N : AH) (H : Heap) (locs : List Loc) (ls : Array Slot) (hR : Rp G aC b0 N H) (hS : va_S (fun q => b0 ≤ q) s.heap H locs) (hl : lv_has ls 8 [(0, .ref v0), (1, .ref v1), (2, .ref v2)]) (hp : owp (f_X8_spanOf v0 v1 v2 N) P) : W p l e rm_X8_spanOf s m args below meth c H locs 0 0 Q (F0 m 0 ls []) := by
  have hx := X.1.1
  have hb := X.1.2.1
  unfold f_X8_spanOf at hp
  obtain ⟨_, _, hp⟩ := owp_ob hp
  refine lv_aload_n hx hb dX8_spanOf_0 rfl (lv_at hl 0 rfl) ?_
  refine lv_aload_n hx hb dX8_spanOf_1 rfl (lv_at hl 1 rfl) ?_
  obtain ⟨x2, N1, e_N1, hp⟩ := owp_ob2 hp
  refine iv_X8_addUp (rest := []) mw_X8_233 X hR hS e_N1 hl.1 (Nat.le_of_ble_eq_true rfl) ⟨Nat.le_of_ble_eq_true rfl, Nat.le_of_ble_eq_true rfl⟩ ⟨Nat.le_of_ble_eq_true rfl, Nat.le_of_ble_eq_true rfl⟩ dX8_spanOf_2 (fun H locs hR hS => ?_)
  refine lv_istore_n (lv' := [(3, .int x2), (0, .ref v0), (1, .ref v1), (2, .ref v2)]) hx hb dX8_spanOf_5 rfl hl (by decide) rfl (fun ls hl => ?_)
  refine lv_iconst (v := (1)) hx hb dX8_spanOf_6 (by decide) ?_
  refine lv_istore (lv' := [(4, .int (1 : Int32)), (3, .int x2), (0, .ref v0), (1, .ref v1), (2, .ref v2)]) hx hb dX8_spanOf_7 hl (by decide) rfl (fun ls hl => ?_)
  refine lv_iconst (v := (1)) hx hb dX8_spanOf_9 (by decide) ?_
  refine lv_istore (lv' := [(5, .int (1 : Int32)), (4, .int (1 : Int32)), (3, .int x2), (0, .ref v0), (1, .ref v1), (2, .ref v2)]) hx hb dX8_spanOf_10 hl (by decide) rfl (fun ls hl => ?_)
  refine lv_iconst (v := (0)) hx hb dX8_spanOf_12 (by decide) ?_
  refine lv_istore (lv' := [(6, .int (0 : Int32)), (5, .int (1 : Int32)), (4, .int (1 : Int32)), (3, .int x2), (0, .ref v0), (1, .ref v1), (2, .ref v2)]) hx hb dX8_spanOf_13 hl (by decide) rfl (fun ls hl => ?_)
  refine w_X8_spanOf_L15 X hr _ _ _ _ (fun N29 H locs ls hR hS hl hp => ?_) (fun v30 v31 N32 H locs ls hR hS hl hp => ?_) _ _ _ _ _ _ _ _ hR hS (lv_sub hl [4, 5, 6, 3, 2, 1, 0] rfl) hp
  · refine lv_iconst (v := (-1)) hx hb dX8_spanOf_41 (by decide) ?_
    exact hr _ _ _ _ _ _ hR hS dX8_spanOf_42 hp
  · refine lv_iload hx hb dX8_spanOf_116 (lv_at hl 5 rfl) ?_
    refine lv_iload_n hx hb dX8_spanOf_118 rfl (lv_at hl 3 rfl) ?_
    obtain ⟨x34, N33, e_N33, hp⟩ := owp_ob2 hp
    refine iv_J9_min_7cf53 (rest := []) mw_X8_220 X hR hS e_N33 hl.1 (Nat.le_of_ble_eq_true rfl) ⟨Nat.le_of_ble_eq_true rfl, Nat.le_of_ble_eq_true rfl⟩ ⟨Nat.le_of_ble_eq_true rfl, Nat.le_of_ble_eq_true rfl⟩ dX8_spanOf_119 (fun H locs hR hS => ?_)
    refine lv_istore (lv' := [(5, .int x34), (0, .ref v0), (1, .ref v1), (2, .ref v2), (3, .int x2), (4, .int v30)]) hx hb dX8_spanOf_122 hl (by decide) rfl (fun ls hl => ?_)
    refine lv_iconst (v := (0)) hx hb dX8_spanOf_124 (by decide) ?_
    refine lv_istore (lv' := [(6, .int (0 : Int32)), (5, .int x34), (0, .ref v0), (1, .ref v1), (2, .ref v2), (3, .int x2), (4, .int v30)]) hx hb dX8_spanOf_125 hl (by decide) rfl (fun ls hl => ?_)
    refine w_X8_spanOf_L127 X hr _ _ _ (fun v41 N42 H locs ls hR hS hl hp => ?_) _ _ _ _ _ _ _ _ hR hS (lv_sub hl [2, 3, 4, 6, 1, 0] rfl) hp
    refine lv_iload hx hb dX8_spanOf_180 (lv_at hl 0 rfl) ?_
    exact hr _ _ _ _ _ _ hR hS dX8_spanOf_182 hp
end
theorem ct_X8_spanOf {v0 : Nat} {v1 : Nat} {v2 : Nat} {N N1 : AH} {r : Int32} (h : f_X8_spanOf v0 v1 v2 N = some (r, N1)) : Ct yX8_spanOf cX8_spanOf 8 (some .int) rm_X8_spanOf [.ref v0, .ref v1, .ref v2] N (some (.int r)) N1 :=
  ab_met (own := RX8) (by decide +kernel) rfl (Nat.le_of_ble_eq_true rfl) (fun l G aC t b0 p e s m below meth c ls X hr hlk hnm hR hS hl => wk_X8_spanOf X (RtI_met X.1.1 X.1.2.1 hr hlk) _ _ _ _ _ _ _ hR hS hl (owp_of h))
theorem cw_X8_spanOf : Cond.code yX8_spanOf cX8_spanOf 8 (some .int) ∈ WT := WT_of 631 (by decide +kernel) (by decide +kernel)
theorem iv_X8_spanOf {p : Program} {l : Launch} {e : Env} {R : Room} {s : State} {m : MethodId} {args : Array Value} {below : List Frame} {meth : Method} {c : Code} {H : Heap} {locs : List Loc} {cells slots : Nat} {Q : State → Prop} {cc : ByteArray} {own : String} {nL : Nat} {G : va_G} {aC : Nat → ClassId} {t b0 : Nat} {N N1 : AH} {pc index : Nat} {ls : Array Slot} {rest : List Value} {v0 : Nat} {v1 : Nat} {v2 : Nat} {r : Int32} (w1 : Cond.methodLink own index yX8_spanOf ∈ WT) (X : CX cc own nL G aC t b0 p s m args c) (hR : Rp G aC b0 N H) (hS : va_S (fun q => b0 ≤ q) s.heap H locs) (h : f_X8_spanOf v0 v1 v2 N = some (r, N1)) (hls : ls.size = nL) (hW : (rest.map fun v => v.category).sum ≤ 8) (hR1 : 3 ≤ R.frames ∧ 77 ≤ R.locals) (hcs : cells + 0 ≤ R.cells ∧ slots + 0 ≤ R.slots) (hdg : decode cc pc = .ok (.invokevirtual index, 3)) (kk : ∀ (H1 : Heap) (locs1 : List Loc), Rp G aC b0 N1 H1 → va_S (fun q => b0 ≤ q) s.heap H1 locs1 → W p l e R s m args below meth c H1 locs1 cells slots Q (F0 m (pc + 3) ls (.int r :: rest))) : W p l e R s m args below meth c H locs cells slots Q (F0 m pc ls (.ref v2 :: .ref v1 :: .ref v0 :: rest)) :=
  ab_callV (n := 2) (As := [.ref v1, .ref v2]) X hR hS (ct_X8_spanOf h) (ob_rc (c := 8) (N := N) (a := v0) h) (T := TX8) (k := 11) (C := RX8) rfl w1 (WT_of 629 (by decide +kernel) (by decide +kernel)) (WT_of 630 (by decide +kernel) (by decide +kernel)) (WT_of 89 (by decide +kernel) (by decide +kernel)) cw_X8_spanOf ⟨rfl, by decide +kernel, by decide +kernel, by decide +kernel⟩ rfl hls hW hR1 hcs rfl hdg kk
-- X8_setSpanKey
theorem mw_X8_105 : Cond.methodLink RX8 105 yX8_setKey ∈ WT := WT_of 624 (by decide +kernel) (by decide +kernel)
theorem dX8_setSpanKey_0 : decode cX8_setSpanKey 0 = .ok (.iload_n 2, 1) := by decide +kernel
theorem dX8_setSpanKey_1 : decode cX8_setSpanKey 1 = .ok (.iconst (-1), 1) := by decide +kernel
theorem dX8_setSpanKey_2 : decode cX8_setSpanKey 2 = .ok (.if_icmp .ne 14, 3) := by decide +kernel
theorem dX8_setSpanKey_5 : decode cX8_setSpanKey 5 = .ok (.aload_n 0, 1) := by decide +kernel
theorem dX8_setSpanKey_6 : decode cX8_setSpanKey 6 = .ok (.iload_n 1, 1) := by decide +kernel
theorem dX8_setSpanKey_7 : decode cX8_setSpanKey 7 = .ok (.iconst 2, 1) := by decide +kernel
theorem dX8_setSpanKey_8 : decode cX8_setSpanKey 8 = .ok (.lconst 0, 1) := by decide +kernel
theorem dX8_setSpanKey_9 : decode cX8_setSpanKey 9 = .ok (.iconst 1, 1) := by decide +kernel
theorem dX8_setSpanKey_10 : decode cX8_setSpanKey 10 = .ok (.invokevirtual 105, 3) := by decide +kernel
theorem dX8_setSpanKey_13 : decode cX8_setSpanKey 13 = .ok (.goto 12, 3) := by decide +kernel
theorem dX8_setSpanKey_16 : decode cX8_setSpanKey 16 = .ok (.aload_n 0, 1) := by decide +kernel
theorem dX8_setSpanKey_17 : decode cX8_setSpanKey 17 = .ok (.iload_n 1, 1) := by decide +kernel
theorem dX8_setSpanKey_18 : decode cX8_setSpanKey 18 = .ok (.iconst 1, 1) := by decide +kernel
theorem dX8_setSpanKey_19 : decode cX8_setSpanKey 19 = .ok (.iload_n 2, 1) := by decide +kernel
theorem dX8_setSpanKey_20 : decode cX8_setSpanKey 20 = .ok (.i2l, 1) := by decide +kernel
theorem dX8_setSpanKey_21 : decode cX8_setSpanKey 21 = .ok (.iload_n 3, 1) := by decide +kernel
theorem dX8_setSpanKey_22 : decode cX8_setSpanKey 22 = .ok (.invokevirtual 105, 3) := by decide +kernel
theorem dX8_setSpanKey_25 : decode cX8_setSpanKey 25 = .ok (.return_, 1) := by decide +kernel
def rm_X8_setSpanKey : Room := { frames := 1, cells := 0, slots := 0, locals := 25 }
section
variable {p : Program} {l : Launch} {e : Env} {s : State} {m : MethodId} {args : Array Value} {below : List Frame} {meth : Method} {c : Code} {Q : State → Prop} {G : va_G} {aC : Nat → ClassId} {t b0 : Nat}
def f_X8_setSpanKey (v0 : Nat) (v1 : Int32) (v2 : Int32) (v3 : Int32) (N : AH) : Option (Unit × AH) := ob (iO N v0 8) (fun _ => if ¬ v2 = (-1 : Int32) then ob2 (f_X8_setKey v0 v1 (1 : Int32) (Int32.toInt64 v2) v3 N) (fun _ N2 => some ((), N2)) else ob2 (f_X8_setKey v0 v1 (2 : Int32) (0 : Int64) (1 : Int32) N) (fun _ N3 => some ((), N3)))
set_option maxHeartbeats 4000000 in
set_option maxRecDepth 100000 in
theorem wk_X8_setSpanKey {P : Unit × AH → Prop} (X : CX cX8_setSpanKey RX8 4 G aC t b0 p s m args c) (hr : RtV p l e rm_X8_setSpanKey s m args below meth c 0 0 Q cX8_setSpanKey G aC b0 P) (v0 : Nat) (v1 : Int32) (v2 : Int32) (v3 : Int32) (N : AH) (H : Heap) (locs : List Loc) (ls : Array Slot) (hR : Rp G aC b0 N H) (hS : va_S (fun q => b0 ≤ q) s.heap H locs) (hl : lv_has ls 4 [(0, .ref v0), (1, .int v1), (2, .int v2), (3, .int v3)]) (hp : owp (f_X8_setSpanKey v0 v1 v2 v3 N) P) : W p l e rm_X8_setSpanKey s m args below meth c H locs 0 0 Q (F0 m 0 ls []) := by
  have hx := X.1.1
  have hb := X.1.2.1
  unfold f_X8_setSpanKey at hp
  obtain ⟨_, _, hp⟩ := owp_ob hp
  refine lv_iload_n hx hb dX8_setSpanKey_0 rfl (lv_at hl 2 rfl) ?_
  refine lv_iconst (v := (-1)) hx hb dX8_setSpanKey_1 (by decide) ?_
  refine lv_icmp_ne (tgt := 16) hx hb dX8_setSpanKey_2 (by decide) (fun k1 => ?_) (fun k1 => ?_)
  · have hp := owp_t k1 hp
    refine lv_aload_n hx hb dX8_setSpanKey_16 rfl (lv_at hl 0 rfl) ?_
    refine lv_iload_n hx hb dX8_setSpanKey_17 rfl (lv_at hl 1 rfl) ?_
    refine lv_iconst (v := (1)) hx hb dX8_setSpanKey_18 (by decide) ?_
    refine lv_iload_n hx hb dX8_setSpanKey_19 rfl (lv_at hl 2 rfl) ?_
    refine lv_i2l (v := Int32.toInt64 v2) hx hb dX8_setSpanKey_20 rfl ?_
    refine lv_iload_n hx hb dX8_setSpanKey_21 rfl (lv_at hl 3 rfl) ?_
    obtain ⟨_, N2, e_N2, hp⟩ := owp_ob2 hp
    refine iv_X8_setKey (rest := []) mw_X8_105 X hR hS e_N2 hl.1 (Nat.le_of_ble_eq_true rfl) ⟨Nat.le_of_ble_eq_true rfl, Nat.le_of_ble_eq_true rfl⟩ ⟨Nat.le_of_ble_eq_true rfl, Nat.le_of_ble_eq_true rfl⟩ dX8_setSpanKey_22 (fun H locs hR hS => ?_)
    exact hr _ _ _ _ _ hR hS dX8_setSpanKey_25 hp
  · have hp := owp_f (fun q => q k1) hp
    refine lv_aload_n hx hb dX8_setSpanKey_5 rfl (lv_at hl 0 rfl) ?_
    refine lv_iload_n hx hb dX8_setSpanKey_6 rfl (lv_at hl 1 rfl) ?_
    refine lv_iconst (v := (2)) hx hb dX8_setSpanKey_7 (by decide) ?_
    refine lv_lconst (v := 0) hx hb dX8_setSpanKey_8 (by decide) ?_
    refine lv_iconst (v := (1)) hx hb dX8_setSpanKey_9 (by decide) ?_
    obtain ⟨_, N3, e_N3, hp⟩ := owp_ob2 hp
    refine iv_X8_setKey (rest := []) mw_X8_105 X hR hS e_N3 hl.1 (Nat.le_of_ble_eq_true rfl) ⟨Nat.le_of_ble_eq_true rfl, Nat.le_of_ble_eq_true rfl⟩ ⟨Nat.le_of_ble_eq_true rfl, Nat.le_of_ble_eq_true rfl⟩ dX8_setSpanKey_10 (fun H locs hR hS => ?_)
    refine lv_goto (tgt := 25) hx hb dX8_setSpanKey_13 (by decide) ?_
    exact hr _ _ _ _ _ hR hS dX8_setSpanKey_25 hp
end
theorem ct_X8_setSpanKey {v0 : Nat} {v1 : Int32} {v2 : Int32} {v3 : Int32} {N N1 : AH} {r : Unit} (h : f_X8_setSpanKey v0 v1 v2 v3 N = some (r, N1)) : Ct yX8_setSpanKey cX8_setSpanKey 4 none rm_X8_setSpanKey [.ref v0, .int v1, .int v2, .int v3] N none N1 :=
  ab_met (own := RX8) (by decide +kernel) rfl (Nat.le_of_ble_eq_true rfl) (fun l G aC t b0 p e s m below meth c ls X hr hlk hnm hR hS hl => wk_X8_setSpanKey X (RtV_met X.1.1 X.1.2.1 hr hlk) _ _ _ _ _ _ _ _ hR hS hl (owp_of h))
theorem cw_X8_setSpanKey : Cond.code yX8_setSpanKey cX8_setSpanKey 4 none ∈ WT := WT_of 649 (by decide +kernel) (by decide +kernel)
theorem iv_X8_setSpanKey {p : Program} {l : Launch} {e : Env} {R : Room} {s : State} {m : MethodId} {args : Array Value} {below : List Frame} {meth : Method} {c : Code} {H : Heap} {locs : List Loc} {cells slots : Nat} {Q : State → Prop} {cc : ByteArray} {own : String} {nL : Nat} {G : va_G} {aC : Nat → ClassId} {t b0 : Nat} {N N1 : AH} {pc index : Nat} {ls : Array Slot} {rest : List Value} {v0 : Nat} {v1 : Int32} {v2 : Int32} {v3 : Int32} {r : Unit} (w1 : Cond.methodLink own index yX8_setSpanKey ∈ WT) (X : CX cc own nL G aC t b0 p s m args c) (hR : Rp G aC b0 N H) (hS : va_S (fun q => b0 ≤ q) s.heap H locs) (h : f_X8_setSpanKey v0 v1 v2 v3 N = some (r, N1)) (hls : ls.size = nL) (hW : (rest.map fun v => v.category).sum ≤ 8) (hR1 : 2 ≤ R.frames ∧ 48 ≤ R.locals) (hcs : cells + 0 ≤ R.cells ∧ slots + 0 ≤ R.slots) (hdg : decode cc pc = .ok (.invokevirtual index, 3)) (kk : ∀ (H1 : Heap) (locs1 : List Loc), Rp G aC b0 N1 H1 → va_S (fun q => b0 ≤ q) s.heap H1 locs1 → W p l e R s m args below meth c H1 locs1 cells slots Q (F0 m (pc + 3) ls rest)) : W p l e R s m args below meth c H locs cells slots Q (F0 m pc ls (.int v3 :: .int v2 :: .int v1 :: .ref v0 :: rest)) :=
  ab_callV (n := 3) (As := [.int v1, .int v2, .int v3]) X hR hS (ct_X8_setSpanKey h) (ob_rc (c := 8) (N := N) (a := v0) h) (T := TX8) (k := 11) (C := RX8) rfl w1 (WT_of 648 (by decide +kernel) (by decide +kernel)) (WT_of 11 (by decide +kernel) (by decide +kernel)) (WT_of 89 (by decide +kernel) (by decide +kernel)) cw_X8_setSpanKey ⟨rfl, by decide +kernel, by decide +kernel, by decide +kernel⟩ rfl hls hW hR1 hcs rfl hdg kk
-- X8_plainKey
theorem gf_X8_21 {p : Program} {l : Launch} {e : Env} {R : Room} {s : State} {m : MethodId} {args : Array Value} {below : List Frame} {meth : Method} {c : Code} {H : Heap} {locs : List Loc} {cells slots : Nat} {Q : State → Prop} {cc : ByteArray} {nL : Nat} {G : va_G} {aC : Nat → ClassId} {t b0 : Nat} {N : AH} {pc : Nat} {ls : Array Slot} {rest : List Value} {a : Nat} {v : Nat} (X : CX cc RX8 nL G aC t b0 p s m args c) (hR0 : Rp G aC b0 N H) (hv : hR N a 8 4 = some v) (hdg : decode cc pc = .ok (.getfield 21, 3)) (kk : W p l e R s m args below meth c H locs cells slots Q (F0 m (pc + 3) ls (.ref v :: rest))) : W p l e R s m args below meth c H locs cells slots Q (F0 m pc ls (.ref a :: rest)) := by
  obtain ⟨fs, h1, h2⟩ := hR_ok hv
  exact ab_get (C := RX8) (T := TX8) (n := 11) X hR0 h1 h2 rfl inX8 (by decide) (WT_of 353 (by decide +kernel) (by decide +kernel)) hdg kk
theorem gf_X8_79 {p : Program} {l : Launch} {e : Env} {R : Room} {s : State} {m : MethodId} {args : Array Value} {below : List Frame} {meth : Method} {c : Code} {H : Heap} {locs : List Loc} {cells slots : Nat} {Q : State → Prop} {cc : ByteArray} {nL : Nat} {G : va_G} {aC : Nat → ClassId} {t b0 : Nat} {N : AH} {pc : Nat} {ls : Array Slot} {rest : List Value} {a : Nat} {v : Int32} (X : CX cc RX8 nL G aC t b0 p s m args c) (hR0 : Rp G aC b0 N H) (hv : hI N a 7 1 = some v) (hdg : decode cc pc = .ok (.getfield 79, 3)) (kk : W p l e R s m args below meth c H locs cells slots Q (F0 m (pc + 3) ls (.int v :: rest))) : W p l e R s m args below meth c H locs cells slots Q (F0 m pc ls (.ref a :: rest)) := by
  obtain ⟨fs, h1, h2⟩ := hI_ok hv
  exact ab_get (C := RX7) (T := TX7) (n := 12) X hR0 h1 h2 rfl inX7 (by decide) (WT_of 258 (by decide +kernel) (by decide +kernel)) hdg kk
theorem gf_X8_85 {p : Program} {l : Launch} {e : Env} {R : Room} {s : State} {m : MethodId} {args : Array Value} {below : List Frame} {meth : Method} {c : Code} {H : Heap} {locs : List Loc} {cells slots : Nat} {Q : State → Prop} {cc : ByteArray} {nL : Nat} {G : va_G} {aC : Nat → ClassId} {t b0 : Nat} {N : AH} {pc : Nat} {ls : Array Slot} {rest : List Value} {a : Nat} {v : Nat} (X : CX cc RX8 nL G aC t b0 p s m args c) (hR0 : Rp G aC b0 N H) (hv : hR N a 7 10 = some v) (hdg : decode cc pc = .ok (.getfield 85, 3)) (kk : W p l e R s m args below meth c H locs cells slots Q (F0 m (pc + 3) ls (.ref v :: rest))) : W p l e R s m args below meth c H locs cells slots Q (F0 m pc ls (.ref a :: rest)) := by
  obtain ⟨fs, h1, h2⟩ := hR_ok hv
  exact ab_get (C := RX7) (T := TX7) (n := 12) X hR0 h1 h2 rfl inX7 (by decide) (WT_of 290 (by decide +kernel) (by decide +kernel)) hdg kk
theorem gf_X8_109 {p : Program} {l : Launch} {e : Env} {R : Room} {s : State} {m : MethodId} {args : Array Value} {below : List Frame} {meth : Method} {c : Code} {H : Heap} {locs : List Loc} {cells slots : Nat} {Q : State → Prop} {cc : ByteArray} {nL : Nat} {G : va_G} {aC : Nat → ClassId} {t b0 : Nat} {N : AH} {pc : Nat} {ls : Array Slot} {rest : List Value} {a : Nat} {v : Nat} (X : CX cc RX8 nL G aC t b0 p s m args c) (hR0 : Rp G aC b0 N H) (hv : hR N a 4 5 = some v) (hdg : decode cc pc = .ok (.getfield 109, 3)) (kk : W p l e R s m args below meth c H locs cells slots Q (F0 m (pc + 3) ls (.ref v :: rest))) : W p l e R s m args below meth c H locs cells slots Q (F0 m pc ls (.ref a :: rest)) := by
  obtain ⟨fs, h1, h2⟩ := hR_ok hv
  exact ab_get (C := RX4) (T := TX4) (n := 6) X hR0 h1 h2 rfl inX4 (by decide) (WT_of 211 (by decide +kernel) (by decide +kernel)) hdg kk
theorem gf_X8_135 {p : Program} {l : Launch} {e : Env} {R : Room} {s : State} {m : MethodId} {args : Array Value} {below : List Frame} {meth : Method} {c : Code} {H : Heap} {locs : List Loc} {cells slots : Nat} {Q : State → Prop} {cc : ByteArray} {nL : Nat} {G : va_G} {aC : Nat → ClassId} {t b0 : Nat} {N : AH} {pc : Nat} {ls : Array Slot} {rest : List Value} {a : Nat} {v : Int32} (X : CX cc RX8 nL G aC t b0 p s m args c) (hR0 : Rp G aC b0 N H) (hv : hI N a 4 0 = some v) (hdg : decode cc pc = .ok (.getfield 135, 3)) (kk : W p l e R s m args below meth c H locs cells slots Q (F0 m (pc + 3) ls (.int v :: rest))) : W p l e R s m args below meth c H locs cells slots Q (F0 m pc ls (.ref a :: rest)) := by
  obtain ⟨fs, h1, h2⟩ := hI_ok hv
  exact ab_get (C := RX4) (T := TX4) (n := 6) X hR0 h1 h2 rfl inX4 (by decide) (WT_of 191 (by decide +kernel) (by decide +kernel)) hdg kk
theorem mw_X8_138 : Cond.methodLink RX8 138 yX1_sumOfRests ∈ WT := WT_of 654 (by decide +kernel) (by decide +kernel)
theorem mw_X8_143 : Cond.methodLink RX8 143 yX1_countUndone ∈ WT := WT_of 658 (by decide +kernel) (by decide +kernel)
theorem mw_X8_146 : Cond.methodLink RX8 146 yX1_levelReached ∈ WT := WT_of 662 (by decide +kernel) (by decide +kernel)
theorem dX8_plainKey_0 : decode cX8_plainKey 0 = .ok (.aload_n 1, 1) := by decide +kernel
theorem dX8_plainKey_1 : decode cX8_plainKey 1 = .ok (.getfield 85, 3) := by decide +kernel
theorem dX8_plainKey_4 : decode cX8_plainKey 4 = .ok (.iload_n 2, 1) := by decide +kernel
theorem dX8_plainKey_5 : decode cX8_plainKey 5 = .ok (.aaload, 1) := by decide +kernel
theorem dX8_plainKey_6 : decode cX8_plainKey 6 = .ok (.astore_n 3, 1) := by decide +kernel
theorem dX8_plainKey_7 : decode cX8_plainKey 7 = .ok (.aload_n 1, 1) := by decide +kernel
theorem dX8_plainKey_8 : decode cX8_plainKey 8 = .ok (.getfield 79, 3) := by decide +kernel
theorem dX8_plainKey_11 : decode cX8_plainKey 11 = .ok (.tableswitch 72 1 4 #[29, 35, 44, 53], 29) := by decide +kernel
theorem dX8_plainKey_40 : decode cX8_plainKey 40 = .ok (.aload_n 3, 1) := by decide +kernel
theorem dX8_plainKey_41 : decode cX8_plainKey 41 = .ok (.getfield 135, 3) := by decide +kernel
theorem dX8_plainKey_44 : decode cX8_plainKey 44 = .ok (.i2l, 1) := by decide +kernel
theorem dX8_plainKey_45 : decode cX8_plainKey 45 = .ok (.lreturn, 1) := by decide +kernel
theorem dX8_plainKey_46 : decode cX8_plainKey 46 = .ok (.aload_n 3, 1) := by decide +kernel
theorem dX8_plainKey_47 : decode cX8_plainKey 47 = .ok (.getfield 109, 3) := by decide +kernel
theorem dX8_plainKey_50 : decode cX8_plainKey 50 = .ok (.invokevirtual 138, 3) := by decide +kernel
theorem dX8_plainKey_53 : decode cX8_plainKey 53 = .ok (.i2l, 1) := by decide +kernel
theorem dX8_plainKey_54 : decode cX8_plainKey 54 = .ok (.lreturn, 1) := by decide +kernel
theorem dX8_plainKey_55 : decode cX8_plainKey 55 = .ok (.aload_n 3, 1) := by decide +kernel
theorem dX8_plainKey_56 : decode cX8_plainKey 56 = .ok (.getfield 109, 3) := by decide +kernel
theorem dX8_plainKey_59 : decode cX8_plainKey 59 = .ok (.invokevirtual 143, 3) := by decide +kernel
theorem dX8_plainKey_62 : decode cX8_plainKey 62 = .ok (.i2l, 1) := by decide +kernel
theorem dX8_plainKey_63 : decode cX8_plainKey 63 = .ok (.lreturn, 1) := by decide +kernel
theorem dX8_plainKey_64 : decode cX8_plainKey 64 = .ok (.aload_n 3, 1) := by decide +kernel
theorem dX8_plainKey_65 : decode cX8_plainKey 65 = .ok (.getfield 109, 3) := by decide +kernel
theorem dX8_plainKey_68 : decode cX8_plainKey 68 = .ok (.invokevirtual 146, 3) := by decide +kernel
theorem dX8_plainKey_71 : decode cX8_plainKey 71 = .ok (.i2l, 1) := by decide +kernel
theorem dX8_plainKey_72 : decode cX8_plainKey 72 = .ok (.ldc2_w 149, 3) := by decide +kernel
theorem dX8_plainKey_75 : decode cX8_plainKey 75 = .ok (.lmul, 1) := by decide +kernel
theorem dX8_plainKey_76 : decode cX8_plainKey 76 = .ok (.aload_n 3, 1) := by decide +kernel
theorem dX8_plainKey_77 : decode cX8_plainKey 77 = .ok (.getfield 135, 3) := by decide +kernel
theorem dX8_plainKey_80 : decode cX8_plainKey 80 = .ok (.i2l, 1) := by decide +kernel
theorem dX8_plainKey_81 : decode cX8_plainKey 81 = .ok (.ladd, 1) := by decide +kernel
theorem dX8_plainKey_82 : decode cX8_plainKey 82 = .ok (.lreturn, 1) := by decide +kernel
theorem dX8_plainKey_83 : decode cX8_plainKey 83 = .ok (.aload_n 0, 1) := by decide +kernel
theorem dX8_plainKey_84 : decode cX8_plainKey 84 = .ok (.getfield 21, 3) := by decide +kernel
theorem dX8_plainKey_87 : decode cX8_plainKey 87 = .ok (.iload_n 2, 1) := by decide +kernel
theorem dX8_plainKey_88 : decode cX8_plainKey 88 = .ok (.iaload, 1) := by decide +kernel
theorem dX8_plainKey_89 : decode cX8_plainKey 89 = .ok (.i2l, 1) := by decide +kernel
theorem dX8_plainKey_90 : decode cX8_plainKey 90 = .ok (.lreturn, 1) := by decide +kernel
def rm_X8_plainKey : Room := { frames := 1, cells := 0, slots := 0, locals := 26 }
section
variable {p : Program} {l : Launch} {e : Env} {s : State} {m : MethodId} {args : Array Value} {below : List Frame} {meth : Method} {c : Code} {Q : State → Prop} {G : va_G} {aC : Nat → ClassId} {t b0 : Nat}
def f_X8_plainKey (v0 : Nat) (v1 : Nat) (v2 : Int32) (N : AH) : Option (Int64 × AH) := ob (iO N v0 8) (fun _ => ob (hR N v1 7 10) (fun x1 => ob (aR N 2 x1 v2) (fun x2 => ob (hI N v1 7 1) (fun x3 => if x3 = 1 then ob (hI N x2 4 0) (fun x4 => some (Int32.toInt64 x4, N)) else if x3 = 2 then ob (hR N x2 4 5) (fun x6 => ob2 (f_X1_sumOfRests x6 N) (fun x8 N7 => some (Int32.toInt64 x8, N7))) else if x3 = 3 then ob (hR N x2 4 5) (fun x10 => ob2 (f_X1_countUndone x10 N) (fun x12 N11 => some (Int32.toInt64 x12, N11))) else if x3 = 4 then ob (hR N x2 4 5) (fun x14 => ob2 (f_X1_levelReached x14 N) (fun x16 N15 => ob (hI N15 x2 4 0) (fun x17 => some (((Int32.toInt64 x16) * (1000000000 : Int64)) + (Int32.toInt64 x17), N15)))) else ob (hR N v0 8 4) (fun x19 => ob (aI N x19 v2) (fun x20 => some (Int32.toInt64 x20, N)))))))
set_option maxHeartbeats 4000000 in
set_option maxRecDepth 100000 in
theorem wk_X8_plainKey {P : Int64 × AH → Prop} (X : CX cX8_plainKey RX8 4 G aC t b0 p s m args c) (hr : RtJ p l e rm_X8_plainKey s m args below meth c 0 0 Q cX8_plainKey G aC b0 P) (v0 : Nat) (v1 : Nat) (v2 : Int32) (N : AH) (H : Heap) (locs : List Loc) (ls : Array Slot) (hR : Rp G aC b0 N H) (hS : va_S (fun q => b0 ≤ q) s.heap H locs) (hl : lv_has ls 4 [(0, .ref v0), (1, .ref v1), (2, .int v2)]) (hp : owp (f_X8_plainKey v0 v1 v2 N) P) : W p l e rm_X8_plainKey s m args below meth c H locs 0 0 Q (F0 m 0 ls []) := by
  have hx := X.1.1
  have hb := X.1.2.1
  unfold f_X8_plainKey at hp
  obtain ⟨_, _, hp⟩ := owp_ob hp
  refine lv_aload_n hx hb dX8_plainKey_0 rfl (lv_at hl 1 rfl) ?_
  obtain ⟨x1, e_x1, hp⟩ := owp_ob hp
  refine gf_X8_85 X hR e_x1 dX8_plainKey_1 ?_
  refine lv_iload_n hx hb dX8_plainKey_4 rfl (lv_at hl 2 rfl) ?_
  obtain ⟨x2, e_x2, hp⟩ := owp_ob hp
  refine ab_aald X hR (kd := 2) rfl e_x2 dX8_plainKey_5 ?_
  refine lv_astore_n (lv' := [(3, .ref x2), (0, .ref v0), (1, .ref v1), (2, .int v2)]) hx hb dX8_plainKey_6 rfl hl (by decide) rfl (fun ls hl => ?_)
  refine lv_aload_n hx hb dX8_plainKey_7 rfl (lv_at hl 2 rfl) ?_
  obtain ⟨x3, e_x3, hp⟩ := owp_ob hp
  refine gf_X8_79 X hR e_x3 dX8_plainKey_8 ?_
  by_cases k5 : x3 = 1
  · have hp := owp_t k5 hp
    refine lv_tableIn (tgt := 40) (off := 29) hx hb dX8_plainKey_11 (by rw [k5]; decide) (by rw [k5]; decide) (by rw [k5]; rfl) (by decide) ?_
    refine lv_aload_n hx hb dX8_plainKey_40 rfl (lv_at hl 0 rfl) ?_
    obtain ⟨x4, e_x4, hp⟩ := owp_ob hp
    refine gf_X8_135 X hR e_x4 dX8_plainKey_41 ?_
    refine lv_i2l (v := Int32.toInt64 x4) hx hb dX8_plainKey_44 rfl ?_
    exact hr _ _ _ _ _ _ hR hS dX8_plainKey_45 hp
  have hp := owp_f k5 hp
  by_cases k9 : x3 = 2
  · have hp := owp_t k9 hp
    refine lv_tableIn (tgt := 46) (off := 35) hx hb dX8_plainKey_11 (by rw [k9]; decide) (by rw [k9]; decide) (by rw [k9]; rfl) (by decide) ?_
    refine lv_aload_n hx hb dX8_plainKey_46 rfl (lv_at hl 0 rfl) ?_
    obtain ⟨x6, e_x6, hp⟩ := owp_ob hp
    refine gf_X8_109 X hR e_x6 dX8_plainKey_47 ?_
    obtain ⟨x8, N7, e_N7, hp⟩ := owp_ob2 hp
    refine iv_X1_sumOfRests (rest := []) mw_X8_138 X hR hS e_N7 hl.1 (Nat.le_of_ble_eq_true rfl) ⟨Nat.le_of_ble_eq_true rfl, Nat.le_of_ble_eq_true rfl⟩ ⟨Nat.le_of_ble_eq_true rfl, Nat.le_of_ble_eq_true rfl⟩ dX8_plainKey_50 (fun H locs hR hS => ?_)
    refine lv_i2l (v := Int32.toInt64 x8) hx hb dX8_plainKey_53 rfl ?_
    exact hr _ _ _ _ _ _ hR hS dX8_plainKey_54 hp
  have hp := owp_f k9 hp
  by_cases k13 : x3 = 3
  · have hp := owp_t k13 hp
    refine lv_tableIn (tgt := 55) (off := 44) hx hb dX8_plainKey_11 (by rw [k13]; decide) (by rw [k13]; decide) (by rw [k13]; rfl) (by decide) ?_
    refine lv_aload_n hx hb dX8_plainKey_55 rfl (lv_at hl 0 rfl) ?_
    obtain ⟨x10, e_x10, hp⟩ := owp_ob hp
    refine gf_X8_109 X hR e_x10 dX8_plainKey_56 ?_
    obtain ⟨x12, N11, e_N11, hp⟩ := owp_ob2 hp
    refine iv_X1_countUndone (rest := []) mw_X8_143 X hR hS e_N11 hl.1 (Nat.le_of_ble_eq_true rfl) ⟨Nat.le_of_ble_eq_true rfl, Nat.le_of_ble_eq_true rfl⟩ ⟨Nat.le_of_ble_eq_true rfl, Nat.le_of_ble_eq_true rfl⟩ dX8_plainKey_59 (fun H locs hR hS => ?_)
    refine lv_i2l (v := Int32.toInt64 x12) hx hb dX8_plainKey_62 rfl ?_
    exact hr _ _ _ _ _ _ hR hS dX8_plainKey_63 hp
  have hp := owp_f k13 hp
  by_cases k18 : x3 = 4
  · have hp := owp_t k18 hp
    refine lv_tableIn (tgt := 64) (off := 53) hx hb dX8_plainKey_11 (by rw [k18]; decide) (by rw [k18]; decide) (by rw [k18]; rfl) (by decide) ?_
    refine lv_aload_n hx hb dX8_plainKey_64 rfl (lv_at hl 0 rfl) ?_
    obtain ⟨x14, e_x14, hp⟩ := owp_ob hp
    refine gf_X8_109 X hR e_x14 dX8_plainKey_65 ?_
    obtain ⟨x16, N15, e_N15, hp⟩ := owp_ob2 hp
    refine iv_X1_levelReached (rest := []) mw_X8_146 X hR hS e_N15 hl.1 (Nat.le_of_ble_eq_true rfl) ⟨Nat.le_of_ble_eq_true rfl, Nat.le_of_ble_eq_true rfl⟩ ⟨Nat.le_of_ble_eq_true rfl, Nat.le_of_ble_eq_true rfl⟩ dX8_plainKey_68 (fun H locs hR hS => ?_)
    refine lv_i2l (v := Int32.toInt64 x16) hx hb dX8_plainKey_71 rfl ?_
    refine lv_ldc2 (own := RX8) (v := 1000000000) hx hb X.1.2.2.2.1 (X.1.2.2.2.2 _ (WT_of 668 (by decide +kernel) (by decide +kernel))) dX8_plainKey_72 ?_
    refine lv_lmul hx hb dX8_plainKey_75 ?_
    refine lv_aload_n hx hb dX8_plainKey_76 rfl (lv_at hl 0 rfl) ?_
    obtain ⟨x17, e_x17, hp⟩ := owp_ob hp
    refine gf_X8_135 X hR e_x17 dX8_plainKey_77 ?_
    refine lv_i2l (v := Int32.toInt64 x17) hx hb dX8_plainKey_80 rfl ?_
    refine lv_ladd hx hb dX8_plainKey_81 ?_
    exact hr _ _ _ _ _ _ hR hS dX8_plainKey_82 hp
  have hp := owp_f k18 hp
  have hout : Int32.toInt x3 < 1 ∨ 4 < Int32.toInt x3 := by
    have qk5 := lv_neT (a := 1) k5 (by decide)
    have qk9 := lv_neT (a := 2) k9 (by decide)
    have qk13 := lv_neT (a := 3) k13 (by decide)
    have qk18 := lv_neT (a := 4) k18 (by decide)
    omega
  refine lv_tableOut (tgt := 83) hx hb dX8_plainKey_11 hout (by decide) ?_
  refine lv_aload_n hx hb dX8_plainKey_83 rfl (lv_at hl 1 rfl) ?_
  obtain ⟨x19, e_x19, hp⟩ := owp_ob hp
  refine gf_X8_21 X hR e_x19 dX8_plainKey_84 ?_
  refine lv_iload_n hx hb dX8_plainKey_87 rfl (lv_at hl 3 rfl) ?_
  obtain ⟨x20, e_x20, hp⟩ := owp_ob hp
  refine ab_iald X hR e_x20 dX8_plainKey_88 ?_
  refine lv_i2l (v := Int32.toInt64 x20) hx hb dX8_plainKey_89 rfl ?_
  exact hr _ _ _ _ _ _ hR hS dX8_plainKey_90 hp
end
theorem ct_X8_plainKey {v0 : Nat} {v1 : Nat} {v2 : Int32} {N N1 : AH} {r : Int64} (h : f_X8_plainKey v0 v1 v2 N = some (r, N1)) : Ct yX8_plainKey cX8_plainKey 4 (some .long) rm_X8_plainKey [.ref v0, .ref v1, .int v2] N (some (.long r)) N1 :=
  ab_met (own := RX8) (by decide +kernel) rfl (Nat.le_of_ble_eq_true rfl) (fun l G aC t b0 p e s m below meth c ls X hr hlk hnm hR hS hl => wk_X8_plainKey X (RtJ_met X.1.1 X.1.2.1 hr hlk) _ _ _ _ _ _ _ hR hS hl (owp_of h))
theorem cw_X8_plainKey : Cond.code yX8_plainKey cX8_plainKey 4 (some .long) ∈ WT := WT_of 653 (by decide +kernel) (by decide +kernel)
theorem iv_X8_plainKey {p : Program} {l : Launch} {e : Env} {R : Room} {s : State} {m : MethodId} {args : Array Value} {below : List Frame} {meth : Method} {c : Code} {H : Heap} {locs : List Loc} {cells slots : Nat} {Q : State → Prop} {cc : ByteArray} {own : String} {nL : Nat} {G : va_G} {aC : Nat → ClassId} {t b0 : Nat} {N N1 : AH} {pc index : Nat} {ls : Array Slot} {rest : List Value} {v0 : Nat} {v1 : Nat} {v2 : Int32} {r : Int64} (w1 : Cond.methodLink own index yX8_plainKey ∈ WT) (X : CX cc own nL G aC t b0 p s m args c) (hR : Rp G aC b0 N H) (hS : va_S (fun q => b0 ≤ q) s.heap H locs) (h : f_X8_plainKey v0 v1 v2 N = some (r, N1)) (hls : ls.size = nL) (hW : (rest.map fun v => v.category).sum ≤ 8) (hR1 : 2 ≤ R.frames ∧ 49 ≤ R.locals) (hcs : cells + 0 ≤ R.cells ∧ slots + 0 ≤ R.slots) (hdg : decode cc pc = .ok (.invokevirtual index, 3)) (kk : ∀ (H1 : Heap) (locs1 : List Loc), Rp G aC b0 N1 H1 → va_S (fun q => b0 ≤ q) s.heap H1 locs1 → W p l e R s m args below meth c H1 locs1 cells slots Q (F0 m (pc + 3) ls (.long r :: rest))) : W p l e R s m args below meth c H locs cells slots Q (F0 m pc ls (.int v2 :: .ref v1 :: .ref v0 :: rest)) :=
  ab_callV (n := 2) (As := [.ref v1, .int v2]) X hR hS (ct_X8_plainKey h) (ob_rc (c := 8) (N := N) (a := v0) h) (T := TX8) (k := 11) (C := RX8) rfl w1 (WT_of 652 (by decide +kernel) (by decide +kernel)) (WT_of 12 (by decide +kernel) (by decide +kernel)) (WT_of 89 (by decide +kernel) (by decide +kernel)) cw_X8_plainKey ⟨rfl, by decide +kernel, by decide +kernel, by decide +kernel⟩ rfl hls hW hR1 hcs rfl hdg kk
-- X8_isBefore
theorem dX8_isBefore_0 : decode cX8_isBefore 0 = .ok (.aload_n 0, 1) := by decide +kernel
theorem dX8_isBefore_1 : decode cX8_isBefore 1 = .ok (.getfield 24, 3) := by decide +kernel
theorem dX8_isBefore_4 : decode cX8_isBefore 4 = .ok (.iload_n 1, 1) := by decide +kernel
theorem dX8_isBefore_5 : decode cX8_isBefore 5 = .ok (.iaload, 1) := by decide +kernel
theorem dX8_isBefore_6 : decode cX8_isBefore 6 = .ok (.aload_n 0, 1) := by decide +kernel
theorem dX8_isBefore_7 : decode cX8_isBefore 7 = .ok (.getfield 24, 3) := by decide +kernel
theorem dX8_isBefore_10 : decode cX8_isBefore 10 = .ok (.iload_n 2, 1) := by decide +kernel
theorem dX8_isBefore_11 : decode cX8_isBefore 11 = .ok (.iaload, 1) := by decide +kernel
theorem dX8_isBefore_12 : decode cX8_isBefore 12 = .ok (.if_icmp .eq 24, 3) := by decide +kernel
theorem dX8_isBefore_15 : decode cX8_isBefore 15 = .ok (.aload_n 0, 1) := by decide +kernel
theorem dX8_isBefore_16 : decode cX8_isBefore 16 = .ok (.getfield 24, 3) := by decide +kernel
theorem dX8_isBefore_19 : decode cX8_isBefore 19 = .ok (.iload_n 1, 1) := by decide +kernel
theorem dX8_isBefore_20 : decode cX8_isBefore 20 = .ok (.iaload, 1) := by decide +kernel
theorem dX8_isBefore_21 : decode cX8_isBefore 21 = .ok (.aload_n 0, 1) := by decide +kernel
theorem dX8_isBefore_22 : decode cX8_isBefore 22 = .ok (.getfield 24, 3) := by decide +kernel
theorem dX8_isBefore_25 : decode cX8_isBefore 25 = .ok (.iload_n 2, 1) := by decide +kernel
theorem dX8_isBefore_26 : decode cX8_isBefore 26 = .ok (.iaload, 1) := by decide +kernel
theorem dX8_isBefore_27 : decode cX8_isBefore 27 = .ok (.if_icmp .ge 7, 3) := by decide +kernel
theorem dX8_isBefore_30 : decode cX8_isBefore 30 = .ok (.iconst 1, 1) := by decide +kernel
theorem dX8_isBefore_31 : decode cX8_isBefore 31 = .ok (.goto 4, 3) := by decide +kernel
theorem dX8_isBefore_34 : decode cX8_isBefore 34 = .ok (.iconst 0, 1) := by decide +kernel
theorem dX8_isBefore_35 : decode cX8_isBefore 35 = .ok (.ireturn, 1) := by decide +kernel
theorem dX8_isBefore_36 : decode cX8_isBefore 36 = .ok (.aload_n 0, 1) := by decide +kernel
theorem dX8_isBefore_37 : decode cX8_isBefore 37 = .ok (.getfield 27, 3) := by decide +kernel
theorem dX8_isBefore_40 : decode cX8_isBefore 40 = .ok (.iload_n 1, 1) := by decide +kernel
theorem dX8_isBefore_41 : decode cX8_isBefore 41 = .ok (.laload, 1) := by decide +kernel
theorem dX8_isBefore_42 : decode cX8_isBefore 42 = .ok (.aload_n 0, 1) := by decide +kernel
theorem dX8_isBefore_43 : decode cX8_isBefore 43 = .ok (.getfield 31, 3) := by decide +kernel
theorem dX8_isBefore_46 : decode cX8_isBefore 46 = .ok (.iload_n 2, 1) := by decide +kernel
theorem dX8_isBefore_47 : decode cX8_isBefore 47 = .ok (.iaload, 1) := by decide +kernel
theorem dX8_isBefore_48 : decode cX8_isBefore 48 = .ok (.i2l, 1) := by decide +kernel
theorem dX8_isBefore_49 : decode cX8_isBefore 49 = .ok (.lmul, 1) := by decide +kernel
theorem dX8_isBefore_50 : decode cX8_isBefore 50 = .ok (.aload_n 0, 1) := by decide +kernel
theorem dX8_isBefore_51 : decode cX8_isBefore 51 = .ok (.getfield 27, 3) := by decide +kernel
theorem dX8_isBefore_54 : decode cX8_isBefore 54 = .ok (.iload_n 2, 1) := by decide +kernel
theorem dX8_isBefore_55 : decode cX8_isBefore 55 = .ok (.laload, 1) := by decide +kernel
theorem dX8_isBefore_56 : decode cX8_isBefore 56 = .ok (.aload_n 0, 1) := by decide +kernel
theorem dX8_isBefore_57 : decode cX8_isBefore 57 = .ok (.getfield 31, 3) := by decide +kernel
theorem dX8_isBefore_60 : decode cX8_isBefore 60 = .ok (.iload_n 1, 1) := by decide +kernel
theorem dX8_isBefore_61 : decode cX8_isBefore 61 = .ok (.iaload, 1) := by decide +kernel
theorem dX8_isBefore_62 : decode cX8_isBefore 62 = .ok (.i2l, 1) := by decide +kernel
theorem dX8_isBefore_63 : decode cX8_isBefore 63 = .ok (.lmul, 1) := by decide +kernel
theorem dX8_isBefore_64 : decode cX8_isBefore 64 = .ok (.lcmp, 1) := by decide +kernel
theorem dX8_isBefore_65 : decode cX8_isBefore 65 = .ok (.ifCond .ge 7, 3) := by decide +kernel
theorem dX8_isBefore_68 : decode cX8_isBefore 68 = .ok (.iconst 1, 1) := by decide +kernel
theorem dX8_isBefore_69 : decode cX8_isBefore 69 = .ok (.goto 4, 3) := by decide +kernel
theorem dX8_isBefore_72 : decode cX8_isBefore 72 = .ok (.iconst 0, 1) := by decide +kernel
theorem dX8_isBefore_73 : decode cX8_isBefore 73 = .ok (.ireturn, 1) := by decide +kernel
def rm_X8_isBefore : Room := { frames := 0, cells := 0, slots := 0, locals := 0 }
section
variable {p : Program} {l : Launch} {e : Env} {s : State} {m : MethodId} {args : Array Value} {below : List Frame} {meth : Method} {c : Code} {Q : State → Prop} {G : va_G} {aC : Nat → ClassId} {t b0 : Nat}
def f_X8_isBefore (v0 : Nat) (v1 : Int32) (v2 : Int32) (N : AH) : Option (Int32 × AH) := ob (iO N v0 8) (fun _ => ob (hR N v0 8 5) (fun x1 => ob (aI N x1 v1) (fun x2 => ob (hR N v0 8 5) (fun x3 => ob (aI N x3 v2) (fun x4 => if x2 = x4 then ob (hR N v0 8 6) (fun x6 => ob (aJ N x6 v1) (fun x7 => ob (hR N v0 8 7) (fun x8 => ob (aI N x8 v2) (fun x9 => ob (hR N v0 8 6) (fun x10 => ob (aJ N x10 v2) (fun x11 => ob (hR N v0 8 7) (fun x12 => ob (aI N x12 v1) (fun x13 => if 0 ≤ (lg_cmp (x7 * (Int32.toInt64 x9)) (x11 * (Int32.toInt64 x13))) then some ((0 : Int32), N) else some ((1 : Int32), N))))))))) else ob (hR N v0 8 5) (fun x15 => ob (aI N x15 v1) (fun x16 => ob (hR N v0 8 5) (fun x17 => ob (aI N x17 v2) (fun x18 => if x18 ≤ x16 then some ((0 : Int32), N) else some ((1 : Int32), N))))))))))
set_option maxHeartbeats 4000000 in
set_option maxRecDepth 100000 in
theorem wk_X8_isBefore {P : Int32 × AH → Prop} (X : CX cX8_isBefore RX8 3 G aC t b0 p s m args c) (hr : RtZ p l e rm_X8_isBefore s m args below meth c 0 0 Q cX8_isBefore G aC b0 P) (v0 : Nat) (v1 : Int32) (v2 : Int32) (N : AH) (H : Heap) (locs : List Loc) (ls : Array Slot) (hR : Rp G aC b0 N H) (hS : va_S (fun q => b0 ≤ q) s.heap H locs) (hl : lv_has ls 3 [(0, .ref v0), (1, .int v1), (2, .int v2)]) (hp : owp (f_X8_isBefore v0 v1 v2 N) P) : W p l e rm_X8_isBefore s m args below meth c H locs 0 0 Q (F0 m 0 ls []) := by
  have hx := X.1.1
  have hb := X.1.2.1
  unfold f_X8_isBefore at hp
  obtain ⟨_, _, hp⟩ := owp_ob hp
  refine lv_aload_n hx hb dX8_isBefore_0 rfl (lv_at hl 0 rfl) ?_
  obtain ⟨x1, e_x1, hp⟩ := owp_ob hp
  refine gf_X8_24 X hR e_x1 dX8_isBefore_1 ?_
  refine lv_iload_n hx hb dX8_isBefore_4 rfl (lv_at hl 1 rfl) ?_
  obtain ⟨x2, e_x2, hp⟩ := owp_ob hp
  refine ab_iald X hR e_x2 dX8_isBefore_5 ?_
  refine lv_aload_n hx hb dX8_isBefore_6 rfl (lv_at hl 0 rfl) ?_
  obtain ⟨x3, e_x3, hp⟩ := owp_ob hp
  refine gf_X8_24 X hR e_x3 dX8_isBefore_7 ?_
  refine lv_iload_n hx hb dX8_isBefore_10 rfl (lv_at hl 2 rfl) ?_
  obtain ⟨x4, e_x4, hp⟩ := owp_ob hp
  refine ab_iald X hR e_x4 dX8_isBefore_11 ?_
  refine lv_icmp_eq (tgt := 36) hx hb dX8_isBefore_12 (by decide) (fun k5 => ?_) (fun k5 => ?_)
  · have hp := owp_t k5 hp
    refine lv_aload_n hx hb dX8_isBefore_36 rfl (lv_at hl 0 rfl) ?_
    obtain ⟨x6, e_x6, hp⟩ := owp_ob hp
    refine gf_X8_27 X hR e_x6 dX8_isBefore_37 ?_
    refine lv_iload_n hx hb dX8_isBefore_40 rfl (lv_at hl 1 rfl) ?_
    obtain ⟨x7, e_x7, hp⟩ := owp_ob hp
    refine ab_lald X hR e_x7 dX8_isBefore_41 ?_
    refine lv_aload_n hx hb dX8_isBefore_42 rfl (lv_at hl 0 rfl) ?_
    obtain ⟨x8, e_x8, hp⟩ := owp_ob hp
    refine gf_X8_31 X hR e_x8 dX8_isBefore_43 ?_
    refine lv_iload_n hx hb dX8_isBefore_46 rfl (lv_at hl 2 rfl) ?_
    obtain ⟨x9, e_x9, hp⟩ := owp_ob hp
    refine ab_iald X hR e_x9 dX8_isBefore_47 ?_
    refine lv_i2l (v := Int32.toInt64 x9) hx hb dX8_isBefore_48 rfl ?_
    refine lv_lmul hx hb dX8_isBefore_49 ?_
    refine lv_aload_n hx hb dX8_isBefore_50 rfl (lv_at hl 0 rfl) ?_
    obtain ⟨x10, e_x10, hp⟩ := owp_ob hp
    refine gf_X8_27 X hR e_x10 dX8_isBefore_51 ?_
    refine lv_iload_n hx hb dX8_isBefore_54 rfl (lv_at hl 2 rfl) ?_
    obtain ⟨x11, e_x11, hp⟩ := owp_ob hp
    refine ab_lald X hR e_x11 dX8_isBefore_55 ?_
    refine lv_aload_n hx hb dX8_isBefore_56 rfl (lv_at hl 0 rfl) ?_
    obtain ⟨x12, e_x12, hp⟩ := owp_ob hp
    refine gf_X8_31 X hR e_x12 dX8_isBefore_57 ?_
    refine lv_iload_n hx hb dX8_isBefore_60 rfl (lv_at hl 1 rfl) ?_
    obtain ⟨x13, e_x13, hp⟩ := owp_ob hp
    refine ab_iald X hR e_x13 dX8_isBefore_61 ?_
    refine lv_i2l (v := Int32.toInt64 x13) hx hb dX8_isBefore_62 rfl ?_
    refine lv_lmul hx hb dX8_isBefore_63 ?_
    refine W.lcmp hx hb dX8_isBefore_64 ?_
    refine lv_if_ge (tgt := 72) hx hb dX8_isBefore_65 (by decide) (fun k14 => ?_) (fun k14 => ?_)
    · have hp := owp_t k14 hp
      refine lv_iconst (v := (0)) hx hb dX8_isBefore_72 (by decide) ?_
      exact hr _ _ _ _ _ _ hR hS dX8_isBefore_73 (rZ_0 hp)
    · have hp := owp_f k14 hp
      refine lv_iconst (v := (1)) hx hb dX8_isBefore_68 (by decide) ?_
      refine lv_goto (tgt := 73) hx hb dX8_isBefore_69 (by decide) ?_
      exact hr _ _ _ _ _ _ hR hS dX8_isBefore_73 (rZ_1 hp)
  · have hp := owp_f k5 hp
    refine lv_aload_n hx hb dX8_isBefore_15 rfl (lv_at hl 0 rfl) ?_
    obtain ⟨x15, e_x15, hp⟩ := owp_ob hp
    refine gf_X8_24 X hR e_x15 dX8_isBefore_16 ?_
    refine lv_iload_n hx hb dX8_isBefore_19 rfl (lv_at hl 1 rfl) ?_
    obtain ⟨x16, e_x16, hp⟩ := owp_ob hp
    refine ab_iald X hR e_x16 dX8_isBefore_20 ?_
    refine lv_aload_n hx hb dX8_isBefore_21 rfl (lv_at hl 0 rfl) ?_
    obtain ⟨x17, e_x17, hp⟩ := owp_ob hp
    refine gf_X8_24 X hR e_x17 dX8_isBefore_22 ?_
    refine lv_iload_n hx hb dX8_isBefore_25 rfl (lv_at hl 2 rfl) ?_
    obtain ⟨x18, e_x18, hp⟩ := owp_ob hp
    refine ab_iald X hR e_x18 dX8_isBefore_26 ?_
    refine lv_icmp_ge (tgt := 34) hx hb dX8_isBefore_27 (by decide) (fun k19 => ?_) (fun k19 => ?_)
    · have hp := owp_t k19 hp
      refine lv_iconst (v := (0)) hx hb dX8_isBefore_34 (by decide) ?_
      exact hr _ _ _ _ _ _ hR hS dX8_isBefore_35 (rZ_0 hp)
    · have hp := owp_f k19 hp
      refine lv_iconst (v := (1)) hx hb dX8_isBefore_30 (by decide) ?_
      refine lv_goto (tgt := 35) hx hb dX8_isBefore_31 (by decide) ?_
      exact hr _ _ _ _ _ _ hR hS dX8_isBefore_35 (rZ_1 hp)
end
theorem ct_X8_isBefore {v0 : Nat} {v1 : Int32} {v2 : Int32} {N N1 : AH} {r : Int32} (h : f_X8_isBefore v0 v1 v2 N = some (r, N1)) : Ct yX8_isBefore cX8_isBefore 3 (some .boolean) rm_X8_isBefore [.ref v0, .int v1, .int v2] N (some (.int r)) N1 :=
  ab_met (own := RX8) (by decide +kernel) rfl (Nat.le_of_ble_eq_true rfl) (fun l G aC t b0 p e s m below meth c ls X hr hlk hnm hR hS hl => wk_X8_isBefore X (RtZ_met X.1.1 X.1.2.1 hr hlk) _ _ _ _ _ _ _ hR hS hl (owp_of h))
theorem cw_X8_isBefore : Cond.code yX8_isBefore cX8_isBefore 3 (some .boolean) ∈ WT := WT_of 676 (by decide +kernel) (by decide +kernel)
theorem iv_X8_isBefore {p : Program} {l : Launch} {e : Env} {R : Room} {s : State} {m : MethodId} {args : Array Value} {below : List Frame} {meth : Method} {c : Code} {H : Heap} {locs : List Loc} {cells slots : Nat} {Q : State → Prop} {cc : ByteArray} {own : String} {nL : Nat} {G : va_G} {aC : Nat → ClassId} {t b0 : Nat} {N N1 : AH} {pc index : Nat} {ls : Array Slot} {rest : List Value} {v0 : Nat} {v1 : Int32} {v2 : Int32} {r : Int32} (w1 : Cond.methodLink own index yX8_isBefore ∈ WT) (X : CX cc own nL G aC t b0 p s m args c) (hR : Rp G aC b0 N H) (hS : va_S (fun q => b0 ≤ q) s.heap H locs) (h : f_X8_isBefore v0 v1 v2 N = some (r, N1)) (hls : ls.size = nL) (hW : (rest.map fun v => v.category).sum ≤ 8) (hR1 : 1 ≤ R.frames ∧ 22 ≤ R.locals) (hcs : cells + 0 ≤ R.cells ∧ slots + 0 ≤ R.slots) (hdg : decode cc pc = .ok (.invokevirtual index, 3)) (kk : ∀ (H1 : Heap) (locs1 : List Loc), Rp G aC b0 N1 H1 → va_S (fun q => b0 ≤ q) s.heap H1 locs1 → W p l e R s m args below meth c H1 locs1 cells slots Q (F0 m (pc + 3) ls (.int r :: rest))) : W p l e R s m args below meth c H locs cells slots Q (F0 m pc ls (.int v2 :: .int v1 :: .ref v0 :: rest)) :=
  ab_callV (n := 2) (As := [.int v1, .int v2]) X hR hS (ct_X8_isBefore h) (ob_rc (c := 8) (N := N) (a := v0) h) (T := TX8) (k := 11) (C := RX8) rfl w1 (WT_of 675 (by decide +kernel) (by decide +kernel)) (WT_of 14 (by decide +kernel) (by decide +kernel)) (WT_of 89 (by decide +kernel) (by decide +kernel)) cw_X8_isBefore ⟨rfl, by decide +kernel, by decide +kernel, by decide +kernel⟩ rfl hls hW hR1 hcs rfl hdg kk
-- X8_insert
theorem gf_X8_9 {p : Program} {l : Launch} {e : Env} {R : Room} {s : State} {m : MethodId} {args : Array Value} {below : List Frame} {meth : Method} {c : Code} {H : Heap} {locs : List Loc} {cells slots : Nat} {Q : State → Prop} {cc : ByteArray} {nL : Nat} {G : va_G} {aC : Nat → ClassId} {t b0 : Nat} {N : AH} {pc : Nat} {ls : Array Slot} {rest : List Value} {a : Nat} {v : Nat} (X : CX cc RX8 nL G aC t b0 p s m args c) (hR0 : Rp G aC b0 N H) (hv : hR N a 8 1 = some v) (hdg : decode cc pc = .ok (.getfield 9, 3)) (kk : W p l e R s m args below meth c H locs cells slots Q (F0 m (pc + 3) ls (.ref v :: rest))) : W p l e R s m args below meth c H locs cells slots Q (F0 m pc ls (.ref a :: rest)) := by
  obtain ⟨fs, h1, h2⟩ := hR_ok hv
  exact ab_get (C := RX8) (T := TX8) (n := 11) X hR0 h1 h2 rfl inX8 (by decide) (WT_of 348 (by decide +kernel) (by decide +kernel)) hdg kk
theorem gf_X8_53 {p : Program} {l : Launch} {e : Env} {R : Room} {s : State} {m : MethodId} {args : Array Value} {below : List Frame} {meth : Method} {c : Code} {H : Heap} {locs : List Loc} {cells slots : Nat} {Q : State → Prop} {cc : ByteArray} {nL : Nat} {G : va_G} {aC : Nat → ClassId} {t b0 : Nat} {N : AH} {pc : Nat} {ls : Array Slot} {rest : List Value} {a : Nat} {v : Int32} (X : CX cc RX8 nL G aC t b0 p s m args c) (hR0 : Rp G aC b0 N H) (hv : hI N a 8 0 = some v) (hdg : decode cc pc = .ok (.getfield 53, 3)) (kk : W p l e R s m args below meth c H locs cells slots Q (F0 m (pc + 3) ls (.int v :: rest))) : W p l e R s m args below meth c H locs cells slots Q (F0 m pc ls (.ref a :: rest)) := by
  obtain ⟨fs, h1, h2⟩ := hI_ok hv
  exact ab_get (C := RX8) (T := TX8) (n := 11) X hR0 h1 h2 rfl inX8 (by decide) (WT_of 347 (by decide +kernel) (by decide +kernel)) hdg kk
theorem mw_X8_151 : Cond.methodLink RX8 151 yX8_isBefore ∈ WT := WT_of 673 (by decide +kernel) (by decide +kernel)
theorem pf_X8_53 {p : Program} {l : Launch} {e : Env} {R : Room} {s : State} {m : MethodId} {args : Array Value} {below : List Frame} {meth : Method} {c : Code} {H : Heap} {locs : List Loc} {cells slots : Nat} {Q : State → Prop} {cc : ByteArray} {nL : Nat} {G : va_G} {aC : Nat → ClassId} {t b0 : Nat} {N : AH} {pc : Nat} {ls : Array Slot} {rest : List Value} {N1 : AH} {a : Nat} {v : Int32} (X : CX cc RX8 nL G aC t b0 p s m args c) (hR0 : Rp G aC b0 N H) (hS : va_S (fun q => b0 ≤ q) s.heap H locs) (hv : pI N a 8 0 v = some N1) (hdg : decode cc pc = .ok (.putfield 53, 3)) (kk : ∀ (H1 : Heap) (locs1 : List Loc), Rp G aC b0 N1 H1 → va_S (fun q => b0 ≤ q) s.heap H1 locs1 → W p l e R s m args below meth c H1 locs1 cells slots Q (F0 m (pc + 3) ls rest)) : W p l e R s m args below meth c H locs cells slots Q (F0 m pc ls (.int v :: .ref a :: rest)) := by
  obtain ⟨fs, h1, h2, h3⟩ := pV_ok hv
  subst h3
  exact ab_put (C := RX8) (T := TX8) (n := 11) X hR0 hS h1 h2 rfl inX8 tyX8 tyX8_ok nmX8 (by decide) (WT_of 347 (by decide +kernel) (by decide +kernel)) rfl rfl rfl hdg kk
theorem dX8_insert_0 : decode cX8_insert 0 = .ok (.aload_n 0, 1) := by decide +kernel
theorem dX8_insert_1 : decode cX8_insert 1 = .ok (.getfield 53, 3) := by decide +kernel
theorem dX8_insert_4 : decode cX8_insert 4 = .ok (.istore_n 2, 1) := by decide +kernel
theorem dX8_insert_5 : decode cX8_insert 5 = .ok (.iload_n 2, 1) := by decide +kernel
theorem dX8_insert_6 : decode cX8_insert 6 = .ok (.ifCond .le 39, 3) := by decide +kernel
theorem dX8_insert_9 : decode cX8_insert 9 = .ok (.aload_n 0, 1) := by decide +kernel
theorem dX8_insert_10 : decode cX8_insert 10 = .ok (.iload_n 1, 1) := by decide +kernel
theorem dX8_insert_11 : decode cX8_insert 11 = .ok (.aload_n 0, 1) := by decide +kernel
theorem dX8_insert_12 : decode cX8_insert 12 = .ok (.getfield 9, 3) := by decide +kernel
theorem dX8_insert_15 : decode cX8_insert 15 = .ok (.iload_n 2, 1) := by decide +kernel
theorem dX8_insert_16 : decode cX8_insert 16 = .ok (.iconst 1, 1) := by decide +kernel
theorem dX8_insert_17 : decode cX8_insert 17 = .ok (.isub, 1) := by decide +kernel
theorem dX8_insert_18 : decode cX8_insert 18 = .ok (.iaload, 1) := by decide +kernel
theorem dX8_insert_19 : decode cX8_insert 19 = .ok (.invokevirtual 151, 3) := by decide +kernel
theorem dX8_insert_22 : decode cX8_insert 22 = .ok (.ifCond .eq 23, 3) := by decide +kernel
theorem dX8_insert_25 : decode cX8_insert 25 = .ok (.aload_n 0, 1) := by decide +kernel
theorem dX8_insert_26 : decode cX8_insert 26 = .ok (.getfield 9, 3) := by decide +kernel
theorem dX8_insert_29 : decode cX8_insert 29 = .ok (.iload_n 2, 1) := by decide +kernel
theorem dX8_insert_30 : decode cX8_insert 30 = .ok (.aload_n 0, 1) := by decide +kernel
theorem dX8_insert_31 : decode cX8_insert 31 = .ok (.getfield 9, 3) := by decide +kernel
theorem dX8_insert_34 : decode cX8_insert 34 = .ok (.iload_n 2, 1) := by decide +kernel
theorem dX8_insert_35 : decode cX8_insert 35 = .ok (.iconst 1, 1) := by decide +kernel
theorem dX8_insert_36 : decode cX8_insert 36 = .ok (.isub, 1) := by decide +kernel
theorem dX8_insert_37 : decode cX8_insert 37 = .ok (.iaload, 1) := by decide +kernel
theorem dX8_insert_38 : decode cX8_insert 38 = .ok (.iastore, 1) := by decide +kernel
theorem dX8_insert_39 : decode cX8_insert 39 = .ok (.iinc 2 (-1), 3) := by decide +kernel
theorem dX8_insert_42 : decode cX8_insert 42 = .ok (.goto (-37), 3) := by decide +kernel
theorem dX8_insert_45 : decode cX8_insert 45 = .ok (.aload_n 0, 1) := by decide +kernel
theorem dX8_insert_46 : decode cX8_insert 46 = .ok (.getfield 9, 3) := by decide +kernel
theorem dX8_insert_49 : decode cX8_insert 49 = .ok (.iload_n 2, 1) := by decide +kernel
theorem dX8_insert_50 : decode cX8_insert 50 = .ok (.iload_n 1, 1) := by decide +kernel
theorem dX8_insert_51 : decode cX8_insert 51 = .ok (.iastore, 1) := by decide +kernel
theorem dX8_insert_52 : decode cX8_insert 52 = .ok (.aload_n 0, 1) := by decide +kernel
theorem dX8_insert_53 : decode cX8_insert 53 = .ok (.dup, 1) := by decide +kernel
theorem dX8_insert_54 : decode cX8_insert 54 = .ok (.getfield 53, 3) := by decide +kernel
theorem dX8_insert_57 : decode cX8_insert 57 = .ok (.iconst 1, 1) := by decide +kernel
theorem dX8_insert_58 : decode cX8_insert 58 = .ok (.iadd, 1) := by decide +kernel
theorem dX8_insert_59 : decode cX8_insert 59 = .ok (.putfield 53, 3) := by decide +kernel
theorem dX8_insert_62 : decode cX8_insert 62 = .ok (.return_, 1) := by decide +kernel
def rm_X8_insert : Room := { frames := 1, cells := 0, slots := 0, locals := 22 }
section
variable {p : Program} {l : Launch} {e : Env} {s : State} {m : MethodId} {args : Array Value} {below : List Frame} {meth : Method} {c : Code} {Q : State → Prop} {G : va_G} {aC : Nat → ClassId} {t b0 : Nat}
def f_X8_insert_L5 (v0 : Nat) (v1 : Int32) (k45 : Int32 → AH → Option (Unit × AH)) : Nat → Int32 → AH → Option (Unit × AH)
  | 0, _, _ => none
  | n + 1, v2, N => if v2 ≤ 0 then k45 v2 N else ob (hR N v0 8 1) (fun x3 => ob (aI N x3 (v2 - (1 : Int32))) (fun x4 => ob2 (f_X8_isBefore v0 v1 x4 N) (fun x6 N5 => if x6 = 0 then k45 v2 N5 else ob (hR N5 v0 8 1) (fun x8 => ob (hR N5 v0 8 1) (fun x9 => ob (aI N5 x9 (v2 - (1 : Int32))) (fun x10 => ob (sI N5 x8 v2 x10) (fun N11 => f_X8_insert_L5 v0 v1 k45 n (v2 + (-1 : Int32)) N11)))))))
set_option maxHeartbeats 4000000 in
set_option maxRecDepth 100000 in
theorem w_X8_insert_L5 {P : Unit × AH → Prop} (X : CX cX8_insert RX8 3 G aC t b0 p s m args c) (hr : RtV p l e rm_X8_insert s m args below meth c 0 0 Q cX8_insert G aC b0 P) (v0 : Nat) (v1 : Int32) {k45 : Int32 → AH → Option (Unit × AH)}
    (hk45 : ∀ (v2 : Int32) (N : AH) (H : Heap) (locs : List Loc) (ls : Array Slot), Rp G aC b0 N H → va_S (fun q => b0 ≤ q) s.heap H locs → lv_has ls 3 [(0, .ref v0), (1, .int v1), (2, .int v2)] → owp (k45 v2 N) P → W p l e rm_X8_insert s m args below meth c H locs 0 0 Q (F0 m 45 ls [])) :
    ∀ (n : Nat) (v2 : Int32) (N : AH) (H : Heap) (locs : List Loc) (ls : Array Slot), Rp G aC b0 N H → va_S (fun q => b0 ≤ q) s.heap H locs → lv_has ls 3 [(0, .ref v0), (1, .int v1), (2, .int v2)] → owp (f_X8_insert_L5 v0 v1 k45 n v2 N) P → W p l e rm_X8_insert s m args below meth c H locs 0 0 Q (F0 m 5 ls []) := by
  have hx := X.1.1
  have hb := X.1.2.1
  intro n
  induction n with
  | zero =>
    intro v2 N H locs ls hR hS hl hp
    exact (show False from hp).elim
  | succ n ih =>
    intro v2 N H locs ls hR hS hl hp
    rw [f_X8_insert_L5] at hp
    refine lv_iload_n hx hb dX8_insert_5 rfl (lv_at hl 2 rfl) ?_
    refine lv_if_le (tgt := 45) hx hb dX8_insert_6 (by decide) (fun k2 => ?_) (fun k2 => ?_)
    · have hp := owp_t k2 hp
      exact hk45 _ _ _ _ _ hR hS hl hp
    · have hp := owp_f k2 hp
      refine lv_aload_n hx hb dX8_insert_9 rfl (lv_at hl 0 rfl) ?_
      refine lv_iload_n hx hb dX8_insert_10 rfl (lv_at hl 1 rfl) ?_
      refine lv_aload_n hx hb dX8_insert_11 rfl (lv_at hl 0 rfl) ?_
      obtain ⟨x3, e_x3, hp⟩ := owp_ob hp
      refine gf_X8_9 X hR e_x3 dX8_insert_12 ?_
      refine lv_iload_n hx hb dX8_insert_15 rfl (lv_at hl 2 rfl) ?_
      refine lv_iconst (v := (1)) hx hb dX8_insert_16 (by decide) ?_
      refine lv_isub hx hb dX8_insert_17 ?_
      obtain ⟨x4, e_x4, hp⟩ := owp_ob hp
      refine ab_iald X hR e_x4 dX8_insert_18 ?_
      obtain ⟨x6, N5, e_N5, hp⟩ := owp_ob2 hp
      refine iv_X8_isBefore (rest := []) mw_X8_151 X hR hS e_N5 hl.1 (Nat.le_of_ble_eq_true rfl) ⟨Nat.le_of_ble_eq_true rfl, Nat.le_of_ble_eq_true rfl⟩ ⟨Nat.le_of_ble_eq_true rfl, Nat.le_of_ble_eq_true rfl⟩ dX8_insert_19 (fun H locs hR hS => ?_)
      refine lv_if_eq (tgt := 45) hx hb dX8_insert_22 (by decide) (fun k7 => ?_) (fun k7 => ?_)
      · have hp := owp_t k7 hp
        exact hk45 _ _ _ _ _ hR hS hl hp
      · have hp := owp_f k7 hp
        refine lv_aload_n hx hb dX8_insert_25 rfl (lv_at hl 0 rfl) ?_
        obtain ⟨x8, e_x8, hp⟩ := owp_ob hp
        refine gf_X8_9 X hR e_x8 dX8_insert_26 ?_
        refine lv_iload_n hx hb dX8_insert_29 rfl (lv_at hl 2 rfl) ?_
        refine lv_aload_n hx hb dX8_insert_30 rfl (lv_at hl 0 rfl) ?_
        obtain ⟨x9, e_x9, hp⟩ := owp_ob hp
        refine gf_X8_9 X hR e_x9 dX8_insert_31 ?_
        refine lv_iload_n hx hb dX8_insert_34 rfl (lv_at hl 2 rfl) ?_
        refine lv_iconst (v := (1)) hx hb dX8_insert_35 (by decide) ?_
        refine lv_isub hx hb dX8_insert_36 ?_
        obtain ⟨x10, e_x10, hp⟩ := owp_ob hp
        refine ab_iald X hR e_x10 dX8_insert_37 ?_
        obtain ⟨N11, e_N11, hp⟩ := owp_ob hp
        refine ab_iast X hR hS e_N11 dX8_insert_38 (fun H locs hR hS => ?_)
        refine lv_iinc (v := v2 + (-1 : Int32)) (lv' := [(2, .int (v2 + (-1 : Int32))), (0, .ref v0), (1, .int v1)]) hx hb dX8_insert_39 hl (k := 2) rfl rfl (by decide) rfl (fun ls hl => ?_)
        refine lv_goto (tgt := 5) hx hb dX8_insert_42 (by decide) ?_
        exact ih _ _ _ _ _ hR hS (lv_sub hl [1, 2, 0] rfl) hp
def f_X8_insert_J45 (v0 : Nat) (v1 : Int32) (v2 : Int32) (N : AH) : Option (Unit × AH) := ob (hR N v0 8 1) (fun x14 => ob (sI N x14 v2 v1) (fun N15 => ob (hI N15 v0 8 0) (fun x16 => ob (pI N15 v0 8 0 (x16 + (1 : Int32))) (fun N17 => some ((), N17)))))
set_option maxHeartbeats 4000000 in
set_option maxRecDepth 100000 in
theorem w_X8_insert_J45 {P : Unit × AH → Prop} (X : CX cX8_insert RX8 3 G aC t b0 p s m args c) (hr : RtV p l e rm_X8_insert s m args below meth c 0 0 Q cX8_insert G aC b0 P) (v0 : Nat) (v1 : Int32) (v2 : Int32) (N : AH) (H : Heap) (locs : List Loc) (ls : Array Slot) (hR : Rp G aC b0 N H) (hS : va_S (fun q => b0 ≤ q) s.heap H locs) (hl : lv_has ls 3 [(0, .ref v0), (1, .int v1), (2, .int v2)]) (hp : owp (f_X8_insert_J45 v0 v1 v2 N) P) : W p l e rm_X8_insert s m args below meth c H locs 0 0 Q (F0 m 45 ls []) := by
  have hx := X.1.1
  have hb := X.1.2.1
  unfold f_X8_insert_J45 at hp
  refine lv_aload_n hx hb dX8_insert_45 rfl (lv_at hl 0 rfl) ?_
  obtain ⟨x14, e_x14, hp⟩ := owp_ob hp
  refine gf_X8_9 X hR e_x14 dX8_insert_46 ?_
  refine lv_iload_n hx hb dX8_insert_49 rfl (lv_at hl 2 rfl) ?_
  refine lv_iload_n hx hb dX8_insert_50 rfl (lv_at hl 1 rfl) ?_
  obtain ⟨N15, e_N15, hp⟩ := owp_ob hp
  refine ab_iast X hR hS e_N15 dX8_insert_51 (fun H locs hR hS => ?_)
  refine lv_aload_n hx hb dX8_insert_52 rfl (lv_at hl 0 rfl) ?_
  refine lv_dup hx hb dX8_insert_53 rfl ?_
  obtain ⟨x16, e_x16, hp⟩ := owp_ob hp
  refine gf_X8_53 X hR e_x16 dX8_insert_54 ?_
  refine lv_iconst (v := (1)) hx hb dX8_insert_57 (by decide) ?_
  refine lv_iadd hx hb dX8_insert_58 ?_
  obtain ⟨N17, e_N17, hp⟩ := owp_ob hp
  refine pf_X8_53 X hR hS e_N17 dX8_insert_59 (fun H locs hR hS => ?_)
  exact hr _ _ _ _ _ hR hS dX8_insert_62 hp
def f_X8_insert (v0 : Nat) (v1 : Int32) (N : AH) : Option (Unit × AH) := ob (iO N v0 8) (fun _ => ob (hI N v0 8 0) (fun x1 => f_X8_insert_L5 v0 v1 (fun v12 N13 => f_X8_insert_J45 v0 v1 v12 N13) FU x1 N))
set_option maxHeartbeats 4000000 in
set_option maxRecDepth 100000 in
theorem wk_X8_insert {P : Unit × AH → Prop} (X : CX cX8_insert RX8 3 G aC t b0 p s m args c) (hr : RtV p l e rm_X8_insert s m args below meth c 0 0 Q cX8_insert G aC b0 P) (v0 : Nat) (v1 : Int32) (N : AH) (H : Heap) (locs : List Loc) (ls : Array Slot) (hR : Rp G aC b0 N H) (hS : va_S (fun q => b0 ≤ q) s.heap H locs) (hl : lv_has ls 3 [(0, .ref v0), (1, .int v1)]) (hp : owp (f_X8_insert v0 v1 N) P) : W p l e rm_X8_insert s m args below meth c H locs 0 0 Q (F0 m 0 ls []) := by
  have hx := X.1.1
  have hb := X.1.2.1
  unfold f_X8_insert at hp
  obtain ⟨_, _, hp⟩ := owp_ob hp
  refine lv_aload_n hx hb dX8_insert_0 rfl (lv_at hl 0 rfl) ?_
  obtain ⟨x1, e_x1, hp⟩ := owp_ob hp
  refine gf_X8_53 X hR e_x1 dX8_insert_1 ?_
  refine lv_istore_n (lv' := [(2, .int x1), (0, .ref v0), (1, .int v1)]) hx hb dX8_insert_4 rfl hl (by decide) rfl (fun ls hl => ?_)
  refine w_X8_insert_L5 X hr _ _ (fun v12 N13 H locs ls hR hS hl hp => ?_) _ _ _ _ _ _ hR hS (lv_sub hl [1, 2, 0] rfl) hp
  exact w_X8_insert_J45 X hr _ _ _ _ _ _ _ hR hS hl hp
end
theorem ct_X8_insert {v0 : Nat} {v1 : Int32} {N N1 : AH} {r : Unit} (h : f_X8_insert v0 v1 N = some (r, N1)) : Ct yX8_insert cX8_insert 3 none rm_X8_insert [.ref v0, .int v1] N none N1 :=
  ab_met (own := RX8) (by decide +kernel) rfl (Nat.le_of_ble_eq_true rfl) (fun l G aC t b0 p e s m below meth c ls X hr hlk hnm hR hS hl => wk_X8_insert X (RtV_met X.1.1 X.1.2.1 hr hlk) _ _ _ _ _ _ hR hS hl (owp_of h))
theorem cw_X8_insert : Cond.code yX8_insert cX8_insert 3 none ∈ WT := WT_of 672 (by decide +kernel) (by decide +kernel)
theorem iv_X8_insert {p : Program} {l : Launch} {e : Env} {R : Room} {s : State} {m : MethodId} {args : Array Value} {below : List Frame} {meth : Method} {c : Code} {H : Heap} {locs : List Loc} {cells slots : Nat} {Q : State → Prop} {cc : ByteArray} {own : String} {nL : Nat} {G : va_G} {aC : Nat → ClassId} {t b0 : Nat} {N N1 : AH} {pc index : Nat} {ls : Array Slot} {rest : List Value} {v0 : Nat} {v1 : Int32} {r : Unit} (w1 : Cond.methodLink own index yX8_insert ∈ WT) (X : CX cc own nL G aC t b0 p s m args c) (hR : Rp G aC b0 N H) (hS : va_S (fun q => b0 ≤ q) s.heap H locs) (h : f_X8_insert v0 v1 N = some (r, N1)) (hls : ls.size = nL) (hW : (rest.map fun v => v.category).sum ≤ 8) (hR1 : 2 ≤ R.frames ∧ 44 ≤ R.locals) (hcs : cells + 0 ≤ R.cells ∧ slots + 0 ≤ R.slots) (hdg : decode cc pc = .ok (.invokevirtual index, 3)) (kk : ∀ (H1 : Heap) (locs1 : List Loc), Rp G aC b0 N1 H1 → va_S (fun q => b0 ≤ q) s.heap H1 locs1 → W p l e R s m args below meth c H1 locs1 cells slots Q (F0 m (pc + 3) ls rest)) : W p l e R s m args below meth c H locs cells slots Q (F0 m pc ls (.int v1 :: .ref v0 :: rest)) :=
  ab_callV (n := 1) (As := [.int v1]) X hR hS (ct_X8_insert h) (ob_rc (c := 8) (N := N) (a := v0) h) (T := TX8) (k := 11) (C := RX8) rfl w1 (WT_of 671 (by decide +kernel) (by decide +kernel)) (WT_of 13 (by decide +kernel) (by decide +kernel)) (WT_of 89 (by decide +kernel) (by decide +kernel)) cw_X8_insert ⟨rfl, by decide +kernel, by decide +kernel, by decide +kernel⟩ rfl hls hW hR1 hcs rfl hdg kk
-- X8_putInOrder
theorem gf_X8_70 {p : Program} {l : Launch} {e : Env} {R : Room} {s : State} {m : MethodId} {args : Array Value} {below : List Frame} {meth : Method} {c : Code} {H : Heap} {locs : List Loc} {cells slots : Nat} {Q : State → Prop} {cc : ByteArray} {nL : Nat} {G : va_G} {aC : Nat → ClassId} {t b0 : Nat} {N : AH} {pc : Nat} {ls : Array Slot} {rest : List Value} {a : Nat} {v : Int32} (X : CX cc RX8 nL G aC t b0 p s m args c) (hR0 : Rp G aC b0 N H) (hv : hI N a 7 0 = some v) (hdg : decode cc pc = .ok (.getfield 70, 3)) (kk : W p l e R s m args below meth c H locs cells slots Q (F0 m (pc + 3) ls (.int v :: rest))) : W p l e R s m args below meth c H locs cells slots Q (F0 m pc ls (.ref a :: rest)) := by
  obtain ⟨fs, h1, h2⟩ := hI_ok hv
  exact ab_get (C := RX7) (T := TX7) (n := 12) X hR0 h1 h2 rfl inX7 (by decide) (WT_of 254 (by decide +kernel) (by decide +kernel)) hdg kk
theorem gf_X8_82 {p : Program} {l : Launch} {e : Env} {R : Room} {s : State} {m : MethodId} {args : Array Value} {below : List Frame} {meth : Method} {c : Code} {H : Heap} {locs : List Loc} {cells slots : Nat} {Q : State → Prop} {cc : ByteArray} {nL : Nat} {G : va_G} {aC : Nat → ClassId} {t b0 : Nat} {N : AH} {pc : Nat} {ls : Array Slot} {rest : List Value} {a : Nat} {v : Int32} (X : CX cc RX8 nL G aC t b0 p s m args c) (hR0 : Rp G aC b0 N H) (hv : hI N a 7 6 = some v) (hdg : decode cc pc = .ok (.getfield 82, 3)) (kk : W p l e R s m args below meth c H locs cells slots Q (F0 m (pc + 3) ls (.int v :: rest))) : W p l e R s m args below meth c H locs cells slots Q (F0 m pc ls (.ref a :: rest)) := by
  obtain ⟨fs, h1, h2⟩ := hI_ok hv
  exact ab_get (C := RX7) (T := TX7) (n := 12) X hR0 h1 h2 rfl inX7 (by decide) (WT_of 275 (by decide +kernel) (by decide +kernel)) hdg kk
theorem gf_X8_95 {p : Program} {l : Launch} {e : Env} {R : Room} {s : State} {m : MethodId} {args : Array Value} {below : List Frame} {meth : Method} {c : Code} {H : Heap} {locs : List Loc} {cells slots : Nat} {Q : State → Prop} {cc : ByteArray} {nL : Nat} {G : va_G} {aC : Nat → ClassId} {t b0 : Nat} {N : AH} {pc : Nat} {ls : Array Slot} {rest : List Value} {a : Nat} {v : Int32} (X : CX cc RX8 nL G aC t b0 p s m args c) (hR0 : Rp G aC b0 N H) (hv : hI N a 7 3 = some v) (hdg : decode cc pc = .ok (.getfield 95, 3)) (kk : W p l e R s m args below meth c H locs cells slots Q (F0 m (pc + 3) ls (.int v :: rest))) : W p l e R s m args below meth c H locs cells slots Q (F0 m pc ls (.ref a :: rest)) := by
  obtain ⟨fs, h1, h2⟩ := hI_ok hv
  exact ab_get (C := RX7) (T := TX7) (n := 12) X hR0 h1 h2 rfl inX7 (by decide) (WT_of 265 (by decide +kernel) (by decide +kernel)) hdg kk
theorem gf_X8_99 {p : Program} {l : Launch} {e : Env} {R : Room} {s : State} {m : MethodId} {args : Array Value} {below : List Frame} {meth : Method} {c : Code} {H : Heap} {locs : List Loc} {cells slots : Nat} {Q : State → Prop} {cc : ByteArray} {nL : Nat} {G : va_G} {aC : Nat → ClassId} {t b0 : Nat} {N : AH} {pc : Nat} {ls : Array Slot} {rest : List Value} {a : Nat} {v : Int32} (X : CX cc RX8 nL G aC t b0 p s m args c) (hR0 : Rp G aC b0 N H) (hv : hI N a 4 2 = some v) (hdg : decode cc pc = .ok (.getfield 99, 3)) (kk : W p l e R s m args below meth c H locs cells slots Q (F0 m (pc + 3) ls (.int v :: rest))) : W p l e R s m args below meth c H locs cells slots Q (F0 m pc ls (.ref a :: rest)) := by
  obtain ⟨fs, h1, h2⟩ := hI_ok hv
  exact ab_get (C := RX4) (T := TX4) (n := 6) X hR0 h1 h2 rfl inX4 (by decide) (WT_of 200 (by decide +kernel) (by decide +kernel)) hdg kk
theorem gf_X8_113 {p : Program} {l : Launch} {e : Env} {R : Room} {s : State} {m : MethodId} {args : Array Value} {below : List Frame} {meth : Method} {c : Code} {H : Heap} {locs : List Loc} {cells slots : Nat} {Q : State → Prop} {cc : ByteArray} {nL : Nat} {G : va_G} {aC : Nat → ClassId} {t b0 : Nat} {N : AH} {pc : Nat} {ls : Array Slot} {rest : List Value} {a : Nat} {v : Nat} (X : CX cc RX8 nL G aC t b0 p s m args c) (hR0 : Rp G aC b0 N H) (hv : hR N a 7 7 = some v) (hdg : decode cc pc = .ok (.getfield 113, 3)) (kk : W p l e R s m args below meth c H locs cells slots Q (F0 m (pc + 3) ls (.ref v :: rest))) : W p l e R s m args below meth c H locs cells slots Q (F0 m pc ls (.ref a :: rest)) := by
  obtain ⟨fs, h1, h2⟩ := hR_ok hv
  exact ab_get (C := RX7) (T := TX7) (n := 12) X hR0 h1 h2 rfl inX7 (by decide) (WT_of 279 (by decide +kernel) (by decide +kernel)) hdg kk
theorem gf_X8_120 {p : Program} {l : Launch} {e : Env} {R : Room} {s : State} {m : MethodId} {args : Array Value} {below : List Frame} {meth : Method} {c : Code} {H : Heap} {locs : List Loc} {cells slots : Nat} {Q : State → Prop} {cc : ByteArray} {nL : Nat} {G : va_G} {aC : Nat → ClassId} {t b0 : Nat} {N : AH} {pc : Nat} {ls : Array Slot} {rest : List Value} {a : Nat} {v : Int32} (X : CX cc RX8 nL G aC t b0 p s m args c) (hR0 : Rp G aC b0 N H) (hv : hI N a 4 1 = some v) (hdg : decode cc pc = .ok (.getfield 120, 3)) (kk : W p l e R s m args below meth c H locs cells slots Q (F0 m (pc + 3) ls (.int v :: rest))) : W p l e R s m args below meth c H locs cells slots Q (F0 m pc ls (.ref a :: rest)) := by
  obtain ⟨fs, h1, h2⟩ := hI_ok hv
  exact ab_get (C := RX4) (T := TX4) (n := 6) X hR0 h1 h2 rfl inX4 (by decide) (WT_of 195 (by decide +kernel) (by decide +kernel)) hdg kk
theorem mw_X8_89 : Cond.methodLink RX8 89 yX4_stateAt ∈ WT := WT_of 619 (by decide +kernel) (by decide +kernel)
theorem mw_X8_102 : Cond.methodLink RX8 102 yX4_deadlineEnd ∈ WT := WT_of 623 (by decide +kernel) (by decide +kernel)
theorem mw_X8_116 : Cond.methodLink RX8 116 yX8_spanOf ∈ WT := WT_of 628 (by decide +kernel) (by decide +kernel)
theorem mw_X8_123 : Cond.methodLink RX8 123 yX8_setSpanKey ∈ WT := WT_of 646 (by decide +kernel) (by decide +kernel)
theorem mw_X8_127 : Cond.methodLink RX8 127 yX8_plainKey ∈ WT := WT_of 650 (by decide +kernel) (by decide +kernel)
theorem mw_X8_131 : Cond.methodLink RX8 131 yX8_insert ∈ WT := WT_of 669 (by decide +kernel) (by decide +kernel)
theorem dX8_putInOrder_0 : decode cX8_putInOrder 0 = .ok (.aload_n 1, 1) := by decide +kernel
theorem dX8_putInOrder_1 : decode cX8_putInOrder 1 = .ok (.getfield 79, 3) := by decide +kernel
theorem dX8_putInOrder_4 : decode cX8_putInOrder 4 = .ok (.ifCond .eq 11, 3) := by decide +kernel
theorem dX8_putInOrder_7 : decode cX8_putInOrder 7 = .ok (.aload_n 1, 1) := by decide +kernel
theorem dX8_putInOrder_8 : decode cX8_putInOrder 8 = .ok (.getfield 79, 3) := by decide +kernel
theorem dX8_putInOrder_11 : decode cX8_putInOrder 11 = .ok (.iconst 5, 1) := by decide +kernel
theorem dX8_putInOrder_12 : decode cX8_putInOrder 12 = .ok (.if_icmp .ne 7, 3) := by decide +kernel
theorem dX8_putInOrder_15 : decode cX8_putInOrder 15 = .ok (.iconst 1, 1) := by decide +kernel
theorem dX8_putInOrder_16 : decode cX8_putInOrder 16 = .ok (.goto 4, 3) := by decide +kernel
theorem dX8_putInOrder_19 : decode cX8_putInOrder 19 = .ok (.iconst 0, 1) := by decide +kernel
theorem dX8_putInOrder_20 : decode cX8_putInOrder 20 = .ok (.istore_n 2, 1) := by decide +kernel
theorem dX8_putInOrder_21 : decode cX8_putInOrder 21 = .ok (.aload_n 0, 1) := by decide +kernel
theorem dX8_putInOrder_22 : decode cX8_putInOrder 22 = .ok (.iconst 0, 1) := by decide +kernel
theorem dX8_putInOrder_23 : decode cX8_putInOrder 23 = .ok (.putfield 53, 3) := by decide +kernel
theorem dX8_putInOrder_26 : decode cX8_putInOrder 26 = .ok (.iconst 0, 1) := by decide +kernel
theorem dX8_putInOrder_27 : decode cX8_putInOrder 27 = .ok (.istore_n 3, 1) := by decide +kernel
theorem dX8_putInOrder_28 : decode cX8_putInOrder 28 = .ok (.iload_n 3, 1) := by decide +kernel
theorem dX8_putInOrder_29 : decode cX8_putInOrder 29 = .ok (.aload_n 1, 1) := by decide +kernel
theorem dX8_putInOrder_30 : decode cX8_putInOrder 30 = .ok (.getfield 82, 3) := by decide +kernel
theorem dX8_putInOrder_33 : decode cX8_putInOrder 33 = .ok (.if_icmp .ge 123, 3) := by decide +kernel
theorem dX8_putInOrder_36 : decode cX8_putInOrder 36 = .ok (.aload_n 1, 1) := by decide +kernel
theorem dX8_putInOrder_37 : decode cX8_putInOrder 37 = .ok (.getfield 85, 3) := by decide +kernel
theorem dX8_putInOrder_40 : decode cX8_putInOrder 40 = .ok (.iload_n 3, 1) := by decide +kernel
theorem dX8_putInOrder_41 : decode cX8_putInOrder 41 = .ok (.aaload, 1) := by decide +kernel
theorem dX8_putInOrder_42 : decode cX8_putInOrder 42 = .ok (.astore 4, 2) := by decide +kernel
theorem dX8_putInOrder_44 : decode cX8_putInOrder 44 = .ok (.aload 4, 2) := by decide +kernel
theorem dX8_putInOrder_46 : decode cX8_putInOrder 46 = .ok (.aload_n 1, 1) := by decide +kernel
theorem dX8_putInOrder_47 : decode cX8_putInOrder 47 = .ok (.getfield 70, 3) := by decide +kernel
theorem dX8_putInOrder_50 : decode cX8_putInOrder 50 = .ok (.invokevirtual 89, 3) := by decide +kernel
theorem dX8_putInOrder_53 : decode cX8_putInOrder 53 = .ok (.iconst 1, 1) := by decide +kernel
theorem dX8_putInOrder_54 : decode cX8_putInOrder 54 = .ok (.if_icmp .eq 6, 3) := by decide +kernel
theorem dX8_putInOrder_57 : decode cX8_putInOrder 57 = .ok (.goto 93, 3) := by decide +kernel
theorem dX8_putInOrder_60 : decode cX8_putInOrder 60 = .ok (.aload_n 1, 1) := by decide +kernel
theorem dX8_putInOrder_61 : decode cX8_putInOrder 61 = .ok (.getfield 95, 3) := by decide +kernel
theorem dX8_putInOrder_64 : decode cX8_putInOrder 64 = .ok (.ifCond .eq 27, 3) := by decide +kernel
theorem dX8_putInOrder_67 : decode cX8_putInOrder 67 = .ok (.aload 4, 2) := by decide +kernel
theorem dX8_putInOrder_69 : decode cX8_putInOrder 69 = .ok (.getfield 99, 3) := by decide +kernel
theorem dX8_putInOrder_72 : decode cX8_putInOrder 72 = .ok (.ifCond .le 19, 3) := by decide +kernel
theorem dX8_putInOrder_75 : decode cX8_putInOrder 75 = .ok (.aload_n 0, 1) := by decide +kernel
theorem dX8_putInOrder_76 : decode cX8_putInOrder 76 = .ok (.iload_n 3, 1) := by decide +kernel
theorem dX8_putInOrder_77 : decode cX8_putInOrder 77 = .ok (.iconst 0, 1) := by decide +kernel
theorem dX8_putInOrder_78 : decode cX8_putInOrder 78 = .ok (.aload 4, 2) := by decide +kernel
theorem dX8_putInOrder_80 : decode cX8_putInOrder 80 = .ok (.invokevirtual 102, 3) := by decide +kernel
theorem dX8_putInOrder_83 : decode cX8_putInOrder 83 = .ok (.i2l, 1) := by decide +kernel
theorem dX8_putInOrder_84 : decode cX8_putInOrder 84 = .ok (.iconst 1, 1) := by decide +kernel
theorem dX8_putInOrder_85 : decode cX8_putInOrder 85 = .ok (.invokevirtual 105, 3) := by decide +kernel
theorem dX8_putInOrder_88 : decode cX8_putInOrder 88 = .ok (.goto 57, 3) := by decide +kernel
theorem dX8_putInOrder_91 : decode cX8_putInOrder 91 = .ok (.iload_n 2, 1) := by decide +kernel
theorem dX8_putInOrder_92 : decode cX8_putInOrder 92 = .ok (.ifCond .eq 40, 3) := by decide +kernel
theorem dX8_putInOrder_95 : decode cX8_putInOrder 95 = .ok (.aload_n 0, 1) := by decide +kernel
theorem dX8_putInOrder_96 : decode cX8_putInOrder 96 = .ok (.iload_n 3, 1) := by decide +kernel
theorem dX8_putInOrder_97 : decode cX8_putInOrder 97 = .ok (.aload_n 0, 1) := by decide +kernel
theorem dX8_putInOrder_98 : decode cX8_putInOrder 98 = .ok (.aload 4, 2) := by decide +kernel
theorem dX8_putInOrder_100 : decode cX8_putInOrder 100 = .ok (.getfield 109, 3) := by decide +kernel
theorem dX8_putInOrder_103 : decode cX8_putInOrder 103 = .ok (.aload_n 1, 1) := by decide +kernel
theorem dX8_putInOrder_104 : decode cX8_putInOrder 104 = .ok (.getfield 113, 3) := by decide +kernel
theorem dX8_putInOrder_107 : decode cX8_putInOrder 107 = .ok (.invokevirtual 116, 3) := by decide +kernel
theorem dX8_putInOrder_110 : decode cX8_putInOrder 110 = .ok (.aload_n 1, 1) := by decide +kernel
theorem dX8_putInOrder_111 : decode cX8_putInOrder 111 = .ok (.getfield 79, 3) := by decide +kernel
theorem dX8_putInOrder_114 : decode cX8_putInOrder 114 = .ok (.ifCond .ne 7, 3) := by decide +kernel
theorem dX8_putInOrder_117 : decode cX8_putInOrder 117 = .ok (.iconst 1, 1) := by decide +kernel
theorem dX8_putInOrder_118 : decode cX8_putInOrder 118 = .ok (.goto 8, 3) := by decide +kernel
theorem dX8_putInOrder_121 : decode cX8_putInOrder 121 = .ok (.aload 4, 2) := by decide +kernel
theorem dX8_putInOrder_123 : decode cX8_putInOrder 123 = .ok (.getfield 120, 3) := by decide +kernel
theorem dX8_putInOrder_126 : decode cX8_putInOrder 126 = .ok (.invokevirtual 123, 3) := by decide +kernel
theorem dX8_putInOrder_129 : decode cX8_putInOrder 129 = .ok (.goto 16, 3) := by decide +kernel
theorem dX8_putInOrder_132 : decode cX8_putInOrder 132 = .ok (.aload_n 0, 1) := by decide +kernel
theorem dX8_putInOrder_133 : decode cX8_putInOrder 133 = .ok (.iload_n 3, 1) := by decide +kernel
theorem dX8_putInOrder_134 : decode cX8_putInOrder 134 = .ok (.iconst 1, 1) := by decide +kernel
theorem dX8_putInOrder_135 : decode cX8_putInOrder 135 = .ok (.aload_n 0, 1) := by decide +kernel
theorem dX8_putInOrder_136 : decode cX8_putInOrder 136 = .ok (.aload_n 1, 1) := by decide +kernel
theorem dX8_putInOrder_137 : decode cX8_putInOrder 137 = .ok (.iload_n 3, 1) := by decide +kernel
theorem dX8_putInOrder_138 : decode cX8_putInOrder 138 = .ok (.invokevirtual 127, 3) := by decide +kernel
theorem dX8_putInOrder_141 : decode cX8_putInOrder 141 = .ok (.iconst 1, 1) := by decide +kernel
theorem dX8_putInOrder_142 : decode cX8_putInOrder 142 = .ok (.invokevirtual 105, 3) := by decide +kernel
theorem dX8_putInOrder_145 : decode cX8_putInOrder 145 = .ok (.aload_n 0, 1) := by decide +kernel
theorem dX8_putInOrder_146 : decode cX8_putInOrder 146 = .ok (.iload_n 3, 1) := by decide +kernel
theorem dX8_putInOrder_147 : decode cX8_putInOrder 147 = .ok (.invokevirtual 131, 3) := by decide +kernel
theorem dX8_putInOrder_150 : decode cX8_putInOrder 150 = .ok (.iinc 3 1, 3) := by decide +kernel
theorem dX8_putInOrder_153 : decode cX8_putInOrder 153 = .ok (.goto (-125), 3) := by decide +kernel
theorem dX8_putInOrder_156 : decode cX8_putInOrder 156 = .ok (.return_, 1) := by decide +kernel
def rm_X8_putInOrder : Room := { frames := 3, cells := 0, slots := 0, locals := 77 }
section
variable {p : Program} {l : Launch} {e : Env} {s : State} {m : MethodId} {args : Array Value} {below : List Frame} {meth : Method} {c : Code} {Q : State → Prop} {G : va_G} {aC : Nat → ClassId} {t b0 : Nat}
def f_X8_putInOrder_J91 (k28 : Int32 → AH → Option (Unit × AH)) (v0 : Nat) (v1 : Nat) (v2 : Int32) (v3 : Int32) (v4 : Nat) (N : AH) : Option (Unit × AH) := if v2 = 0 then ob2 (f_X8_plainKey v0 v1 v3 N) (fun x16 N15 => ob2 (f_X8_setKey v0 v3 (1 : Int32) x16 (1 : Int32) N15) (fun _ N17 => ob2 (f_X8_insert v0 v3 N17) (fun _ N18 => k28 (v3 + 1) N18))) else ob (hR N v4 4 5) (fun x19 => ob (hR N v1 7 7) (fun x20 => ob2 (f_X8_spanOf v0 x19 x20 N) (fun x22 N21 => ob (hI N21 v1 7 1) (fun x23 => if ¬ x23 = 0 then ob (hI N21 v4 4 1) (fun x25 => ob2 (f_X8_setSpanKey v0 v3 x22 x25 N21) (fun _ N26 => ob2 (f_X8_insert v0 v3 N26) (fun _ N27 => k28 (v3 + 1) N27))) else ob2 (f_X8_setSpanKey v0 v3 x22 (1 : Int32) N21) (fun _ N28 => ob2 (f_X8_insert v0 v3 N28) (fun _ N29 => k28 (v3 + 1) N29))))))
set_option maxHeartbeats 4000000 in
set_option maxRecDepth 100000 in
theorem w_X8_putInOrder_J91 {P : Unit × AH → Prop} (X : CX cX8_putInOrder RX8 5 G aC t b0 p s m args c) (hr : RtV p l e rm_X8_putInOrder s m args below meth c 0 0 Q cX8_putInOrder G aC b0 P) (v0 : Nat) (v1 : Nat) (v2 : Int32) (v3 : Int32) (v4 : Nat) {k28 : Int32 → AH → Option (Unit × AH)}
    (hk28 : ∀ (v3 : Int32) (N : AH) (H : Heap) (locs : List Loc) (ls : Array Slot), Rp G aC b0 N H → va_S (fun q => b0 ≤ q) s.heap H locs → lv_has ls 5 [(0, .ref v0), (1, .ref v1), (2, .int v2), (3, .int v3)] → owp (k28 v3 N) P → W p l e rm_X8_putInOrder s m args below meth c H locs 0 0 Q (F0 m 28 ls [])) (N : AH) (H : Heap) (locs : List Loc) (ls : Array Slot) (hR : Rp G aC b0 N H) (hS : va_S (fun q => b0 ≤ q) s.heap H locs) (hl : lv_has ls 5 [(0, .ref v0), (1, .ref v1), (2, .int v2), (3, .int v3), (4, .ref v4)]) (hp : owp (f_X8_putInOrder_J91 k28 v0 v1 v2 v3 v4 N) P) : W p l e rm_X8_putInOrder s m args below meth c H locs 0 0 Q (F0 m 91 ls []) := by
  have hx := X.1.1
  have hb := X.1.2.1
  unfold f_X8_putInOrder_J91 at hp
  refine lv_iload_n hx hb dX8_putInOrder_91 rfl (lv_at hl 2 rfl) ?_
  refine lv_if_eq (tgt := 132) hx hb dX8_putInOrder_92 (by decide) (fun k14 => ?_) (fun k14 => ?_)
  · have hp := owp_t k14 hp
    refine lv_aload_n hx hb dX8_putInOrder_132 rfl (lv_at hl 0 rfl) ?_
    refine lv_iload_n hx hb dX8_putInOrder_133 rfl (lv_at hl 3 rfl) ?_
    refine lv_iconst (v := (1)) hx hb dX8_putInOrder_134 (by decide) ?_
    refine lv_aload_n hx hb dX8_putInOrder_135 rfl (lv_at hl 0 rfl) ?_
    refine lv_aload_n hx hb dX8_putInOrder_136 rfl (lv_at hl 1 rfl) ?_
    refine lv_iload_n hx hb dX8_putInOrder_137 rfl (lv_at hl 3 rfl) ?_
    obtain ⟨x16, N15, e_N15, hp⟩ := owp_ob2 hp
    refine iv_X8_plainKey (rest := [.int (1 : Int32), .int v3, .ref v0]) mw_X8_127 X hR hS e_N15 hl.1 (Nat.le_of_ble_eq_true rfl) ⟨Nat.le_of_ble_eq_true rfl, Nat.le_of_ble_eq_true rfl⟩ ⟨Nat.le_of_ble_eq_true rfl, Nat.le_of_ble_eq_true rfl⟩ dX8_putInOrder_138 (fun H locs hR hS => ?_)
    refine lv_iconst (v := (1)) hx hb dX8_putInOrder_141 (by decide) ?_
    obtain ⟨_, N17, e_N17, hp⟩ := owp_ob2 hp
    refine iv_X8_setKey (rest := []) mw_X8_105 X hR hS e_N17 hl.1 (Nat.le_of_ble_eq_true rfl) ⟨Nat.le_of_ble_eq_true rfl, Nat.le_of_ble_eq_true rfl⟩ ⟨Nat.le_of_ble_eq_true rfl, Nat.le_of_ble_eq_true rfl⟩ dX8_putInOrder_142 (fun H locs hR hS => ?_)
    refine lv_aload_n hx hb dX8_putInOrder_145 rfl (lv_at hl 0 rfl) ?_
    refine lv_iload_n hx hb dX8_putInOrder_146 rfl (lv_at hl 3 rfl) ?_
    obtain ⟨_, N18, e_N18, hp⟩ := owp_ob2 hp
    refine iv_X8_insert (rest := []) mw_X8_131 X hR hS e_N18 hl.1 (Nat.le_of_ble_eq_true rfl) ⟨Nat.le_of_ble_eq_true rfl, Nat.le_of_ble_eq_true rfl⟩ ⟨Nat.le_of_ble_eq_true rfl, Nat.le_of_ble_eq_true rfl⟩ dX8_putInOrder_147 (fun H locs hR hS => ?_)
    refine lv_iinc (v := v3 + 1) (lv' := [(3, .int (v3 + 1)), (0, .ref v0), (1, .ref v1), (2, .int v2), (4, .ref v4)]) hx hb dX8_putInOrder_150 hl (k := 3) rfl rfl (by decide) rfl (fun ls hl => ?_)
    refine lv_goto (tgt := 28) hx hb dX8_putInOrder_153 (by decide) ?_
    exact hk28 _ _ _ _ _ hR hS (lv_sub hl [1, 2, 3, 0] rfl) hp
  · have hp := owp_f k14 hp
    refine lv_aload_n hx hb dX8_putInOrder_95 rfl (lv_at hl 0 rfl) ?_
    refine lv_iload_n hx hb dX8_putInOrder_96 rfl (lv_at hl 3 rfl) ?_
    refine lv_aload_n hx hb dX8_putInOrder_97 rfl (lv_at hl 0 rfl) ?_
    refine lv_aload hx hb dX8_putInOrder_98 (lv_at hl 4 rfl) ?_
    obtain ⟨x19, e_x19, hp⟩ := owp_ob hp
    refine gf_X8_109 X hR e_x19 dX8_putInOrder_100 ?_
    refine lv_aload_n hx hb dX8_putInOrder_103 rfl (lv_at hl 1 rfl) ?_
    obtain ⟨x20, e_x20, hp⟩ := owp_ob hp
    refine gf_X8_113 X hR e_x20 dX8_putInOrder_104 ?_
    obtain ⟨x22, N21, e_N21, hp⟩ := owp_ob2 hp
    refine iv_X8_spanOf (rest := [.int v3, .ref v0]) mw_X8_116 X hR hS e_N21 hl.1 (Nat.le_of_ble_eq_true rfl) ⟨Nat.le_of_ble_eq_true rfl, Nat.le_of_ble_eq_true rfl⟩ ⟨Nat.le_of_ble_eq_true rfl, Nat.le_of_ble_eq_true rfl⟩ dX8_putInOrder_107 (fun H locs hR hS => ?_)
    refine lv_aload_n hx hb dX8_putInOrder_110 rfl (lv_at hl 1 rfl) ?_
    obtain ⟨x23, e_x23, hp⟩ := owp_ob hp
    refine gf_X8_79 X hR e_x23 dX8_putInOrder_111 ?_
    refine lv_if_ne (tgt := 121) hx hb dX8_putInOrder_114 (by decide) (fun k24 => ?_) (fun k24 => ?_)
    · have hp := owp_t k24 hp
      refine lv_aload hx hb dX8_putInOrder_121 (lv_at hl 4 rfl) ?_
      obtain ⟨x25, e_x25, hp⟩ := owp_ob hp
      refine gf_X8_120 X hR e_x25 dX8_putInOrder_123 ?_
      obtain ⟨_, N26, e_N26, hp⟩ := owp_ob2 hp
      refine iv_X8_setSpanKey (rest := []) mw_X8_123 X hR hS e_N26 hl.1 (Nat.le_of_ble_eq_true rfl) ⟨Nat.le_of_ble_eq_true rfl, Nat.le_of_ble_eq_true rfl⟩ ⟨Nat.le_of_ble_eq_true rfl, Nat.le_of_ble_eq_true rfl⟩ dX8_putInOrder_126 (fun H locs hR hS => ?_)
      refine lv_goto (tgt := 145) hx hb dX8_putInOrder_129 (by decide) ?_
      refine lv_aload_n hx hb dX8_putInOrder_145 rfl (lv_at hl 0 rfl) ?_
      refine lv_iload_n hx hb dX8_putInOrder_146 rfl (lv_at hl 3 rfl) ?_
      obtain ⟨_, N27, e_N27, hp⟩ := owp_ob2 hp
      refine iv_X8_insert (rest := []) mw_X8_131 X hR hS e_N27 hl.1 (Nat.le_of_ble_eq_true rfl) ⟨Nat.le_of_ble_eq_true rfl, Nat.le_of_ble_eq_true rfl⟩ ⟨Nat.le_of_ble_eq_true rfl, Nat.le_of_ble_eq_true rfl⟩ dX8_putInOrder_147 (fun H locs hR hS => ?_)
      refine lv_iinc (v := v3 + 1) (lv' := [(3, .int (v3 + 1)), (0, .ref v0), (1, .ref v1), (2, .int v2), (4, .ref v4)]) hx hb dX8_putInOrder_150 hl (k := 3) rfl rfl (by decide) rfl (fun ls hl => ?_)
      refine lv_goto (tgt := 28) hx hb dX8_putInOrder_153 (by decide) ?_
      exact hk28 _ _ _ _ _ hR hS (lv_sub hl [1, 2, 3, 0] rfl) hp
    · have hp := owp_f (fun q => q k24) hp
      refine lv_iconst (v := (1)) hx hb dX8_putInOrder_117 (by decide) ?_
      refine lv_goto (tgt := 126) hx hb dX8_putInOrder_118 (by decide) ?_
      obtain ⟨_, N28, e_N28, hp⟩ := owp_ob2 hp
      refine iv_X8_setSpanKey (rest := []) mw_X8_123 X hR hS e_N28 hl.1 (Nat.le_of_ble_eq_true rfl) ⟨Nat.le_of_ble_eq_true rfl, Nat.le_of_ble_eq_true rfl⟩ ⟨Nat.le_of_ble_eq_true rfl, Nat.le_of_ble_eq_true rfl⟩ dX8_putInOrder_126 (fun H locs hR hS => ?_)
      refine lv_goto (tgt := 145) hx hb dX8_putInOrder_129 (by decide) ?_
      refine lv_aload_n hx hb dX8_putInOrder_145 rfl (lv_at hl 0 rfl) ?_
      refine lv_iload_n hx hb dX8_putInOrder_146 rfl (lv_at hl 3 rfl) ?_
      obtain ⟨_, N29, e_N29, hp⟩ := owp_ob2 hp
      refine iv_X8_insert (rest := []) mw_X8_131 X hR hS e_N29 hl.1 (Nat.le_of_ble_eq_true rfl) ⟨Nat.le_of_ble_eq_true rfl, Nat.le_of_ble_eq_true rfl⟩ ⟨Nat.le_of_ble_eq_true rfl, Nat.le_of_ble_eq_true rfl⟩ dX8_putInOrder_147 (fun H locs hR hS => ?_)
      refine lv_iinc (v := v3 + 1) (lv' := [(3, .int (v3 + 1)), (0, .ref v0), (1, .ref v1), (2, .int v2), (4, .ref v4)]) hx hb dX8_putInOrder_150 hl (k := 3) rfl rfl (by decide) rfl (fun ls hl => ?_)
      refine lv_goto (tgt := 28) hx hb dX8_putInOrder_153 (by decide) ?_
      exact hk28 _ _ _ _ _ hR hS (lv_sub hl [1, 2, 3, 0] rfl) hp
def f_X8_putInOrder_L28 (v0 : Nat) (v1 : Nat) (v2 : Int32) (k156 : AH → Option (Unit × AH)) : Nat → Int32 → AH → Option (Unit × AH)
  | 0, _, _ => none
  | n + 1, v3, N => ob (hI N v1 7 6) (fun x4 => if x4 ≤ v3 then k156 N else ob (hR N v1 7 10) (fun x6 => ob (aR N 2 x6 v3) (fun x7 => ob (hI N v1 7 0) (fun x8 => ob2 (f_X4_stateAt x7 x8 N) (fun x10 N9 => if x10 = (1 : Int32) then ob (hI N9 v1 7 3) (fun x12 => if x12 = 0 then f_X8_putInOrder_J91 (f_X8_putInOrder_L28 v0 v1 v2 k156 n) v0 v1 v2 v3 x7 N9 else ob (hI N9 x7 4 2) (fun x30 => if x30 ≤ 0 then f_X8_putInOrder_J91 (f_X8_putInOrder_L28 v0 v1 v2 k156 n) v0 v1 v2 v3 x7 N9 else ob2 (f_X4_deadlineEnd x7 N9) (fun x33 N32 => ob2 (f_X8_setKey v0 v3 (0 : Int32) (Int32.toInt64 x33) (1 : Int32) N32) (fun _ N34 => ob2 (f_X8_insert v0 v3 N34) (fun _ N35 => f_X8_putInOrder_L28 v0 v1 v2 k156 n (v3 + 1) N35))))) else f_X8_putInOrder_L28 v0 v1 v2 k156 n (v3 + 1) N9)))))
set_option maxHeartbeats 4000000 in
set_option maxRecDepth 100000 in
theorem w_X8_putInOrder_L28 {P : Unit × AH → Prop} (X : CX cX8_putInOrder RX8 5 G aC t b0 p s m args c) (hr : RtV p l e rm_X8_putInOrder s m args below meth c 0 0 Q cX8_putInOrder G aC b0 P) (v0 : Nat) (v1 : Nat) (v2 : Int32) {k156 : AH → Option (Unit × AH)}
    (hk156 : ∀ (N : AH) (H : Heap) (locs : List Loc) (ls : Array Slot), Rp G aC b0 N H → va_S (fun q => b0 ≤ q) s.heap H locs → lv_has ls 5 [] → owp (k156 N) P → W p l e rm_X8_putInOrder s m args below meth c H locs 0 0 Q (F0 m 156 ls [])) :
    ∀ (n : Nat) (v3 : Int32) (N : AH) (H : Heap) (locs : List Loc) (ls : Array Slot), Rp G aC b0 N H → va_S (fun q => b0 ≤ q) s.heap H locs → lv_has ls 5 [(0, .ref v0), (1, .ref v1), (2, .int v2), (3, .int v3)] → owp (f_X8_putInOrder_L28 v0 v1 v2 k156 n v3 N) P → W p l e rm_X8_putInOrder s m args below meth c H locs 0 0 Q (F0 m 28 ls []) := by
  have hx := X.1.1
  have hb := X.1.2.1
  intro n
  induction n with
  | zero =>
    intro v3 N H locs ls hR hS hl hp
    exact (show False from hp).elim
  | succ n ih =>
    intro v3 N H locs ls hR hS hl hp
    rw [f_X8_putInOrder_L28] at hp
    refine lv_iload_n hx hb dX8_putInOrder_28 rfl (lv_at hl 3 rfl) ?_
    refine lv_aload_n hx hb dX8_putInOrder_29 rfl (lv_at hl 1 rfl) ?_
    obtain ⟨x4, e_x4, hp⟩ := owp_ob hp
    refine gf_X8_82 X hR e_x4 dX8_putInOrder_30 ?_
    refine lv_icmp_ge (tgt := 156) hx hb dX8_putInOrder_33 (by decide) (fun k5 => ?_) (fun k5 => ?_)
    · have hp := owp_t k5 hp
      exact hk156 _ _ _ _ hR hS (lv_sub hl [] rfl) hp
    · have hp := owp_f k5 hp
      refine lv_aload_n hx hb dX8_putInOrder_36 rfl (lv_at hl 1 rfl) ?_
      obtain ⟨x6, e_x6, hp⟩ := owp_ob hp
      refine gf_X8_85 X hR e_x6 dX8_putInOrder_37 ?_
      refine lv_iload_n hx hb dX8_putInOrder_40 rfl (lv_at hl 3 rfl) ?_
      obtain ⟨x7, e_x7, hp⟩ := owp_ob hp
      refine ab_aald X hR (kd := 2) rfl e_x7 dX8_putInOrder_41 ?_
      refine lv_astore (lv' := [(4, .ref x7), (0, .ref v0), (1, .ref v1), (2, .int v2), (3, .int v3)]) hx hb dX8_putInOrder_42 hl (by decide) rfl (fun ls hl => ?_)
      refine lv_aload hx hb dX8_putInOrder_44 (lv_at hl 0 rfl) ?_
      refine lv_aload_n hx hb dX8_putInOrder_46 rfl (lv_at hl 2 rfl) ?_
      obtain ⟨x8, e_x8, hp⟩ := owp_ob hp
      refine gf_X8_70 X hR e_x8 dX8_putInOrder_47 ?_
      obtain ⟨x10, N9, e_N9, hp⟩ := owp_ob2 hp
      refine iv_X4_stateAt (rest := []) mw_X8_89 X hR hS e_N9 hl.1 (Nat.le_of_ble_eq_true rfl) ⟨Nat.le_of_ble_eq_true rfl, Nat.le_of_ble_eq_true rfl⟩ ⟨Nat.le_of_ble_eq_true rfl, Nat.le_of_ble_eq_true rfl⟩ dX8_putInOrder_50 (fun H locs hR hS => ?_)
      refine lv_iconst (v := (1)) hx hb dX8_putInOrder_53 (by decide) ?_
      refine lv_icmp_eq (tgt := 60) hx hb dX8_putInOrder_54 (by decide) (fun k11 => ?_) (fun k11 => ?_)
      · have hp := owp_t k11 hp
        refine lv_aload_n hx hb dX8_putInOrder_60 rfl (lv_at hl 2 rfl) ?_
        obtain ⟨x12, e_x12, hp⟩ := owp_ob hp
        refine gf_X8_95 X hR e_x12 dX8_putInOrder_61 ?_
        refine lv_if_eq (tgt := 91) hx hb dX8_putInOrder_64 (by decide) (fun k13 => ?_) (fun k13 => ?_)
        · have hp := owp_t k13 hp
          exact w_X8_putInOrder_J91 X hr _ _ _ _ _ ih _ _ _ _ hR hS (lv_sub hl [1, 2, 3, 4, 0] rfl) hp
        · have hp := owp_f k13 hp
          refine lv_aload hx hb dX8_putInOrder_67 (lv_at hl 0 rfl) ?_
          obtain ⟨x30, e_x30, hp⟩ := owp_ob hp
          refine gf_X8_99 X hR e_x30 dX8_putInOrder_69 ?_
          refine lv_if_le (tgt := 91) hx hb dX8_putInOrder_72 (by decide) (fun k31 => ?_) (fun k31 => ?_)
          · have hp := owp_t k31 hp
            exact w_X8_putInOrder_J91 X hr _ _ _ _ _ ih _ _ _ _ hR hS (lv_sub hl [1, 2, 3, 4, 0] rfl) hp
          · have hp := owp_f k31 hp
            refine lv_aload_n hx hb dX8_putInOrder_75 rfl (lv_at hl 1 rfl) ?_
            refine lv_iload_n hx hb dX8_putInOrder_76 rfl (lv_at hl 4 rfl) ?_
            refine lv_iconst (v := (0)) hx hb dX8_putInOrder_77 (by decide) ?_
            refine lv_aload hx hb dX8_putInOrder_78 (lv_at hl 0 rfl) ?_
            obtain ⟨x33, N32, e_N32, hp⟩ := owp_ob2 hp
            refine iv_X4_deadlineEnd (rest := [.int (0 : Int32), .int v3, .ref v0]) mw_X8_102 X hR hS e_N32 hl.1 (Nat.le_of_ble_eq_true rfl) ⟨Nat.le_of_ble_eq_true rfl, Nat.le_of_ble_eq_true rfl⟩ ⟨Nat.le_of_ble_eq_true rfl, Nat.le_of_ble_eq_true rfl⟩ dX8_putInOrder_80 (fun H locs hR hS => ?_)
            refine lv_i2l (v := Int32.toInt64 x33) hx hb dX8_putInOrder_83 rfl ?_
            refine lv_iconst (v := (1)) hx hb dX8_putInOrder_84 (by decide) ?_
            obtain ⟨_, N34, e_N34, hp⟩ := owp_ob2 hp
            refine iv_X8_setKey (rest := []) mw_X8_105 X hR hS e_N34 hl.1 (Nat.le_of_ble_eq_true rfl) ⟨Nat.le_of_ble_eq_true rfl, Nat.le_of_ble_eq_true rfl⟩ ⟨Nat.le_of_ble_eq_true rfl, Nat.le_of_ble_eq_true rfl⟩ dX8_putInOrder_85 (fun H locs hR hS => ?_)
            refine lv_goto (tgt := 145) hx hb dX8_putInOrder_88 (by decide) ?_
            refine lv_aload_n hx hb dX8_putInOrder_145 rfl (lv_at hl 1 rfl) ?_
            refine lv_iload_n hx hb dX8_putInOrder_146 rfl (lv_at hl 4 rfl) ?_
            obtain ⟨_, N35, e_N35, hp⟩ := owp_ob2 hp
            refine iv_X8_insert (rest := []) mw_X8_131 X hR hS e_N35 hl.1 (Nat.le_of_ble_eq_true rfl) ⟨Nat.le_of_ble_eq_true rfl, Nat.le_of_ble_eq_true rfl⟩ ⟨Nat.le_of_ble_eq_true rfl, Nat.le_of_ble_eq_true rfl⟩ dX8_putInOrder_147 (fun H locs hR hS => ?_)
            refine lv_iinc (v := v3 + 1) (lv' := [(3, .int (v3 + 1)), (4, .ref x7), (0, .ref v0), (1, .ref v1), (2, .int v2)]) hx hb dX8_putInOrder_150 hl (k := 4) rfl rfl (by decide) rfl (fun ls hl => ?_)
            refine lv_goto (tgt := 28) hx hb dX8_putInOrder_153 (by decide) ?_
            exact ih _ _ _ _ _ hR hS (lv_sub hl [2, 3, 4, 0] rfl) hp
      · have hp := owp_f k11 hp
        refine lv_goto (tgt := 150) hx hb dX8_putInOrder_57 (by decide) ?_
        refine lv_iinc (v := v3 + 1) (lv' := [(3, .int (v3 + 1)), (4, .ref x7), (0, .ref v0), (1, .ref v1), (2, .int v2)]) hx hb dX8_putInOrder_150 hl (k := 4) rfl rfl (by decide) rfl (fun ls hl => ?_)
        refine lv_goto (tgt := 28) hx hb dX8_putInOrder_153 (by decide) ?_
        exact ih _ _ _ _ _ hR hS (lv_sub hl [2, 3, 4, 0] rfl) hp
def f_X8_putInOrder_J15 (v0 : Nat) (v1 : Nat) (N : AH) : Option (Unit × AH) := ob (pI N v0 8 0 (0 : Int32)) (fun N3 => f_X8_putInOrder_L28 v0 v1 (1 : Int32) (fun N36 => some ((), N36)) FU (0 : Int32) N3)
set_option maxHeartbeats 4000000 in
set_option maxRecDepth 100000 in
theorem w_X8_putInOrder_J15 {P : Unit × AH → Prop} (X : CX cX8_putInOrder RX8 5 G aC t b0 p s m args c) (hr : RtV p l e rm_X8_putInOrder s m args below meth c 0 0 Q cX8_putInOrder G aC b0 P) (v0 : Nat) (v1 : Nat) (N : AH) (H : Heap) (locs : List Loc) (ls : Array Slot) (hR : Rp G aC b0 N H) (hS : va_S (fun q => b0 ≤ q) s.heap H locs) (hl : lv_has ls 5 [(0, .ref v0), (1, .ref v1)]) (hp : owp (f_X8_putInOrder_J15 v0 v1 N) P) : W p l e rm_X8_putInOrder s m args below meth c H locs 0 0 Q (F0 m 15 ls []) := by
  have hx := X.1.1
  have hb := X.1.2.1
  unfold f_X8_putInOrder_J15 at hp
  refine lv_iconst (v := (1)) hx hb dX8_putInOrder_15 (by decide) ?_
  refine lv_goto (tgt := 20) hx hb dX8_putInOrder_16 (by decide) ?_
  refine lv_istore_n (lv' := [(2, .int (1 : Int32)), (0, .ref v0), (1, .ref v1)]) hx hb dX8_putInOrder_20 rfl hl (by decide) rfl (fun ls hl => ?_)
  refine lv_aload_n hx hb dX8_putInOrder_21 rfl (lv_at hl 1 rfl) ?_
  refine lv_iconst (v := (0)) hx hb dX8_putInOrder_22 (by decide) ?_
  obtain ⟨N3, e_N3, hp⟩ := owp_ob hp
  refine pf_X8_53 X hR hS e_N3 dX8_putInOrder_23 (fun H locs hR hS => ?_)
  refine lv_iconst (v := (0)) hx hb dX8_putInOrder_26 (by decide) ?_
  refine lv_istore_n (lv' := [(3, .int (0 : Int32)), (2, .int (1 : Int32)), (0, .ref v0), (1, .ref v1)]) hx hb dX8_putInOrder_27 rfl hl (by decide) rfl (fun ls hl => ?_)
  refine w_X8_putInOrder_L28 X hr _ _ _ (fun N36 H locs ls hR hS hl hp => ?_) _ _ _ _ _ _ hR hS (lv_sub hl [2, 3, 1, 0] rfl) hp
  exact hr _ _ _ _ _ hR hS dX8_putInOrder_156 hp
def f_X8_putInOrder (v0 : Nat) (v1 : Nat) (N : AH) : Option (Unit × AH) := ob (iO N v0 8) (fun _ => ob (hI N v1 7 1) (fun x1 => if x1 = 0 then f_X8_putInOrder_J15 v0 v1 N else ob (hI N v1 7 1) (fun x37 => if ¬ x37 = (5 : Int32) then ob (pI N v0 8 0 (0 : Int32)) (fun N39 => f_X8_putInOrder_L28 v0 v1 (0 : Int32) (fun N40 => some ((), N40)) FU (0 : Int32) N39) else f_X8_putInOrder_J15 v0 v1 N)))
set_option maxHeartbeats 4000000 in
set_option maxRecDepth 100000 in
theorem wk_X8_putInOrder {P : Unit × AH → Prop} (X : CX cX8_putInOrder RX8 5 G aC t b0 p s m args c) (hr : RtV p l e rm_X8_putInOrder s m args below meth c 0 0 Q cX8_putInOrder G aC b0 P) (v0 : Nat) (v1 : Nat) (N : AH) (H : Heap) (locs : List Loc) (ls : Array Slot) (hR : Rp G aC b0 N H) (hS : va_S (fun q => b0 ≤ q) s.heap H locs) (hl : lv_has ls 5 [(0, .ref v0), (1, .ref v1)]) (hp : owp (f_X8_putInOrder v0 v1 N) P) : W p l e rm_X8_putInOrder s m args below meth c H locs 0 0 Q (F0 m 0 ls []) := by
  have hx := X.1.1
  have hb := X.1.2.1
  unfold f_X8_putInOrder at hp
  obtain ⟨_, _, hp⟩ := owp_ob hp
  refine lv_aload_n hx hb dX8_putInOrder_0 rfl (lv_at hl 1 rfl) ?_
  obtain ⟨x1, e_x1, hp⟩ := owp_ob hp
  refine gf_X8_79 X hR e_x1 dX8_putInOrder_1 ?_
  refine lv_if_eq (tgt := 15) hx hb dX8_putInOrder_4 (by decide) (fun k2 => ?_) (fun k2 => ?_)
  · have hp := owp_t k2 hp
    exact w_X8_putInOrder_J15 X hr _ _ _ _ _ _ hR hS hl hp
  · have hp := owp_f k2 hp
    refine lv_aload_n hx hb dX8_putInOrder_7 rfl (lv_at hl 1 rfl) ?_
    obtain ⟨x37, e_x37, hp⟩ := owp_ob hp
    refine gf_X8_79 X hR e_x37 dX8_putInOrder_8 ?_
    refine lv_iconst (v := (5)) hx hb dX8_putInOrder_11 (by decide) ?_
    refine lv_icmp_ne (tgt := 19) hx hb dX8_putInOrder_12 (by decide) (fun k38 => ?_) (fun k38 => ?_)
    · have hp := owp_t k38 hp
      refine lv_iconst (v := (0)) hx hb dX8_putInOrder_19 (by decide) ?_
      refine lv_istore_n (lv' := [(2, .int (0 : Int32)), (0, .ref v0), (1, .ref v1)]) hx hb dX8_putInOrder_20 rfl hl (by decide) rfl (fun ls hl => ?_)
      refine lv_aload_n hx hb dX8_putInOrder_21 rfl (lv_at hl 1 rfl) ?_
      refine lv_iconst (v := (0)) hx hb dX8_putInOrder_22 (by decide) ?_
      obtain ⟨N39, e_N39, hp⟩ := owp_ob hp
      refine pf_X8_53 X hR hS e_N39 dX8_putInOrder_23 (fun H locs hR hS => ?_)
      refine lv_iconst (v := (0)) hx hb dX8_putInOrder_26 (by decide) ?_
      refine lv_istore_n (lv' := [(3, .int (0 : Int32)), (2, .int (0 : Int32)), (0, .ref v0), (1, .ref v1)]) hx hb dX8_putInOrder_27 rfl hl (by decide) rfl (fun ls hl => ?_)
      refine w_X8_putInOrder_L28 X hr _ _ _ (fun N40 H locs ls hR hS hl hp => ?_) _ _ _ _ _ _ hR hS (lv_sub hl [2, 3, 1, 0] rfl) hp
      exact hr _ _ _ _ _ hR hS dX8_putInOrder_156 hp
    · have hp := owp_f (fun q => q k38) hp
      exact w_X8_putInOrder_J15 X hr _ _ _ _ _ _ hR hS hl hp
end
theorem ct_X8_putInOrder {v0 : Nat} {v1 : Nat} {N N1 : AH} {r : Unit} (h : f_X8_putInOrder v0 v1 N = some (r, N1)) : Ct yX8_putInOrder cX8_putInOrder 5 none rm_X8_putInOrder [.ref v0, .ref v1] N none N1 :=
  ab_met (own := RX8) (by decide +kernel) rfl (Nat.le_of_ble_eq_true rfl) (fun l G aC t b0 p e s m below meth c ls X hr hlk hnm hR hS hl => wk_X8_putInOrder X (RtV_met X.1.1 X.1.2.1 hr hlk) _ _ _ _ _ _ hR hS hl (owp_of h))
theorem cw_X8_putInOrder : Cond.code yX8_putInOrder cX8_putInOrder 5 none ∈ WT := WT_of 618 (by decide +kernel) (by decide +kernel)
theorem iv_X8_putInOrder {p : Program} {l : Launch} {e : Env} {R : Room} {s : State} {m : MethodId} {args : Array Value} {below : List Frame} {meth : Method} {c : Code} {H : Heap} {locs : List Loc} {cells slots : Nat} {Q : State → Prop} {cc : ByteArray} {own : String} {nL : Nat} {G : va_G} {aC : Nat → ClassId} {t b0 : Nat} {N N1 : AH} {pc index : Nat} {ls : Array Slot} {rest : List Value} {v0 : Nat} {v1 : Nat} {r : Unit} (w1 : Cond.methodLink own index yX8_putInOrder ∈ WT) (X : CX cc own nL G aC t b0 p s m args c) (hR : Rp G aC b0 N H) (hS : va_S (fun q => b0 ≤ q) s.heap H locs) (h : f_X8_putInOrder v0 v1 N = some (r, N1)) (hls : ls.size = nL) (hW : (rest.map fun v => v.category).sum ≤ 8) (hR1 : 4 ≤ R.frames ∧ 101 ≤ R.locals) (hcs : cells + 0 ≤ R.cells ∧ slots + 0 ≤ R.slots) (hdg : decode cc pc = .ok (.invokevirtual index, 3)) (kk : ∀ (H1 : Heap) (locs1 : List Loc), Rp G aC b0 N1 H1 → va_S (fun q => b0 ≤ q) s.heap H1 locs1 → W p l e R s m args below meth c H1 locs1 cells slots Q (F0 m (pc + 3) ls rest)) : W p l e R s m args below meth c H locs cells slots Q (F0 m pc ls (.ref v1 :: .ref v0 :: rest)) :=
  ab_callV (n := 1) (As := [.ref v1]) X hR hS (ct_X8_putInOrder h) (ob_rc (c := 8) (N := N) (a := v0) h) (T := TX8) (k := 11) (C := RX8) rfl w1 (WT_of 616 (by decide +kernel) (by decide +kernel)) (WT_of 617 (by decide +kernel) (by decide +kernel)) (WT_of 89 (by decide +kernel) (by decide +kernel)) cw_X8_putInOrder ⟨rfl, by decide +kernel, by decide +kernel, by decide +kernel⟩ rfl hls hW hR1 hcs rfl hdg kk
-- X8_raise
theorem gf_X8_18 {p : Program} {l : Launch} {e : Env} {R : Room} {s : State} {m : MethodId} {args : Array Value} {below : List Frame} {meth : Method} {c : Code} {H : Heap} {locs : List Loc} {cells slots : Nat} {Q : State → Prop} {cc : ByteArray} {nL : Nat} {G : va_G} {aC : Nat → ClassId} {t b0 : Nat} {N : AH} {pc : Nat} {ls : Array Slot} {rest : List Value} {a : Nat} {v : Nat} (X : CX cc RX8 nL G aC t b0 p s m args c) (hR0 : Rp G aC b0 N H) (hv : hR N a 8 3 = some v) (hdg : decode cc pc = .ok (.getfield 18, 3)) (kk : W p l e R s m args below meth c H locs cells slots Q (F0 m (pc + 3) ls (.ref v :: rest))) : W p l e R s m args below meth c H locs cells slots Q (F0 m pc ls (.ref a :: rest)) := by
  obtain ⟨fs, h1, h2⟩ := hR_ok hv
  exact ab_get (C := RX8) (T := TX8) (n := 11) X hR0 h1 h2 rfl inX8 (by decide) (WT_of 351 (by decide +kernel) (by decide +kernel)) hdg kk
theorem gf_X8_179 {p : Program} {l : Launch} {e : Env} {R : Room} {s : State} {m : MethodId} {args : Array Value} {below : List Frame} {meth : Method} {c : Code} {H : Heap} {locs : List Loc} {cells slots : Nat} {Q : State → Prop} {cc : ByteArray} {nL : Nat} {G : va_G} {aC : Nat → ClassId} {t b0 : Nat} {N : AH} {pc : Nat} {ls : Array Slot} {rest : List Value} {a : Nat} {v : Nat} (X : CX cc RX8 nL G aC t b0 p s m args c) (hR0 : Rp G aC b0 N H) (hv : hR N a 1 5 = some v) (hdg : decode cc pc = .ok (.getfield 179, 3)) (kk : W p l e R s m args below meth c H locs cells slots Q (F0 m (pc + 3) ls (.ref v :: rest))) : W p l e R s m args below meth c H locs cells slots Q (F0 m pc ls (.ref a :: rest)) := by
  obtain ⟨fs, h1, h2⟩ := hR_ok hv
  exact ab_get (C := RX1) (T := TX1) (n := 6) X hR0 h1 h2 rfl inX1 (by decide) (WT_of 137 (by decide +kernel) (by decide +kernel)) hdg kk
theorem dX8_raise_0 : decode cX8_raise 0 = .ok (.aload_n 1, 1) := by decide +kernel
theorem dX8_raise_1 : decode cX8_raise 1 = .ok (.getfield 179, 3) := by decide +kernel
theorem dX8_raise_4 : decode cX8_raise 4 = .ok (.iload_n 2, 1) := by decide +kernel
theorem dX8_raise_5 : decode cX8_raise 5 = .ok (.dup2, 1) := by decide +kernel
theorem dX8_raise_6 : decode cX8_raise 6 = .ok (.iaload, 1) := by decide +kernel
theorem dX8_raise_7 : decode cX8_raise 7 = .ok (.iload_n 3, 1) := by decide +kernel
theorem dX8_raise_8 : decode cX8_raise 8 = .ok (.iadd, 1) := by decide +kernel
theorem dX8_raise_9 : decode cX8_raise 9 = .ok (.iastore, 1) := by decide +kernel
theorem dX8_raise_10 : decode cX8_raise 10 = .ok (.aload_n 0, 1) := by decide +kernel
theorem dX8_raise_11 : decode cX8_raise 11 = .ok (.getfield 18, 3) := by decide +kernel
theorem dX8_raise_14 : decode cX8_raise 14 = .ok (.aload_n 1, 1) := by decide +kernel
theorem dX8_raise_15 : decode cX8_raise 15 = .ok (.getfield 211, 3) := by decide +kernel
theorem dX8_raise_18 : decode cX8_raise 18 = .ok (.iload_n 2, 1) := by decide +kernel
theorem dX8_raise_19 : decode cX8_raise 19 = .ok (.iaload, 1) := by decide +kernel
theorem dX8_raise_20 : decode cX8_raise 20 = .ok (.dup2, 1) := by decide +kernel
theorem dX8_raise_21 : decode cX8_raise 21 = .ok (.iaload, 1) := by decide +kernel
theorem dX8_raise_22 : decode cX8_raise 22 = .ok (.iload_n 3, 1) := by decide +kernel
theorem dX8_raise_23 : decode cX8_raise 23 = .ok (.isub, 1) := by decide +kernel
theorem dX8_raise_24 : decode cX8_raise 24 = .ok (.iastore, 1) := by decide +kernel
theorem dX8_raise_25 : decode cX8_raise 25 = .ok (.aload_n 0, 1) := by decide +kernel
theorem dX8_raise_26 : decode cX8_raise 26 = .ok (.getfield 18, 3) := by decide +kernel
theorem dX8_raise_29 : decode cX8_raise 29 = .ok (.bipush 8, 2) := by decide +kernel
theorem dX8_raise_31 : decode cX8_raise 31 = .ok (.aload_n 1, 1) := by decide +kernel
theorem dX8_raise_32 : decode cX8_raise 32 = .ok (.getfield 214, 3) := by decide +kernel
theorem dX8_raise_35 : decode cX8_raise 35 = .ok (.iload_n 2, 1) := by decide +kernel
theorem dX8_raise_36 : decode cX8_raise 36 = .ok (.iaload, 1) := by decide +kernel
theorem dX8_raise_37 : decode cX8_raise 37 = .ok (.iadd, 1) := by decide +kernel
theorem dX8_raise_38 : decode cX8_raise 38 = .ok (.dup2, 1) := by decide +kernel
theorem dX8_raise_39 : decode cX8_raise 39 = .ok (.iaload, 1) := by decide +kernel
theorem dX8_raise_40 : decode cX8_raise 40 = .ok (.iload_n 3, 1) := by decide +kernel
theorem dX8_raise_41 : decode cX8_raise 41 = .ok (.isub, 1) := by decide +kernel
theorem dX8_raise_42 : decode cX8_raise 42 = .ok (.iastore, 1) := by decide +kernel
theorem dX8_raise_43 : decode cX8_raise 43 = .ok (.return_, 1) := by decide +kernel
def rm_X8_raise : Room := { frames := 0, cells := 0, slots := 0, locals := 0 }
section
variable {p : Program} {l : Launch} {e : Env} {s : State} {m : MethodId} {args : Array Value} {below : List Frame} {meth : Method} {c : Code} {Q : State → Prop} {G : va_G} {aC : Nat → ClassId} {t b0 : Nat}
def f_X8_raise (v0 : Nat) (v1 : Nat) (v2 : Int32) (v3 : Int32) (N : AH) : Option (Unit × AH) := ob (iO N v0 8) (fun _ => ob (hR N v1 1 5) (fun x1 => ob (aI N x1 v2) (fun x2 => ob (sI N x1 v2 (x2 + v3)) (fun N3 => ob (hR N3 v0 8 3) (fun x4 => ob (hR N3 v1 1 1) (fun x5 => ob (aI N3 x5 v2) (fun x6 => ob (aI N3 x4 x6) (fun x7 => ob (sI N3 x4 x6 (x7 - v3)) (fun N8 => ob (hR N8 v0 8 3) (fun x9 => ob (hR N8 v1 1 2) (fun x10 => ob (aI N8 x10 v2) (fun x11 => ob (aI N8 x9 ((8 : Int32) + x11)) (fun x12 => ob (sI N8 x9 ((8 : Int32) + x11) (x12 - v3)) (fun N13 => some ((), N13)))))))))))))))
set_option maxHeartbeats 4000000 in
set_option maxRecDepth 100000 in
theorem wk_X8_raise {P : Unit × AH → Prop} (X : CX cX8_raise RX8 4 G aC t b0 p s m args c) (hr : RtV p l e rm_X8_raise s m args below meth c 0 0 Q cX8_raise G aC b0 P) (v0 : Nat) (v1 : Nat) (v2 : Int32) (v3 : Int32) (N : AH) (H : Heap) (locs : List Loc) (ls : Array Slot) (hR : Rp G aC b0 N H) (hS : va_S (fun q => b0 ≤ q) s.heap H locs) (hl : lv_has ls 4 [(0, .ref v0), (1, .ref v1), (2, .int v2), (3, .int v3)]) (hp : owp (f_X8_raise v0 v1 v2 v3 N) P) : W p l e rm_X8_raise s m args below meth c H locs 0 0 Q (F0 m 0 ls []) := by
  have hx := X.1.1
  have hb := X.1.2.1
  unfold f_X8_raise at hp
  obtain ⟨_, _, hp⟩ := owp_ob hp
  refine lv_aload_n hx hb dX8_raise_0 rfl (lv_at hl 1 rfl) ?_
  obtain ⟨x1, e_x1, hp⟩ := owp_ob hp
  refine gf_X8_179 X hR e_x1 dX8_raise_1 ?_
  refine lv_iload_n hx hb dX8_raise_4 rfl (lv_at hl 2 rfl) ?_
  refine lv_dup2_11 hx hb dX8_raise_5 rfl rfl ?_
  obtain ⟨x2, e_x2, hp⟩ := owp_ob hp
  refine ab_iald X hR e_x2 dX8_raise_6 ?_
  refine lv_iload_n hx hb dX8_raise_7 rfl (lv_at hl 3 rfl) ?_
  refine lv_iadd hx hb dX8_raise_8 ?_
  obtain ⟨N3, e_N3, hp⟩ := owp_ob hp
  refine ab_iast X hR hS e_N3 dX8_raise_9 (fun H locs hR hS => ?_)
  refine lv_aload_n hx hb dX8_raise_10 rfl (lv_at hl 0 rfl) ?_
  obtain ⟨x4, e_x4, hp⟩ := owp_ob hp
  refine gf_X8_18 X hR e_x4 dX8_raise_11 ?_
  refine lv_aload_n hx hb dX8_raise_14 rfl (lv_at hl 1 rfl) ?_
  obtain ⟨x5, e_x5, hp⟩ := owp_ob hp
  refine gf_X8_211 X hR e_x5 dX8_raise_15 ?_
  refine lv_iload_n hx hb dX8_raise_18 rfl (lv_at hl 2 rfl) ?_
  obtain ⟨x6, e_x6, hp⟩ := owp_ob hp
  refine ab_iald X hR e_x6 dX8_raise_19 ?_
  refine lv_dup2_11 hx hb dX8_raise_20 rfl rfl ?_
  obtain ⟨x7, e_x7, hp⟩ := owp_ob hp
  refine ab_iald X hR e_x7 dX8_raise_21 ?_
  refine lv_iload_n hx hb dX8_raise_22 rfl (lv_at hl 3 rfl) ?_
  refine lv_isub hx hb dX8_raise_23 ?_
  obtain ⟨N8, e_N8, hp⟩ := owp_ob hp
  refine ab_iast X hR hS e_N8 dX8_raise_24 (fun H locs hR hS => ?_)
  refine lv_aload_n hx hb dX8_raise_25 rfl (lv_at hl 0 rfl) ?_
  obtain ⟨x9, e_x9, hp⟩ := owp_ob hp
  refine gf_X8_18 X hR e_x9 dX8_raise_26 ?_
  refine lv_bipush (v := (8)) hx hb dX8_raise_29 (by decide) ?_
  refine lv_aload_n hx hb dX8_raise_31 rfl (lv_at hl 1 rfl) ?_
  obtain ⟨x10, e_x10, hp⟩ := owp_ob hp
  refine gf_X8_214 X hR e_x10 dX8_raise_32 ?_
  refine lv_iload_n hx hb dX8_raise_35 rfl (lv_at hl 2 rfl) ?_
  obtain ⟨x11, e_x11, hp⟩ := owp_ob hp
  refine ab_iald X hR e_x11 dX8_raise_36 ?_
  refine lv_iadd hx hb dX8_raise_37 ?_
  refine lv_dup2_11 hx hb dX8_raise_38 rfl rfl ?_
  obtain ⟨x12, e_x12, hp⟩ := owp_ob hp
  refine ab_iald X hR e_x12 dX8_raise_39 ?_
  refine lv_iload_n hx hb dX8_raise_40 rfl (lv_at hl 3 rfl) ?_
  refine lv_isub hx hb dX8_raise_41 ?_
  obtain ⟨N13, e_N13, hp⟩ := owp_ob hp
  refine ab_iast X hR hS e_N13 dX8_raise_42 (fun H locs hR hS => ?_)
  exact hr _ _ _ _ _ hR hS dX8_raise_43 hp
end
theorem ct_X8_raise {v0 : Nat} {v1 : Nat} {v2 : Int32} {v3 : Int32} {N N1 : AH} {r : Unit} (h : f_X8_raise v0 v1 v2 v3 N = some (r, N1)) : Ct yX8_raise cX8_raise 4 none rm_X8_raise [.ref v0, .ref v1, .int v2, .int v3] N none N1 :=
  ab_met (own := RX8) (by decide +kernel) rfl (Nat.le_of_ble_eq_true rfl) (fun l G aC t b0 p e s m below meth c ls X hr hlk hnm hR hS hl => wk_X8_raise X (RtV_met X.1.1 X.1.2.1 hr hlk) _ _ _ _ _ _ _ _ hR hS hl (owp_of h))
theorem cw_X8_raise : Cond.code yX8_raise cX8_raise 4 none ∈ WT := WT_of 703 (by decide +kernel) (by decide +kernel)
theorem iv_X8_raise {p : Program} {l : Launch} {e : Env} {R : Room} {s : State} {m : MethodId} {args : Array Value} {below : List Frame} {meth : Method} {c : Code} {H : Heap} {locs : List Loc} {cells slots : Nat} {Q : State → Prop} {cc : ByteArray} {own : String} {nL : Nat} {G : va_G} {aC : Nat → ClassId} {t b0 : Nat} {N N1 : AH} {pc index : Nat} {ls : Array Slot} {rest : List Value} {v0 : Nat} {v1 : Nat} {v2 : Int32} {v3 : Int32} {r : Unit} (w1 : Cond.methodLink own index yX8_raise ∈ WT) (X : CX cc own nL G aC t b0 p s m args c) (hR : Rp G aC b0 N H) (hS : va_S (fun q => b0 ≤ q) s.heap H locs) (h : f_X8_raise v0 v1 v2 v3 N = some (r, N1)) (hls : ls.size = nL) (hW : (rest.map fun v => v.category).sum ≤ 8) (hR1 : 1 ≤ R.frames ∧ 23 ≤ R.locals) (hcs : cells + 0 ≤ R.cells ∧ slots + 0 ≤ R.slots) (hdg : decode cc pc = .ok (.invokevirtual index, 3)) (kk : ∀ (H1 : Heap) (locs1 : List Loc), Rp G aC b0 N1 H1 → va_S (fun q => b0 ≤ q) s.heap H1 locs1 → W p l e R s m args below meth c H1 locs1 cells slots Q (F0 m (pc + 3) ls rest)) : W p l e R s m args below meth c H locs cells slots Q (F0 m pc ls (.int v3 :: .int v2 :: .ref v1 :: .ref v0 :: rest)) :=
  ab_callV (n := 3) (As := [.ref v1, .int v2, .int v3]) X hR hS (ct_X8_raise h) (ob_rc (c := 8) (N := N) (a := v0) h) (T := TX8) (k := 11) (C := RX8) rfl w1 (WT_of 702 (by decide +kernel) (by decide +kernel)) (WT_of 17 (by decide +kernel) (by decide +kernel)) (WT_of 89 (by decide +kernel) (by decide +kernel)) cw_X8_raise ⟨rfl, by decide +kernel, by decide +kernel, by decide +kernel⟩ rfl hls hW hR1 hcs rfl hdg kk
