-- X10_left
theorem mw_X10_150 : Cond.methodLink RX10 150 yX10_many ∈ WT := WT_of 1218 (by decide +kernel) (by decide +kernel)
theorem dX10_left_0 : decode cX10_left 0 = .ok (.aload_n 0, 1) := by decide +kernel
theorem dX10_left_1 : decode cX10_left 1 = .ok (.iconst 0, 1) := by decide +kernel
theorem dX10_left_2 : decode cX10_left 2 = .ok (.invokevirtual 150, 3) := by decide +kernel
theorem dX10_left_5 : decode cX10_left 5 = .ok (.aload_n 0, 1) := by decide +kernel
theorem dX10_left_6 : decode cX10_left 6 = .ok (.iconst 1, 1) := by decide +kernel
theorem dX10_left_7 : decode cX10_left 7 = .ok (.invokevirtual 150, 3) := by decide +kernel
theorem dX10_left_10 : decode cX10_left 10 = .ok (.iadd, 1) := by decide +kernel
theorem dX10_left_11 : decode cX10_left 11 = .ok (.ireturn, 1) := by decide +kernel
def rm_X10_left : Room := { frames := 3, cells := 0, slots := 0, locals := 66 }
section
variable {p : Program} {l : Launch} {e : Env} {s : State} {m : MethodId} {args : Array Value} {below : List Frame} {meth : Method} {c : Code} {Q : State → Prop} {G : va_G} {aC : Nat → ClassId} {t b0 : Nat}
def f_X10_left (v0 : Nat) (N : AH) : Option (Int32 × AH) := ob (iO N v0 10) (fun _ => ob2 (f_X10_many v0 (0 : Int32) N) (fun x2 N1 => ob2 (f_X10_many v0 (1 : Int32) N1) (fun x4 N3 => some (x2 + x4, N3))))
set_option maxHeartbeats 4000000 in
set_option maxRecDepth 100000 in
theorem wk_X10_left {P : Int32 × AH → Prop} (X : CX cX10_left RX10 1 G aC t b0 p s m args c) (hr : RtI p l e rm_X10_left s m args below meth c 0 0 Q cX10_left G aC b0 P) (v0 : Nat) (N : AH) (H : Heap) (locs : List Loc) (ls : Array Slot) (hR : Rp G aC b0 N H) (hS : va_S (fun q => b0 ≤ q) s.heap H locs) (hl : lv_has ls 1 [(0, .ref v0)]) (hp : owp (f_X10_left v0 N) P) : W p l e rm_X10_left s m args below meth c H locs 0 0 Q (F0 m 0 ls []) := by
  have hx := X.1.1
  have hb := X.1.2.1
  unfold f_X10_left at hp
  obtain ⟨_, _, hp⟩ := owp_ob hp
  refine lv_aload_n hx hb dX10_left_0 rfl (lv_at hl 0 rfl) ?_
  refine lv_iconst (v := (0)) hx hb dX10_left_1 (by decide) ?_
  obtain ⟨x2, N1, e_N1, hp⟩ := owp_ob2 hp
  refine iv_X10_many (rest := []) mw_X10_150 X hR hS e_N1 hl.1 (Nat.le_of_ble_eq_true rfl) ⟨Nat.le_of_ble_eq_true rfl, Nat.le_of_ble_eq_true rfl⟩ ⟨Nat.le_of_ble_eq_true rfl, Nat.le_of_ble_eq_true rfl⟩ dX10_left_2 (fun H locs hR hS => ?_)
  refine lv_aload_n hx hb dX10_left_5 rfl (lv_at hl 0 rfl) ?_
  refine lv_iconst (v := (1)) hx hb dX10_left_6 (by decide) ?_
  obtain ⟨x4, N3, e_N3, hp⟩ := owp_ob2 hp
  refine iv_X10_many (rest := [.int x2]) mw_X10_150 X hR hS e_N3 hl.1 (Nat.le_of_ble_eq_true rfl) ⟨Nat.le_of_ble_eq_true rfl, Nat.le_of_ble_eq_true rfl⟩ ⟨Nat.le_of_ble_eq_true rfl, Nat.le_of_ble_eq_true rfl⟩ dX10_left_7 (fun H locs hR hS => ?_)
  refine lv_iadd hx hb dX10_left_10 ?_
  exact hr _ _ _ _ _ _ hR hS dX10_left_11 hp
end
theorem ct_X10_left {v0 : Nat} {N N1 : AH} {r : Int32} (h : f_X10_left v0 N = some (r, N1)) : Ct yX10_left cX10_left 1 (some .int) rm_X10_left [.ref v0] N (some (.int r)) N1 :=
  ab_met (own := RX10) (by decide +kernel) rfl (Nat.le_of_ble_eq_true rfl) (fun l G aC t b0 p e s m below meth c ls X hr hlk hnm hR hS hl => wk_X10_left X (RtI_met X.1.1 X.1.2.1 hr hlk) _ _ _ _ _ hR hS hl (owp_of h))
theorem cw_X10_left : Cond.code yX10_left cX10_left 1 (some .int) ∈ WT := WT_of 1310 (by decide +kernel) (by decide +kernel)
theorem iv_X10_left {p : Program} {l : Launch} {e : Env} {R : Room} {s : State} {m : MethodId} {args : Array Value} {below : List Frame} {meth : Method} {c : Code} {H : Heap} {locs : List Loc} {cells slots : Nat} {Q : State → Prop} {cc : ByteArray} {own : String} {nL : Nat} {G : va_G} {aC : Nat → ClassId} {t b0 : Nat} {N N1 : AH} {pc index : Nat} {ls : Array Slot} {rest : List Value} {v0 : Nat} {r : Int32} (w1 : Cond.methodLink own index yX10_left ∈ WT) (X : CX cc own nL G aC t b0 p s m args c) (hR : Rp G aC b0 N H) (hS : va_S (fun q => b0 ≤ q) s.heap H locs) (h : f_X10_left v0 N = some (r, N1)) (hls : ls.size = nL) (hW : (rest.map fun v => v.category).sum ≤ 8) (hR1 : 4 ≤ R.frames ∧ 86 ≤ R.locals) (hcs : cells + 0 ≤ R.cells ∧ slots + 0 ≤ R.slots) (hdg : decode cc pc = .ok (.invokevirtual index, 3)) (kk : ∀ (H1 : Heap) (locs1 : List Loc), Rp G aC b0 N1 H1 → va_S (fun q => b0 ≤ q) s.heap H1 locs1 → W p l e R s m args below meth c H1 locs1 cells slots Q (F0 m (pc + 3) ls (.int r :: rest))) : W p l e R s m args below meth c H locs cells slots Q (F0 m pc ls (.ref v0 :: rest)) :=
  ab_callV (n := 0) (As := []) X hR hS (ct_X10_left h) (ob_rc (c := 10) (N := N) (a := v0) h) (T := TX10) (k := 20) (C := RX10) rfl w1 (WT_of 1309 (by decide +kernel) (by decide +kernel)) (WT_of 74 (by decide +kernel) (by decide +kernel)) (WT_of 92 (by decide +kernel) (by decide +kernel)) cw_X10_left ⟨rfl, by decide +kernel, by decide +kernel, by decide +kernel⟩ rfl hls hW hR1 hcs rfl hdg kk
-- X10_type
theorem gf_X10_13 {p : Program} {l : Launch} {e : Env} {R : Room} {s : State} {m : MethodId} {args : Array Value} {below : List Frame} {meth : Method} {c : Code} {H : Heap} {locs : List Loc} {cells slots : Nat} {Q : State → Prop} {cc : ByteArray} {nL : Nat} {G : va_G} {aC : Nat → ClassId} {t b0 : Nat} {N : AH} {pc : Nat} {ls : Array Slot} {rest : List Value} {a : Nat} {v : Nat} (X : CX cc RX10 nL G aC t b0 p s m args c) (hR0 : Rp G aC b0 N H) (hv : hR N a 10 2 = some v) (hdg : decode cc pc = .ok (.getfield 13, 3)) (kk : W p l e R s m args below meth c H locs cells slots Q (F0 m (pc + 3) ls (.ref v :: rest))) : W p l e R s m args below meth c H locs cells slots Q (F0 m pc ls (.ref a :: rest)) := by
  obtain ⟨fs, h1, h2⟩ := hR_ok hv
  exact ab_get (C := RX10) (T := TX10) (n := 20) X hR0 h1 h2 rfl inX10 (by decide) (WT_of 950 (by decide +kernel) (by decide +kernel)) hdg kk
theorem gf_X10_155 {p : Program} {l : Launch} {e : Env} {R : Room} {s : State} {m : MethodId} {args : Array Value} {below : List Frame} {meth : Method} {c : Code} {H : Heap} {locs : List Loc} {cells slots : Nat} {Q : State → Prop} {cc : ByteArray} {nL : Nat} {G : va_G} {aC : Nat → ClassId} {t b0 : Nat} {N : AH} {pc : Nat} {ls : Array Slot} {rest : List Value} {a : Nat} {v : Int32} (X : CX cc RX10 nL G aC t b0 p s m args c) (hR0 : Rp G aC b0 N H) (hv : hI N a 10 3 = some v) (hdg : decode cc pc = .ok (.getfield 155, 3)) (kk : W p l e R s m args below meth c H locs cells slots Q (F0 m (pc + 3) ls (.int v :: rest))) : W p l e R s m args below meth c H locs cells slots Q (F0 m pc ls (.ref a :: rest)) := by
  obtain ⟨fs, h1, h2⟩ := hI_ok hv
  exact ab_get (C := RX10) (T := TX10) (n := 20) X hR0 h1 h2 rfl inX10 (by decide) (WT_of 951 (by decide +kernel) (by decide +kernel)) hdg kk
theorem pf_X10_155 {p : Program} {l : Launch} {e : Env} {R : Room} {s : State} {m : MethodId} {args : Array Value} {below : List Frame} {meth : Method} {c : Code} {H : Heap} {locs : List Loc} {cells slots : Nat} {Q : State → Prop} {cc : ByteArray} {nL : Nat} {G : va_G} {aC : Nat → ClassId} {t b0 : Nat} {N : AH} {pc : Nat} {ls : Array Slot} {rest : List Value} {N1 : AH} {a : Nat} {v : Int32} (X : CX cc RX10 nL G aC t b0 p s m args c) (hR0 : Rp G aC b0 N H) (hS : va_S (fun q => b0 ≤ q) s.heap H locs) (hv : pI N a 10 3 v = some N1) (hdg : decode cc pc = .ok (.putfield 155, 3)) (kk : ∀ (H1 : Heap) (locs1 : List Loc), Rp G aC b0 N1 H1 → va_S (fun q => b0 ≤ q) s.heap H1 locs1 → W p l e R s m args below meth c H1 locs1 cells slots Q (F0 m (pc + 3) ls rest)) : W p l e R s m args below meth c H locs cells slots Q (F0 m pc ls (.int v :: .ref a :: rest)) := by
  obtain ⟨fs, h1, h2, h3⟩ := pV_ok hv
  subst h3
  exact ab_put (C := RX10) (T := TX10) (n := 20) X hR0 hS h1 h2 rfl inX10 tyX10 tyX10_ok nmX10 (by decide) (WT_of 951 (by decide +kernel) (by decide +kernel)) rfl rfl rfl hdg kk
theorem dX10_type_0 : decode cX10_type 0 = .ok (.iload_n 1, 1) := by decide +kernel
theorem dX10_type_1 : decode cX10_type 1 = .ok (.i2l, 1) := by decide +kernel
theorem dX10_type_2 : decode cX10_type 2 = .ok (.lconst 0, 1) := by decide +kernel
theorem dX10_type_3 : decode cX10_type 3 = .ok (.ldc2_w 153, 3) := by decide +kernel
theorem dX10_type_6 : decode cX10_type 6 = .ok (.invokestatic 60, 3) := by decide +kernel
theorem dX10_type_9 : decode cX10_type 9 = .ok (.ifCond .ne 6, 3) := by decide +kernel
theorem dX10_type_12 : decode cX10_type 12 = .ok (.bipush (-3), 2) := by decide +kernel
theorem dX10_type_14 : decode cX10_type 14 = .ok (.ireturn, 1) := by decide +kernel
theorem dX10_type_15 : decode cX10_type 15 = .ok (.aload_n 0, 1) := by decide +kernel
theorem dX10_type_16 : decode cX10_type 16 = .ok (.getfield 155, 3) := by decide +kernel
theorem dX10_type_19 : decode cX10_type 19 = .ok (.bipush 120, 2) := by decide +kernel
theorem dX10_type_21 : decode cX10_type 21 = .ok (.if_icmp .ne 6, 3) := by decide +kernel
theorem dX10_type_24 : decode cX10_type 24 = .ok (.bipush (-5), 2) := by decide +kernel
theorem dX10_type_26 : decode cX10_type 26 = .ok (.ireturn, 1) := by decide +kernel
theorem dX10_type_27 : decode cX10_type 27 = .ok (.aload_n 0, 1) := by decide +kernel
theorem dX10_type_28 : decode cX10_type 28 = .ok (.getfield 13, 3) := by decide +kernel
theorem dX10_type_31 : decode cX10_type 31 = .ok (.aload_n 0, 1) := by decide +kernel
theorem dX10_type_32 : decode cX10_type 32 = .ok (.getfield 155, 3) := by decide +kernel
theorem dX10_type_35 : decode cX10_type 35 = .ok (.iload_n 1, 1) := by decide +kernel
theorem dX10_type_36 : decode cX10_type 36 = .ok (.iastore, 1) := by decide +kernel
theorem dX10_type_37 : decode cX10_type 37 = .ok (.aload_n 0, 1) := by decide +kernel
theorem dX10_type_38 : decode cX10_type 38 = .ok (.dup, 1) := by decide +kernel
theorem dX10_type_39 : decode cX10_type 39 = .ok (.getfield 155, 3) := by decide +kernel
theorem dX10_type_42 : decode cX10_type 42 = .ok (.iconst 1, 1) := by decide +kernel
theorem dX10_type_43 : decode cX10_type 43 = .ok (.iadd, 1) := by decide +kernel
theorem dX10_type_44 : decode cX10_type 44 = .ok (.putfield 155, 3) := by decide +kernel
theorem dX10_type_47 : decode cX10_type 47 = .ok (.aload_n 0, 1) := by decide +kernel
theorem dX10_type_48 : decode cX10_type 48 = .ok (.getfield 155, 3) := by decide +kernel
theorem dX10_type_51 : decode cX10_type 51 = .ok (.ireturn, 1) := by decide +kernel
def rm_X10_type : Room := { frames := 1, cells := 0, slots := 0, locals := 25 }
section
variable {p : Program} {l : Launch} {e : Env} {s : State} {m : MethodId} {args : Array Value} {below : List Frame} {meth : Method} {c : Code} {Q : State → Prop} {G : va_G} {aC : Nat → ClassId} {t b0 : Nat}
def f_X10_type (v0 : Nat) (v1 : Int32) (N : AH) : Option (Int32 × AH) := ob (iO N v0 10) (fun _ => ob2 (f_X10_in (Int32.toInt64 v1) (0 : Int64) (255 : Int64) N) (fun x2 N1 => if ¬ x2 = 0 then ob (hI N1 v0 10 3) (fun x4 => if ¬ x4 = (120 : Int32) then ob (hR N1 v0 10 2) (fun x6 => ob (hI N1 v0 10 3) (fun x7 => ob (sI N1 x6 x7 v1) (fun N8 => ob (hI N8 v0 10 3) (fun x9 => ob (pI N8 v0 10 3 (x9 + (1 : Int32))) (fun N10 => ob (hI N10 v0 10 3) (fun x11 => some (x11, N10))))))) else some ((-5 : Int32), N1)) else some ((-3 : Int32), N1)))
set_option maxHeartbeats 4000000 in
set_option maxRecDepth 100000 in
theorem wk_X10_type {P : Int32 × AH → Prop} (X : CX cX10_type RX10 2 G aC t b0 p s m args c) (hr : RtI p l e rm_X10_type s m args below meth c 0 0 Q cX10_type G aC b0 P) (v0 : Nat) (v1 : Int32) (N : AH) (H : Heap) (locs : List Loc) (ls : Array Slot) (hR : Rp G aC b0 N H) (hS : va_S (fun q => b0 ≤ q) s.heap H locs) (hl : lv_has ls 2 [(0, .ref v0), (1, .int v1)]) (hp : owp (f_X10_type v0 v1 N) P) : W p l e rm_X10_type s m args below meth c H locs 0 0 Q (F0 m 0 ls []) := by
  have hx := X.1.1
  have hb := X.1.2.1
  unfold f_X10_type at hp
  obtain ⟨_, _, hp⟩ := owp_ob hp
  refine lv_iload_n hx hb dX10_type_0 rfl (lv_at hl 1 rfl) ?_
  refine lv_i2l (v := Int32.toInt64 v1) hx hb dX10_type_1 rfl ?_
  refine lv_lconst (v := 0) hx hb dX10_type_2 (by decide) ?_
  refine lv_ldc2 (own := RX10) (v := 255) hx hb X.1.2.2.2.1 (X.1.2.2.2.2 _ (WT_of 1013 (by decide +kernel) (by decide +kernel))) dX10_type_3 ?_
  obtain ⟨x2, N1, e_N1, hp⟩ := owp_ob2 hp
  refine iv_X10_in (rest := []) mw_X10_60 X hR hS e_N1 hl.1 (Nat.le_of_ble_eq_true rfl) ⟨Nat.le_of_ble_eq_true rfl, Nat.le_of_ble_eq_true rfl⟩ ⟨Nat.le_of_ble_eq_true rfl, Nat.le_of_ble_eq_true rfl⟩ dX10_type_6 (fun H locs hR hS => ?_)
  refine lv_if_ne (tgt := 15) hx hb dX10_type_9 (by decide) (fun k3 => ?_) (fun k3 => ?_)
  · have hp := owp_t k3 hp
    refine lv_aload_n hx hb dX10_type_15 rfl (lv_at hl 0 rfl) ?_
    obtain ⟨x4, e_x4, hp⟩ := owp_ob hp
    refine gf_X10_155 X hR e_x4 dX10_type_16 ?_
    refine lv_bipush (v := (120)) hx hb dX10_type_19 (by decide) ?_
    refine lv_icmp_ne (tgt := 27) hx hb dX10_type_21 (by decide) (fun k5 => ?_) (fun k5 => ?_)
    · have hp := owp_t k5 hp
      refine lv_aload_n hx hb dX10_type_27 rfl (lv_at hl 0 rfl) ?_
      obtain ⟨x6, e_x6, hp⟩ := owp_ob hp
      refine gf_X10_13 X hR e_x6 dX10_type_28 ?_
      refine lv_aload_n hx hb dX10_type_31 rfl (lv_at hl 0 rfl) ?_
      obtain ⟨x7, e_x7, hp⟩ := owp_ob hp
      refine gf_X10_155 X hR e_x7 dX10_type_32 ?_
      refine lv_iload_n hx hb dX10_type_35 rfl (lv_at hl 1 rfl) ?_
      obtain ⟨N8, e_N8, hp⟩ := owp_ob hp
      refine ab_iast X hR hS e_N8 dX10_type_36 (fun H locs hR hS => ?_)
      refine lv_aload_n hx hb dX10_type_37 rfl (lv_at hl 0 rfl) ?_
      refine lv_dup hx hb dX10_type_38 rfl ?_
      obtain ⟨x9, e_x9, hp⟩ := owp_ob hp
      refine gf_X10_155 X hR e_x9 dX10_type_39 ?_
      refine lv_iconst (v := (1)) hx hb dX10_type_42 (by decide) ?_
      refine lv_iadd hx hb dX10_type_43 ?_
      obtain ⟨N10, e_N10, hp⟩ := owp_ob hp
      refine pf_X10_155 X hR hS e_N10 dX10_type_44 (fun H locs hR hS => ?_)
      refine lv_aload_n hx hb dX10_type_47 rfl (lv_at hl 0 rfl) ?_
      obtain ⟨x11, e_x11, hp⟩ := owp_ob hp
      refine gf_X10_155 X hR e_x11 dX10_type_48 ?_
      exact hr _ _ _ _ _ _ hR hS dX10_type_51 hp
    · have hp := owp_f (fun q => q k5) hp
      refine lv_bipush (v := (-5)) hx hb dX10_type_24 (by decide) ?_
      exact hr _ _ _ _ _ _ hR hS dX10_type_26 hp
  · have hp := owp_f (fun q => q k3) hp
    refine lv_bipush (v := (-3)) hx hb dX10_type_12 (by decide) ?_
    exact hr _ _ _ _ _ _ hR hS dX10_type_14 hp
end
theorem ct_X10_type {v0 : Nat} {v1 : Int32} {N N1 : AH} {r : Int32} (h : f_X10_type v0 v1 N = some (r, N1)) : Ct yX10_type cX10_type 2 (some .int) rm_X10_type [.ref v0, .int v1] N (some (.int r)) N1 :=
  ab_met (own := RX10) (by decide +kernel) rfl (Nat.le_of_ble_eq_true rfl) (fun l G aC t b0 p e s m below meth c ls X hr hlk hnm hR hS hl => wk_X10_type X (RtI_met X.1.1 X.1.2.1 hr hlk) _ _ _ _ _ _ hR hS hl (owp_of h))
theorem cw_X10_type : Cond.code yX10_type cX10_type 2 (some .int) ∈ WT := WT_of 1012 (by decide +kernel) (by decide +kernel)
theorem iv_X10_type {p : Program} {l : Launch} {e : Env} {R : Room} {s : State} {m : MethodId} {args : Array Value} {below : List Frame} {meth : Method} {c : Code} {H : Heap} {locs : List Loc} {cells slots : Nat} {Q : State → Prop} {cc : ByteArray} {own : String} {nL : Nat} {G : va_G} {aC : Nat → ClassId} {t b0 : Nat} {N N1 : AH} {pc index : Nat} {ls : Array Slot} {rest : List Value} {v0 : Nat} {v1 : Int32} {r : Int32} (w1 : Cond.methodLink own index yX10_type ∈ WT) (X : CX cc own nL G aC t b0 p s m args c) (hR : Rp G aC b0 N H) (hS : va_S (fun q => b0 ≤ q) s.heap H locs) (h : f_X10_type v0 v1 N = some (r, N1)) (hls : ls.size = nL) (hW : (rest.map fun v => v.category).sum ≤ 8) (hR1 : 2 ≤ R.frames ∧ 46 ≤ R.locals) (hcs : cells + 0 ≤ R.cells ∧ slots + 0 ≤ R.slots) (hdg : decode cc pc = .ok (.invokevirtual index, 3)) (kk : ∀ (H1 : Heap) (locs1 : List Loc), Rp G aC b0 N1 H1 → va_S (fun q => b0 ≤ q) s.heap H1 locs1 → W p l e R s m args below meth c H1 locs1 cells slots Q (F0 m (pc + 3) ls (.int r :: rest))) : W p l e R s m args below meth c H locs cells slots Q (F0 m pc ls (.int v1 :: .ref v0 :: rest)) :=
  ab_callV (n := 1) (As := [.int v1]) X hR hS (ct_X10_type h) (ob_rc (c := 10) (N := N) (a := v0) h) (T := TX10) (k := 20) (C := RX10) rfl w1 (WT_of 1010 (by decide +kernel) (by decide +kernel)) (WT_of 1011 (by decide +kernel) (by decide +kernel)) (WT_of 92 (by decide +kernel) (by decide +kernel)) cw_X10_type ⟨rfl, by decide +kernel, by decide +kernel, by decide +kernel⟩ rfl hls hW hR1 hcs rfl hdg kk
-- X10_clearText
theorem dX10_clearText_0 : decode cX10_clearText 0 = .ok (.aload_n 0, 1) := by decide +kernel
theorem dX10_clearText_1 : decode cX10_clearText 1 = .ok (.getfield 155, 3) := by decide +kernel
theorem dX10_clearText_4 : decode cX10_clearText 4 = .ok (.istore_n 1, 1) := by decide +kernel
theorem dX10_clearText_5 : decode cX10_clearText 5 = .ok (.aload_n 0, 1) := by decide +kernel
theorem dX10_clearText_6 : decode cX10_clearText 6 = .ok (.iconst 0, 1) := by decide +kernel
theorem dX10_clearText_7 : decode cX10_clearText 7 = .ok (.putfield 155, 3) := by decide +kernel
theorem dX10_clearText_10 : decode cX10_clearText 10 = .ok (.iload_n 1, 1) := by decide +kernel
theorem dX10_clearText_11 : decode cX10_clearText 11 = .ok (.ireturn, 1) := by decide +kernel
def rm_X10_clearText : Room := { frames := 0, cells := 0, slots := 0, locals := 0 }
section
variable {p : Program} {l : Launch} {e : Env} {s : State} {m : MethodId} {args : Array Value} {below : List Frame} {meth : Method} {c : Code} {Q : State → Prop} {G : va_G} {aC : Nat → ClassId} {t b0 : Nat}
def f_X10_clearText (v0 : Nat) (N : AH) : Option (Int32 × AH) := ob (iO N v0 10) (fun _ => ob (hI N v0 10 3) (fun x1 => ob (pI N v0 10 3 (0 : Int32)) (fun N2 => some (x1, N2))))
set_option maxHeartbeats 4000000 in
set_option maxRecDepth 100000 in
theorem wk_X10_clearText {P : Int32 × AH → Prop} (X : CX cX10_clearText RX10 2 G aC t b0 p s m args c) (hr : RtI p l e rm_X10_clearText s m args below meth c 0 0 Q cX10_clearText G aC b0 P) (v0 : Nat) (N : AH) (H : Heap) (locs : List Loc) (ls : Array Slot) (hR : Rp G aC b0 N H) (hS : va_S (fun q => b0 ≤ q) s.heap H locs) (hl : lv_has ls 2 [(0, .ref v0)]) (hp : owp (f_X10_clearText v0 N) P) : W p l e rm_X10_clearText s m args below meth c H locs 0 0 Q (F0 m 0 ls []) := by
  have hx := X.1.1
  have hb := X.1.2.1
  unfold f_X10_clearText at hp
  obtain ⟨_, _, hp⟩ := owp_ob hp
  refine lv_aload_n hx hb dX10_clearText_0 rfl (lv_at hl 0 rfl) ?_
  obtain ⟨x1, e_x1, hp⟩ := owp_ob hp
  refine gf_X10_155 X hR e_x1 dX10_clearText_1 ?_
  refine lv_istore_n (lv' := [(1, .int x1), (0, .ref v0)]) hx hb dX10_clearText_4 rfl hl (by decide) rfl (fun ls hl => ?_)
  refine lv_aload_n hx hb dX10_clearText_5 rfl (lv_at hl 1 rfl) ?_
  refine lv_iconst (v := (0)) hx hb dX10_clearText_6 (by decide) ?_
  obtain ⟨N2, e_N2, hp⟩ := owp_ob hp
  refine pf_X10_155 X hR hS e_N2 dX10_clearText_7 (fun H locs hR hS => ?_)
  refine lv_iload_n hx hb dX10_clearText_10 rfl (lv_at hl 0 rfl) ?_
  exact hr _ _ _ _ _ _ hR hS dX10_clearText_11 hp
end
theorem ct_X10_clearText {v0 : Nat} {N N1 : AH} {r : Int32} (h : f_X10_clearText v0 N = some (r, N1)) : Ct yX10_clearText cX10_clearText 2 (some .int) rm_X10_clearText [.ref v0] N (some (.int r)) N1 :=
  ab_met (own := RX10) (by decide +kernel) rfl (Nat.le_of_ble_eq_true rfl) (fun l G aC t b0 p e s m below meth c ls X hr hlk hnm hR hS hl => wk_X10_clearText X (RtI_met X.1.1 X.1.2.1 hr hlk) _ _ _ _ _ hR hS hl (owp_of h))
theorem cw_X10_clearText : Cond.code yX10_clearText cX10_clearText 2 (some .int) ∈ WT := WT_of 1020 (by decide +kernel) (by decide +kernel)
theorem iv_X10_clearText {p : Program} {l : Launch} {e : Env} {R : Room} {s : State} {m : MethodId} {args : Array Value} {below : List Frame} {meth : Method} {c : Code} {H : Heap} {locs : List Loc} {cells slots : Nat} {Q : State → Prop} {cc : ByteArray} {own : String} {nL : Nat} {G : va_G} {aC : Nat → ClassId} {t b0 : Nat} {N N1 : AH} {pc index : Nat} {ls : Array Slot} {rest : List Value} {v0 : Nat} {r : Int32} (w1 : Cond.methodLink own index yX10_clearText ∈ WT) (X : CX cc own nL G aC t b0 p s m args c) (hR : Rp G aC b0 N H) (hS : va_S (fun q => b0 ≤ q) s.heap H locs) (h : f_X10_clearText v0 N = some (r, N1)) (hls : ls.size = nL) (hW : (rest.map fun v => v.category).sum ≤ 8) (hR1 : 1 ≤ R.frames ∧ 21 ≤ R.locals) (hcs : cells + 0 ≤ R.cells ∧ slots + 0 ≤ R.slots) (hdg : decode cc pc = .ok (.invokevirtual index, 3)) (kk : ∀ (H1 : Heap) (locs1 : List Loc), Rp G aC b0 N1 H1 → va_S (fun q => b0 ≤ q) s.heap H1 locs1 → W p l e R s m args below meth c H1 locs1 cells slots Q (F0 m (pc + 3) ls (.int r :: rest))) : W p l e R s m args below meth c H locs cells slots Q (F0 m pc ls (.ref v0 :: rest)) :=
  ab_callV (n := 0) (As := []) X hR hS (ct_X10_clearText h) (ob_rc (c := 10) (N := N) (a := v0) h) (T := TX10) (k := 20) (C := RX10) rfl w1 (WT_of 1018 (by decide +kernel) (by decide +kernel)) (WT_of 1019 (by decide +kernel) (by decide +kernel)) (WT_of 92 (by decide +kernel) (by decide +kernel)) cw_X10_clearText ⟨rfl, by decide +kernel, by decide +kernel, by decide +kernel⟩ rfl hls hW hR1 hcs rfl hdg kk
-- X10_here
theorem gf_X10_158 {p : Program} {l : Launch} {e : Env} {R : Room} {s : State} {m : MethodId} {args : Array Value} {below : List Frame} {meth : Method} {c : Code} {H : Heap} {locs : List Loc} {cells slots : Nat} {Q : State → Prop} {cc : ByteArray} {nL : Nat} {G : va_G} {aC : Nat → ClassId} {t b0 : Nat} {N : AH} {pc : Nat} {ls : Array Slot} {rest : List Value} {a : Nat} {v : Int32} (X : CX cc RX10 nL G aC t b0 p s m args c) (hR0 : Rp G aC b0 N H) (hv : hI N a 10 15 = some v) (hdg : decode cc pc = .ok (.getfield 158, 3)) (kk : W p l e R s m args below meth c H locs cells slots Q (F0 m (pc + 3) ls (.int v :: rest))) : W p l e R s m args below meth c H locs cells slots Q (F0 m pc ls (.ref a :: rest)) := by
  obtain ⟨fs, h1, h2⟩ := hI_ok hv
  exact ab_get (C := RX10) (T := TX10) (n := 20) X hR0 h1 h2 rfl inX10 (by decide) (WT_of 963 (by decide +kernel) (by decide +kernel)) hdg kk
theorem pf_X10_158 {p : Program} {l : Launch} {e : Env} {R : Room} {s : State} {m : MethodId} {args : Array Value} {below : List Frame} {meth : Method} {c : Code} {H : Heap} {locs : List Loc} {cells slots : Nat} {Q : State → Prop} {cc : ByteArray} {nL : Nat} {G : va_G} {aC : Nat → ClassId} {t b0 : Nat} {N : AH} {pc : Nat} {ls : Array Slot} {rest : List Value} {N1 : AH} {a : Nat} {v : Int32} (X : CX cc RX10 nL G aC t b0 p s m args c) (hR0 : Rp G aC b0 N H) (hS : va_S (fun q => b0 ≤ q) s.heap H locs) (hv : pI N a 10 15 v = some N1) (hdg : decode cc pc = .ok (.putfield 158, 3)) (kk : ∀ (H1 : Heap) (locs1 : List Loc), Rp G aC b0 N1 H1 → va_S (fun q => b0 ≤ q) s.heap H1 locs1 → W p l e R s m args below meth c H1 locs1 cells slots Q (F0 m (pc + 3) ls rest)) : W p l e R s m args below meth c H locs cells slots Q (F0 m pc ls (.int v :: .ref a :: rest)) := by
  obtain ⟨fs, h1, h2, h3⟩ := pV_ok hv
  subst h3
  exact ab_put (C := RX10) (T := TX10) (n := 20) X hR0 hS h1 h2 rfl inX10 tyX10 tyX10_ok nmX10 (by decide) (WT_of 963 (by decide +kernel) (by decide +kernel)) rfl rfl rfl hdg kk
theorem dX10_here_0 : decode cX10_here 0 = .ok (.aload_n 0, 1) := by decide +kernel
theorem dX10_here_1 : decode cX10_here 1 = .ok (.getfield 158, 3) := by decide +kernel
theorem dX10_here_4 : decode cX10_here 4 = .ok (.aload_n 0, 1) := by decide +kernel
theorem dX10_here_5 : decode cX10_here 5 = .ok (.getfield 155, 3) := by decide +kernel
theorem dX10_here_8 : decode cX10_here 8 = .ok (.if_icmp .ge 30, 3) := by decide +kernel
theorem dX10_here_11 : decode cX10_here 11 = .ok (.aload_n 0, 1) := by decide +kernel
theorem dX10_here_12 : decode cX10_here 12 = .ok (.getfield 13, 3) := by decide +kernel
theorem dX10_here_15 : decode cX10_here 15 = .ok (.aload_n 0, 1) := by decide +kernel
theorem dX10_here_16 : decode cX10_here 16 = .ok (.getfield 158, 3) := by decide +kernel
theorem dX10_here_19 : decode cX10_here 19 = .ok (.iaload, 1) := by decide +kernel
theorem dX10_here_20 : decode cX10_here 20 = .ok (.bipush 32, 2) := by decide +kernel
theorem dX10_here_22 : decode cX10_here 22 = .ok (.if_icmp .ne 16, 3) := by decide +kernel
theorem dX10_here_25 : decode cX10_here 25 = .ok (.aload_n 0, 1) := by decide +kernel
theorem dX10_here_26 : decode cX10_here 26 = .ok (.dup, 1) := by decide +kernel
theorem dX10_here_27 : decode cX10_here 27 = .ok (.getfield 158, 3) := by decide +kernel
theorem dX10_here_30 : decode cX10_here 30 = .ok (.iconst 1, 1) := by decide +kernel
theorem dX10_here_31 : decode cX10_here 31 = .ok (.iadd, 1) := by decide +kernel
theorem dX10_here_32 : decode cX10_here 32 = .ok (.putfield 158, 3) := by decide +kernel
theorem dX10_here_35 : decode cX10_here 35 = .ok (.goto (-35), 3) := by decide +kernel
theorem dX10_here_38 : decode cX10_here 38 = .ok (.aload_n 0, 1) := by decide +kernel
theorem dX10_here_39 : decode cX10_here 39 = .ok (.getfield 158, 3) := by decide +kernel
theorem dX10_here_42 : decode cX10_here 42 = .ok (.aload_n 0, 1) := by decide +kernel
theorem dX10_here_43 : decode cX10_here 43 = .ok (.getfield 155, 3) := by decide +kernel
theorem dX10_here_46 : decode cX10_here 46 = .ok (.if_icmp .ge 20, 3) := by decide +kernel
theorem dX10_here_49 : decode cX10_here 49 = .ok (.aload_n 0, 1) := by decide +kernel
theorem dX10_here_50 : decode cX10_here 50 = .ok (.getfield 13, 3) := by decide +kernel
theorem dX10_here_53 : decode cX10_here 53 = .ok (.aload_n 0, 1) := by decide +kernel
theorem dX10_here_54 : decode cX10_here 54 = .ok (.getfield 158, 3) := by decide +kernel
theorem dX10_here_57 : decode cX10_here 57 = .ok (.iaload, 1) := by decide +kernel
theorem dX10_here_58 : decode cX10_here 58 = .ok (.iload_n 1, 1) := by decide +kernel
theorem dX10_here_59 : decode cX10_here 59 = .ok (.if_icmp .ne 7, 3) := by decide +kernel
theorem dX10_here_62 : decode cX10_here 62 = .ok (.iconst 1, 1) := by decide +kernel
theorem dX10_here_63 : decode cX10_here 63 = .ok (.goto 4, 3) := by decide +kernel
theorem dX10_here_66 : decode cX10_here 66 = .ok (.iconst 0, 1) := by decide +kernel
theorem dX10_here_67 : decode cX10_here 67 = .ok (.ireturn, 1) := by decide +kernel
def rm_X10_here : Room := { frames := 0, cells := 0, slots := 0, locals := 0 }
section
variable {p : Program} {l : Launch} {e : Env} {s : State} {m : MethodId} {args : Array Value} {below : List Frame} {meth : Method} {c : Code} {Q : State → Prop} {G : va_G} {aC : Nat → ClassId} {t b0 : Nat}
def f_X10_here_J38 (v0 : Nat) (v1 : Int32) (N : AH) : Option (Int32 × AH) := ob (hI N v0 10 15) (fun x4 => ob (hI N v0 10 3) (fun x5 => if x5 ≤ x4 then some ((0 : Int32), N) else ob (hR N v0 10 2) (fun x7 => ob (hI N v0 10 15) (fun x8 => ob (aI N x7 x8) (fun x9 => if ¬ x9 = v1 then some ((0 : Int32), N) else some ((1 : Int32), N))))))
set_option maxHeartbeats 4000000 in
set_option maxRecDepth 100000 in
theorem w_X10_here_J38 {P : Int32 × AH → Prop} (X : CX cX10_here RX10 2 G aC t b0 p s m args c) (hr : RtZ p l e rm_X10_here s m args below meth c 0 0 Q cX10_here G aC b0 P) (v0 : Nat) (v1 : Int32) (N : AH) (H : Heap) (locs : List Loc) (ls : Array Slot) (hR : Rp G aC b0 N H) (hS : va_S (fun q => b0 ≤ q) s.heap H locs) (hl : lv_has ls 2 [(0, .ref v0), (1, .int v1)]) (hp : owp (f_X10_here_J38 v0 v1 N) P) : W p l e rm_X10_here s m args below meth c H locs 0 0 Q (F0 m 38 ls []) := by
  have hx := X.1.1
  have hb := X.1.2.1
  unfold f_X10_here_J38 at hp
  refine lv_aload_n hx hb dX10_here_38 rfl (lv_at hl 0 rfl) ?_
  obtain ⟨x4, e_x4, hp⟩ := owp_ob hp
  refine gf_X10_158 X hR e_x4 dX10_here_39 ?_
  refine lv_aload_n hx hb dX10_here_42 rfl (lv_at hl 0 rfl) ?_
  obtain ⟨x5, e_x5, hp⟩ := owp_ob hp
  refine gf_X10_155 X hR e_x5 dX10_here_43 ?_
  refine lv_icmp_ge (tgt := 66) hx hb dX10_here_46 (by decide) (fun k6 => ?_) (fun k6 => ?_)
  · have hp := owp_t k6 hp
    refine lv_iconst (v := (0)) hx hb dX10_here_66 (by decide) ?_
    exact hr _ _ _ _ _ _ hR hS dX10_here_67 (rZ_0 hp)
  · have hp := owp_f k6 hp
    refine lv_aload_n hx hb dX10_here_49 rfl (lv_at hl 0 rfl) ?_
    obtain ⟨x7, e_x7, hp⟩ := owp_ob hp
    refine gf_X10_13 X hR e_x7 dX10_here_50 ?_
    refine lv_aload_n hx hb dX10_here_53 rfl (lv_at hl 0 rfl) ?_
    obtain ⟨x8, e_x8, hp⟩ := owp_ob hp
    refine gf_X10_158 X hR e_x8 dX10_here_54 ?_
    obtain ⟨x9, e_x9, hp⟩ := owp_ob hp
    refine ab_iald X hR e_x9 dX10_here_57 ?_
    refine lv_iload_n hx hb dX10_here_58 rfl (lv_at hl 1 rfl) ?_
    refine lv_icmp_ne (tgt := 66) hx hb dX10_here_59 (by decide) (fun k10 => ?_) (fun k10 => ?_)
    · have hp := owp_t k10 hp
      refine lv_iconst (v := (0)) hx hb dX10_here_66 (by decide) ?_
      exact hr _ _ _ _ _ _ hR hS dX10_here_67 (rZ_0 hp)
    · have hp := owp_f (fun q => q k10) hp
      refine lv_iconst (v := (1)) hx hb dX10_here_62 (by decide) ?_
      refine lv_goto (tgt := 67) hx hb dX10_here_63 (by decide) ?_
      exact hr _ _ _ _ _ _ hR hS dX10_here_67 (rZ_1 hp)
def f_X10_here_L0 (v0 : Nat) (v1 : Int32) (k38 : AH → Option (Int32 × AH)) : Nat → AH → Option (Int32 × AH)
  | 0, _ => none
  | n + 1, N => ob (hI N v0 10 15) (fun x17 => ob (hI N v0 10 3) (fun x18 => if x18 ≤ x17 then k38 N else ob (hR N v0 10 2) (fun x20 => ob (hI N v0 10 15) (fun x21 => ob (aI N x20 x21) (fun x22 => if ¬ x22 = (32 : Int32) then k38 N else ob (hI N v0 10 15) (fun x24 => ob (pI N v0 10 15 (x24 + (1 : Int32))) (fun N25 => f_X10_here_L0 v0 v1 k38 n N25)))))))
set_option maxHeartbeats 4000000 in
set_option maxRecDepth 100000 in
theorem w_X10_here_L0 {P : Int32 × AH → Prop} (X : CX cX10_here RX10 2 G aC t b0 p s m args c) (hr : RtZ p l e rm_X10_here s m args below meth c 0 0 Q cX10_here G aC b0 P) (v0 : Nat) (v1 : Int32) {k38 : AH → Option (Int32 × AH)}
    (hk38 : ∀ (N : AH) (H : Heap) (locs : List Loc) (ls : Array Slot), Rp G aC b0 N H → va_S (fun q => b0 ≤ q) s.heap H locs → lv_has ls 2 [(0, .ref v0), (1, .int v1)] → owp (k38 N) P → W p l e rm_X10_here s m args below meth c H locs 0 0 Q (F0 m 38 ls [])) :
    ∀ (n : Nat) (N : AH) (H : Heap) (locs : List Loc) (ls : Array Slot), Rp G aC b0 N H → va_S (fun q => b0 ≤ q) s.heap H locs → lv_has ls 2 [(0, .ref v0), (1, .int v1)] → owp (f_X10_here_L0 v0 v1 k38 n N) P → W p l e rm_X10_here s m args below meth c H locs 0 0 Q (F0 m 0 ls []) := by
  have hx := X.1.1
  have hb := X.1.2.1
  intro n
  induction n with
  | zero =>
    intro N H locs ls hR hS hl hp
    exact (show False from hp).elim
  | succ n ih =>
    intro N H locs ls hR hS hl hp
    rw [f_X10_here_L0] at hp
    refine lv_aload_n hx hb dX10_here_0 rfl (lv_at hl 0 rfl) ?_
    obtain ⟨x17, e_x17, hp⟩ := owp_ob hp
    refine gf_X10_158 X hR e_x17 dX10_here_1 ?_
    refine lv_aload_n hx hb dX10_here_4 rfl (lv_at hl 0 rfl) ?_
    obtain ⟨x18, e_x18, hp⟩ := owp_ob hp
    refine gf_X10_155 X hR e_x18 dX10_here_5 ?_
    refine lv_icmp_ge (tgt := 38) hx hb dX10_here_8 (by decide) (fun k19 => ?_) (fun k19 => ?_)
    · have hp := owp_t k19 hp
      exact hk38 _ _ _ _ hR hS hl hp
    · have hp := owp_f k19 hp
      refine lv_aload_n hx hb dX10_here_11 rfl (lv_at hl 0 rfl) ?_
      obtain ⟨x20, e_x20, hp⟩ := owp_ob hp
      refine gf_X10_13 X hR e_x20 dX10_here_12 ?_
      refine lv_aload_n hx hb dX10_here_15 rfl (lv_at hl 0 rfl) ?_
      obtain ⟨x21, e_x21, hp⟩ := owp_ob hp
      refine gf_X10_158 X hR e_x21 dX10_here_16 ?_
      obtain ⟨x22, e_x22, hp⟩ := owp_ob hp
      refine ab_iald X hR e_x22 dX10_here_19 ?_
      refine lv_bipush (v := (32)) hx hb dX10_here_20 (by decide) ?_
      refine lv_icmp_ne (tgt := 38) hx hb dX10_here_22 (by decide) (fun k23 => ?_) (fun k23 => ?_)
      · have hp := owp_t k23 hp
        exact hk38 _ _ _ _ hR hS hl hp
      · have hp := owp_f (fun q => q k23) hp
        refine lv_aload_n hx hb dX10_here_25 rfl (lv_at hl 0 rfl) ?_
        refine lv_dup hx hb dX10_here_26 rfl ?_
        obtain ⟨x24, e_x24, hp⟩ := owp_ob hp
        refine gf_X10_158 X hR e_x24 dX10_here_27 ?_
        refine lv_iconst (v := (1)) hx hb dX10_here_30 (by decide) ?_
        refine lv_iadd hx hb dX10_here_31 ?_
        obtain ⟨N25, e_N25, hp⟩ := owp_ob hp
        refine pf_X10_158 X hR hS e_N25 dX10_here_32 (fun H locs hR hS => ?_)
        refine lv_goto (tgt := 0) hx hb dX10_here_35 (by decide) ?_
        exact ih _ _ _ _ hR hS hl hp
def f_X10_here (v0 : Nat) (v1 : Int32) (N : AH) : Option (Int32 × AH) := ob (iO N v0 10) (fun _ => ob (hI N v0 10 15) (fun x1 => ob (hI N v0 10 3) (fun x2 => if x2 ≤ x1 then f_X10_here_J38 v0 v1 N else ob (hR N v0 10 2) (fun x11 => ob (hI N v0 10 15) (fun x12 => ob (aI N x11 x12) (fun x13 => if ¬ x13 = (32 : Int32) then f_X10_here_J38 v0 v1 N else ob (hI N v0 10 15) (fun x15 => ob (pI N v0 10 15 (x15 + (1 : Int32))) (fun N16 => f_X10_here_L0 v0 v1 (fun N26 => f_X10_here_J38 v0 v1 N26) FU N16))))))))
set_option maxHeartbeats 4000000 in
set_option maxRecDepth 100000 in
theorem wk_X10_here {P : Int32 × AH → Prop} (X : CX cX10_here RX10 2 G aC t b0 p s m args c) (hr : RtZ p l e rm_X10_here s m args below meth c 0 0 Q cX10_here G aC b0 P) (v0 : Nat) (v1 : Int32) (N : AH) (H : Heap) (locs : List Loc) (ls : Array Slot) (hR : Rp G aC b0 N H) (hS : va_S (fun q => b0 ≤ q) s.heap H locs) (hl : lv_has ls 2 [(0, .ref v0), (1, .int v1)]) (hp : owp (f_X10_here v0 v1 N) P) : W p l e rm_X10_here s m args below meth c H locs 0 0 Q (F0 m 0 ls []) := by
  have hx := X.1.1
  have hb := X.1.2.1
  unfold f_X10_here at hp
  obtain ⟨_, _, hp⟩ := owp_ob hp
  refine lv_aload_n hx hb dX10_here_0 rfl (lv_at hl 0 rfl) ?_
  obtain ⟨x1, e_x1, hp⟩ := owp_ob hp
  refine gf_X10_158 X hR e_x1 dX10_here_1 ?_
  refine lv_aload_n hx hb dX10_here_4 rfl (lv_at hl 0 rfl) ?_
  obtain ⟨x2, e_x2, hp⟩ := owp_ob hp
  refine gf_X10_155 X hR e_x2 dX10_here_5 ?_
  refine lv_icmp_ge (tgt := 38) hx hb dX10_here_8 (by decide) (fun k3 => ?_) (fun k3 => ?_)
  · have hp := owp_t k3 hp
    exact w_X10_here_J38 X hr _ _ _ _ _ _ hR hS hl hp
  · have hp := owp_f k3 hp
    refine lv_aload_n hx hb dX10_here_11 rfl (lv_at hl 0 rfl) ?_
    obtain ⟨x11, e_x11, hp⟩ := owp_ob hp
    refine gf_X10_13 X hR e_x11 dX10_here_12 ?_
    refine lv_aload_n hx hb dX10_here_15 rfl (lv_at hl 0 rfl) ?_
    obtain ⟨x12, e_x12, hp⟩ := owp_ob hp
    refine gf_X10_158 X hR e_x12 dX10_here_16 ?_
    obtain ⟨x13, e_x13, hp⟩ := owp_ob hp
    refine ab_iald X hR e_x13 dX10_here_19 ?_
    refine lv_bipush (v := (32)) hx hb dX10_here_20 (by decide) ?_
    refine lv_icmp_ne (tgt := 38) hx hb dX10_here_22 (by decide) (fun k14 => ?_) (fun k14 => ?_)
    · have hp := owp_t k14 hp
      exact w_X10_here_J38 X hr _ _ _ _ _ _ hR hS hl hp
    · have hp := owp_f (fun q => q k14) hp
      refine lv_aload_n hx hb dX10_here_25 rfl (lv_at hl 0 rfl) ?_
      refine lv_dup hx hb dX10_here_26 rfl ?_
      obtain ⟨x15, e_x15, hp⟩ := owp_ob hp
      refine gf_X10_158 X hR e_x15 dX10_here_27 ?_
      refine lv_iconst (v := (1)) hx hb dX10_here_30 (by decide) ?_
      refine lv_iadd hx hb dX10_here_31 ?_
      obtain ⟨N16, e_N16, hp⟩ := owp_ob hp
      refine pf_X10_158 X hR hS e_N16 dX10_here_32 (fun H locs hR hS => ?_)
      refine lv_goto (tgt := 0) hx hb dX10_here_35 (by decide) ?_
      refine w_X10_here_L0 X hr _ _ (fun N26 H locs ls hR hS hl hp => ?_) _ _ _ _ _ hR hS hl hp
      exact w_X10_here_J38 X hr _ _ _ _ _ _ hR hS hl hp
end
theorem ct_X10_here {v0 : Nat} {v1 : Int32} {N N1 : AH} {r : Int32} (h : f_X10_here v0 v1 N = some (r, N1)) : Ct yX10_here cX10_here 2 (some .boolean) rm_X10_here [.ref v0, .int v1] N (some (.int r)) N1 :=
  ab_met (own := RX10) (by decide +kernel) rfl (Nat.le_of_ble_eq_true rfl) (fun l G aC t b0 p e s m below meth c ls X hr hlk hnm hR hS hl => wk_X10_here X (RtZ_met X.1.1 X.1.2.1 hr hlk) _ _ _ _ _ _ hR hS hl (owp_of h))
theorem cw_X10_here : Cond.code yX10_here cX10_here 2 (some .boolean) ∈ WT := WT_of 1036 (by decide +kernel) (by decide +kernel)
theorem iv_X10_here {p : Program} {l : Launch} {e : Env} {R : Room} {s : State} {m : MethodId} {args : Array Value} {below : List Frame} {meth : Method} {c : Code} {H : Heap} {locs : List Loc} {cells slots : Nat} {Q : State → Prop} {cc : ByteArray} {own : String} {nL : Nat} {G : va_G} {aC : Nat → ClassId} {t b0 : Nat} {N N1 : AH} {pc index : Nat} {ls : Array Slot} {rest : List Value} {v0 : Nat} {v1 : Int32} {r : Int32} (w1 : Cond.methodLink own index yX10_here ∈ WT) (X : CX cc own nL G aC t b0 p s m args c) (hR : Rp G aC b0 N H) (hS : va_S (fun q => b0 ≤ q) s.heap H locs) (h : f_X10_here v0 v1 N = some (r, N1)) (hls : ls.size = nL) (hW : (rest.map fun v => v.category).sum ≤ 8) (hR1 : 1 ≤ R.frames ∧ 21 ≤ R.locals) (hcs : cells + 0 ≤ R.cells ∧ slots + 0 ≤ R.slots) (hdg : decode cc pc = .ok (.invokevirtual index, 3)) (kk : ∀ (H1 : Heap) (locs1 : List Loc), Rp G aC b0 N1 H1 → va_S (fun q => b0 ≤ q) s.heap H1 locs1 → W p l e R s m args below meth c H1 locs1 cells slots Q (F0 m (pc + 3) ls (.int r :: rest))) : W p l e R s m args below meth c H locs cells slots Q (F0 m pc ls (.int v1 :: .ref v0 :: rest)) :=
  ab_callV (n := 1) (As := [.int v1]) X hR hS (ct_X10_here h) (ob_rc (c := 10) (N := N) (a := v0) h) (T := TX10) (k := 20) (C := RX10) rfl w1 (WT_of 1035 (by decide +kernel) (by decide +kernel)) (WT_of 35 (by decide +kernel) (by decide +kernel)) (WT_of 92 (by decide +kernel) (by decide +kernel)) cw_X10_here ⟨rfl, by decide +kernel, by decide +kernel, by decide +kernel⟩ rfl hls hW hR1 hcs rfl hdg kk
-- X10_port
theorem mw_X10_161 : Cond.methodLink RX10 161 yX10_here ∈ WT := WT_of 1033 (by decide +kernel) (by decide +kernel)
theorem dX10_port_0 : decode cX10_port 0 = .ok (.aload_n 0, 1) := by decide +kernel
theorem dX10_port_1 : decode cX10_port 1 = .ok (.iconst 0, 1) := by decide +kernel
theorem dX10_port_2 : decode cX10_port 2 = .ok (.invokevirtual 161, 3) := by decide +kernel
theorem dX10_port_5 : decode cX10_port 5 = .ok (.pop, 1) := by decide +kernel
theorem dX10_port_6 : decode cX10_port 6 = .ok (.aload_n 0, 1) := by decide +kernel
theorem dX10_port_7 : decode cX10_port 7 = .ok (.getfield 158, 3) := by decide +kernel
theorem dX10_port_10 : decode cX10_port 10 = .ok (.aload_n 0, 1) := by decide +kernel
theorem dX10_port_11 : decode cX10_port 11 = .ok (.getfield 155, 3) := by decide +kernel
theorem dX10_port_14 : decode cX10_port 14 = .ok (.if_icmp .eq 25, 3) := by decide +kernel
theorem dX10_port_17 : decode cX10_port 17 = .ok (.aload_n 0, 1) := by decide +kernel
theorem dX10_port_18 : decode cX10_port 18 = .ok (.getfield 13, 3) := by decide +kernel
theorem dX10_port_21 : decode cX10_port 21 = .ok (.aload_n 0, 1) := by decide +kernel
theorem dX10_port_22 : decode cX10_port 22 = .ok (.getfield 158, 3) := by decide +kernel
theorem dX10_port_25 : decode cX10_port 25 = .ok (.iaload, 1) := by decide +kernel
theorem dX10_port_26 : decode cX10_port 26 = .ok (.i2l, 1) := by decide +kernel
theorem dX10_port_27 : decode cX10_port 27 = .ok (.ldc2_w 164, 3) := by decide +kernel
theorem dX10_port_30 : decode cX10_port 30 = .ok (.ldc2_w 166, 3) := by decide +kernel
theorem dX10_port_33 : decode cX10_port 33 = .ok (.invokestatic 60, 3) := by decide +kernel
theorem dX10_port_36 : decode cX10_port 36 = .ok (.ifCond .ne 5, 3) := by decide +kernel
theorem dX10_port_39 : decode cX10_port 39 = .ok (.iconst (-1), 1) := by decide +kernel
theorem dX10_port_40 : decode cX10_port 40 = .ok (.ireturn, 1) := by decide +kernel
theorem dX10_port_41 : decode cX10_port 41 = .ok (.aload_n 0, 1) := by decide +kernel
theorem dX10_port_42 : decode cX10_port 42 = .ok (.dup, 1) := by decide +kernel
theorem dX10_port_43 : decode cX10_port 43 = .ok (.getfield 158, 3) := by decide +kernel
theorem dX10_port_46 : decode cX10_port 46 = .ok (.iconst 1, 1) := by decide +kernel
theorem dX10_port_47 : decode cX10_port 47 = .ok (.iadd, 1) := by decide +kernel
theorem dX10_port_48 : decode cX10_port 48 = .ok (.putfield 158, 3) := by decide +kernel
theorem dX10_port_51 : decode cX10_port 51 = .ok (.aload_n 0, 1) := by decide +kernel
theorem dX10_port_52 : decode cX10_port 52 = .ok (.getfield 13, 3) := by decide +kernel
theorem dX10_port_55 : decode cX10_port 55 = .ok (.aload_n 0, 1) := by decide +kernel
theorem dX10_port_56 : decode cX10_port 56 = .ok (.getfield 158, 3) := by decide +kernel
theorem dX10_port_59 : decode cX10_port 59 = .ok (.iconst 1, 1) := by decide +kernel
theorem dX10_port_60 : decode cX10_port 60 = .ok (.isub, 1) := by decide +kernel
theorem dX10_port_61 : decode cX10_port 61 = .ok (.iaload, 1) := by decide +kernel
theorem dX10_port_62 : decode cX10_port 62 = .ok (.bipush 48, 2) := by decide +kernel
theorem dX10_port_64 : decode cX10_port 64 = .ok (.isub, 1) := by decide +kernel
theorem dX10_port_65 : decode cX10_port 65 = .ok (.ireturn, 1) := by decide +kernel
def rm_X10_port : Room := { frames := 1, cells := 0, slots := 0, locals := 25 }
section
variable {p : Program} {l : Launch} {e : Env} {s : State} {m : MethodId} {args : Array Value} {below : List Frame} {meth : Method} {c : Code} {Q : State → Prop} {G : va_G} {aC : Nat → ClassId} {t b0 : Nat}
def f_X10_port (v0 : Nat) (N : AH) : Option (Int32 × AH) := ob (iO N v0 10) (fun _ => ob2 (f_X10_here v0 (0 : Int32) N) (fun x2 N1 => ob (hI N1 v0 10 15) (fun x3 => ob (hI N1 v0 10 3) (fun x4 => if x3 = x4 then some ((-1 : Int32), N1) else ob (hR N1 v0 10 2) (fun x6 => ob (hI N1 v0 10 15) (fun x7 => ob (aI N1 x6 x7) (fun x8 => ob2 (f_X10_in (Int32.toInt64 x8) (48 : Int64) (55 : Int64) N1) (fun x10 N9 => if ¬ x10 = 0 then ob (hI N9 v0 10 15) (fun x12 => ob (pI N9 v0 10 15 (x12 + (1 : Int32))) (fun N13 => ob (hR N13 v0 10 2) (fun x14 => ob (hI N13 v0 10 15) (fun x15 => ob (aI N13 x14 (x15 - (1 : Int32))) (fun x16 => some (x16 - (48 : Int32), N13)))))) else some ((-1 : Int32), N9)))))))))
set_option maxHeartbeats 4000000 in
set_option maxRecDepth 100000 in
theorem wk_X10_port {P : Int32 × AH → Prop} (X : CX cX10_port RX10 1 G aC t b0 p s m args c) (hr : RtI p l e rm_X10_port s m args below meth c 0 0 Q cX10_port G aC b0 P) (v0 : Nat) (N : AH) (H : Heap) (locs : List Loc) (ls : Array Slot) (hR : Rp G aC b0 N H) (hS : va_S (fun q => b0 ≤ q) s.heap H locs) (hl : lv_has ls 1 [(0, .ref v0)]) (hp : owp (f_X10_port v0 N) P) : W p l e rm_X10_port s m args below meth c H locs 0 0 Q (F0 m 0 ls []) := by
  have hx := X.1.1
  have hb := X.1.2.1
  unfold f_X10_port at hp
  obtain ⟨_, _, hp⟩ := owp_ob hp
  refine lv_aload_n hx hb dX10_port_0 rfl (lv_at hl 0 rfl) ?_
  refine lv_iconst (v := (0)) hx hb dX10_port_1 (by decide) ?_
  obtain ⟨x2, N1, e_N1, hp⟩ := owp_ob2 hp
  refine iv_X10_here (rest := []) mw_X10_161 X hR hS e_N1 hl.1 (Nat.le_of_ble_eq_true rfl) ⟨Nat.le_of_ble_eq_true rfl, Nat.le_of_ble_eq_true rfl⟩ ⟨Nat.le_of_ble_eq_true rfl, Nat.le_of_ble_eq_true rfl⟩ dX10_port_2 (fun H locs hR hS => ?_)
  refine lv_pop hx hb dX10_port_5 rfl ?_
  refine lv_aload_n hx hb dX10_port_6 rfl (lv_at hl 0 rfl) ?_
  obtain ⟨x3, e_x3, hp⟩ := owp_ob hp
  refine gf_X10_158 X hR e_x3 dX10_port_7 ?_
  refine lv_aload_n hx hb dX10_port_10 rfl (lv_at hl 0 rfl) ?_
  obtain ⟨x4, e_x4, hp⟩ := owp_ob hp
  refine gf_X10_155 X hR e_x4 dX10_port_11 ?_
  refine lv_icmp_eq (tgt := 39) hx hb dX10_port_14 (by decide) (fun k5 => ?_) (fun k5 => ?_)
  · have hp := owp_t k5 hp
    refine lv_iconst (v := (-1)) hx hb dX10_port_39 (by decide) ?_
    exact hr _ _ _ _ _ _ hR hS dX10_port_40 hp
  · have hp := owp_f k5 hp
    refine lv_aload_n hx hb dX10_port_17 rfl (lv_at hl 0 rfl) ?_
    obtain ⟨x6, e_x6, hp⟩ := owp_ob hp
    refine gf_X10_13 X hR e_x6 dX10_port_18 ?_
    refine lv_aload_n hx hb dX10_port_21 rfl (lv_at hl 0 rfl) ?_
    obtain ⟨x7, e_x7, hp⟩ := owp_ob hp
    refine gf_X10_158 X hR e_x7 dX10_port_22 ?_
    obtain ⟨x8, e_x8, hp⟩ := owp_ob hp
    refine ab_iald X hR e_x8 dX10_port_25 ?_
    refine lv_i2l (v := Int32.toInt64 x8) hx hb dX10_port_26 rfl ?_
    refine lv_ldc2 (own := RX10) (v := 48) hx hb X.1.2.2.2.1 (X.1.2.2.2.2 _ (WT_of 1041 (by decide +kernel) (by decide +kernel))) dX10_port_27 ?_
    refine lv_ldc2 (own := RX10) (v := 55) hx hb X.1.2.2.2.1 (X.1.2.2.2.2 _ (WT_of 1042 (by decide +kernel) (by decide +kernel))) dX10_port_30 ?_
    obtain ⟨x10, N9, e_N9, hp⟩ := owp_ob2 hp
    refine iv_X10_in (rest := []) mw_X10_60 X hR hS e_N9 hl.1 (Nat.le_of_ble_eq_true rfl) ⟨Nat.le_of_ble_eq_true rfl, Nat.le_of_ble_eq_true rfl⟩ ⟨Nat.le_of_ble_eq_true rfl, Nat.le_of_ble_eq_true rfl⟩ dX10_port_33 (fun H locs hR hS => ?_)
    refine lv_if_ne (tgt := 41) hx hb dX10_port_36 (by decide) (fun k11 => ?_) (fun k11 => ?_)
    · have hp := owp_t k11 hp
      refine lv_aload_n hx hb dX10_port_41 rfl (lv_at hl 0 rfl) ?_
      refine lv_dup hx hb dX10_port_42 rfl ?_
      obtain ⟨x12, e_x12, hp⟩ := owp_ob hp
      refine gf_X10_158 X hR e_x12 dX10_port_43 ?_
      refine lv_iconst (v := (1)) hx hb dX10_port_46 (by decide) ?_
      refine lv_iadd hx hb dX10_port_47 ?_
      obtain ⟨N13, e_N13, hp⟩ := owp_ob hp
      refine pf_X10_158 X hR hS e_N13 dX10_port_48 (fun H locs hR hS => ?_)
      refine lv_aload_n hx hb dX10_port_51 rfl (lv_at hl 0 rfl) ?_
      obtain ⟨x14, e_x14, hp⟩ := owp_ob hp
      refine gf_X10_13 X hR e_x14 dX10_port_52 ?_
      refine lv_aload_n hx hb dX10_port_55 rfl (lv_at hl 0 rfl) ?_
      obtain ⟨x15, e_x15, hp⟩ := owp_ob hp
      refine gf_X10_158 X hR e_x15 dX10_port_56 ?_
      refine lv_iconst (v := (1)) hx hb dX10_port_59 (by decide) ?_
      refine lv_isub hx hb dX10_port_60 ?_
      obtain ⟨x16, e_x16, hp⟩ := owp_ob hp
      refine ab_iald X hR e_x16 dX10_port_61 ?_
      refine lv_bipush (v := (48)) hx hb dX10_port_62 (by decide) ?_
      refine lv_isub hx hb dX10_port_64 ?_
      exact hr _ _ _ _ _ _ hR hS dX10_port_65 hp
    · have hp := owp_f (fun q => q k11) hp
      refine lv_iconst (v := (-1)) hx hb dX10_port_39 (by decide) ?_
      exact hr _ _ _ _ _ _ hR hS dX10_port_40 hp
end
theorem ct_X10_port {v0 : Nat} {N N1 : AH} {r : Int32} (h : f_X10_port v0 N = some (r, N1)) : Ct yX10_port cX10_port 1 (some .int) rm_X10_port [.ref v0] N (some (.int r)) N1 :=
  ab_met (own := RX10) (by decide +kernel) rfl (Nat.le_of_ble_eq_true rfl) (fun l G aC t b0 p e s m below meth c ls X hr hlk hnm hR hS hl => wk_X10_port X (RtI_met X.1.1 X.1.2.1 hr hlk) _ _ _ _ _ hR hS hl (owp_of h))
theorem cw_X10_port : Cond.code yX10_port cX10_port 1 (some .int) ∈ WT := WT_of 1040 (by decide +kernel) (by decide +kernel)
theorem iv_X10_port {p : Program} {l : Launch} {e : Env} {R : Room} {s : State} {m : MethodId} {args : Array Value} {below : List Frame} {meth : Method} {c : Code} {H : Heap} {locs : List Loc} {cells slots : Nat} {Q : State → Prop} {cc : ByteArray} {own : String} {nL : Nat} {G : va_G} {aC : Nat → ClassId} {t b0 : Nat} {N N1 : AH} {pc index : Nat} {ls : Array Slot} {rest : List Value} {v0 : Nat} {r : Int32} (w1 : Cond.methodLink own index yX10_port ∈ WT) (X : CX cc own nL G aC t b0 p s m args c) (hR : Rp G aC b0 N H) (hS : va_S (fun q => b0 ≤ q) s.heap H locs) (h : f_X10_port v0 N = some (r, N1)) (hls : ls.size = nL) (hW : (rest.map fun v => v.category).sum ≤ 8) (hR1 : 2 ≤ R.frames ∧ 45 ≤ R.locals) (hcs : cells + 0 ≤ R.cells ∧ slots + 0 ≤ R.slots) (hdg : decode cc pc = .ok (.invokevirtual index, 3)) (kk : ∀ (H1 : Heap) (locs1 : List Loc), Rp G aC b0 N1 H1 → va_S (fun q => b0 ≤ q) s.heap H1 locs1 → W p l e R s m args below meth c H1 locs1 cells slots Q (F0 m (pc + 3) ls (.int r :: rest))) : W p l e R s m args below meth c H locs cells slots Q (F0 m pc ls (.ref v0 :: rest)) :=
  ab_callV (n := 0) (As := []) X hR hS (ct_X10_port h) (ob_rc (c := 10) (N := N) (a := v0) h) (T := TX10) (k := 20) (C := RX10) rfl w1 (WT_of 1039 (by decide +kernel) (by decide +kernel)) (WT_of 36 (by decide +kernel) (by decide +kernel)) (WT_of 92 (by decide +kernel) (by decide +kernel)) cw_X10_port ⟨rfl, by decide +kernel, by decide +kernel, by decide +kernel⟩ rfl hls hW hR1 hcs rfl hdg kk
-- X10_sign
theorem dX10_sign_0 : decode cX10_sign 0 = .ok (.aload_n 0, 1) := by decide +kernel
theorem dX10_sign_1 : decode cX10_sign 1 = .ok (.iload_n 1, 1) := by decide +kernel
theorem dX10_sign_2 : decode cX10_sign 2 = .ok (.invokevirtual 161, 3) := by decide +kernel
theorem dX10_sign_5 : decode cX10_sign 5 = .ok (.istore_n 2, 1) := by decide +kernel
theorem dX10_sign_6 : decode cX10_sign 6 = .ok (.aload_n 0, 1) := by decide +kernel
theorem dX10_sign_7 : decode cX10_sign 7 = .ok (.dup, 1) := by decide +kernel
theorem dX10_sign_8 : decode cX10_sign 8 = .ok (.getfield 158, 3) := by decide +kernel
theorem dX10_sign_11 : decode cX10_sign 11 = .ok (.iload_n 2, 1) := by decide +kernel
theorem dX10_sign_12 : decode cX10_sign 12 = .ok (.ifCond .eq 7, 3) := by decide +kernel
theorem dX10_sign_15 : decode cX10_sign 15 = .ok (.iconst 1, 1) := by decide +kernel
theorem dX10_sign_16 : decode cX10_sign 16 = .ok (.goto 4, 3) := by decide +kernel
theorem dX10_sign_19 : decode cX10_sign 19 = .ok (.iconst 0, 1) := by decide +kernel
theorem dX10_sign_20 : decode cX10_sign 20 = .ok (.iadd, 1) := by decide +kernel
theorem dX10_sign_21 : decode cX10_sign 21 = .ok (.putfield 158, 3) := by decide +kernel
theorem dX10_sign_24 : decode cX10_sign 24 = .ok (.iload_n 2, 1) := by decide +kernel
theorem dX10_sign_25 : decode cX10_sign 25 = .ok (.ireturn, 1) := by decide +kernel
def rm_X10_sign : Room := { frames := 1, cells := 0, slots := 0, locals := 21 }
section
variable {p : Program} {l : Launch} {e : Env} {s : State} {m : MethodId} {args : Array Value} {below : List Frame} {meth : Method} {c : Code} {Q : State → Prop} {G : va_G} {aC : Nat → ClassId} {t b0 : Nat}
def f_X10_sign (v0 : Nat) (v1 : Int32) (N : AH) : Option (Int32 × AH) := ob (iO N v0 10) (fun _ => ob2 (f_X10_here v0 v1 N) (fun x2 N1 => ob (hI N1 v0 10 15) (fun x3 => if x2 = 0 then ob (pI N1 v0 10 15 (x3 + (0 : Int32))) (fun N5 => rZ x2 N5) else ob (pI N1 v0 10 15 (x3 + (1 : Int32))) (fun N6 => rZ x2 N6))))
set_option maxHeartbeats 4000000 in
set_option maxRecDepth 100000 in
theorem wk_X10_sign {P : Int32 × AH → Prop} (X : CX cX10_sign RX10 3 G aC t b0 p s m args c) (hr : RtZ p l e rm_X10_sign s m args below meth c 0 0 Q cX10_sign G aC b0 P) (v0 : Nat) (v1 : Int32) (N : AH) (H : Heap) (locs : List Loc) (ls : Array Slot) (hR : Rp G aC b0 N H) (hS : va_S (fun q => b0 ≤ q) s.heap H locs) (hl : lv_has ls 3 [(0, .ref v0), (1, .int v1)]) (hp : owp (f_X10_sign v0 v1 N) P) : W p l e rm_X10_sign s m args below meth c H locs 0 0 Q (F0 m 0 ls []) := by
  have hx := X.1.1
  have hb := X.1.2.1
  unfold f_X10_sign at hp
  obtain ⟨_, _, hp⟩ := owp_ob hp
  refine lv_aload_n hx hb dX10_sign_0 rfl (lv_at hl 0 rfl) ?_
  refine lv_iload_n hx hb dX10_sign_1 rfl (lv_at hl 1 rfl) ?_
  obtain ⟨x2, N1, e_N1, hp⟩ := owp_ob2 hp
  refine iv_X10_here (rest := []) mw_X10_161 X hR hS e_N1 hl.1 (Nat.le_of_ble_eq_true rfl) ⟨Nat.le_of_ble_eq_true rfl, Nat.le_of_ble_eq_true rfl⟩ ⟨Nat.le_of_ble_eq_true rfl, Nat.le_of_ble_eq_true rfl⟩ dX10_sign_2 (fun H locs hR hS => ?_)
  refine lv_istore_n (lv' := [(2, .int x2), (0, .ref v0), (1, .int v1)]) hx hb dX10_sign_5 rfl hl (by decide) rfl (fun ls hl => ?_)
  refine lv_aload_n hx hb dX10_sign_6 rfl (lv_at hl 1 rfl) ?_
  refine lv_dup hx hb dX10_sign_7 rfl ?_
  obtain ⟨x3, e_x3, hp⟩ := owp_ob hp
  refine gf_X10_158 X hR e_x3 dX10_sign_8 ?_
  refine lv_iload_n hx hb dX10_sign_11 rfl (lv_at hl 0 rfl) ?_
  refine lv_if_eq (tgt := 19) hx hb dX10_sign_12 (by decide) (fun k4 => ?_) (fun k4 => ?_)
  · have hp := owp_t k4 hp
    refine lv_iconst (v := (0)) hx hb dX10_sign_19 (by decide) ?_
    refine lv_iadd hx hb dX10_sign_20 ?_
    obtain ⟨N5, e_N5, hp⟩ := owp_ob hp
    refine pf_X10_158 X hR hS e_N5 dX10_sign_21 (fun H locs hR hS => ?_)
    refine lv_iload_n hx hb dX10_sign_24 rfl (lv_at hl 0 rfl) ?_
    exact hr _ _ _ _ _ _ hR hS dX10_sign_25 hp
  · have hp := owp_f k4 hp
    refine lv_iconst (v := (1)) hx hb dX10_sign_15 (by decide) ?_
    refine lv_goto (tgt := 20) hx hb dX10_sign_16 (by decide) ?_
    refine lv_iadd hx hb dX10_sign_20 ?_
    obtain ⟨N6, e_N6, hp⟩ := owp_ob hp
    refine pf_X10_158 X hR hS e_N6 dX10_sign_21 (fun H locs hR hS => ?_)
    refine lv_iload_n hx hb dX10_sign_24 rfl (lv_at hl 0 rfl) ?_
    exact hr _ _ _ _ _ _ hR hS dX10_sign_25 hp
end
theorem ct_X10_sign {v0 : Nat} {v1 : Int32} {N N1 : AH} {r : Int32} (h : f_X10_sign v0 v1 N = some (r, N1)) : Ct yX10_sign cX10_sign 3 (some .boolean) rm_X10_sign [.ref v0, .int v1] N (some (.int r)) N1 :=
  ab_met (own := RX10) (by decide +kernel) rfl (Nat.le_of_ble_eq_true rfl) (fun l G aC t b0 p e s m below meth c ls X hr hlk hnm hR hS hl => wk_X10_sign X (RtZ_met X.1.1 X.1.2.1 hr hlk) _ _ _ _ _ _ hR hS hl (owp_of h))
theorem cw_X10_sign : Cond.code yX10_sign cX10_sign 3 (some .boolean) ∈ WT := WT_of 1046 (by decide +kernel) (by decide +kernel)
theorem iv_X10_sign {p : Program} {l : Launch} {e : Env} {R : Room} {s : State} {m : MethodId} {args : Array Value} {below : List Frame} {meth : Method} {c : Code} {H : Heap} {locs : List Loc} {cells slots : Nat} {Q : State → Prop} {cc : ByteArray} {own : String} {nL : Nat} {G : va_G} {aC : Nat → ClassId} {t b0 : Nat} {N N1 : AH} {pc index : Nat} {ls : Array Slot} {rest : List Value} {v0 : Nat} {v1 : Int32} {r : Int32} (w1 : Cond.methodLink own index yX10_sign ∈ WT) (X : CX cc own nL G aC t b0 p s m args c) (hR : Rp G aC b0 N H) (hS : va_S (fun q => b0 ≤ q) s.heap H locs) (h : f_X10_sign v0 v1 N = some (r, N1)) (hls : ls.size = nL) (hW : (rest.map fun v => v.category).sum ≤ 8) (hR1 : 2 ≤ R.frames ∧ 43 ≤ R.locals) (hcs : cells + 0 ≤ R.cells ∧ slots + 0 ≤ R.slots) (hdg : decode cc pc = .ok (.invokevirtual index, 3)) (kk : ∀ (H1 : Heap) (locs1 : List Loc), Rp G aC b0 N1 H1 → va_S (fun q => b0 ≤ q) s.heap H1 locs1 → W p l e R s m args below meth c H1 locs1 cells slots Q (F0 m (pc + 3) ls (.int r :: rest))) : W p l e R s m args below meth c H locs cells slots Q (F0 m pc ls (.int v1 :: .ref v0 :: rest)) :=
  ab_callV (n := 1) (As := [.int v1]) X hR hS (ct_X10_sign h) (ob_rc (c := 10) (N := N) (a := v0) h) (T := TX10) (k := 20) (C := RX10) rfl w1 (WT_of 1045 (by decide +kernel) (by decide +kernel)) (WT_of 37 (by decide +kernel) (by decide +kernel)) (WT_of 92 (by decide +kernel) (by decide +kernel)) cw_X10_sign ⟨rfl, by decide +kernel, by decide +kernel, by decide +kernel⟩ rfl hls hW hR1 hcs rfl hdg kk
-- X10_number
theorem dX10_number_0 : decode cX10_number 0 = .ok (.aload_n 0, 1) := by decide +kernel
theorem dX10_number_1 : decode cX10_number 1 = .ok (.iconst 0, 1) := by decide +kernel
theorem dX10_number_2 : decode cX10_number 2 = .ok (.invokevirtual 161, 3) := by decide +kernel
theorem dX10_number_5 : decode cX10_number 5 = .ok (.pop, 1) := by decide +kernel
theorem dX10_number_6 : decode cX10_number 6 = .ok (.aload_n 0, 1) := by decide +kernel
theorem dX10_number_7 : decode cX10_number 7 = .ok (.getfield 158, 3) := by decide +kernel
theorem dX10_number_10 : decode cX10_number 10 = .ok (.istore_n 1, 1) := by decide +kernel
theorem dX10_number_11 : decode cX10_number 11 = .ok (.lconst 0, 1) := by decide +kernel
theorem dX10_number_12 : decode cX10_number 12 = .ok (.lstore_n 2, 1) := by decide +kernel
theorem dX10_number_13 : decode cX10_number 13 = .ok (.iload_n 1, 1) := by decide +kernel
theorem dX10_number_14 : decode cX10_number 14 = .ok (.aload_n 0, 1) := by decide +kernel
theorem dX10_number_15 : decode cX10_number 15 = .ok (.getfield 155, 3) := by decide +kernel
theorem dX10_number_18 : decode cX10_number 18 = .ok (.if_icmp .ge 61, 3) := by decide +kernel
theorem dX10_number_21 : decode cX10_number 21 = .ok (.aload_n 0, 1) := by decide +kernel
theorem dX10_number_22 : decode cX10_number 22 = .ok (.getfield 13, 3) := by decide +kernel
theorem dX10_number_25 : decode cX10_number 25 = .ok (.iload_n 1, 1) := by decide +kernel
theorem dX10_number_26 : decode cX10_number 26 = .ok (.iaload, 1) := by decide +kernel
theorem dX10_number_27 : decode cX10_number 27 = .ok (.i2l, 1) := by decide +kernel
theorem dX10_number_28 : decode cX10_number 28 = .ok (.ldc2_w 164, 3) := by decide +kernel
theorem dX10_number_31 : decode cX10_number 31 = .ok (.ldc2_w 168, 3) := by decide +kernel
theorem dX10_number_34 : decode cX10_number 34 = .ok (.invokestatic 60, 3) := by decide +kernel
theorem dX10_number_37 : decode cX10_number 37 = .ok (.ifCond .eq 42, 3) := by decide +kernel
theorem dX10_number_40 : decode cX10_number 40 = .ok (.iload_n 1, 1) := by decide +kernel
theorem dX10_number_41 : decode cX10_number 41 = .ok (.aload_n 0, 1) := by decide +kernel
theorem dX10_number_42 : decode cX10_number 42 = .ok (.getfield 158, 3) := by decide +kernel
theorem dX10_number_45 : decode cX10_number 45 = .ok (.isub, 1) := by decide +kernel
theorem dX10_number_46 : decode cX10_number 46 = .ok (.bipush 7, 2) := by decide +kernel
theorem dX10_number_48 : decode cX10_number 48 = .ok (.if_icmp .ge 23, 3) := by decide +kernel
theorem dX10_number_51 : decode cX10_number 51 = .ok (.ldc2_w 170, 3) := by decide +kernel
theorem dX10_number_54 : decode cX10_number 54 = .ok (.lload_n 2, 1) := by decide +kernel
theorem dX10_number_55 : decode cX10_number 55 = .ok (.lmul, 1) := by decide +kernel
theorem dX10_number_56 : decode cX10_number 56 = .ok (.aload_n 0, 1) := by decide +kernel
theorem dX10_number_57 : decode cX10_number 57 = .ok (.getfield 13, 3) := by decide +kernel
theorem dX10_number_60 : decode cX10_number 60 = .ok (.iload_n 1, 1) := by decide +kernel
theorem dX10_number_61 : decode cX10_number 61 = .ok (.iaload, 1) := by decide +kernel
theorem dX10_number_62 : decode cX10_number 62 = .ok (.i2l, 1) := by decide +kernel
theorem dX10_number_63 : decode cX10_number 63 = .ok (.ladd, 1) := by decide +kernel
theorem dX10_number_64 : decode cX10_number 64 = .ok (.ldc2_w 164, 3) := by decide +kernel
theorem dX10_number_67 : decode cX10_number 67 = .ok (.lsub, 1) := by decide +kernel
theorem dX10_number_68 : decode cX10_number 68 = .ok (.goto 4, 3) := by decide +kernel
theorem dX10_number_71 : decode cX10_number 71 = .ok (.lload_n 2, 1) := by decide +kernel
theorem dX10_number_72 : decode cX10_number 72 = .ok (.lstore_n 2, 1) := by decide +kernel
theorem dX10_number_73 : decode cX10_number 73 = .ok (.iinc 1 1, 3) := by decide +kernel
theorem dX10_number_76 : decode cX10_number 76 = .ok (.goto (-63), 3) := by decide +kernel
theorem dX10_number_79 : decode cX10_number 79 = .ok (.iload_n 1, 1) := by decide +kernel
theorem dX10_number_80 : decode cX10_number 80 = .ok (.aload_n 0, 1) := by decide +kernel
theorem dX10_number_81 : decode cX10_number 81 = .ok (.getfield 158, 3) := by decide +kernel
theorem dX10_number_84 : decode cX10_number 84 = .ok (.if_icmp .eq 25, 3) := by decide +kernel
theorem dX10_number_87 : decode cX10_number 87 = .ok (.iload_n 1, 1) := by decide +kernel
theorem dX10_number_88 : decode cX10_number 88 = .ok (.aload_n 0, 1) := by decide +kernel
theorem dX10_number_89 : decode cX10_number 89 = .ok (.getfield 158, 3) := by decide +kernel
theorem dX10_number_92 : decode cX10_number 92 = .ok (.isub, 1) := by decide +kernel
theorem dX10_number_93 : decode cX10_number 93 = .ok (.bipush 6, 2) := by decide +kernel
theorem dX10_number_95 : decode cX10_number 95 = .ok (.if_icmp .gt 14, 3) := by decide +kernel
theorem dX10_number_98 : decode cX10_number 98 = .ok (.lload_n 2, 1) := by decide +kernel
theorem dX10_number_99 : decode cX10_number 99 = .ok (.lconst 1, 1) := by decide +kernel
theorem dX10_number_100 : decode cX10_number 100 = .ok (.ldc2_w 172, 3) := by decide +kernel
theorem dX10_number_103 : decode cX10_number 103 = .ok (.invokestatic 60, 3) := by decide +kernel
theorem dX10_number_106 : decode cX10_number 106 = .ok (.ifCond .ne 5, 3) := by decide +kernel
theorem dX10_number_109 : decode cX10_number 109 = .ok (.iconst (-1), 1) := by decide +kernel
theorem dX10_number_110 : decode cX10_number 110 = .ok (.ireturn, 1) := by decide +kernel
theorem dX10_number_111 : decode cX10_number 111 = .ok (.aload_n 0, 1) := by decide +kernel
theorem dX10_number_112 : decode cX10_number 112 = .ok (.iload_n 1, 1) := by decide +kernel
theorem dX10_number_113 : decode cX10_number 113 = .ok (.putfield 158, 3) := by decide +kernel
theorem dX10_number_116 : decode cX10_number 116 = .ok (.lload_n 2, 1) := by decide +kernel
theorem dX10_number_117 : decode cX10_number 117 = .ok (.l2i, 1) := by decide +kernel
theorem dX10_number_118 : decode cX10_number 118 = .ok (.ireturn, 1) := by decide +kernel
def rm_X10_number : Room := { frames := 1, cells := 0, slots := 0, locals := 25 }
section
variable {p : Program} {l : Launch} {e : Env} {s : State} {m : MethodId} {args : Array Value} {below : List Frame} {meth : Method} {c : Code} {Q : State → Prop} {G : va_G} {aC : Nat → ClassId} {t b0 : Nat}
def f_X10_number_L13 (v0 : Nat) (k79 : Int32 → Int64 → AH → Option (Int32 × AH)) : Nat → Int32 → Int64 → AH → Option (Int32 × AH)
  | 0, _, _, _ => none
  | n + 1, v1, v2, N => ob (hI N v0 10 3) (fun x4 => if x4 ≤ v1 then k79 v1 v2 N else ob (hR N v0 10 2) (fun x6 => ob (aI N x6 v1) (fun x7 => ob2 (f_X10_in (Int32.toInt64 x7) (48 : Int64) (57 : Int64) N) (fun x9 N8 => if x9 = 0 then k79 v1 v2 N8 else ob (hI N8 v0 10 15) (fun x11 => if (7 : Int32) ≤ (v1 - x11) then f_X10_number_L13 v0 k79 n (v1 + 1) v2 N8 else ob (hR N8 v0 10 2) (fun x13 => ob (aI N8 x13 v1) (fun x14 => f_X10_number_L13 v0 k79 n (v1 + 1) ((((10 : Int64) * v2) + (Int32.toInt64 x14)) - (48 : Int64)) N8)))))))
set_option maxHeartbeats 4000000 in
set_option maxRecDepth 100000 in
theorem w_X10_number_L13 {P : Int32 × AH → Prop} (X : CX cX10_number RX10 4 G aC t b0 p s m args c) (hr : RtI p l e rm_X10_number s m args below meth c 0 0 Q cX10_number G aC b0 P) (v0 : Nat) {k79 : Int32 → Int64 → AH → Option (Int32 × AH)}
    (hk79 : ∀ (v1 : Int32) (v2 : Int64) (N : AH) (H : Heap) (locs : List Loc) (ls : Array Slot), Rp G aC b0 N H → va_S (fun q => b0 ≤ q) s.heap H locs → lv_has ls 4 [(0, .ref v0), (1, .int v1), (2, .long v2)] → owp (k79 v1 v2 N) P → W p l e rm_X10_number s m args below meth c H locs 0 0 Q (F0 m 79 ls [])) :
    ∀ (n : Nat) (v1 : Int32) (v2 : Int64) (N : AH) (H : Heap) (locs : List Loc) (ls : Array Slot), Rp G aC b0 N H → va_S (fun q => b0 ≤ q) s.heap H locs → lv_has ls 4 [(0, .ref v0), (1, .int v1), (2, .long v2)] → owp (f_X10_number_L13 v0 k79 n v1 v2 N) P → W p l e rm_X10_number s m args below meth c H locs 0 0 Q (F0 m 13 ls []) := by
  have hx := X.1.1
  have hb := X.1.2.1
  intro n
  induction n with
  | zero =>
    intro v1 v2 N H locs ls hR hS hl hp
    exact (show False from hp).elim
  | succ n ih =>
    intro v1 v2 N H locs ls hR hS hl hp
    rw [f_X10_number_L13] at hp
    refine lv_iload_n hx hb dX10_number_13 rfl (lv_at hl 1 rfl) ?_
    refine lv_aload_n hx hb dX10_number_14 rfl (lv_at hl 0 rfl) ?_
    obtain ⟨x4, e_x4, hp⟩ := owp_ob hp
    refine gf_X10_155 X hR e_x4 dX10_number_15 ?_
    refine lv_icmp_ge (tgt := 79) hx hb dX10_number_18 (by decide) (fun k5 => ?_) (fun k5 => ?_)
    · have hp := owp_t k5 hp
      exact hk79 _ _ _ _ _ _ hR hS hl hp
    · have hp := owp_f k5 hp
      refine lv_aload_n hx hb dX10_number_21 rfl (lv_at hl 0 rfl) ?_
      obtain ⟨x6, e_x6, hp⟩ := owp_ob hp
      refine gf_X10_13 X hR e_x6 dX10_number_22 ?_
      refine lv_iload_n hx hb dX10_number_25 rfl (lv_at hl 1 rfl) ?_
      obtain ⟨x7, e_x7, hp⟩ := owp_ob hp
      refine ab_iald X hR e_x7 dX10_number_26 ?_
      refine lv_i2l (v := Int32.toInt64 x7) hx hb dX10_number_27 rfl ?_
      refine lv_ldc2 (own := RX10) (v := 48) hx hb X.1.2.2.2.1 (X.1.2.2.2.2 _ (WT_of 1041 (by decide +kernel) (by decide +kernel))) dX10_number_28 ?_
      refine lv_ldc2 (own := RX10) (v := 57) hx hb X.1.2.2.2.1 (X.1.2.2.2.2 _ (WT_of 1051 (by decide +kernel) (by decide +kernel))) dX10_number_31 ?_
      obtain ⟨x9, N8, e_N8, hp⟩ := owp_ob2 hp
      refine iv_X10_in (rest := []) mw_X10_60 X hR hS e_N8 hl.1 (Nat.le_of_ble_eq_true rfl) ⟨Nat.le_of_ble_eq_true rfl, Nat.le_of_ble_eq_true rfl⟩ ⟨Nat.le_of_ble_eq_true rfl, Nat.le_of_ble_eq_true rfl⟩ dX10_number_34 (fun H locs hR hS => ?_)
      refine lv_if_eq (tgt := 79) hx hb dX10_number_37 (by decide) (fun k10 => ?_) (fun k10 => ?_)
      · have hp := owp_t k10 hp
        exact hk79 _ _ _ _ _ _ hR hS hl hp
      · have hp := owp_f k10 hp
        refine lv_iload_n hx hb dX10_number_40 rfl (lv_at hl 1 rfl) ?_
        refine lv_aload_n hx hb dX10_number_41 rfl (lv_at hl 0 rfl) ?_
        obtain ⟨x11, e_x11, hp⟩ := owp_ob hp
        refine gf_X10_158 X hR e_x11 dX10_number_42 ?_
        refine lv_isub hx hb dX10_number_45 ?_
        refine lv_bipush (v := (7)) hx hb dX10_number_46 (by decide) ?_
        refine lv_icmp_ge (tgt := 71) hx hb dX10_number_48 (by decide) (fun k12 => ?_) (fun k12 => ?_)
        · have hp := owp_t k12 hp
          refine lv_lload_n hx hb dX10_number_71 rfl (lv_at hl 2 rfl) ?_
          refine lv_lstore_n (lv' := [(2, .long v2), (0, .ref v0), (1, .int v1)]) hx hb dX10_number_72 rfl hl (by decide) rfl (fun ls hl => ?_)
          refine lv_iinc (v := v1 + 1) (lv' := [(1, .int (v1 + 1)), (2, .long v2), (0, .ref v0)]) hx hb dX10_number_73 hl (k := 2) rfl rfl (by decide) rfl (fun ls hl => ?_)
          refine lv_goto (tgt := 13) hx hb dX10_number_76 (by decide) ?_
          exact ih _ _ _ _ _ _ hR hS (lv_sub hl [2, 0, 1] rfl) hp
        · have hp := owp_f k12 hp
          refine lv_ldc2 (own := RX10) (v := 10) hx hb X.1.2.2.2.1 (X.1.2.2.2.2 _ (WT_of 1052 (by decide +kernel) (by decide +kernel))) dX10_number_51 ?_
          refine lv_lload_n hx hb dX10_number_54 rfl (lv_at hl 2 rfl) ?_
          refine lv_lmul hx hb dX10_number_55 ?_
          refine lv_aload_n hx hb dX10_number_56 rfl (lv_at hl 0 rfl) ?_
          obtain ⟨x13, e_x13, hp⟩ := owp_ob hp
          refine gf_X10_13 X hR e_x13 dX10_number_57 ?_
          refine lv_iload_n hx hb dX10_number_60 rfl (lv_at hl 1 rfl) ?_
          obtain ⟨x14, e_x14, hp⟩ := owp_ob hp
          refine ab_iald X hR e_x14 dX10_number_61 ?_
          refine lv_i2l (v := Int32.toInt64 x14) hx hb dX10_number_62 rfl ?_
          refine lv_ladd hx hb dX10_number_63 ?_
          refine lv_ldc2 (own := RX10) (v := 48) hx hb X.1.2.2.2.1 (X.1.2.2.2.2 _ (WT_of 1041 (by decide +kernel) (by decide +kernel))) dX10_number_64 ?_
          refine lv_lsub hx hb dX10_number_67 ?_
          refine lv_goto (tgt := 72) hx hb dX10_number_68 (by decide) ?_
          refine lv_lstore_n (lv' := [(2, .long ((((10 : Int64) * v2) + (Int32.toInt64 x14)) - (48 : Int64))), (0, .ref v0), (1, .int v1)]) hx hb dX10_number_72 rfl hl (by decide) rfl (fun ls hl => ?_)
          refine lv_iinc (v := v1 + 1) (lv' := [(1, .int (v1 + 1)), (2, .long ((((10 : Int64) * v2) + (Int32.toInt64 x14)) - (48 : Int64))), (0, .ref v0)]) hx hb dX10_number_73 hl (k := 2) rfl rfl (by decide) rfl (fun ls hl => ?_)
          refine lv_goto (tgt := 13) hx hb dX10_number_76 (by decide) ?_
          exact ih _ _ _ _ _ _ hR hS (lv_sub hl [2, 0, 1] rfl) hp
def f_X10_number_J79 (v0 : Nat) (v1 : Int32) (v2 : Int64) (N : AH) : Option (Int32 × AH) := ob (hI N v0 10 15) (fun x18 => if v1 = x18 then some ((-1 : Int32), N) else ob (hI N v0 10 15) (fun x20 => if (6 : Int32) < (v1 - x20) then some ((-1 : Int32), N) else ob2 (f_X10_in v2 (1 : Int64) (100000 : Int64) N) (fun x23 N22 => if ¬ x23 = 0 then ob (pI N22 v0 10 15 v1) (fun N25 => some (Int64.toInt32 v2, N25)) else some ((-1 : Int32), N22))))
set_option maxHeartbeats 4000000 in
set_option maxRecDepth 100000 in
theorem w_X10_number_J79 {P : Int32 × AH → Prop} (X : CX cX10_number RX10 4 G aC t b0 p s m args c) (hr : RtI p l e rm_X10_number s m args below meth c 0 0 Q cX10_number G aC b0 P) (v0 : Nat) (v1 : Int32) (v2 : Int64) (N : AH) (H : Heap) (locs : List Loc) (ls : Array Slot) (hR : Rp G aC b0 N H) (hS : va_S (fun q => b0 ≤ q) s.heap H locs) (hl : lv_has ls 4 [(0, .ref v0), (1, .int v1), (2, .long v2)]) (hp : owp (f_X10_number_J79 v0 v1 v2 N) P) : W p l e rm_X10_number s m args below meth c H locs 0 0 Q (F0 m 79 ls []) := by
  have hx := X.1.1
  have hb := X.1.2.1
  unfold f_X10_number_J79 at hp
  refine lv_iload_n hx hb dX10_number_79 rfl (lv_at hl 1 rfl) ?_
  refine lv_aload_n hx hb dX10_number_80 rfl (lv_at hl 0 rfl) ?_
  obtain ⟨x18, e_x18, hp⟩ := owp_ob hp
  refine gf_X10_158 X hR e_x18 dX10_number_81 ?_
  refine lv_icmp_eq (tgt := 109) hx hb dX10_number_84 (by decide) (fun k19 => ?_) (fun k19 => ?_)
  · have hp := owp_t k19 hp
    refine lv_iconst (v := (-1)) hx hb dX10_number_109 (by decide) ?_
    exact hr _ _ _ _ _ _ hR hS dX10_number_110 hp
  · have hp := owp_f k19 hp
    refine lv_iload_n hx hb dX10_number_87 rfl (lv_at hl 1 rfl) ?_
    refine lv_aload_n hx hb dX10_number_88 rfl (lv_at hl 0 rfl) ?_
    obtain ⟨x20, e_x20, hp⟩ := owp_ob hp
    refine gf_X10_158 X hR e_x20 dX10_number_89 ?_
    refine lv_isub hx hb dX10_number_92 ?_
    refine lv_bipush (v := (6)) hx hb dX10_number_93 (by decide) ?_
    refine lv_icmp_gt (tgt := 109) hx hb dX10_number_95 (by decide) (fun k21 => ?_) (fun k21 => ?_)
    · have hp := owp_t k21 hp
      refine lv_iconst (v := (-1)) hx hb dX10_number_109 (by decide) ?_
      exact hr _ _ _ _ _ _ hR hS dX10_number_110 hp
    · have hp := owp_f k21 hp
      refine lv_lload_n hx hb dX10_number_98 rfl (lv_at hl 2 rfl) ?_
      refine lv_lconst (v := 1) hx hb dX10_number_99 (by decide) ?_
      refine lv_ldc2 (own := RX10) (v := 100000) hx hb X.1.2.2.2.1 (X.1.2.2.2.2 _ (WT_of 1053 (by decide +kernel) (by decide +kernel))) dX10_number_100 ?_
      obtain ⟨x23, N22, e_N22, hp⟩ := owp_ob2 hp
      refine iv_X10_in (rest := []) mw_X10_60 X hR hS e_N22 hl.1 (Nat.le_of_ble_eq_true rfl) ⟨Nat.le_of_ble_eq_true rfl, Nat.le_of_ble_eq_true rfl⟩ ⟨Nat.le_of_ble_eq_true rfl, Nat.le_of_ble_eq_true rfl⟩ dX10_number_103 (fun H locs hR hS => ?_)
      refine lv_if_ne (tgt := 111) hx hb dX10_number_106 (by decide) (fun k24 => ?_) (fun k24 => ?_)
      · have hp := owp_t k24 hp
        refine lv_aload_n hx hb dX10_number_111 rfl (lv_at hl 0 rfl) ?_
        refine lv_iload_n hx hb dX10_number_112 rfl (lv_at hl 1 rfl) ?_
        obtain ⟨N25, e_N25, hp⟩ := owp_ob hp
        refine pf_X10_158 X hR hS e_N25 dX10_number_113 (fun H locs hR hS => ?_)
        refine lv_lload_n hx hb dX10_number_116 rfl (lv_at hl 2 rfl) ?_
        refine lv_l2i (v := Int64.toInt32 v2) hx hb dX10_number_117 rfl ?_
        exact hr _ _ _ _ _ _ hR hS dX10_number_118 hp
      · have hp := owp_f (fun q => q k24) hp
        refine lv_iconst (v := (-1)) hx hb dX10_number_109 (by decide) ?_
        exact hr _ _ _ _ _ _ hR hS dX10_number_110 hp
def f_X10_number (v0 : Nat) (N : AH) : Option (Int32 × AH) := ob (iO N v0 10) (fun _ => ob2 (f_X10_here v0 (0 : Int32) N) (fun x2 N1 => ob (hI N1 v0 10 15) (fun x3 => f_X10_number_L13 v0 (fun v15 v16 N17 => f_X10_number_J79 v0 v15 v16 N17) FU x3 (0 : Int64) N1)))
set_option maxHeartbeats 4000000 in
set_option maxRecDepth 100000 in
theorem wk_X10_number {P : Int32 × AH → Prop} (X : CX cX10_number RX10 4 G aC t b0 p s m args c) (hr : RtI p l e rm_X10_number s m args below meth c 0 0 Q cX10_number G aC b0 P) (v0 : Nat) (N : AH) (H : Heap) (locs : List Loc) (ls : Array Slot) (hR : Rp G aC b0 N H) (hS : va_S (fun q => b0 ≤ q) s.heap H locs) (hl : lv_has ls 4 [(0, .ref v0)]) (hp : owp (f_X10_number v0 N) P) : W p l e rm_X10_number s m args below meth c H locs 0 0 Q (F0 m 0 ls []) := by
  have hx := X.1.1
  have hb := X.1.2.1
  unfold f_X10_number at hp
  obtain ⟨_, _, hp⟩ := owp_ob hp
  refine lv_aload_n hx hb dX10_number_0 rfl (lv_at hl 0 rfl) ?_
  refine lv_iconst (v := (0)) hx hb dX10_number_1 (by decide) ?_
  obtain ⟨x2, N1, e_N1, hp⟩ := owp_ob2 hp
  refine iv_X10_here (rest := []) mw_X10_161 X hR hS e_N1 hl.1 (Nat.le_of_ble_eq_true rfl) ⟨Nat.le_of_ble_eq_true rfl, Nat.le_of_ble_eq_true rfl⟩ ⟨Nat.le_of_ble_eq_true rfl, Nat.le_of_ble_eq_true rfl⟩ dX10_number_2 (fun H locs hR hS => ?_)
  refine lv_pop hx hb dX10_number_5 rfl ?_
  refine lv_aload_n hx hb dX10_number_6 rfl (lv_at hl 0 rfl) ?_
  obtain ⟨x3, e_x3, hp⟩ := owp_ob hp
  refine gf_X10_158 X hR e_x3 dX10_number_7 ?_
  refine lv_istore_n (lv' := [(1, .int x3), (0, .ref v0)]) hx hb dX10_number_10 rfl hl (by decide) rfl (fun ls hl => ?_)
  refine lv_lconst (v := 0) hx hb dX10_number_11 (by decide) ?_
  refine lv_lstore_n (lv' := [(2, .long (0 : Int64)), (1, .int x3), (0, .ref v0)]) hx hb dX10_number_12 rfl hl (by decide) rfl (fun ls hl => ?_)
  refine w_X10_number_L13 X hr _ (fun v15 v16 N17 H locs ls hR hS hl hp => ?_) _ _ _ _ _ _ _ hR hS (lv_sub hl [2, 1, 0] rfl) hp
  exact w_X10_number_J79 X hr _ _ _ _ _ _ _ hR hS hl hp
end
theorem ct_X10_number {v0 : Nat} {N N1 : AH} {r : Int32} (h : f_X10_number v0 N = some (r, N1)) : Ct yX10_number cX10_number 4 (some .int) rm_X10_number [.ref v0] N (some (.int r)) N1 :=
  ab_met (own := RX10) (by decide +kernel) rfl (Nat.le_of_ble_eq_true rfl) (fun l G aC t b0 p e s m below meth c ls X hr hlk hnm hR hS hl => wk_X10_number X (RtI_met X.1.1 X.1.2.1 hr hlk) _ _ _ _ _ hR hS hl (owp_of h))
theorem cw_X10_number : Cond.code yX10_number cX10_number 4 (some .int) ∈ WT := WT_of 1050 (by decide +kernel) (by decide +kernel)
theorem iv_X10_number {p : Program} {l : Launch} {e : Env} {R : Room} {s : State} {m : MethodId} {args : Array Value} {below : List Frame} {meth : Method} {c : Code} {H : Heap} {locs : List Loc} {cells slots : Nat} {Q : State → Prop} {cc : ByteArray} {own : String} {nL : Nat} {G : va_G} {aC : Nat → ClassId} {t b0 : Nat} {N N1 : AH} {pc index : Nat} {ls : Array Slot} {rest : List Value} {v0 : Nat} {r : Int32} (w1 : Cond.methodLink own index yX10_number ∈ WT) (X : CX cc own nL G aC t b0 p s m args c) (hR : Rp G aC b0 N H) (hS : va_S (fun q => b0 ≤ q) s.heap H locs) (h : f_X10_number v0 N = some (r, N1)) (hls : ls.size = nL) (hW : (rest.map fun v => v.category).sum ≤ 8) (hR1 : 2 ≤ R.frames ∧ 48 ≤ R.locals) (hcs : cells + 0 ≤ R.cells ∧ slots + 0 ≤ R.slots) (hdg : decode cc pc = .ok (.invokevirtual index, 3)) (kk : ∀ (H1 : Heap) (locs1 : List Loc), Rp G aC b0 N1 H1 → va_S (fun q => b0 ≤ q) s.heap H1 locs1 → W p l e R s m args below meth c H1 locs1 cells slots Q (F0 m (pc + 3) ls (.int r :: rest))) : W p l e R s m args below meth c H locs cells slots Q (F0 m pc ls (.ref v0 :: rest)) :=
  ab_callV (n := 0) (As := []) X hR hS (ct_X10_number h) (ob_rc (c := 10) (N := N) (a := v0) h) (T := TX10) (k := 20) (C := RX10) rfl w1 (WT_of 1049 (by decide +kernel) (by decide +kernel)) (WT_of 38 (by decide +kernel) (by decide +kernel)) (WT_of 92 (by decide +kernel) (by decide +kernel)) cw_X10_number ⟨rfl, by decide +kernel, by decide +kernel, by decide +kernel⟩ rfl hls hW hR1 hcs rfl hdg kk
-- X10_drafts
theorem dX10_drafts_0 : decode cX10_drafts 0 = .ok (.bipush 42, 2) := by decide +kernel
theorem dX10_drafts_2 : decode cX10_drafts 2 = .ok (.iconst 3, 1) := by decide +kernel
theorem dX10_drafts_3 : decode cX10_drafts 3 = .ok (.aload_n 0, 1) := by decide +kernel
theorem dX10_drafts_4 : decode cX10_drafts 4 = .ok (.getfield 7, 3) := by decide +kernel
theorem dX10_drafts_7 : decode cX10_drafts 7 = .ok (.bipush 7, 2) := by decide +kernel
theorem dX10_drafts_9 : decode cX10_drafts 9 = .ok (.iaload, 1) := by decide +kernel
theorem dX10_drafts_10 : decode cX10_drafts 10 = .ok (.imul, 1) := by decide +kernel
theorem dX10_drafts_11 : decode cX10_drafts 11 = .ok (.iadd, 1) := by decide +kernel
theorem dX10_drafts_12 : decode cX10_drafts 12 = .ok (.istore 4, 2) := by decide +kernel
theorem dX10_drafts_14 : decode cX10_drafts 14 = .ok (.aload_n 0, 1) := by decide +kernel
theorem dX10_drafts_15 : decode cX10_drafts 15 = .ok (.getfield 7, 3) := by decide +kernel
theorem dX10_drafts_18 : decode cX10_drafts 18 = .ok (.iload 4, 2) := by decide +kernel
theorem dX10_drafts_20 : decode cX10_drafts 20 = .ok (.iload_n 1, 1) := by decide +kernel
theorem dX10_drafts_21 : decode cX10_drafts 21 = .ok (.iastore, 1) := by decide +kernel
theorem dX10_drafts_22 : decode cX10_drafts 22 = .ok (.aload_n 0, 1) := by decide +kernel
theorem dX10_drafts_23 : decode cX10_drafts 23 = .ok (.getfield 7, 3) := by decide +kernel
theorem dX10_drafts_26 : decode cX10_drafts 26 = .ok (.iload 4, 2) := by decide +kernel
theorem dX10_drafts_28 : decode cX10_drafts 28 = .ok (.iconst 1, 1) := by decide +kernel
theorem dX10_drafts_29 : decode cX10_drafts 29 = .ok (.iadd, 1) := by decide +kernel
theorem dX10_drafts_30 : decode cX10_drafts 30 = .ok (.iload_n 2, 1) := by decide +kernel
theorem dX10_drafts_31 : decode cX10_drafts 31 = .ok (.iastore, 1) := by decide +kernel
theorem dX10_drafts_32 : decode cX10_drafts 32 = .ok (.aload_n 0, 1) := by decide +kernel
theorem dX10_drafts_33 : decode cX10_drafts 33 = .ok (.getfield 7, 3) := by decide +kernel
theorem dX10_drafts_36 : decode cX10_drafts 36 = .ok (.iload 4, 2) := by decide +kernel
theorem dX10_drafts_38 : decode cX10_drafts 38 = .ok (.iconst 2, 1) := by decide +kernel
theorem dX10_drafts_39 : decode cX10_drafts 39 = .ok (.iadd, 1) := by decide +kernel
theorem dX10_drafts_40 : decode cX10_drafts 40 = .ok (.iload_n 3, 1) := by decide +kernel
theorem dX10_drafts_41 : decode cX10_drafts 41 = .ok (.iastore, 1) := by decide +kernel
theorem dX10_drafts_42 : decode cX10_drafts 42 = .ok (.aload_n 0, 1) := by decide +kernel
theorem dX10_drafts_43 : decode cX10_drafts 43 = .ok (.getfield 7, 3) := by decide +kernel
theorem dX10_drafts_46 : decode cX10_drafts 46 = .ok (.bipush 7, 2) := by decide +kernel
theorem dX10_drafts_48 : decode cX10_drafts 48 = .ok (.dup2, 1) := by decide +kernel
theorem dX10_drafts_49 : decode cX10_drafts 49 = .ok (.iaload, 1) := by decide +kernel
theorem dX10_drafts_50 : decode cX10_drafts 50 = .ok (.iconst 1, 1) := by decide +kernel
theorem dX10_drafts_51 : decode cX10_drafts 51 = .ok (.iadd, 1) := by decide +kernel
theorem dX10_drafts_52 : decode cX10_drafts 52 = .ok (.iastore, 1) := by decide +kernel
theorem dX10_drafts_53 : decode cX10_drafts 53 = .ok (.return_, 1) := by decide +kernel
def rm_X10_drafts : Room := { frames := 0, cells := 0, slots := 0, locals := 0 }
section
variable {p : Program} {l : Launch} {e : Env} {s : State} {m : MethodId} {args : Array Value} {below : List Frame} {meth : Method} {c : Code} {Q : State → Prop} {G : va_G} {aC : Nat → ClassId} {t b0 : Nat}
def f_X10_drafts (v0 : Nat) (v1 : Int32) (v2 : Int32) (v3 : Int32) (N : AH) : Option (Unit × AH) := ob (iO N v0 10) (fun _ => ob (hR N v0 10 0) (fun x1 => ob (aI N x1 (7 : Int32)) (fun x2 => ob (hR N v0 10 0) (fun x3 => ob (sI N x3 ((42 : Int32) + ((3 : Int32) * x2)) v1) (fun N4 => ob (hR N4 v0 10 0) (fun x5 => ob (sI N4 x5 (((42 : Int32) + ((3 : Int32) * x2)) + (1 : Int32)) v2) (fun N6 => ob (hR N6 v0 10 0) (fun x7 => ob (sI N6 x7 (((42 : Int32) + ((3 : Int32) * x2)) + (2 : Int32)) v3) (fun N8 => ob (hR N8 v0 10 0) (fun x9 => ob (aI N8 x9 (7 : Int32)) (fun x10 => ob (sI N8 x9 (7 : Int32) (x10 + (1 : Int32))) (fun N11 => some ((), N11)))))))))))))
set_option maxHeartbeats 4000000 in
set_option maxRecDepth 100000 in
theorem wk_X10_drafts {P : Unit × AH → Prop} (X : CX cX10_drafts RX10 5 G aC t b0 p s m args c) (hr : RtV p l e rm_X10_drafts s m args below meth c 0 0 Q cX10_drafts G aC b0 P) (v0 : Nat) (v1 : Int32) (v2 : Int32) (v3 : Int32) (N : AH) (H : Heap) (locs : List Loc) (ls : Array Slot) (hR : Rp G aC b0 N H) (hS : va_S (fun q => b0 ≤ q) s.heap H locs) (hl : lv_has ls 5 [(0, .ref v0), (1, .int v1), (2, .int v2), (3, .int v3)]) (hp : owp (f_X10_drafts v0 v1 v2 v3 N) P) : W p l e rm_X10_drafts s m args below meth c H locs 0 0 Q (F0 m 0 ls []) := by
  have hx := X.1.1
  have hb := X.1.2.1
  unfold f_X10_drafts at hp
  obtain ⟨_, _, hp⟩ := owp_ob hp
  refine lv_bipush (v := (42)) hx hb dX10_drafts_0 (by decide) ?_
  refine lv_iconst (v := (3)) hx hb dX10_drafts_2 (by decide) ?_
  refine lv_aload_n hx hb dX10_drafts_3 rfl (lv_at hl 0 rfl) ?_
  obtain ⟨x1, e_x1, hp⟩ := owp_ob hp
  refine gf_X10_7 X hR e_x1 dX10_drafts_4 ?_
  refine lv_bipush (v := (7)) hx hb dX10_drafts_7 (by decide) ?_
  obtain ⟨x2, e_x2, hp⟩ := owp_ob hp
  refine ab_iald X hR e_x2 dX10_drafts_9 ?_
  refine lv_imul hx hb dX10_drafts_10 ?_
  refine lv_iadd hx hb dX10_drafts_11 ?_
  refine lv_istore (lv' := [(4, .int ((42 : Int32) + ((3 : Int32) * x2))), (0, .ref v0), (1, .int v1), (2, .int v2), (3, .int v3)]) hx hb dX10_drafts_12 hl (by decide) rfl (fun ls hl => ?_)
  refine lv_aload_n hx hb dX10_drafts_14 rfl (lv_at hl 1 rfl) ?_
  obtain ⟨x3, e_x3, hp⟩ := owp_ob hp
  refine gf_X10_7 X hR e_x3 dX10_drafts_15 ?_
  refine lv_iload hx hb dX10_drafts_18 (lv_at hl 0 rfl) ?_
  refine lv_iload_n hx hb dX10_drafts_20 rfl (lv_at hl 2 rfl) ?_
  obtain ⟨N4, e_N4, hp⟩ := owp_ob hp
  refine ab_iast X hR hS e_N4 dX10_drafts_21 (fun H locs hR hS => ?_)
  refine lv_aload_n hx hb dX10_drafts_22 rfl (lv_at hl 1 rfl) ?_
  obtain ⟨x5, e_x5, hp⟩ := owp_ob hp
  refine gf_X10_7 X hR e_x5 dX10_drafts_23 ?_
  refine lv_iload hx hb dX10_drafts_26 (lv_at hl 0 rfl) ?_
  refine lv_iconst (v := (1)) hx hb dX10_drafts_28 (by decide) ?_
  refine lv_iadd hx hb dX10_drafts_29 ?_
  refine lv_iload_n hx hb dX10_drafts_30 rfl (lv_at hl 3 rfl) ?_
  obtain ⟨N6, e_N6, hp⟩ := owp_ob hp
  refine ab_iast X hR hS e_N6 dX10_drafts_31 (fun H locs hR hS => ?_)
  refine lv_aload_n hx hb dX10_drafts_32 rfl (lv_at hl 1 rfl) ?_
  obtain ⟨x7, e_x7, hp⟩ := owp_ob hp
  refine gf_X10_7 X hR e_x7 dX10_drafts_33 ?_
  refine lv_iload hx hb dX10_drafts_36 (lv_at hl 0 rfl) ?_
  refine lv_iconst (v := (2)) hx hb dX10_drafts_38 (by decide) ?_
  refine lv_iadd hx hb dX10_drafts_39 ?_
  refine lv_iload_n hx hb dX10_drafts_40 rfl (lv_at hl 4 rfl) ?_
  obtain ⟨N8, e_N8, hp⟩ := owp_ob hp
  refine ab_iast X hR hS e_N8 dX10_drafts_41 (fun H locs hR hS => ?_)
  refine lv_aload_n hx hb dX10_drafts_42 rfl (lv_at hl 1 rfl) ?_
  obtain ⟨x9, e_x9, hp⟩ := owp_ob hp
  refine gf_X10_7 X hR e_x9 dX10_drafts_43 ?_
  refine lv_bipush (v := (7)) hx hb dX10_drafts_46 (by decide) ?_
  refine lv_dup2_11 hx hb dX10_drafts_48 rfl rfl ?_
  obtain ⟨x10, e_x10, hp⟩ := owp_ob hp
  refine ab_iald X hR e_x10 dX10_drafts_49 ?_
  refine lv_iconst (v := (1)) hx hb dX10_drafts_50 (by decide) ?_
  refine lv_iadd hx hb dX10_drafts_51 ?_
  obtain ⟨N11, e_N11, hp⟩ := owp_ob hp
  refine ab_iast X hR hS e_N11 dX10_drafts_52 (fun H locs hR hS => ?_)
  exact hr _ _ _ _ _ hR hS dX10_drafts_53 hp
end
theorem ct_X10_drafts {v0 : Nat} {v1 : Int32} {v2 : Int32} {v3 : Int32} {N N1 : AH} {r : Unit} (h : f_X10_drafts v0 v1 v2 v3 N = some (r, N1)) : Ct yX10_drafts cX10_drafts 5 none rm_X10_drafts [.ref v0, .int v1, .int v2, .int v3] N none N1 :=
  ab_met (own := RX10) (by decide +kernel) rfl (Nat.le_of_ble_eq_true rfl) (fun l G aC t b0 p e s m below meth c ls X hr hlk hnm hR hS hl => wk_X10_drafts X (RtV_met X.1.1 X.1.2.1 hr hlk) _ _ _ _ _ _ _ _ hR hS hl (owp_of h))
theorem cw_X10_drafts : Cond.code yX10_drafts cX10_drafts 5 none ∈ WT := WT_of 1057 (by decide +kernel) (by decide +kernel)
theorem iv_X10_drafts {p : Program} {l : Launch} {e : Env} {R : Room} {s : State} {m : MethodId} {args : Array Value} {below : List Frame} {meth : Method} {c : Code} {H : Heap} {locs : List Loc} {cells slots : Nat} {Q : State → Prop} {cc : ByteArray} {own : String} {nL : Nat} {G : va_G} {aC : Nat → ClassId} {t b0 : Nat} {N N1 : AH} {pc index : Nat} {ls : Array Slot} {rest : List Value} {v0 : Nat} {v1 : Int32} {v2 : Int32} {v3 : Int32} {r : Unit} (w1 : Cond.methodLink own index yX10_drafts ∈ WT) (X : CX cc own nL G aC t b0 p s m args c) (hR : Rp G aC b0 N H) (hS : va_S (fun q => b0 ≤ q) s.heap H locs) (h : f_X10_drafts v0 v1 v2 v3 N = some (r, N1)) (hls : ls.size = nL) (hW : (rest.map fun v => v.category).sum ≤ 8) (hR1 : 1 ≤ R.frames ∧ 24 ≤ R.locals) (hcs : cells + 0 ≤ R.cells ∧ slots + 0 ≤ R.slots) (hdg : decode cc pc = .ok (.invokevirtual index, 3)) (kk : ∀ (H1 : Heap) (locs1 : List Loc), Rp G aC b0 N1 H1 → va_S (fun q => b0 ≤ q) s.heap H1 locs1 → W p l e R s m args below meth c H1 locs1 cells slots Q (F0 m (pc + 3) ls rest)) : W p l e R s m args below meth c H locs cells slots Q (F0 m pc ls (.int v3 :: .int v2 :: .int v1 :: .ref v0 :: rest)) :=
  ab_callV (n := 3) (As := [.int v1, .int v2, .int v3]) X hR hS (ct_X10_drafts h) (ob_rc (c := 10) (N := N) (a := v0) h) (T := TX10) (k := 20) (C := RX10) rfl w1 (WT_of 1056 (by decide +kernel) (by decide +kernel)) (WT_of 39 (by decide +kernel) (by decide +kernel)) (WT_of 92 (by decide +kernel) (by decide +kernel)) cw_X10_drafts ⟨rfl, by decide +kernel, by decide +kernel, by decide +kernel⟩ rfl hls hW hR1 hcs rfl hdg kk
-- X10_readsFlow
theorem gf_X10_174 {p : Program} {l : Launch} {e : Env} {R : Room} {s : State} {m : MethodId} {args : Array Value} {below : List Frame} {meth : Method} {c : Code} {H : Heap} {locs : List Loc} {cells slots : Nat} {Q : State → Prop} {cc : ByteArray} {nL : Nat} {G : va_G} {aC : Nat → ClassId} {t b0 : Nat} {N : AH} {pc : Nat} {ls : Array Slot} {rest : List Value} {a : Nat} {v : Int32} (X : CX cc RX10 nL G aC t b0 p s m args c) (hR0 : Rp G aC b0 N H) (hv : hI N a 10 17 = some v) (hdg : decode cc pc = .ok (.getfield 174, 3)) (kk : W p l e R s m args below meth c H locs cells slots Q (F0 m (pc + 3) ls (.int v :: rest))) : W p l e R s m args below meth c H locs cells slots Q (F0 m pc ls (.ref a :: rest)) := by
  obtain ⟨fs, h1, h2⟩ := hI_ok hv
  exact ab_get (C := RX10) (T := TX10) (n := 20) X hR0 h1 h2 rfl inX10 (by decide) (WT_of 965 (by decide +kernel) (by decide +kernel)) hdg kk
theorem gf_X10_177 {p : Program} {l : Launch} {e : Env} {R : Room} {s : State} {m : MethodId} {args : Array Value} {below : List Frame} {meth : Method} {c : Code} {H : Heap} {locs : List Loc} {cells slots : Nat} {Q : State → Prop} {cc : ByteArray} {nL : Nat} {G : va_G} {aC : Nat → ClassId} {t b0 : Nat} {N : AH} {pc : Nat} {ls : Array Slot} {rest : List Value} {a : Nat} {v : Int32} (X : CX cc RX10 nL G aC t b0 p s m args c) (hR0 : Rp G aC b0 N H) (hv : hI N a 10 16 = some v) (hdg : decode cc pc = .ok (.getfield 177, 3)) (kk : W p l e R s m args below meth c H locs cells slots Q (F0 m (pc + 3) ls (.int v :: rest))) : W p l e R s m args below meth c H locs cells slots Q (F0 m pc ls (.ref a :: rest)) := by
  obtain ⟨fs, h1, h2⟩ := hI_ok hv
  exact ab_get (C := RX10) (T := TX10) (n := 20) X hR0 h1 h2 rfl inX10 (by decide) (WT_of 964 (by decide +kernel) (by decide +kernel)) hdg kk
theorem mw_X10_180 : Cond.methodLink RX10 180 yX10_port ∈ WT := WT_of 1037 (by decide +kernel) (by decide +kernel)
theorem mw_X10_184 : Cond.methodLink RX10 184 yX10_sign ∈ WT := WT_of 1043 (by decide +kernel) (by decide +kernel)
theorem mw_X10_187 : Cond.methodLink RX10 187 yX10_number ∈ WT := WT_of 1047 (by decide +kernel) (by decide +kernel)
theorem mw_X10_190 : Cond.methodLink RX10 190 yX10_drafts ∈ WT := WT_of 1054 (by decide +kernel) (by decide +kernel)
theorem pf_X10_177 {p : Program} {l : Launch} {e : Env} {R : Room} {s : State} {m : MethodId} {args : Array Value} {below : List Frame} {meth : Method} {c : Code} {H : Heap} {locs : List Loc} {cells slots : Nat} {Q : State → Prop} {cc : ByteArray} {nL : Nat} {G : va_G} {aC : Nat → ClassId} {t b0 : Nat} {N : AH} {pc : Nat} {ls : Array Slot} {rest : List Value} {N1 : AH} {a : Nat} {v : Int32} (X : CX cc RX10 nL G aC t b0 p s m args c) (hR0 : Rp G aC b0 N H) (hS : va_S (fun q => b0 ≤ q) s.heap H locs) (hv : pI N a 10 16 v = some N1) (hdg : decode cc pc = .ok (.putfield 177, 3)) (kk : ∀ (H1 : Heap) (locs1 : List Loc), Rp G aC b0 N1 H1 → va_S (fun q => b0 ≤ q) s.heap H1 locs1 → W p l e R s m args below meth c H1 locs1 cells slots Q (F0 m (pc + 3) ls rest)) : W p l e R s m args below meth c H locs cells slots Q (F0 m pc ls (.int v :: .ref a :: rest)) := by
  obtain ⟨fs, h1, h2, h3⟩ := pV_ok hv
  subst h3
  exact ab_put (C := RX10) (T := TX10) (n := 20) X hR0 hS h1 h2 rfl inX10 tyX10 tyX10_ok nmX10 (by decide) (WT_of 964 (by decide +kernel) (by decide +kernel)) rfl rfl rfl hdg kk
theorem dX10_readsFlow_0 : decode cX10_readsFlow 0 = .ok (.aload_n 0, 1) := by decide +kernel
theorem dX10_readsFlow_1 : decode cX10_readsFlow 1 = .ok (.iconst 0, 1) := by decide +kernel
theorem dX10_readsFlow_2 : decode cX10_readsFlow 2 = .ok (.invokevirtual 161, 3) := by decide +kernel
theorem dX10_readsFlow_5 : decode cX10_readsFlow 5 = .ok (.pop, 1) := by decide +kernel
theorem dX10_readsFlow_6 : decode cX10_readsFlow 6 = .ok (.aload_n 0, 1) := by decide +kernel
theorem dX10_readsFlow_7 : decode cX10_readsFlow 7 = .ok (.getfield 174, 3) := by decide +kernel
theorem dX10_readsFlow_10 : decode cX10_readsFlow 10 = .ok (.ifCond .ne 22, 3) := by decide +kernel
theorem dX10_readsFlow_13 : decode cX10_readsFlow 13 = .ok (.aload_n 0, 1) := by decide +kernel
theorem dX10_readsFlow_14 : decode cX10_readsFlow 14 = .ok (.getfield 7, 3) := by decide +kernel
theorem dX10_readsFlow_17 : decode cX10_readsFlow 17 = .ok (.bipush 7, 2) := by decide +kernel
theorem dX10_readsFlow_19 : decode cX10_readsFlow 19 = .ok (.iaload, 1) := by decide +kernel
theorem dX10_readsFlow_20 : decode cX10_readsFlow 20 = .ok (.aload_n 0, 1) := by decide +kernel
theorem dX10_readsFlow_21 : decode cX10_readsFlow 21 = .ok (.getfield 177, 3) := by decide +kernel
theorem dX10_readsFlow_24 : decode cX10_readsFlow 24 = .ok (.iadd, 1) := by decide +kernel
theorem dX10_readsFlow_25 : decode cX10_readsFlow 25 = .ok (.bipush 16, 2) := by decide +kernel
theorem dX10_readsFlow_27 : decode cX10_readsFlow 27 = .ok (.if_icmp .ne 5, 3) := by decide +kernel
theorem dX10_readsFlow_30 : decode cX10_readsFlow 30 = .ok (.iconst 0, 1) := by decide +kernel
theorem dX10_readsFlow_31 : decode cX10_readsFlow 31 = .ok (.ireturn, 1) := by decide +kernel
theorem dX10_readsFlow_32 : decode cX10_readsFlow 32 = .ok (.aload_n 0, 1) := by decide +kernel
theorem dX10_readsFlow_33 : decode cX10_readsFlow 33 = .ok (.invokevirtual 180, 3) := by decide +kernel
theorem dX10_readsFlow_36 : decode cX10_readsFlow 36 = .ok (.istore_n 1, 1) := by decide +kernel
theorem dX10_readsFlow_37 : decode cX10_readsFlow 37 = .ok (.iload_n 1, 1) := by decide +kernel
theorem dX10_readsFlow_38 : decode cX10_readsFlow 38 = .ok (.ifCond .lt 12, 3) := by decide +kernel
theorem dX10_readsFlow_41 : decode cX10_readsFlow 41 = .ok (.aload_n 0, 1) := by decide +kernel
theorem dX10_readsFlow_42 : decode cX10_readsFlow 42 = .ok (.bipush 62, 2) := by decide +kernel
theorem dX10_readsFlow_44 : decode cX10_readsFlow 44 = .ok (.invokevirtual 184, 3) := by decide +kernel
theorem dX10_readsFlow_47 : decode cX10_readsFlow 47 = .ok (.ifCond .ne 5, 3) := by decide +kernel
theorem dX10_readsFlow_50 : decode cX10_readsFlow 50 = .ok (.iconst 0, 1) := by decide +kernel
theorem dX10_readsFlow_51 : decode cX10_readsFlow 51 = .ok (.ireturn, 1) := by decide +kernel
theorem dX10_readsFlow_52 : decode cX10_readsFlow 52 = .ok (.aload_n 0, 1) := by decide +kernel
theorem dX10_readsFlow_53 : decode cX10_readsFlow 53 = .ok (.invokevirtual 180, 3) := by decide +kernel
theorem dX10_readsFlow_56 : decode cX10_readsFlow 56 = .ok (.istore_n 2, 1) := by decide +kernel
theorem dX10_readsFlow_57 : decode cX10_readsFlow 57 = .ok (.iload_n 2, 1) := by decide +kernel
theorem dX10_readsFlow_58 : decode cX10_readsFlow 58 = .ok (.ifCond .lt 12, 3) := by decide +kernel
theorem dX10_readsFlow_61 : decode cX10_readsFlow 61 = .ok (.aload_n 0, 1) := by decide +kernel
theorem dX10_readsFlow_62 : decode cX10_readsFlow 62 = .ok (.bipush 58, 2) := by decide +kernel
theorem dX10_readsFlow_64 : decode cX10_readsFlow 64 = .ok (.invokevirtual 184, 3) := by decide +kernel
theorem dX10_readsFlow_67 : decode cX10_readsFlow 67 = .ok (.ifCond .ne 5, 3) := by decide +kernel
theorem dX10_readsFlow_70 : decode cX10_readsFlow 70 = .ok (.iconst 0, 1) := by decide +kernel
theorem dX10_readsFlow_71 : decode cX10_readsFlow 71 = .ok (.ireturn, 1) := by decide +kernel
theorem dX10_readsFlow_72 : decode cX10_readsFlow 72 = .ok (.aload_n 0, 1) := by decide +kernel
theorem dX10_readsFlow_73 : decode cX10_readsFlow 73 = .ok (.invokevirtual 187, 3) := by decide +kernel
theorem dX10_readsFlow_76 : decode cX10_readsFlow 76 = .ok (.istore_n 3, 1) := by decide +kernel
theorem dX10_readsFlow_77 : decode cX10_readsFlow 77 = .ok (.iload_n 3, 1) := by decide +kernel
theorem dX10_readsFlow_78 : decode cX10_readsFlow 78 = .ok (.ifCond .ge 5, 3) := by decide +kernel
theorem dX10_readsFlow_81 : decode cX10_readsFlow 81 = .ok (.iconst 0, 1) := by decide +kernel
theorem dX10_readsFlow_82 : decode cX10_readsFlow 82 = .ok (.ireturn, 1) := by decide +kernel
theorem dX10_readsFlow_83 : decode cX10_readsFlow 83 = .ok (.aload_n 0, 1) := by decide +kernel
theorem dX10_readsFlow_84 : decode cX10_readsFlow 84 = .ok (.getfield 174, 3) := by decide +kernel
theorem dX10_readsFlow_87 : decode cX10_readsFlow 87 = .ok (.ifCond .eq 10, 3) := by decide +kernel
theorem dX10_readsFlow_90 : decode cX10_readsFlow 90 = .ok (.aload_n 0, 1) := by decide +kernel
theorem dX10_readsFlow_91 : decode cX10_readsFlow 91 = .ok (.iload_n 1, 1) := by decide +kernel
theorem dX10_readsFlow_92 : decode cX10_readsFlow 92 = .ok (.iload_n 2, 1) := by decide +kernel
theorem dX10_readsFlow_93 : decode cX10_readsFlow 93 = .ok (.iload_n 3, 1) := by decide +kernel
theorem dX10_readsFlow_94 : decode cX10_readsFlow 94 = .ok (.invokevirtual 190, 3) := by decide +kernel
theorem dX10_readsFlow_97 : decode cX10_readsFlow 97 = .ok (.aload_n 0, 1) := by decide +kernel
theorem dX10_readsFlow_98 : decode cX10_readsFlow 98 = .ok (.dup, 1) := by decide +kernel
theorem dX10_readsFlow_99 : decode cX10_readsFlow 99 = .ok (.getfield 177, 3) := by decide +kernel
theorem dX10_readsFlow_102 : decode cX10_readsFlow 102 = .ok (.iconst 1, 1) := by decide +kernel
theorem dX10_readsFlow_103 : decode cX10_readsFlow 103 = .ok (.iadd, 1) := by decide +kernel
theorem dX10_readsFlow_104 : decode cX10_readsFlow 104 = .ok (.putfield 177, 3) := by decide +kernel
theorem dX10_readsFlow_107 : decode cX10_readsFlow 107 = .ok (.iconst 1, 1) := by decide +kernel
theorem dX10_readsFlow_108 : decode cX10_readsFlow 108 = .ok (.ireturn, 1) := by decide +kernel
def rm_X10_readsFlow : Room := { frames := 2, cells := 0, slots := 0, locals := 48 }
section
variable {p : Program} {l : Launch} {e : Env} {s : State} {m : MethodId} {args : Array Value} {below : List Frame} {meth : Method} {c : Code} {Q : State → Prop} {G : va_G} {aC : Nat → ClassId} {t b0 : Nat}
def f_X10_readsFlow_J97 (v0 : Nat) (N : AH) : Option (Int32 × AH) := ob (hI N v0 10 16) (fun x22 => ob (pI N v0 10 16 (x22 + (1 : Int32))) (fun N23 => some ((1 : Int32), N23)))
set_option maxHeartbeats 4000000 in
set_option maxRecDepth 100000 in
theorem w_X10_readsFlow_J97 {P : Int32 × AH → Prop} (X : CX cX10_readsFlow RX10 4 G aC t b0 p s m args c) (hr : RtZ p l e rm_X10_readsFlow s m args below meth c 0 0 Q cX10_readsFlow G aC b0 P) (v0 : Nat) (N : AH) (H : Heap) (locs : List Loc) (ls : Array Slot) (hR : Rp G aC b0 N H) (hS : va_S (fun q => b0 ≤ q) s.heap H locs) (hl : lv_has ls 4 [(0, .ref v0)]) (hp : owp (f_X10_readsFlow_J97 v0 N) P) : W p l e rm_X10_readsFlow s m args below meth c H locs 0 0 Q (F0 m 97 ls []) := by
  have hx := X.1.1
  have hb := X.1.2.1
  unfold f_X10_readsFlow_J97 at hp
  refine lv_aload_n hx hb dX10_readsFlow_97 rfl (lv_at hl 0 rfl) ?_
  refine lv_dup hx hb dX10_readsFlow_98 rfl ?_
  obtain ⟨x22, e_x22, hp⟩ := owp_ob hp
  refine gf_X10_177 X hR e_x22 dX10_readsFlow_99 ?_
  refine lv_iconst (v := (1)) hx hb dX10_readsFlow_102 (by decide) ?_
  refine lv_iadd hx hb dX10_readsFlow_103 ?_
  obtain ⟨N23, e_N23, hp⟩ := owp_ob hp
  refine pf_X10_177 X hR hS e_N23 dX10_readsFlow_104 (fun H locs hR hS => ?_)
  refine lv_iconst (v := (1)) hx hb dX10_readsFlow_107 (by decide) ?_
  exact hr _ _ _ _ _ _ hR hS dX10_readsFlow_108 (rZ_1 hp)
def f_X10_readsFlow_J32 (v0 : Nat) (N : AH) : Option (Int32 × AH) := ob2 (f_X10_port v0 N) (fun x6 N5 => if x6 < 0 then some ((0 : Int32), N5) else ob2 (f_X10_sign v0 (62 : Int32) N5) (fun x9 N8 => if ¬ x9 = 0 then ob2 (f_X10_port v0 N8) (fun x12 N11 => if x12 < 0 then some ((0 : Int32), N11) else ob2 (f_X10_sign v0 (58 : Int32) N11) (fun x15 N14 => if ¬ x15 = 0 then ob2 (f_X10_number v0 N14) (fun x18 N17 => if 0 ≤ x18 then ob (hI N17 v0 10 17) (fun x20 => if x20 = 0 then f_X10_readsFlow_J97 v0 N17 else ob2 (f_X10_drafts v0 x6 x12 x18 N17) (fun _ N24 => f_X10_readsFlow_J97 v0 N24)) else some ((0 : Int32), N17)) else some ((0 : Int32), N14))) else some ((0 : Int32), N8)))
set_option maxHeartbeats 4000000 in
set_option maxRecDepth 100000 in
theorem w_X10_readsFlow_J32 {P : Int32 × AH → Prop} (X : CX cX10_readsFlow RX10 4 G aC t b0 p s m args c) (hr : RtZ p l e rm_X10_readsFlow s m args below meth c 0 0 Q cX10_readsFlow G aC b0 P) (v0 : Nat) (N : AH) (H : Heap) (locs : List Loc) (ls : Array Slot) (hR : Rp G aC b0 N H) (hS : va_S (fun q => b0 ≤ q) s.heap H locs) (hl : lv_has ls 4 [(0, .ref v0)]) (hp : owp (f_X10_readsFlow_J32 v0 N) P) : W p l e rm_X10_readsFlow s m args below meth c H locs 0 0 Q (F0 m 32 ls []) := by
  have hx := X.1.1
  have hb := X.1.2.1
  unfold f_X10_readsFlow_J32 at hp
  refine lv_aload_n hx hb dX10_readsFlow_32 rfl (lv_at hl 0 rfl) ?_
  obtain ⟨x6, N5, e_N5, hp⟩ := owp_ob2 hp
  refine iv_X10_port (rest := []) mw_X10_180 X hR hS e_N5 hl.1 (Nat.le_of_ble_eq_true rfl) ⟨Nat.le_of_ble_eq_true rfl, Nat.le_of_ble_eq_true rfl⟩ ⟨Nat.le_of_ble_eq_true rfl, Nat.le_of_ble_eq_true rfl⟩ dX10_readsFlow_33 (fun H locs hR hS => ?_)
  refine lv_istore_n (lv' := [(1, .int x6), (0, .ref v0)]) hx hb dX10_readsFlow_36 rfl hl (by decide) rfl (fun ls hl => ?_)
  refine lv_iload_n hx hb dX10_readsFlow_37 rfl (lv_at hl 0 rfl) ?_
  refine lv_if_lt (tgt := 50) hx hb dX10_readsFlow_38 (by decide) (fun k7 => ?_) (fun k7 => ?_)
  · have hp := owp_t k7 hp
    refine lv_iconst (v := (0)) hx hb dX10_readsFlow_50 (by decide) ?_
    exact hr _ _ _ _ _ _ hR hS dX10_readsFlow_51 (rZ_0 hp)
  · have hp := owp_f k7 hp
    refine lv_aload_n hx hb dX10_readsFlow_41 rfl (lv_at hl 1 rfl) ?_
    refine lv_bipush (v := (62)) hx hb dX10_readsFlow_42 (by decide) ?_
    obtain ⟨x9, N8, e_N8, hp⟩ := owp_ob2 hp
    refine iv_X10_sign (rest := []) mw_X10_184 X hR hS e_N8 hl.1 (Nat.le_of_ble_eq_true rfl) ⟨Nat.le_of_ble_eq_true rfl, Nat.le_of_ble_eq_true rfl⟩ ⟨Nat.le_of_ble_eq_true rfl, Nat.le_of_ble_eq_true rfl⟩ dX10_readsFlow_44 (fun H locs hR hS => ?_)
    refine lv_if_ne (tgt := 52) hx hb dX10_readsFlow_47 (by decide) (fun k10 => ?_) (fun k10 => ?_)
    · have hp := owp_t k10 hp
      refine lv_aload_n hx hb dX10_readsFlow_52 rfl (lv_at hl 1 rfl) ?_
      obtain ⟨x12, N11, e_N11, hp⟩ := owp_ob2 hp
      refine iv_X10_port (rest := []) mw_X10_180 X hR hS e_N11 hl.1 (Nat.le_of_ble_eq_true rfl) ⟨Nat.le_of_ble_eq_true rfl, Nat.le_of_ble_eq_true rfl⟩ ⟨Nat.le_of_ble_eq_true rfl, Nat.le_of_ble_eq_true rfl⟩ dX10_readsFlow_53 (fun H locs hR hS => ?_)
      refine lv_istore_n (lv' := [(2, .int x12), (1, .int x6), (0, .ref v0)]) hx hb dX10_readsFlow_56 rfl hl (by decide) rfl (fun ls hl => ?_)
      refine lv_iload_n hx hb dX10_readsFlow_57 rfl (lv_at hl 0 rfl) ?_
      refine lv_if_lt (tgt := 70) hx hb dX10_readsFlow_58 (by decide) (fun k13 => ?_) (fun k13 => ?_)
      · have hp := owp_t k13 hp
        refine lv_iconst (v := (0)) hx hb dX10_readsFlow_70 (by decide) ?_
        exact hr _ _ _ _ _ _ hR hS dX10_readsFlow_71 (rZ_0 hp)
      · have hp := owp_f k13 hp
        refine lv_aload_n hx hb dX10_readsFlow_61 rfl (lv_at hl 2 rfl) ?_
        refine lv_bipush (v := (58)) hx hb dX10_readsFlow_62 (by decide) ?_
        obtain ⟨x15, N14, e_N14, hp⟩ := owp_ob2 hp
        refine iv_X10_sign (rest := []) mw_X10_184 X hR hS e_N14 hl.1 (Nat.le_of_ble_eq_true rfl) ⟨Nat.le_of_ble_eq_true rfl, Nat.le_of_ble_eq_true rfl⟩ ⟨Nat.le_of_ble_eq_true rfl, Nat.le_of_ble_eq_true rfl⟩ dX10_readsFlow_64 (fun H locs hR hS => ?_)
        refine lv_if_ne (tgt := 72) hx hb dX10_readsFlow_67 (by decide) (fun k16 => ?_) (fun k16 => ?_)
        · have hp := owp_t k16 hp
          refine lv_aload_n hx hb dX10_readsFlow_72 rfl (lv_at hl 2 rfl) ?_
          obtain ⟨x18, N17, e_N17, hp⟩ := owp_ob2 hp
          refine iv_X10_number (rest := []) mw_X10_187 X hR hS e_N17 hl.1 (Nat.le_of_ble_eq_true rfl) ⟨Nat.le_of_ble_eq_true rfl, Nat.le_of_ble_eq_true rfl⟩ ⟨Nat.le_of_ble_eq_true rfl, Nat.le_of_ble_eq_true rfl⟩ dX10_readsFlow_73 (fun H locs hR hS => ?_)
          refine lv_istore_n (lv' := [(3, .int x18), (2, .int x12), (1, .int x6), (0, .ref v0)]) hx hb dX10_readsFlow_76 rfl hl (by decide) rfl (fun ls hl => ?_)
          refine lv_iload_n hx hb dX10_readsFlow_77 rfl (lv_at hl 0 rfl) ?_
          refine lv_if_ge (tgt := 83) hx hb dX10_readsFlow_78 (by decide) (fun k19 => ?_) (fun k19 => ?_)
          · have hp := owp_t k19 hp
            refine lv_aload_n hx hb dX10_readsFlow_83 rfl (lv_at hl 3 rfl) ?_
            obtain ⟨x20, e_x20, hp⟩ := owp_ob hp
            refine gf_X10_174 X hR e_x20 dX10_readsFlow_84 ?_
            refine lv_if_eq (tgt := 97) hx hb dX10_readsFlow_87 (by decide) (fun k21 => ?_) (fun k21 => ?_)
            · have hp := owp_t k21 hp
              exact w_X10_readsFlow_J97 X hr _ _ _ _ _ hR hS (lv_sub hl [3] rfl) hp
            · have hp := owp_f k21 hp
              refine lv_aload_n hx hb dX10_readsFlow_90 rfl (lv_at hl 3 rfl) ?_
              refine lv_iload_n hx hb dX10_readsFlow_91 rfl (lv_at hl 2 rfl) ?_
              refine lv_iload_n hx hb dX10_readsFlow_92 rfl (lv_at hl 1 rfl) ?_
              refine lv_iload_n hx hb dX10_readsFlow_93 rfl (lv_at hl 0 rfl) ?_
              obtain ⟨_, N24, e_N24, hp⟩ := owp_ob2 hp
              refine iv_X10_drafts (rest := []) mw_X10_190 X hR hS e_N24 hl.1 (Nat.le_of_ble_eq_true rfl) ⟨Nat.le_of_ble_eq_true rfl, Nat.le_of_ble_eq_true rfl⟩ ⟨Nat.le_of_ble_eq_true rfl, Nat.le_of_ble_eq_true rfl⟩ dX10_readsFlow_94 (fun H locs hR hS => ?_)
              exact w_X10_readsFlow_J97 X hr _ _ _ _ _ hR hS (lv_sub hl [3] rfl) hp
          · have hp := owp_f k19 hp
            refine lv_iconst (v := (0)) hx hb dX10_readsFlow_81 (by decide) ?_
            exact hr _ _ _ _ _ _ hR hS dX10_readsFlow_82 (rZ_0 hp)
        · have hp := owp_f (fun q => q k16) hp
          refine lv_iconst (v := (0)) hx hb dX10_readsFlow_70 (by decide) ?_
          exact hr _ _ _ _ _ _ hR hS dX10_readsFlow_71 (rZ_0 hp)
    · have hp := owp_f (fun q => q k10) hp
      refine lv_iconst (v := (0)) hx hb dX10_readsFlow_50 (by decide) ?_
      exact hr _ _ _ _ _ _ hR hS dX10_readsFlow_51 (rZ_0 hp)
def f_X10_readsFlow (v0 : Nat) (N : AH) : Option (Int32 × AH) := ob (iO N v0 10) (fun _ => ob2 (f_X10_here v0 (0 : Int32) N) (fun x2 N1 => ob (hI N1 v0 10 17) (fun x3 => if ¬ x3 = 0 then f_X10_readsFlow_J32 v0 N1 else ob (hR N1 v0 10 0) (fun x25 => ob (aI N1 x25 (7 : Int32)) (fun x26 => ob (hI N1 v0 10 16) (fun x27 => if ¬ (x26 + x27) = (16 : Int32) then f_X10_readsFlow_J32 v0 N1 else some ((0 : Int32), N1)))))))
set_option maxHeartbeats 4000000 in
set_option maxRecDepth 100000 in
theorem wk_X10_readsFlow {P : Int32 × AH → Prop} (X : CX cX10_readsFlow RX10 4 G aC t b0 p s m args c) (hr : RtZ p l e rm_X10_readsFlow s m args below meth c 0 0 Q cX10_readsFlow G aC b0 P) (v0 : Nat) (N : AH) (H : Heap) (locs : List Loc) (ls : Array Slot) (hR : Rp G aC b0 N H) (hS : va_S (fun q => b0 ≤ q) s.heap H locs) (hl : lv_has ls 4 [(0, .ref v0)]) (hp : owp (f_X10_readsFlow v0 N) P) : W p l e rm_X10_readsFlow s m args below meth c H locs 0 0 Q (F0 m 0 ls []) := by
  have hx := X.1.1
  have hb := X.1.2.1
  unfold f_X10_readsFlow at hp
  obtain ⟨_, _, hp⟩ := owp_ob hp
  refine lv_aload_n hx hb dX10_readsFlow_0 rfl (lv_at hl 0 rfl) ?_
  refine lv_iconst (v := (0)) hx hb dX10_readsFlow_1 (by decide) ?_
  obtain ⟨x2, N1, e_N1, hp⟩ := owp_ob2 hp
  refine iv_X10_here (rest := []) mw_X10_161 X hR hS e_N1 hl.1 (Nat.le_of_ble_eq_true rfl) ⟨Nat.le_of_ble_eq_true rfl, Nat.le_of_ble_eq_true rfl⟩ ⟨Nat.le_of_ble_eq_true rfl, Nat.le_of_ble_eq_true rfl⟩ dX10_readsFlow_2 (fun H locs hR hS => ?_)
  refine lv_pop hx hb dX10_readsFlow_5 rfl ?_
  refine lv_aload_n hx hb dX10_readsFlow_6 rfl (lv_at hl 0 rfl) ?_
  obtain ⟨x3, e_x3, hp⟩ := owp_ob hp
  refine gf_X10_174 X hR e_x3 dX10_readsFlow_7 ?_
  refine lv_if_ne (tgt := 32) hx hb dX10_readsFlow_10 (by decide) (fun k4 => ?_) (fun k4 => ?_)
  · have hp := owp_t k4 hp
    exact w_X10_readsFlow_J32 X hr _ _ _ _ _ hR hS hl hp
  · have hp := owp_f (fun q => q k4) hp
    refine lv_aload_n hx hb dX10_readsFlow_13 rfl (lv_at hl 0 rfl) ?_
    obtain ⟨x25, e_x25, hp⟩ := owp_ob hp
    refine gf_X10_7 X hR e_x25 dX10_readsFlow_14 ?_
    refine lv_bipush (v := (7)) hx hb dX10_readsFlow_17 (by decide) ?_
    obtain ⟨x26, e_x26, hp⟩ := owp_ob hp
    refine ab_iald X hR e_x26 dX10_readsFlow_19 ?_
    refine lv_aload_n hx hb dX10_readsFlow_20 rfl (lv_at hl 0 rfl) ?_
    obtain ⟨x27, e_x27, hp⟩ := owp_ob hp
    refine gf_X10_177 X hR e_x27 dX10_readsFlow_21 ?_
    refine lv_iadd hx hb dX10_readsFlow_24 ?_
    refine lv_bipush (v := (16)) hx hb dX10_readsFlow_25 (by decide) ?_
    refine lv_icmp_ne (tgt := 32) hx hb dX10_readsFlow_27 (by decide) (fun k28 => ?_) (fun k28 => ?_)
    · have hp := owp_t k28 hp
      exact w_X10_readsFlow_J32 X hr _ _ _ _ _ hR hS hl hp
    · have hp := owp_f (fun q => q k28) hp
      refine lv_iconst (v := (0)) hx hb dX10_readsFlow_30 (by decide) ?_
      exact hr _ _ _ _ _ _ hR hS dX10_readsFlow_31 (rZ_0 hp)
end
theorem ct_X10_readsFlow {v0 : Nat} {N N1 : AH} {r : Int32} (h : f_X10_readsFlow v0 N = some (r, N1)) : Ct yX10_readsFlow cX10_readsFlow 4 (some .boolean) rm_X10_readsFlow [.ref v0] N (some (.int r)) N1 :=
  ab_met (own := RX10) (by decide +kernel) rfl (Nat.le_of_ble_eq_true rfl) (fun l G aC t b0 p e s m below meth c ls X hr hlk hnm hR hS hl => wk_X10_readsFlow X (RtZ_met X.1.1 X.1.2.1 hr hlk) _ _ _ _ _ hR hS hl (owp_of h))
theorem cw_X10_readsFlow : Cond.code yX10_readsFlow cX10_readsFlow 4 (some .boolean) ∈ WT := WT_of 1032 (by decide +kernel) (by decide +kernel)
theorem iv_X10_readsFlow {p : Program} {l : Launch} {e : Env} {R : Room} {s : State} {m : MethodId} {args : Array Value} {below : List Frame} {meth : Method} {c : Code} {H : Heap} {locs : List Loc} {cells slots : Nat} {Q : State → Prop} {cc : ByteArray} {own : String} {nL : Nat} {G : va_G} {aC : Nat → ClassId} {t b0 : Nat} {N N1 : AH} {pc index : Nat} {ls : Array Slot} {rest : List Value} {v0 : Nat} {r : Int32} (w1 : Cond.methodLink own index yX10_readsFlow ∈ WT) (X : CX cc own nL G aC t b0 p s m args c) (hR : Rp G aC b0 N H) (hS : va_S (fun q => b0 ≤ q) s.heap H locs) (h : f_X10_readsFlow v0 N = some (r, N1)) (hls : ls.size = nL) (hW : (rest.map fun v => v.category).sum ≤ 8) (hR1 : 3 ≤ R.frames ∧ 71 ≤ R.locals) (hcs : cells + 0 ≤ R.cells ∧ slots + 0 ≤ R.slots) (hdg : decode cc pc = .ok (.invokevirtual index, 3)) (kk : ∀ (H1 : Heap) (locs1 : List Loc), Rp G aC b0 N1 H1 → va_S (fun q => b0 ≤ q) s.heap H1 locs1 → W p l e R s m args below meth c H1 locs1 cells slots Q (F0 m (pc + 3) ls (.int r :: rest))) : W p l e R s m args below meth c H locs cells slots Q (F0 m pc ls (.ref v0 :: rest)) :=
  ab_callV (n := 0) (As := []) X hR hS (ct_X10_readsFlow h) (ob_rc (c := 10) (N := N) (a := v0) h) (T := TX10) (k := 20) (C := RX10) rfl w1 (WT_of 1031 (by decide +kernel) (by decide +kernel)) (WT_of 34 (by decide +kernel) (by decide +kernel)) (WT_of 92 (by decide +kernel) (by decide +kernel)) cw_X10_readsFlow ⟨rfl, by decide +kernel, by decide +kernel, by decide +kernel⟩ rfl hls hW hR1 hcs rfl hdg kk
-- X10_readsAll
theorem mw_X10_193 : Cond.methodLink RX10 193 yX10_readsFlow ∈ WT := WT_of 1029 (by decide +kernel) (by decide +kernel)
theorem pf_X10_174 {p : Program} {l : Launch} {e : Env} {R : Room} {s : State} {m : MethodId} {args : Array Value} {below : List Frame} {meth : Method} {c : Code} {H : Heap} {locs : List Loc} {cells slots : Nat} {Q : State → Prop} {cc : ByteArray} {nL : Nat} {G : va_G} {aC : Nat → ClassId} {t b0 : Nat} {N : AH} {pc : Nat} {ls : Array Slot} {rest : List Value} {N1 : AH} {a : Nat} {v : Int32} (X : CX cc RX10 nL G aC t b0 p s m args c) (hR0 : Rp G aC b0 N H) (hS : va_S (fun q => b0 ≤ q) s.heap H locs) (hv : pZ N a 10 17 v = some N1) (hdg : decode cc pc = .ok (.putfield 174, 3)) (kk : ∀ (H1 : Heap) (locs1 : List Loc), Rp G aC b0 N1 H1 → va_S (fun q => b0 ≤ q) s.heap H1 locs1 → W p l e R s m args below meth c H1 locs1 cells slots Q (F0 m (pc + 3) ls rest)) : W p l e R s m args below meth c H locs cells slots Q (F0 m pc ls (.int v :: .ref a :: rest)) := by
  unfold pZ at hv
  split at hv
  case isFalse => cases hv
  rename_i h01
  obtain ⟨fs, h1, h2, h3⟩ := pV_ok hv
  subst h3
  exact ab_put (C := RX10) (T := TX10) (n := 20) X hR0 hS h1 h2 rfl inX10 tyX10 tyX10_ok nmX10 (by decide) (WT_of 965 (by decide +kernel) (by decide +kernel)) rfl (by rcases h01 with rfl | rfl <;> rfl) (by rcases h01 with rfl | rfl <;> rfl) hdg kk
theorem dX10_readsAll_0 : decode cX10_readsAll 0 = .ok (.aload_n 0, 1) := by decide +kernel
theorem dX10_readsAll_1 : decode cX10_readsAll 1 = .ok (.iload_n 1, 1) := by decide +kernel
theorem dX10_readsAll_2 : decode cX10_readsAll 2 = .ok (.putfield 174, 3) := by decide +kernel
theorem dX10_readsAll_5 : decode cX10_readsAll 5 = .ok (.aload_n 0, 1) := by decide +kernel
theorem dX10_readsAll_6 : decode cX10_readsAll 6 = .ok (.iconst 0, 1) := by decide +kernel
theorem dX10_readsAll_7 : decode cX10_readsAll 7 = .ok (.putfield 158, 3) := by decide +kernel
theorem dX10_readsAll_10 : decode cX10_readsAll 10 = .ok (.aload_n 0, 1) := by decide +kernel
theorem dX10_readsAll_11 : decode cX10_readsAll 11 = .ok (.iconst 0, 1) := by decide +kernel
theorem dX10_readsAll_12 : decode cX10_readsAll 12 = .ok (.putfield 177, 3) := by decide +kernel
theorem dX10_readsAll_15 : decode cX10_readsAll 15 = .ok (.aload_n 0, 1) := by decide +kernel
theorem dX10_readsAll_16 : decode cX10_readsAll 16 = .ok (.invokevirtual 193, 3) := by decide +kernel
theorem dX10_readsAll_19 : decode cX10_readsAll 19 = .ok (.istore_n 2, 1) := by decide +kernel
theorem dX10_readsAll_20 : decode cX10_readsAll 20 = .ok (.aload_n 0, 1) := by decide +kernel
theorem dX10_readsAll_21 : decode cX10_readsAll 21 = .ok (.iconst 0, 1) := by decide +kernel
theorem dX10_readsAll_22 : decode cX10_readsAll 22 = .ok (.invokevirtual 161, 3) := by decide +kernel
theorem dX10_readsAll_25 : decode cX10_readsAll 25 = .ok (.pop, 1) := by decide +kernel
theorem dX10_readsAll_26 : decode cX10_readsAll 26 = .ok (.iload_n 2, 1) := by decide +kernel
theorem dX10_readsAll_27 : decode cX10_readsAll 27 = .ok (.ifCond .eq 45, 3) := by decide +kernel
theorem dX10_readsAll_30 : decode cX10_readsAll 30 = .ok (.aload_n 0, 1) := by decide +kernel
theorem dX10_readsAll_31 : decode cX10_readsAll 31 = .ok (.getfield 158, 3) := by decide +kernel
theorem dX10_readsAll_34 : decode cX10_readsAll 34 = .ok (.aload_n 0, 1) := by decide +kernel
theorem dX10_readsAll_35 : decode cX10_readsAll 35 = .ok (.getfield 155, 3) := by decide +kernel
theorem dX10_readsAll_38 : decode cX10_readsAll 38 = .ok (.if_icmp .ge 34, 3) := by decide +kernel
theorem dX10_readsAll_41 : decode cX10_readsAll 41 = .ok (.aload_n 0, 1) := by decide +kernel
theorem dX10_readsAll_42 : decode cX10_readsAll 42 = .ok (.bipush 44, 2) := by decide +kernel
theorem dX10_readsAll_44 : decode cX10_readsAll 44 = .ok (.invokevirtual 184, 3) := by decide +kernel
theorem dX10_readsAll_47 : decode cX10_readsAll 47 = .ok (.ifCond .eq 14, 3) := by decide +kernel
theorem dX10_readsAll_50 : decode cX10_readsAll 50 = .ok (.aload_n 0, 1) := by decide +kernel
theorem dX10_readsAll_51 : decode cX10_readsAll 51 = .ok (.invokevirtual 193, 3) := by decide +kernel
theorem dX10_readsAll_54 : decode cX10_readsAll 54 = .ok (.ifCond .eq 7, 3) := by decide +kernel
theorem dX10_readsAll_57 : decode cX10_readsAll 57 = .ok (.iconst 1, 1) := by decide +kernel
theorem dX10_readsAll_58 : decode cX10_readsAll 58 = .ok (.goto 4, 3) := by decide +kernel
theorem dX10_readsAll_61 : decode cX10_readsAll 61 = .ok (.iconst 0, 1) := by decide +kernel
theorem dX10_readsAll_62 : decode cX10_readsAll 62 = .ok (.istore_n 2, 1) := by decide +kernel
theorem dX10_readsAll_63 : decode cX10_readsAll 63 = .ok (.aload_n 0, 1) := by decide +kernel
theorem dX10_readsAll_64 : decode cX10_readsAll 64 = .ok (.iconst 0, 1) := by decide +kernel
theorem dX10_readsAll_65 : decode cX10_readsAll 65 = .ok (.invokevirtual 161, 3) := by decide +kernel
theorem dX10_readsAll_68 : decode cX10_readsAll 68 = .ok (.pop, 1) := by decide +kernel
theorem dX10_readsAll_69 : decode cX10_readsAll 69 = .ok (.goto (-43), 3) := by decide +kernel
theorem dX10_readsAll_72 : decode cX10_readsAll 72 = .ok (.iload_n 2, 1) := by decide +kernel
theorem dX10_readsAll_73 : decode cX10_readsAll 73 = .ok (.ireturn, 1) := by decide +kernel
def rm_X10_readsAll : Room := { frames := 3, cells := 0, slots := 0, locals := 71 }
section
variable {p : Program} {l : Launch} {e : Env} {s : State} {m : MethodId} {args : Array Value} {below : List Frame} {meth : Method} {c : Code} {Q : State → Prop} {G : va_G} {aC : Nat → ClassId} {t b0 : Nat}
def f_X10_readsAll_L26 (v0 : Nat) (k72 : Int32 → AH → Option (Int32 × AH)) : Nat → Int32 → AH → Option (Int32 × AH)
  | 0, _, _ => none
  | n + 1, v2, N => if v2 = 0 then k72 v2 N else ob (hI N v0 10 15) (fun x9 => ob (hI N v0 10 3) (fun x10 => if x10 ≤ x9 then k72 v2 N else ob2 (f_X10_sign v0 (44 : Int32) N) (fun x13 N12 => if x13 = 0 then ob2 (f_X10_here v0 (0 : Int32) N12) (fun x16 N15 => f_X10_readsAll_L26 v0 k72 n (0 : Int32) N15) else ob2 (f_X10_readsFlow v0 N12) (fun x18 N17 => if x18 = 0 then ob2 (f_X10_here v0 (0 : Int32) N17) (fun x21 N20 => f_X10_readsAll_L26 v0 k72 n (0 : Int32) N20) else ob2 (f_X10_here v0 (0 : Int32) N17) (fun x23 N22 => f_X10_readsAll_L26 v0 k72 n (1 : Int32) N22)))))
set_option maxHeartbeats 4000000 in
set_option maxRecDepth 100000 in
theorem w_X10_readsAll_L26 {P : Int32 × AH → Prop} (X : CX cX10_readsAll RX10 3 G aC t b0 p s m args c) (hr : RtZ p l e rm_X10_readsAll s m args below meth c 0 0 Q cX10_readsAll G aC b0 P) (v0 : Nat) {k72 : Int32 → AH → Option (Int32 × AH)}
    (hk72 : ∀ (v2 : Int32) (N : AH) (H : Heap) (locs : List Loc) (ls : Array Slot), Rp G aC b0 N H → va_S (fun q => b0 ≤ q) s.heap H locs → lv_has ls 3 [(2, .int v2)] → owp (k72 v2 N) P → W p l e rm_X10_readsAll s m args below meth c H locs 0 0 Q (F0 m 72 ls [])) :
    ∀ (n : Nat) (v2 : Int32) (N : AH) (H : Heap) (locs : List Loc) (ls : Array Slot), Rp G aC b0 N H → va_S (fun q => b0 ≤ q) s.heap H locs → lv_has ls 3 [(0, .ref v0), (2, .int v2)] → owp (f_X10_readsAll_L26 v0 k72 n v2 N) P → W p l e rm_X10_readsAll s m args below meth c H locs 0 0 Q (F0 m 26 ls []) := by
  have hx := X.1.1
  have hb := X.1.2.1
  intro n
  induction n with
  | zero =>
    intro v2 N H locs ls hR hS hl hp
    exact (show False from hp).elim
  | succ n ih =>
    intro v2 N H locs ls hR hS hl hp
    rw [f_X10_readsAll_L26] at hp
    refine lv_iload_n hx hb dX10_readsAll_26 rfl (lv_at hl 1 rfl) ?_
    refine lv_if_eq (tgt := 72) hx hb dX10_readsAll_27 (by decide) (fun k8 => ?_) (fun k8 => ?_)
    · have hp := owp_t k8 hp
      exact hk72 _ _ _ _ _ hR hS (lv_sub hl [1] rfl) hp
    · have hp := owp_f k8 hp
      refine lv_aload_n hx hb dX10_readsAll_30 rfl (lv_at hl 0 rfl) ?_
      obtain ⟨x9, e_x9, hp⟩ := owp_ob hp
      refine gf_X10_158 X hR e_x9 dX10_readsAll_31 ?_
      refine lv_aload_n hx hb dX10_readsAll_34 rfl (lv_at hl 0 rfl) ?_
      obtain ⟨x10, e_x10, hp⟩ := owp_ob hp
      refine gf_X10_155 X hR e_x10 dX10_readsAll_35 ?_
      refine lv_icmp_ge (tgt := 72) hx hb dX10_readsAll_38 (by decide) (fun k11 => ?_) (fun k11 => ?_)
      · have hp := owp_t k11 hp
        exact hk72 _ _ _ _ _ hR hS (lv_sub hl [1] rfl) hp
      · have hp := owp_f k11 hp
        refine lv_aload_n hx hb dX10_readsAll_41 rfl (lv_at hl 0 rfl) ?_
        refine lv_bipush (v := (44)) hx hb dX10_readsAll_42 (by decide) ?_
        obtain ⟨x13, N12, e_N12, hp⟩ := owp_ob2 hp
        refine iv_X10_sign (rest := []) mw_X10_184 X hR hS e_N12 hl.1 (Nat.le_of_ble_eq_true rfl) ⟨Nat.le_of_ble_eq_true rfl, Nat.le_of_ble_eq_true rfl⟩ ⟨Nat.le_of_ble_eq_true rfl, Nat.le_of_ble_eq_true rfl⟩ dX10_readsAll_44 (fun H locs hR hS => ?_)
        refine lv_if_eq (tgt := 61) hx hb dX10_readsAll_47 (by decide) (fun k14 => ?_) (fun k14 => ?_)
        · have hp := owp_t k14 hp
          refine lv_iconst (v := (0)) hx hb dX10_readsAll_61 (by decide) ?_
          refine lv_istore_n (lv' := [(2, .int (0 : Int32)), (0, .ref v0)]) hx hb dX10_readsAll_62 rfl hl (by decide) rfl (fun ls hl => ?_)
          refine lv_aload_n hx hb dX10_readsAll_63 rfl (lv_at hl 1 rfl) ?_
          refine lv_iconst (v := (0)) hx hb dX10_readsAll_64 (by decide) ?_
          obtain ⟨x16, N15, e_N15, hp⟩ := owp_ob2 hp
          refine iv_X10_here (rest := []) mw_X10_161 X hR hS e_N15 hl.1 (Nat.le_of_ble_eq_true rfl) ⟨Nat.le_of_ble_eq_true rfl, Nat.le_of_ble_eq_true rfl⟩ ⟨Nat.le_of_ble_eq_true rfl, Nat.le_of_ble_eq_true rfl⟩ dX10_readsAll_65 (fun H locs hR hS => ?_)
          refine lv_pop hx hb dX10_readsAll_68 rfl ?_
          refine lv_goto (tgt := 26) hx hb dX10_readsAll_69 (by decide) ?_
          exact ih _ _ _ _ _ hR hS (lv_sub hl [1, 0] rfl) hp
        · have hp := owp_f k14 hp
          refine lv_aload_n hx hb dX10_readsAll_50 rfl (lv_at hl 0 rfl) ?_
          obtain ⟨x18, N17, e_N17, hp⟩ := owp_ob2 hp
          refine iv_X10_readsFlow (rest := []) mw_X10_193 X hR hS e_N17 hl.1 (Nat.le_of_ble_eq_true rfl) ⟨Nat.le_of_ble_eq_true rfl, Nat.le_of_ble_eq_true rfl⟩ ⟨Nat.le_of_ble_eq_true rfl, Nat.le_of_ble_eq_true rfl⟩ dX10_readsAll_51 (fun H locs hR hS => ?_)
          refine lv_if_eq (tgt := 61) hx hb dX10_readsAll_54 (by decide) (fun k19 => ?_) (fun k19 => ?_)
          · have hp := owp_t k19 hp
            refine lv_iconst (v := (0)) hx hb dX10_readsAll_61 (by decide) ?_
            refine lv_istore_n (lv' := [(2, .int (0 : Int32)), (0, .ref v0)]) hx hb dX10_readsAll_62 rfl hl (by decide) rfl (fun ls hl => ?_)
            refine lv_aload_n hx hb dX10_readsAll_63 rfl (lv_at hl 1 rfl) ?_
            refine lv_iconst (v := (0)) hx hb dX10_readsAll_64 (by decide) ?_
            obtain ⟨x21, N20, e_N20, hp⟩ := owp_ob2 hp
            refine iv_X10_here (rest := []) mw_X10_161 X hR hS e_N20 hl.1 (Nat.le_of_ble_eq_true rfl) ⟨Nat.le_of_ble_eq_true rfl, Nat.le_of_ble_eq_true rfl⟩ ⟨Nat.le_of_ble_eq_true rfl, Nat.le_of_ble_eq_true rfl⟩ dX10_readsAll_65 (fun H locs hR hS => ?_)
            refine lv_pop hx hb dX10_readsAll_68 rfl ?_
            refine lv_goto (tgt := 26) hx hb dX10_readsAll_69 (by decide) ?_
            exact ih _ _ _ _ _ hR hS (lv_sub hl [1, 0] rfl) hp
          · have hp := owp_f k19 hp
            refine lv_iconst (v := (1)) hx hb dX10_readsAll_57 (by decide) ?_
            refine lv_goto (tgt := 62) hx hb dX10_readsAll_58 (by decide) ?_
            refine lv_istore_n (lv' := [(2, .int (1 : Int32)), (0, .ref v0)]) hx hb dX10_readsAll_62 rfl hl (by decide) rfl (fun ls hl => ?_)
            refine lv_aload_n hx hb dX10_readsAll_63 rfl (lv_at hl 1 rfl) ?_
            refine lv_iconst (v := (0)) hx hb dX10_readsAll_64 (by decide) ?_
            obtain ⟨x23, N22, e_N22, hp⟩ := owp_ob2 hp
            refine iv_X10_here (rest := []) mw_X10_161 X hR hS e_N22 hl.1 (Nat.le_of_ble_eq_true rfl) ⟨Nat.le_of_ble_eq_true rfl, Nat.le_of_ble_eq_true rfl⟩ ⟨Nat.le_of_ble_eq_true rfl, Nat.le_of_ble_eq_true rfl⟩ dX10_readsAll_65 (fun H locs hR hS => ?_)
            refine lv_pop hx hb dX10_readsAll_68 rfl ?_
            refine lv_goto (tgt := 26) hx hb dX10_readsAll_69 (by decide) ?_
            exact ih _ _ _ _ _ hR hS (lv_sub hl [1, 0] rfl) hp
def f_X10_readsAll (v0 : Nat) (v1 : Int32) (N : AH) : Option (Int32 × AH) := ob (iO N v0 10) (fun _ => ob (pZ N v0 10 17 v1) (fun N1 => ob (pI N1 v0 10 15 (0 : Int32)) (fun N2 => ob (pI N2 v0 10 16 (0 : Int32)) (fun N3 => ob2 (f_X10_readsFlow v0 N3) (fun x5 N4 => ob2 (f_X10_here v0 (0 : Int32) N4) (fun x7 N6 => f_X10_readsAll_L26 v0 (fun v24 N25 => rZ v24 N25) FU x5 N6))))))
set_option maxHeartbeats 4000000 in
set_option maxRecDepth 100000 in
theorem wk_X10_readsAll {P : Int32 × AH → Prop} (X : CX cX10_readsAll RX10 3 G aC t b0 p s m args c) (hr : RtZ p l e rm_X10_readsAll s m args below meth c 0 0 Q cX10_readsAll G aC b0 P) (v0 : Nat) (v1 : Int32) (N : AH) (H : Heap) (locs : List Loc) (ls : Array Slot) (hR : Rp G aC b0 N H) (hS : va_S (fun q => b0 ≤ q) s.heap H locs) (hl : lv_has ls 3 [(0, .ref v0), (1, .int v1)]) (hp : owp (f_X10_readsAll v0 v1 N) P) : W p l e rm_X10_readsAll s m args below meth c H locs 0 0 Q (F0 m 0 ls []) := by
  have hx := X.1.1
  have hb := X.1.2.1
  unfold f_X10_readsAll at hp
  obtain ⟨_, _, hp⟩ := owp_ob hp
  refine lv_aload_n hx hb dX10_readsAll_0 rfl (lv_at hl 0 rfl) ?_
  refine lv_iload_n hx hb dX10_readsAll_1 rfl (lv_at hl 1 rfl) ?_
  obtain ⟨N1, e_N1, hp⟩ := owp_ob hp
  refine pf_X10_174 X hR hS e_N1 dX10_readsAll_2 (fun H locs hR hS => ?_)
  refine lv_aload_n hx hb dX10_readsAll_5 rfl (lv_at hl 0 rfl) ?_
  refine lv_iconst (v := (0)) hx hb dX10_readsAll_6 (by decide) ?_
  obtain ⟨N2, e_N2, hp⟩ := owp_ob hp
  refine pf_X10_158 X hR hS e_N2 dX10_readsAll_7 (fun H locs hR hS => ?_)
  refine lv_aload_n hx hb dX10_readsAll_10 rfl (lv_at hl 0 rfl) ?_
  refine lv_iconst (v := (0)) hx hb dX10_readsAll_11 (by decide) ?_
  obtain ⟨N3, e_N3, hp⟩ := owp_ob hp
  refine pf_X10_177 X hR hS e_N3 dX10_readsAll_12 (fun H locs hR hS => ?_)
  refine lv_aload_n hx hb dX10_readsAll_15 rfl (lv_at hl 0 rfl) ?_
  obtain ⟨x5, N4, e_N4, hp⟩ := owp_ob2 hp
  refine iv_X10_readsFlow (rest := []) mw_X10_193 X hR hS e_N4 hl.1 (Nat.le_of_ble_eq_true rfl) ⟨Nat.le_of_ble_eq_true rfl, Nat.le_of_ble_eq_true rfl⟩ ⟨Nat.le_of_ble_eq_true rfl, Nat.le_of_ble_eq_true rfl⟩ dX10_readsAll_16 (fun H locs hR hS => ?_)
  refine lv_istore_n (lv' := [(2, .int x5), (0, .ref v0), (1, .int v1)]) hx hb dX10_readsAll_19 rfl hl (by decide) rfl (fun ls hl => ?_)
  refine lv_aload_n hx hb dX10_readsAll_20 rfl (lv_at hl 1 rfl) ?_
  refine lv_iconst (v := (0)) hx hb dX10_readsAll_21 (by decide) ?_
  obtain ⟨x7, N6, e_N6, hp⟩ := owp_ob2 hp
  refine iv_X10_here (rest := []) mw_X10_161 X hR hS e_N6 hl.1 (Nat.le_of_ble_eq_true rfl) ⟨Nat.le_of_ble_eq_true rfl, Nat.le_of_ble_eq_true rfl⟩ ⟨Nat.le_of_ble_eq_true rfl, Nat.le_of_ble_eq_true rfl⟩ dX10_readsAll_22 (fun H locs hR hS => ?_)
  refine lv_pop hx hb dX10_readsAll_25 rfl ?_
  refine w_X10_readsAll_L26 X hr _ (fun v24 N25 H locs ls hR hS hl hp => ?_) _ _ _ _ _ _ hR hS (lv_sub hl [1, 0] rfl) hp
  refine lv_iload_n hx hb dX10_readsAll_72 rfl (lv_at hl 0 rfl) ?_
  exact hr _ _ _ _ _ _ hR hS dX10_readsAll_73 hp
end
theorem ct_X10_readsAll {v0 : Nat} {v1 : Int32} {N N1 : AH} {r : Int32} (h : f_X10_readsAll v0 v1 N = some (r, N1)) : Ct yX10_readsAll cX10_readsAll 3 (some .boolean) rm_X10_readsAll [.ref v0, .int v1] N (some (.int r)) N1 :=
  ab_met (own := RX10) (by decide +kernel) rfl (Nat.le_of_ble_eq_true rfl) (fun l G aC t b0 p e s m below meth c ls X hr hlk hnm hR hS hl => wk_X10_readsAll X (RtZ_met X.1.1 X.1.2.1 hr hlk) _ _ _ _ _ _ hR hS hl (owp_of h))
theorem cw_X10_readsAll : Cond.code yX10_readsAll cX10_readsAll 3 (some .boolean) ∈ WT := WT_of 1028 (by decide +kernel) (by decide +kernel)
theorem iv_X10_readsAll {p : Program} {l : Launch} {e : Env} {R : Room} {s : State} {m : MethodId} {args : Array Value} {below : List Frame} {meth : Method} {c : Code} {H : Heap} {locs : List Loc} {cells slots : Nat} {Q : State → Prop} {cc : ByteArray} {own : String} {nL : Nat} {G : va_G} {aC : Nat → ClassId} {t b0 : Nat} {N N1 : AH} {pc index : Nat} {ls : Array Slot} {rest : List Value} {v0 : Nat} {v1 : Int32} {r : Int32} (w1 : Cond.methodLink own index yX10_readsAll ∈ WT) (X : CX cc own nL G aC t b0 p s m args c) (hR : Rp G aC b0 N H) (hS : va_S (fun q => b0 ≤ q) s.heap H locs) (h : f_X10_readsAll v0 v1 N = some (r, N1)) (hls : ls.size = nL) (hW : (rest.map fun v => v.category).sum ≤ 8) (hR1 : 4 ≤ R.frames ∧ 93 ≤ R.locals) (hcs : cells + 0 ≤ R.cells ∧ slots + 0 ≤ R.slots) (hdg : decode cc pc = .ok (.invokevirtual index, 3)) (kk : ∀ (H1 : Heap) (locs1 : List Loc), Rp G aC b0 N1 H1 → va_S (fun q => b0 ≤ q) s.heap H1 locs1 → W p l e R s m args below meth c H1 locs1 cells slots Q (F0 m (pc + 3) ls (.int r :: rest))) : W p l e R s m args below meth c H locs cells slots Q (F0 m pc ls (.int v1 :: .ref v0 :: rest)) :=
  ab_callV (n := 1) (As := [.int v1]) X hR hS (ct_X10_readsAll h) (ob_rc (c := 10) (N := N) (a := v0) h) (T := TX10) (k := 20) (C := RX10) rfl w1 (WT_of 1027 (by decide +kernel) (by decide +kernel)) (WT_of 33 (by decide +kernel) (by decide +kernel)) (WT_of 92 (by decide +kernel) (by decide +kernel)) cw_X10_readsAll ⟨rfl, by decide +kernel, by decide +kernel, by decide +kernel⟩ rfl hls hW hR1 hcs rfl hdg kk
-- X10_textFault
theorem mw_X10_197 : Cond.methodLink RX10 197 yX10_readsAll ∈ WT := WT_of 1025 (by decide +kernel) (by decide +kernel)
theorem dX10_textFault_0 : decode cX10_textFault 0 = .ok (.aload_n 0, 1) := by decide +kernel
theorem dX10_textFault_1 : decode cX10_textFault 1 = .ok (.iconst 0, 1) := by decide +kernel
theorem dX10_textFault_2 : decode cX10_textFault 2 = .ok (.invokevirtual 197, 3) := by decide +kernel
theorem dX10_textFault_5 : decode cX10_textFault 5 = .ok (.ifCond .eq 7, 3) := by decide +kernel
theorem dX10_textFault_8 : decode cX10_textFault 8 = .ok (.iconst (-1), 1) := by decide +kernel
theorem dX10_textFault_9 : decode cX10_textFault 9 = .ok (.goto 7, 3) := by decide +kernel
theorem dX10_textFault_12 : decode cX10_textFault 12 = .ok (.aload_n 0, 1) := by decide +kernel
theorem dX10_textFault_13 : decode cX10_textFault 13 = .ok (.getfield 158, 3) := by decide +kernel
theorem dX10_textFault_16 : decode cX10_textFault 16 = .ok (.ireturn, 1) := by decide +kernel
def rm_X10_textFault : Room := { frames := 4, cells := 0, slots := 0, locals := 93 }
section
variable {p : Program} {l : Launch} {e : Env} {s : State} {m : MethodId} {args : Array Value} {below : List Frame} {meth : Method} {c : Code} {Q : State → Prop} {G : va_G} {aC : Nat → ClassId} {t b0 : Nat}
def f_X10_textFault (v0 : Nat) (N : AH) : Option (Int32 × AH) := ob (iO N v0 10) (fun _ => ob2 (f_X10_readsAll v0 (0 : Int32) N) (fun x2 N1 => if x2 = 0 then ob (hI N1 v0 10 15) (fun x4 => some (x4, N1)) else some ((-1 : Int32), N1)))
set_option maxHeartbeats 4000000 in
set_option maxRecDepth 100000 in
theorem wk_X10_textFault {P : Int32 × AH → Prop} (X : CX cX10_textFault RX10 1 G aC t b0 p s m args c) (hr : RtI p l e rm_X10_textFault s m args below meth c 0 0 Q cX10_textFault G aC b0 P) (v0 : Nat) (N : AH) (H : Heap) (locs : List Loc) (ls : Array Slot) (hR : Rp G aC b0 N H) (hS : va_S (fun q => b0 ≤ q) s.heap H locs) (hl : lv_has ls 1 [(0, .ref v0)]) (hp : owp (f_X10_textFault v0 N) P) : W p l e rm_X10_textFault s m args below meth c H locs 0 0 Q (F0 m 0 ls []) := by
  have hx := X.1.1
  have hb := X.1.2.1
  unfold f_X10_textFault at hp
  obtain ⟨_, _, hp⟩ := owp_ob hp
  refine lv_aload_n hx hb dX10_textFault_0 rfl (lv_at hl 0 rfl) ?_
  refine lv_iconst (v := (0)) hx hb dX10_textFault_1 (by decide) ?_
  obtain ⟨x2, N1, e_N1, hp⟩ := owp_ob2 hp
  refine iv_X10_readsAll (rest := []) mw_X10_197 X hR hS e_N1 hl.1 (Nat.le_of_ble_eq_true rfl) ⟨Nat.le_of_ble_eq_true rfl, Nat.le_of_ble_eq_true rfl⟩ ⟨Nat.le_of_ble_eq_true rfl, Nat.le_of_ble_eq_true rfl⟩ dX10_textFault_2 (fun H locs hR hS => ?_)
  refine lv_if_eq (tgt := 12) hx hb dX10_textFault_5 (by decide) (fun k3 => ?_) (fun k3 => ?_)
  · have hp := owp_t k3 hp
    refine lv_aload_n hx hb dX10_textFault_12 rfl (lv_at hl 0 rfl) ?_
    obtain ⟨x4, e_x4, hp⟩ := owp_ob hp
    refine gf_X10_158 X hR e_x4 dX10_textFault_13 ?_
    exact hr _ _ _ _ _ _ hR hS dX10_textFault_16 hp
  · have hp := owp_f k3 hp
    refine lv_iconst (v := (-1)) hx hb dX10_textFault_8 (by decide) ?_
    refine lv_goto (tgt := 16) hx hb dX10_textFault_9 (by decide) ?_
    exact hr _ _ _ _ _ _ hR hS dX10_textFault_16 hp
end
theorem ct_X10_textFault {v0 : Nat} {N N1 : AH} {r : Int32} (h : f_X10_textFault v0 N = some (r, N1)) : Ct yX10_textFault cX10_textFault 1 (some .int) rm_X10_textFault [.ref v0] N (some (.int r)) N1 :=
  ab_met (own := RX10) (by decide +kernel) rfl (Nat.le_of_ble_eq_true rfl) (fun l G aC t b0 p e s m below meth c ls X hr hlk hnm hR hS hl => wk_X10_textFault X (RtI_met X.1.1 X.1.2.1 hr hlk) _ _ _ _ _ hR hS hl (owp_of h))
theorem cw_X10_textFault : Cond.code yX10_textFault cX10_textFault 1 (some .int) ∈ WT := WT_of 1024 (by decide +kernel) (by decide +kernel)
theorem iv_X10_textFault {p : Program} {l : Launch} {e : Env} {R : Room} {s : State} {m : MethodId} {args : Array Value} {below : List Frame} {meth : Method} {c : Code} {H : Heap} {locs : List Loc} {cells slots : Nat} {Q : State → Prop} {cc : ByteArray} {own : String} {nL : Nat} {G : va_G} {aC : Nat → ClassId} {t b0 : Nat} {N N1 : AH} {pc index : Nat} {ls : Array Slot} {rest : List Value} {v0 : Nat} {r : Int32} (w1 : Cond.methodLink own index yX10_textFault ∈ WT) (X : CX cc own nL G aC t b0 p s m args c) (hR : Rp G aC b0 N H) (hS : va_S (fun q => b0 ≤ q) s.heap H locs) (h : f_X10_textFault v0 N = some (r, N1)) (hls : ls.size = nL) (hW : (rest.map fun v => v.category).sum ≤ 8) (hR1 : 5 ≤ R.frames ∧ 113 ≤ R.locals) (hcs : cells + 0 ≤ R.cells ∧ slots + 0 ≤ R.slots) (hdg : decode cc pc = .ok (.invokevirtual index, 3)) (kk : ∀ (H1 : Heap) (locs1 : List Loc), Rp G aC b0 N1 H1 → va_S (fun q => b0 ≤ q) s.heap H1 locs1 → W p l e R s m args below meth c H1 locs1 cells slots Q (F0 m (pc + 3) ls (.int r :: rest))) : W p l e R s m args below meth c H locs cells slots Q (F0 m pc ls (.ref v0 :: rest)) :=
  ab_callV (n := 0) (As := []) X hR hS (ct_X10_textFault h) (ob_rc (c := 10) (N := N) (a := v0) h) (T := TX10) (k := 20) (C := RX10) rfl w1 (WT_of 1022 (by decide +kernel) (by decide +kernel)) (WT_of 1023 (by decide +kernel) (by decide +kernel)) (WT_of 92 (by decide +kernel) (by decide +kernel)) cw_X10_textFault ⟨rfl, by decide +kernel, by decide +kernel, by decide +kernel⟩ rfl hls hW hR1 hcs rfl hdg kk
-- X10_flow
theorem mw_X10_203 : Cond.methodLink RX10 203 yX10_saves ∈ WT := WT_of 1063 (by decide +kernel) (by decide +kernel)
theorem dX10_flow_0 : decode cX10_flow 0 = .ok (.iload_n 1, 1) := by decide +kernel
theorem dX10_flow_1 : decode cX10_flow 1 = .ok (.i2l, 1) := by decide +kernel
theorem dX10_flow_2 : decode cX10_flow 2 = .ok (.lconst 0, 1) := by decide +kernel
theorem dX10_flow_3 : decode cX10_flow 3 = .ok (.ldc2_w 201, 3) := by decide +kernel
theorem dX10_flow_6 : decode cX10_flow 6 = .ok (.invokestatic 60, 3) := by decide +kernel
theorem dX10_flow_9 : decode cX10_flow 9 = .ok (.ifCond .eq 15, 3) := by decide +kernel
theorem dX10_flow_12 : decode cX10_flow 12 = .ok (.iload_n 2, 1) := by decide +kernel
theorem dX10_flow_13 : decode cX10_flow 13 = .ok (.i2l, 1) := by decide +kernel
theorem dX10_flow_14 : decode cX10_flow 14 = .ok (.lconst 0, 1) := by decide +kernel
theorem dX10_flow_15 : decode cX10_flow 15 = .ok (.ldc2_w 201, 3) := by decide +kernel
theorem dX10_flow_18 : decode cX10_flow 18 = .ok (.invokestatic 60, 3) := by decide +kernel
theorem dX10_flow_21 : decode cX10_flow 21 = .ok (.ifCond .ne 6, 3) := by decide +kernel
theorem dX10_flow_24 : decode cX10_flow 24 = .ok (.bipush (-2), 2) := by decide +kernel
theorem dX10_flow_26 : decode cX10_flow 26 = .ok (.ireturn, 1) := by decide +kernel
theorem dX10_flow_27 : decode cX10_flow 27 = .ok (.iload_n 3, 1) := by decide +kernel
theorem dX10_flow_28 : decode cX10_flow 28 = .ok (.i2l, 1) := by decide +kernel
theorem dX10_flow_29 : decode cX10_flow 29 = .ok (.lconst 1, 1) := by decide +kernel
theorem dX10_flow_30 : decode cX10_flow 30 = .ok (.ldc2_w 172, 3) := by decide +kernel
theorem dX10_flow_33 : decode cX10_flow 33 = .ok (.invokestatic 60, 3) := by decide +kernel
theorem dX10_flow_36 : decode cX10_flow 36 = .ok (.ifCond .ne 6, 3) := by decide +kernel
theorem dX10_flow_39 : decode cX10_flow 39 = .ok (.bipush (-3), 2) := by decide +kernel
theorem dX10_flow_41 : decode cX10_flow 41 = .ok (.ireturn, 1) := by decide +kernel
theorem dX10_flow_42 : decode cX10_flow 42 = .ok (.aload_n 0, 1) := by decide +kernel
theorem dX10_flow_43 : decode cX10_flow 43 = .ok (.getfield 7, 3) := by decide +kernel
theorem dX10_flow_46 : decode cX10_flow 46 = .ok (.bipush 7, 2) := by decide +kernel
theorem dX10_flow_48 : decode cX10_flow 48 = .ok (.iaload, 1) := by decide +kernel
theorem dX10_flow_49 : decode cX10_flow 49 = .ok (.bipush 16, 2) := by decide +kernel
theorem dX10_flow_51 : decode cX10_flow 51 = .ok (.if_icmp .ne 6, 3) := by decide +kernel
theorem dX10_flow_54 : decode cX10_flow 54 = .ok (.bipush (-5), 2) := by decide +kernel
theorem dX10_flow_56 : decode cX10_flow 56 = .ok (.ireturn, 1) := by decide +kernel
theorem dX10_flow_57 : decode cX10_flow 57 = .ok (.aload_n 0, 1) := by decide +kernel
theorem dX10_flow_58 : decode cX10_flow 58 = .ok (.invokevirtual 203, 3) := by decide +kernel
theorem dX10_flow_61 : decode cX10_flow 61 = .ok (.aload_n 0, 1) := by decide +kernel
theorem dX10_flow_62 : decode cX10_flow 62 = .ok (.iload_n 1, 1) := by decide +kernel
theorem dX10_flow_63 : decode cX10_flow 63 = .ok (.iload_n 2, 1) := by decide +kernel
theorem dX10_flow_64 : decode cX10_flow 64 = .ok (.iload_n 3, 1) := by decide +kernel
theorem dX10_flow_65 : decode cX10_flow 65 = .ok (.invokevirtual 190, 3) := by decide +kernel
theorem dX10_flow_68 : decode cX10_flow 68 = .ok (.aload_n 0, 1) := by decide +kernel
theorem dX10_flow_69 : decode cX10_flow 69 = .ok (.getfield 7, 3) := by decide +kernel
theorem dX10_flow_72 : decode cX10_flow 72 = .ok (.bipush 7, 2) := by decide +kernel
theorem dX10_flow_74 : decode cX10_flow 74 = .ok (.iaload, 1) := by decide +kernel
theorem dX10_flow_75 : decode cX10_flow 75 = .ok (.ireturn, 1) := by decide +kernel
def rm_X10_flow : Room := { frames := 2, cells := 0, slots := 0, locals := 44 }
section
variable {p : Program} {l : Launch} {e : Env} {s : State} {m : MethodId} {args : Array Value} {below : List Frame} {meth : Method} {c : Code} {Q : State → Prop} {G : va_G} {aC : Nat → ClassId} {t b0 : Nat}
def f_X10_flow (v0 : Nat) (v1 : Int32) (v2 : Int32) (v3 : Int32) (N : AH) : Option (Int32 × AH) := ob (iO N v0 10) (fun _ => ob2 (f_X10_in (Int32.toInt64 v1) (0 : Int64) (7 : Int64) N) (fun x2 N1 => if x2 = 0 then some ((-2 : Int32), N1) else ob2 (f_X10_in (Int32.toInt64 v2) (0 : Int64) (7 : Int64) N1) (fun x5 N4 => if ¬ x5 = 0 then ob2 (f_X10_in (Int32.toInt64 v3) (1 : Int64) (100000 : Int64) N4) (fun x8 N7 => if ¬ x8 = 0 then ob (hR N7 v0 10 0) (fun x10 => ob (aI N7 x10 (7 : Int32)) (fun x11 => if ¬ x11 = (16 : Int32) then ob2 (f_X10_saves v0 N7) (fun _ N13 => ob2 (f_X10_drafts v0 v1 v2 v3 N13) (fun _ N14 => ob (hR N14 v0 10 0) (fun x15 => ob (aI N14 x15 (7 : Int32)) (fun x16 => some (x16, N14))))) else some ((-5 : Int32), N7))) else some ((-3 : Int32), N7)) else some ((-2 : Int32), N4))))
set_option maxHeartbeats 4000000 in
set_option maxRecDepth 100000 in
theorem wk_X10_flow {P : Int32 × AH → Prop} (X : CX cX10_flow RX10 4 G aC t b0 p s m args c) (hr : RtI p l e rm_X10_flow s m args below meth c 0 0 Q cX10_flow G aC b0 P) (v0 : Nat) (v1 : Int32) (v2 : Int32) (v3 : Int32) (N : AH) (H : Heap) (locs : List Loc) (ls : Array Slot) (hR : Rp G aC b0 N H) (hS : va_S (fun q => b0 ≤ q) s.heap H locs) (hl : lv_has ls 4 [(0, .ref v0), (1, .int v1), (2, .int v2), (3, .int v3)]) (hp : owp (f_X10_flow v0 v1 v2 v3 N) P) : W p l e rm_X10_flow s m args below meth c H locs 0 0 Q (F0 m 0 ls []) := by
  have hx := X.1.1
  have hb := X.1.2.1
  unfold f_X10_flow at hp
  obtain ⟨_, _, hp⟩ := owp_ob hp
  refine lv_iload_n hx hb dX10_flow_0 rfl (lv_at hl 1 rfl) ?_
  refine lv_i2l (v := Int32.toInt64 v1) hx hb dX10_flow_1 rfl ?_
  refine lv_lconst (v := 0) hx hb dX10_flow_2 (by decide) ?_
  refine lv_ldc2 (own := RX10) (v := 7) hx hb X.1.2.2.2.1 (X.1.2.2.2.2 _ (WT_of 1062 (by decide +kernel) (by decide +kernel))) dX10_flow_3 ?_
  obtain ⟨x2, N1, e_N1, hp⟩ := owp_ob2 hp
  refine iv_X10_in (rest := []) mw_X10_60 X hR hS e_N1 hl.1 (Nat.le_of_ble_eq_true rfl) ⟨Nat.le_of_ble_eq_true rfl, Nat.le_of_ble_eq_true rfl⟩ ⟨Nat.le_of_ble_eq_true rfl, Nat.le_of_ble_eq_true rfl⟩ dX10_flow_6 (fun H locs hR hS => ?_)
  refine lv_if_eq (tgt := 24) hx hb dX10_flow_9 (by decide) (fun k3 => ?_) (fun k3 => ?_)
  · have hp := owp_t k3 hp
    refine lv_bipush (v := (-2)) hx hb dX10_flow_24 (by decide) ?_
    exact hr _ _ _ _ _ _ hR hS dX10_flow_26 hp
  · have hp := owp_f k3 hp
    refine lv_iload_n hx hb dX10_flow_12 rfl (lv_at hl 2 rfl) ?_
    refine lv_i2l (v := Int32.toInt64 v2) hx hb dX10_flow_13 rfl ?_
    refine lv_lconst (v := 0) hx hb dX10_flow_14 (by decide) ?_
    refine lv_ldc2 (own := RX10) (v := 7) hx hb X.1.2.2.2.1 (X.1.2.2.2.2 _ (WT_of 1062 (by decide +kernel) (by decide +kernel))) dX10_flow_15 ?_
    obtain ⟨x5, N4, e_N4, hp⟩ := owp_ob2 hp
    refine iv_X10_in (rest := []) mw_X10_60 X hR hS e_N4 hl.1 (Nat.le_of_ble_eq_true rfl) ⟨Nat.le_of_ble_eq_true rfl, Nat.le_of_ble_eq_true rfl⟩ ⟨Nat.le_of_ble_eq_true rfl, Nat.le_of_ble_eq_true rfl⟩ dX10_flow_18 (fun H locs hR hS => ?_)
    refine lv_if_ne (tgt := 27) hx hb dX10_flow_21 (by decide) (fun k6 => ?_) (fun k6 => ?_)
    · have hp := owp_t k6 hp
      refine lv_iload_n hx hb dX10_flow_27 rfl (lv_at hl 3 rfl) ?_
      refine lv_i2l (v := Int32.toInt64 v3) hx hb dX10_flow_28 rfl ?_
      refine lv_lconst (v := 1) hx hb dX10_flow_29 (by decide) ?_
      refine lv_ldc2 (own := RX10) (v := 100000) hx hb X.1.2.2.2.1 (X.1.2.2.2.2 _ (WT_of 1053 (by decide +kernel) (by decide +kernel))) dX10_flow_30 ?_
      obtain ⟨x8, N7, e_N7, hp⟩ := owp_ob2 hp
      refine iv_X10_in (rest := []) mw_X10_60 X hR hS e_N7 hl.1 (Nat.le_of_ble_eq_true rfl) ⟨Nat.le_of_ble_eq_true rfl, Nat.le_of_ble_eq_true rfl⟩ ⟨Nat.le_of_ble_eq_true rfl, Nat.le_of_ble_eq_true rfl⟩ dX10_flow_33 (fun H locs hR hS => ?_)
      refine lv_if_ne (tgt := 42) hx hb dX10_flow_36 (by decide) (fun k9 => ?_) (fun k9 => ?_)
      · have hp := owp_t k9 hp
        refine lv_aload_n hx hb dX10_flow_42 rfl (lv_at hl 0 rfl) ?_
        obtain ⟨x10, e_x10, hp⟩ := owp_ob hp
        refine gf_X10_7 X hR e_x10 dX10_flow_43 ?_
        refine lv_bipush (v := (7)) hx hb dX10_flow_46 (by decide) ?_
        obtain ⟨x11, e_x11, hp⟩ := owp_ob hp
        refine ab_iald X hR e_x11 dX10_flow_48 ?_
        refine lv_bipush (v := (16)) hx hb dX10_flow_49 (by decide) ?_
        refine lv_icmp_ne (tgt := 57) hx hb dX10_flow_51 (by decide) (fun k12 => ?_) (fun k12 => ?_)
        · have hp := owp_t k12 hp
          refine lv_aload_n hx hb dX10_flow_57 rfl (lv_at hl 0 rfl) ?_
          obtain ⟨_, N13, e_N13, hp⟩ := owp_ob2 hp
          refine iv_X10_saves (rest := []) mw_X10_203 X hR hS e_N13 hl.1 (Nat.le_of_ble_eq_true rfl) ⟨Nat.le_of_ble_eq_true rfl, Nat.le_of_ble_eq_true rfl⟩ ⟨Nat.le_of_ble_eq_true rfl, Nat.le_of_ble_eq_true rfl⟩ dX10_flow_58 (fun H locs hR hS => ?_)
          refine lv_aload_n hx hb dX10_flow_61 rfl (lv_at hl 0 rfl) ?_
          refine lv_iload_n hx hb dX10_flow_62 rfl (lv_at hl 1 rfl) ?_
          refine lv_iload_n hx hb dX10_flow_63 rfl (lv_at hl 2 rfl) ?_
          refine lv_iload_n hx hb dX10_flow_64 rfl (lv_at hl 3 rfl) ?_
          obtain ⟨_, N14, e_N14, hp⟩ := owp_ob2 hp
          refine iv_X10_drafts (rest := []) mw_X10_190 X hR hS e_N14 hl.1 (Nat.le_of_ble_eq_true rfl) ⟨Nat.le_of_ble_eq_true rfl, Nat.le_of_ble_eq_true rfl⟩ ⟨Nat.le_of_ble_eq_true rfl, Nat.le_of_ble_eq_true rfl⟩ dX10_flow_65 (fun H locs hR hS => ?_)
          refine lv_aload_n hx hb dX10_flow_68 rfl (lv_at hl 0 rfl) ?_
          obtain ⟨x15, e_x15, hp⟩ := owp_ob hp
          refine gf_X10_7 X hR e_x15 dX10_flow_69 ?_
          refine lv_bipush (v := (7)) hx hb dX10_flow_72 (by decide) ?_
          obtain ⟨x16, e_x16, hp⟩ := owp_ob hp
          refine ab_iald X hR e_x16 dX10_flow_74 ?_
          exact hr _ _ _ _ _ _ hR hS dX10_flow_75 hp
        · have hp := owp_f (fun q => q k12) hp
          refine lv_bipush (v := (-5)) hx hb dX10_flow_54 (by decide) ?_
          exact hr _ _ _ _ _ _ hR hS dX10_flow_56 hp
      · have hp := owp_f (fun q => q k9) hp
        refine lv_bipush (v := (-3)) hx hb dX10_flow_39 (by decide) ?_
        exact hr _ _ _ _ _ _ hR hS dX10_flow_41 hp
    · have hp := owp_f (fun q => q k6) hp
      refine lv_bipush (v := (-2)) hx hb dX10_flow_24 (by decide) ?_
      exact hr _ _ _ _ _ _ hR hS dX10_flow_26 hp
end
theorem ct_X10_flow {v0 : Nat} {v1 : Int32} {v2 : Int32} {v3 : Int32} {N N1 : AH} {r : Int32} (h : f_X10_flow v0 v1 v2 v3 N = some (r, N1)) : Ct yX10_flow cX10_flow 4 (some .int) rm_X10_flow [.ref v0, .int v1, .int v2, .int v3] N (some (.int r)) N1 :=
  ab_met (own := RX10) (by decide +kernel) rfl (Nat.le_of_ble_eq_true rfl) (fun l G aC t b0 p e s m below meth c ls X hr hlk hnm hR hS hl => wk_X10_flow X (RtI_met X.1.1 X.1.2.1 hr hlk) _ _ _ _ _ _ _ _ hR hS hl (owp_of h))
theorem cw_X10_flow : Cond.code yX10_flow cX10_flow 4 (some .int) ∈ WT := WT_of 1061 (by decide +kernel) (by decide +kernel)
theorem iv_X10_flow {p : Program} {l : Launch} {e : Env} {R : Room} {s : State} {m : MethodId} {args : Array Value} {below : List Frame} {meth : Method} {c : Code} {H : Heap} {locs : List Loc} {cells slots : Nat} {Q : State → Prop} {cc : ByteArray} {own : String} {nL : Nat} {G : va_G} {aC : Nat → ClassId} {t b0 : Nat} {N N1 : AH} {pc index : Nat} {ls : Array Slot} {rest : List Value} {v0 : Nat} {v1 : Int32} {v2 : Int32} {v3 : Int32} {r : Int32} (w1 : Cond.methodLink own index yX10_flow ∈ WT) (X : CX cc own nL G aC t b0 p s m args c) (hR : Rp G aC b0 N H) (hS : va_S (fun q => b0 ≤ q) s.heap H locs) (h : f_X10_flow v0 v1 v2 v3 N = some (r, N1)) (hls : ls.size = nL) (hW : (rest.map fun v => v.category).sum ≤ 8) (hR1 : 3 ≤ R.frames ∧ 67 ≤ R.locals) (hcs : cells + 0 ≤ R.cells ∧ slots + 0 ≤ R.slots) (hdg : decode cc pc = .ok (.invokevirtual index, 3)) (kk : ∀ (H1 : Heap) (locs1 : List Loc), Rp G aC b0 N1 H1 → va_S (fun q => b0 ≤ q) s.heap H1 locs1 → W p l e R s m args below meth c H1 locs1 cells slots Q (F0 m (pc + 3) ls (.int r :: rest))) : W p l e R s m args below meth c H locs cells slots Q (F0 m pc ls (.int v3 :: .int v2 :: .int v1 :: .ref v0 :: rest)) :=
  ab_callV (n := 3) (As := [.int v1, .int v2, .int v3]) X hR hS (ct_X10_flow h) (ob_rc (c := 10) (N := N) (a := v0) h) (T := TX10) (k := 20) (C := RX10) rfl w1 (WT_of 1059 (by decide +kernel) (by decide +kernel)) (WT_of 1060 (by decide +kernel) (by decide +kernel)) (WT_of 92 (by decide +kernel) (by decide +kernel)) cw_X10_flow ⟨rfl, by decide +kernel, by decide +kernel, by decide +kernel⟩ rfl hls hW hR1 hcs rfl hdg kk
-- X10_read
theorem dX10_read_0 : decode cX10_read 0 = .ok (.aload_n 0, 1) := by decide +kernel
theorem dX10_read_1 : decode cX10_read 1 = .ok (.iconst 0, 1) := by decide +kernel
theorem dX10_read_2 : decode cX10_read 2 = .ok (.invokevirtual 197, 3) := by decide +kernel
theorem dX10_read_5 : decode cX10_read 5 = .ok (.ifCond .ne 6, 3) := by decide +kernel
theorem dX10_read_8 : decode cX10_read 8 = .ok (.bipush (-4), 2) := by decide +kernel
theorem dX10_read_10 : decode cX10_read 10 = .ok (.ireturn, 1) := by decide +kernel
theorem dX10_read_11 : decode cX10_read 11 = .ok (.aload_n 0, 1) := by decide +kernel
theorem dX10_read_12 : decode cX10_read 12 = .ok (.invokevirtual 203, 3) := by decide +kernel
theorem dX10_read_15 : decode cX10_read 15 = .ok (.aload_n 0, 1) := by decide +kernel
theorem dX10_read_16 : decode cX10_read 16 = .ok (.iconst 1, 1) := by decide +kernel
theorem dX10_read_17 : decode cX10_read 17 = .ok (.invokevirtual 197, 3) := by decide +kernel
theorem dX10_read_20 : decode cX10_read 20 = .ok (.pop, 1) := by decide +kernel
theorem dX10_read_21 : decode cX10_read 21 = .ok (.aload_n 0, 1) := by decide +kernel
theorem dX10_read_22 : decode cX10_read 22 = .ok (.getfield 7, 3) := by decide +kernel
theorem dX10_read_25 : decode cX10_read 25 = .ok (.bipush 7, 2) := by decide +kernel
theorem dX10_read_27 : decode cX10_read 27 = .ok (.iaload, 1) := by decide +kernel
theorem dX10_read_28 : decode cX10_read 28 = .ok (.ireturn, 1) := by decide +kernel
def rm_X10_read : Room := { frames := 4, cells := 0, slots := 0, locals := 93 }
section
variable {p : Program} {l : Launch} {e : Env} {s : State} {m : MethodId} {args : Array Value} {below : List Frame} {meth : Method} {c : Code} {Q : State → Prop} {G : va_G} {aC : Nat → ClassId} {t b0 : Nat}
def f_X10_read (v0 : Nat) (N : AH) : Option (Int32 × AH) := ob (iO N v0 10) (fun _ => ob2 (f_X10_readsAll v0 (0 : Int32) N) (fun x2 N1 => if ¬ x2 = 0 then ob2 (f_X10_saves v0 N1) (fun _ N4 => ob2 (f_X10_readsAll v0 (1 : Int32) N4) (fun x6 N5 => ob (hR N5 v0 10 0) (fun x7 => ob (aI N5 x7 (7 : Int32)) (fun x8 => some (x8, N5))))) else some ((-4 : Int32), N1)))
set_option maxHeartbeats 4000000 in
set_option maxRecDepth 100000 in
theorem wk_X10_read {P : Int32 × AH → Prop} (X : CX cX10_read RX10 1 G aC t b0 p s m args c) (hr : RtI p l e rm_X10_read s m args below meth c 0 0 Q cX10_read G aC b0 P) (v0 : Nat) (N : AH) (H : Heap) (locs : List Loc) (ls : Array Slot) (hR : Rp G aC b0 N H) (hS : va_S (fun q => b0 ≤ q) s.heap H locs) (hl : lv_has ls 1 [(0, .ref v0)]) (hp : owp (f_X10_read v0 N) P) : W p l e rm_X10_read s m args below meth c H locs 0 0 Q (F0 m 0 ls []) := by
  have hx := X.1.1
  have hb := X.1.2.1
  unfold f_X10_read at hp
  obtain ⟨_, _, hp⟩ := owp_ob hp
  refine lv_aload_n hx hb dX10_read_0 rfl (lv_at hl 0 rfl) ?_
  refine lv_iconst (v := (0)) hx hb dX10_read_1 (by decide) ?_
  obtain ⟨x2, N1, e_N1, hp⟩ := owp_ob2 hp
  refine iv_X10_readsAll (rest := []) mw_X10_197 X hR hS e_N1 hl.1 (Nat.le_of_ble_eq_true rfl) ⟨Nat.le_of_ble_eq_true rfl, Nat.le_of_ble_eq_true rfl⟩ ⟨Nat.le_of_ble_eq_true rfl, Nat.le_of_ble_eq_true rfl⟩ dX10_read_2 (fun H locs hR hS => ?_)
  refine lv_if_ne (tgt := 11) hx hb dX10_read_5 (by decide) (fun k3 => ?_) (fun k3 => ?_)
  · have hp := owp_t k3 hp
    refine lv_aload_n hx hb dX10_read_11 rfl (lv_at hl 0 rfl) ?_
    obtain ⟨_, N4, e_N4, hp⟩ := owp_ob2 hp
    refine iv_X10_saves (rest := []) mw_X10_203 X hR hS e_N4 hl.1 (Nat.le_of_ble_eq_true rfl) ⟨Nat.le_of_ble_eq_true rfl, Nat.le_of_ble_eq_true rfl⟩ ⟨Nat.le_of_ble_eq_true rfl, Nat.le_of_ble_eq_true rfl⟩ dX10_read_12 (fun H locs hR hS => ?_)
    refine lv_aload_n hx hb dX10_read_15 rfl (lv_at hl 0 rfl) ?_
    refine lv_iconst (v := (1)) hx hb dX10_read_16 (by decide) ?_
    obtain ⟨x6, N5, e_N5, hp⟩ := owp_ob2 hp
    refine iv_X10_readsAll (rest := []) mw_X10_197 X hR hS e_N5 hl.1 (Nat.le_of_ble_eq_true rfl) ⟨Nat.le_of_ble_eq_true rfl, Nat.le_of_ble_eq_true rfl⟩ ⟨Nat.le_of_ble_eq_true rfl, Nat.le_of_ble_eq_true rfl⟩ dX10_read_17 (fun H locs hR hS => ?_)
    refine lv_pop hx hb dX10_read_20 rfl ?_
    refine lv_aload_n hx hb dX10_read_21 rfl (lv_at hl 0 rfl) ?_
    obtain ⟨x7, e_x7, hp⟩ := owp_ob hp
    refine gf_X10_7 X hR e_x7 dX10_read_22 ?_
    refine lv_bipush (v := (7)) hx hb dX10_read_25 (by decide) ?_
    obtain ⟨x8, e_x8, hp⟩ := owp_ob hp
    refine ab_iald X hR e_x8 dX10_read_27 ?_
    exact hr _ _ _ _ _ _ hR hS dX10_read_28 hp
  · have hp := owp_f (fun q => q k3) hp
    refine lv_bipush (v := (-4)) hx hb dX10_read_8 (by decide) ?_
    exact hr _ _ _ _ _ _ hR hS dX10_read_10 hp
end
theorem ct_X10_read {v0 : Nat} {N N1 : AH} {r : Int32} (h : f_X10_read v0 N = some (r, N1)) : Ct yX10_read cX10_read 1 (some .int) rm_X10_read [.ref v0] N (some (.int r)) N1 :=
  ab_met (own := RX10) (by decide +kernel) rfl (Nat.le_of_ble_eq_true rfl) (fun l G aC t b0 p e s m below meth c ls X hr hlk hnm hR hS hl => wk_X10_read X (RtI_met X.1.1 X.1.2.1 hr hlk) _ _ _ _ _ hR hS hl (owp_of h))
theorem cw_X10_read : Cond.code yX10_read cX10_read 1 (some .int) ∈ WT := WT_of 1074 (by decide +kernel) (by decide +kernel)
theorem iv_X10_read {p : Program} {l : Launch} {e : Env} {R : Room} {s : State} {m : MethodId} {args : Array Value} {below : List Frame} {meth : Method} {c : Code} {H : Heap} {locs : List Loc} {cells slots : Nat} {Q : State → Prop} {cc : ByteArray} {own : String} {nL : Nat} {G : va_G} {aC : Nat → ClassId} {t b0 : Nat} {N N1 : AH} {pc index : Nat} {ls : Array Slot} {rest : List Value} {v0 : Nat} {r : Int32} (w1 : Cond.methodLink own index yX10_read ∈ WT) (X : CX cc own nL G aC t b0 p s m args c) (hR : Rp G aC b0 N H) (hS : va_S (fun q => b0 ≤ q) s.heap H locs) (h : f_X10_read v0 N = some (r, N1)) (hls : ls.size = nL) (hW : (rest.map fun v => v.category).sum ≤ 8) (hR1 : 5 ≤ R.frames ∧ 113 ≤ R.locals) (hcs : cells + 0 ≤ R.cells ∧ slots + 0 ≤ R.slots) (hdg : decode cc pc = .ok (.invokevirtual index, 3)) (kk : ∀ (H1 : Heap) (locs1 : List Loc), Rp G aC b0 N1 H1 → va_S (fun q => b0 ≤ q) s.heap H1 locs1 → W p l e R s m args below meth c H1 locs1 cells slots Q (F0 m (pc + 3) ls (.int r :: rest))) : W p l e R s m args below meth c H locs cells slots Q (F0 m pc ls (.ref v0 :: rest)) :=
  ab_callV (n := 0) (As := []) X hR hS (ct_X10_read h) (ob_rc (c := 10) (N := N) (a := v0) h) (T := TX10) (k := 20) (C := RX10) rfl w1 (WT_of 1072 (by decide +kernel) (by decide +kernel)) (WT_of 1073 (by decide +kernel) (by decide +kernel)) (WT_of 92 (by decide +kernel) (by decide +kernel)) cw_X10_read ⟨rfl, by decide +kernel, by decide +kernel, by decide +kernel⟩ rfl hls hW hR1 hcs rfl hdg kk
-- X10_dropDraft
theorem dX10_dropDraft_0 : decode cX10_dropDraft 0 = .ok (.aload_n 0, 1) := by decide +kernel
theorem dX10_dropDraft_1 : decode cX10_dropDraft 1 = .ok (.invokevirtual 203, 3) := by decide +kernel
theorem dX10_dropDraft_4 : decode cX10_dropDraft 4 = .ok (.aload_n 0, 1) := by decide +kernel
theorem dX10_dropDraft_5 : decode cX10_dropDraft 5 = .ok (.getfield 7, 3) := by decide +kernel
theorem dX10_dropDraft_8 : decode cX10_dropDraft 8 = .ok (.bipush 7, 2) := by decide +kernel
theorem dX10_dropDraft_10 : decode cX10_dropDraft 10 = .ok (.iaload, 1) := by decide +kernel
theorem dX10_dropDraft_11 : decode cX10_dropDraft 11 = .ok (.istore_n 1, 1) := by decide +kernel
theorem dX10_dropDraft_12 : decode cX10_dropDraft 12 = .ok (.aload_n 0, 1) := by decide +kernel
theorem dX10_dropDraft_13 : decode cX10_dropDraft 13 = .ok (.getfield 7, 3) := by decide +kernel
theorem dX10_dropDraft_16 : decode cX10_dropDraft 16 = .ok (.bipush 7, 2) := by decide +kernel
theorem dX10_dropDraft_18 : decode cX10_dropDraft 18 = .ok (.iconst 0, 1) := by decide +kernel
theorem dX10_dropDraft_19 : decode cX10_dropDraft 19 = .ok (.iastore, 1) := by decide +kernel
theorem dX10_dropDraft_20 : decode cX10_dropDraft 20 = .ok (.iload_n 1, 1) := by decide +kernel
theorem dX10_dropDraft_21 : decode cX10_dropDraft 21 = .ok (.ireturn, 1) := by decide +kernel
def rm_X10_dropDraft : Room := { frames := 2, cells := 0, slots := 0, locals := 44 }
section
variable {p : Program} {l : Launch} {e : Env} {s : State} {m : MethodId} {args : Array Value} {below : List Frame} {meth : Method} {c : Code} {Q : State → Prop} {G : va_G} {aC : Nat → ClassId} {t b0 : Nat}
def f_X10_dropDraft (v0 : Nat) (N : AH) : Option (Int32 × AH) := ob (iO N v0 10) (fun _ => ob2 (f_X10_saves v0 N) (fun _ N1 => ob (hR N1 v0 10 0) (fun x2 => ob (aI N1 x2 (7 : Int32)) (fun x3 => ob (hR N1 v0 10 0) (fun x4 => ob (sI N1 x4 (7 : Int32) (0 : Int32)) (fun N5 => some (x3, N5)))))))
set_option maxHeartbeats 4000000 in
set_option maxRecDepth 100000 in
theorem wk_X10_dropDraft {P : Int32 × AH → Prop} (X : CX cX10_dropDraft RX10 2 G aC t b0 p s m args c) (hr : RtI p l e rm_X10_dropDraft s m args below meth c 0 0 Q cX10_dropDraft G aC b0 P) (v0 : Nat) (N : AH) (H : Heap) (locs : List Loc) (ls : Array Slot) (hR : Rp G aC b0 N H) (hS : va_S (fun q => b0 ≤ q) s.heap H locs) (hl : lv_has ls 2 [(0, .ref v0)]) (hp : owp (f_X10_dropDraft v0 N) P) : W p l e rm_X10_dropDraft s m args below meth c H locs 0 0 Q (F0 m 0 ls []) := by
  have hx := X.1.1
  have hb := X.1.2.1
  unfold f_X10_dropDraft at hp
  obtain ⟨_, _, hp⟩ := owp_ob hp
  refine lv_aload_n hx hb dX10_dropDraft_0 rfl (lv_at hl 0 rfl) ?_
  obtain ⟨_, N1, e_N1, hp⟩ := owp_ob2 hp
  refine iv_X10_saves (rest := []) mw_X10_203 X hR hS e_N1 hl.1 (Nat.le_of_ble_eq_true rfl) ⟨Nat.le_of_ble_eq_true rfl, Nat.le_of_ble_eq_true rfl⟩ ⟨Nat.le_of_ble_eq_true rfl, Nat.le_of_ble_eq_true rfl⟩ dX10_dropDraft_1 (fun H locs hR hS => ?_)
  refine lv_aload_n hx hb dX10_dropDraft_4 rfl (lv_at hl 0 rfl) ?_
  obtain ⟨x2, e_x2, hp⟩ := owp_ob hp
  refine gf_X10_7 X hR e_x2 dX10_dropDraft_5 ?_
  refine lv_bipush (v := (7)) hx hb dX10_dropDraft_8 (by decide) ?_
  obtain ⟨x3, e_x3, hp⟩ := owp_ob hp
  refine ab_iald X hR e_x3 dX10_dropDraft_10 ?_
  refine lv_istore_n (lv' := [(1, .int x3), (0, .ref v0)]) hx hb dX10_dropDraft_11 rfl hl (by decide) rfl (fun ls hl => ?_)
  refine lv_aload_n hx hb dX10_dropDraft_12 rfl (lv_at hl 1 rfl) ?_
  obtain ⟨x4, e_x4, hp⟩ := owp_ob hp
  refine gf_X10_7 X hR e_x4 dX10_dropDraft_13 ?_
  refine lv_bipush (v := (7)) hx hb dX10_dropDraft_16 (by decide) ?_
  refine lv_iconst (v := (0)) hx hb dX10_dropDraft_18 (by decide) ?_
  obtain ⟨N5, e_N5, hp⟩ := owp_ob hp
  refine ab_iast X hR hS e_N5 dX10_dropDraft_19 (fun H locs hR hS => ?_)
  refine lv_iload_n hx hb dX10_dropDraft_20 rfl (lv_at hl 0 rfl) ?_
  exact hr _ _ _ _ _ _ hR hS dX10_dropDraft_21 hp
end
theorem ct_X10_dropDraft {v0 : Nat} {N N1 : AH} {r : Int32} (h : f_X10_dropDraft v0 N = some (r, N1)) : Ct yX10_dropDraft cX10_dropDraft 2 (some .int) rm_X10_dropDraft [.ref v0] N (some (.int r)) N1 :=
  ab_met (own := RX10) (by decide +kernel) rfl (Nat.le_of_ble_eq_true rfl) (fun l G aC t b0 p e s m below meth c ls X hr hlk hnm hR hS hl => wk_X10_dropDraft X (RtI_met X.1.1 X.1.2.1 hr hlk) _ _ _ _ _ hR hS hl (owp_of h))
theorem cw_X10_dropDraft : Cond.code yX10_dropDraft cX10_dropDraft 2 (some .int) ∈ WT := WT_of 1078 (by decide +kernel) (by decide +kernel)
theorem iv_X10_dropDraft {p : Program} {l : Launch} {e : Env} {R : Room} {s : State} {m : MethodId} {args : Array Value} {below : List Frame} {meth : Method} {c : Code} {H : Heap} {locs : List Loc} {cells slots : Nat} {Q : State → Prop} {cc : ByteArray} {own : String} {nL : Nat} {G : va_G} {aC : Nat → ClassId} {t b0 : Nat} {N N1 : AH} {pc index : Nat} {ls : Array Slot} {rest : List Value} {v0 : Nat} {r : Int32} (w1 : Cond.methodLink own index yX10_dropDraft ∈ WT) (X : CX cc own nL G aC t b0 p s m args c) (hR : Rp G aC b0 N H) (hS : va_S (fun q => b0 ≤ q) s.heap H locs) (h : f_X10_dropDraft v0 N = some (r, N1)) (hls : ls.size = nL) (hW : (rest.map fun v => v.category).sum ≤ 8) (hR1 : 3 ≤ R.frames ∧ 65 ≤ R.locals) (hcs : cells + 0 ≤ R.cells ∧ slots + 0 ≤ R.slots) (hdg : decode cc pc = .ok (.invokevirtual index, 3)) (kk : ∀ (H1 : Heap) (locs1 : List Loc), Rp G aC b0 N1 H1 → va_S (fun q => b0 ≤ q) s.heap H1 locs1 → W p l e R s m args below meth c H1 locs1 cells slots Q (F0 m (pc + 3) ls (.int r :: rest))) : W p l e R s m args below meth c H locs cells slots Q (F0 m pc ls (.ref v0 :: rest)) :=
  ab_callV (n := 0) (As := []) X hR hS (ct_X10_dropDraft h) (ob_rc (c := 10) (N := N) (a := v0) h) (T := TX10) (k := 20) (C := RX10) rfl w1 (WT_of 1076 (by decide +kernel) (by decide +kernel)) (WT_of 1077 (by decide +kernel) (by decide +kernel)) (WT_of 92 (by decide +kernel) (by decide +kernel)) cw_X10_dropDraft ⟨rfl, by decide +kernel, by decide +kernel, by decide +kernel⟩ rfl hls hW hR1 hcs rfl hdg kk
-- X10_committed
theorem dX10_committed_0 : decode cX10_committed 0 = .ok (.aload_n 0, 1) := by decide +kernel
theorem dX10_committed_1 : decode cX10_committed 1 = .ok (.getfield 7, 3) := by decide +kernel
theorem dX10_committed_4 : decode cX10_committed 4 = .ok (.iconst 0, 1) := by decide +kernel
theorem dX10_committed_5 : decode cX10_committed 5 = .ok (.iaload, 1) := by decide +kernel
theorem dX10_committed_6 : decode cX10_committed 6 = .ok (.aload_n 0, 1) := by decide +kernel
theorem dX10_committed_7 : decode cX10_committed 7 = .ok (.iload_n 1, 1) := by decide +kernel
theorem dX10_committed_8 : decode cX10_committed 8 = .ok (.iconst 0, 1) := by decide +kernel
theorem dX10_committed_9 : decode cX10_committed 9 = .ok (.invokevirtual 52, 3) := by decide +kernel
theorem dX10_committed_12 : decode cX10_committed 12 = .ok (.if_icmp .le 12, 3) := by decide +kernel
theorem dX10_committed_15 : decode cX10_committed 15 = .ok (.aload_n 0, 1) := by decide +kernel
theorem dX10_committed_16 : decode cX10_committed 16 = .ok (.getfield 7, 3) := by decide +kernel
theorem dX10_committed_19 : decode cX10_committed 19 = .ok (.iconst 0, 1) := by decide +kernel
theorem dX10_committed_20 : decode cX10_committed 20 = .ok (.iaload, 1) := by decide +kernel
theorem dX10_committed_21 : decode cX10_committed 21 = .ok (.goto 9, 3) := by decide +kernel
theorem dX10_committed_24 : decode cX10_committed 24 = .ok (.aload_n 0, 1) := by decide +kernel
theorem dX10_committed_25 : decode cX10_committed 25 = .ok (.iload_n 1, 1) := by decide +kernel
theorem dX10_committed_26 : decode cX10_committed 26 = .ok (.iconst 0, 1) := by decide +kernel
theorem dX10_committed_27 : decode cX10_committed 27 = .ok (.invokevirtual 52, 3) := by decide +kernel
theorem dX10_committed_30 : decode cX10_committed 30 = .ok (.istore_n 3, 1) := by decide +kernel
theorem dX10_committed_31 : decode cX10_committed 31 = .ok (.aload_n 0, 1) := by decide +kernel
theorem dX10_committed_32 : decode cX10_committed 32 = .ok (.iload_n 1, 1) := by decide +kernel
theorem dX10_committed_33 : decode cX10_committed 33 = .ok (.iconst 0, 1) := by decide +kernel
theorem dX10_committed_34 : decode cX10_committed 34 = .ok (.invokevirtual 52, 3) := by decide +kernel
theorem dX10_committed_37 : decode cX10_committed 37 = .ok (.aload_n 0, 1) := by decide +kernel
theorem dX10_committed_38 : decode cX10_committed 38 = .ok (.iload_n 1, 1) := by decide +kernel
theorem dX10_committed_39 : decode cX10_committed 39 = .ok (.iconst 2, 1) := by decide +kernel
theorem dX10_committed_40 : decode cX10_committed 40 = .ok (.invokevirtual 52, 3) := by decide +kernel
theorem dX10_committed_43 : decode cX10_committed 43 = .ok (.iadd, 1) := by decide +kernel
theorem dX10_committed_44 : decode cX10_committed 44 = .ok (.iload_n 3, 1) := by decide +kernel
theorem dX10_committed_45 : decode cX10_committed 45 = .ok (.isub, 1) := by decide +kernel
theorem dX10_committed_46 : decode cX10_committed 46 = .ok (.istore 4, 2) := by decide +kernel
theorem dX10_committed_48 : decode cX10_committed 48 = .ok (.lconst 0, 1) := by decide +kernel
theorem dX10_committed_49 : decode cX10_committed 49 = .ok (.lstore 5, 2) := by decide +kernel
theorem dX10_committed_51 : decode cX10_committed 51 = .ok (.iconst 0, 1) := by decide +kernel
theorem dX10_committed_52 : decode cX10_committed 52 = .ok (.istore 7, 2) := by decide +kernel
theorem dX10_committed_54 : decode cX10_committed 54 = .ok (.iload 7, 2) := by decide +kernel
theorem dX10_committed_56 : decode cX10_committed 56 = .ok (.aload_n 0, 1) := by decide +kernel
theorem dX10_committed_57 : decode cX10_committed 57 = .ok (.iload_n 1, 1) := by decide +kernel
theorem dX10_committed_58 : decode cX10_committed 58 = .ok (.iconst 5, 1) := by decide +kernel
theorem dX10_committed_59 : decode cX10_committed 59 = .ok (.invokevirtual 52, 3) := by decide +kernel
theorem dX10_committed_62 : decode cX10_committed 62 = .ok (.if_icmp .ge 100, 3) := by decide +kernel
theorem dX10_committed_65 : decode cX10_committed 65 = .ok (.iload_n 2, 1) := by decide +kernel
theorem dX10_committed_66 : decode cX10_committed 66 = .ok (.bipush 8, 2) := by decide +kernel
theorem dX10_committed_68 : decode cX10_committed 68 = .ok (.if_icmp .ge 23, 3) := by decide +kernel
theorem dX10_committed_71 : decode cX10_committed 71 = .ok (.aload_n 0, 1) := by decide +kernel
theorem dX10_committed_72 : decode cX10_committed 72 = .ok (.iload_n 1, 1) := by decide +kernel
theorem dX10_committed_73 : decode cX10_committed 73 = .ok (.iload 7, 2) := by decide +kernel
theorem dX10_committed_75 : decode cX10_committed 75 = .ok (.iconst 0, 1) := by decide +kernel
theorem dX10_committed_76 : decode cX10_committed 76 = .ok (.invokevirtual 64, 3) := by decide +kernel
theorem dX10_committed_79 : decode cX10_committed 79 = .ok (.iload_n 2, 1) := by decide +kernel
theorem dX10_committed_80 : decode cX10_committed 80 = .ok (.if_icmp .ne 7, 3) := by decide +kernel
theorem dX10_committed_83 : decode cX10_committed 83 = .ok (.iconst 1, 1) := by decide +kernel
theorem dX10_committed_84 : decode cX10_committed 84 = .ok (.goto 27, 3) := by decide +kernel
theorem dX10_committed_87 : decode cX10_committed 87 = .ok (.iconst 0, 1) := by decide +kernel
theorem dX10_committed_88 : decode cX10_committed 88 = .ok (.goto 23, 3) := by decide +kernel
theorem dX10_committed_91 : decode cX10_committed 91 = .ok (.aload_n 0, 1) := by decide +kernel
theorem dX10_committed_92 : decode cX10_committed 92 = .ok (.iload_n 1, 1) := by decide +kernel
theorem dX10_committed_93 : decode cX10_committed 93 = .ok (.iload 7, 2) := by decide +kernel
theorem dX10_committed_95 : decode cX10_committed 95 = .ok (.iconst 1, 1) := by decide +kernel
theorem dX10_committed_96 : decode cX10_committed 96 = .ok (.invokevirtual 64, 3) := by decide +kernel
theorem dX10_committed_99 : decode cX10_committed 99 = .ok (.iload_n 2, 1) := by decide +kernel
theorem dX10_committed_100 : decode cX10_committed 100 = .ok (.bipush 8, 2) := by decide +kernel
theorem dX10_committed_102 : decode cX10_committed 102 = .ok (.isub, 1) := by decide +kernel
theorem dX10_committed_103 : decode cX10_committed 103 = .ok (.if_icmp .ne 7, 3) := by decide +kernel
theorem dX10_committed_106 : decode cX10_committed 106 = .ok (.iconst 1, 1) := by decide +kernel
theorem dX10_committed_107 : decode cX10_committed 107 = .ok (.goto 4, 3) := by decide +kernel
theorem dX10_committed_110 : decode cX10_committed 110 = .ok (.iconst 0, 1) := by decide +kernel
theorem dX10_committed_111 : decode cX10_committed 111 = .ok (.istore 8, 2) := by decide +kernel
theorem dX10_committed_113 : decode cX10_committed 113 = .ok (.aload_n 0, 1) := by decide +kernel
theorem dX10_committed_114 : decode cX10_committed 114 = .ok (.iload_n 1, 1) := by decide +kernel
theorem dX10_committed_115 : decode cX10_committed 115 = .ok (.iload 7, 2) := by decide +kernel
theorem dX10_committed_117 : decode cX10_committed 117 = .ok (.iconst 3, 1) := by decide +kernel
theorem dX10_committed_118 : decode cX10_committed 118 = .ok (.invokevirtual 64, 3) := by decide +kernel
theorem dX10_committed_121 : decode cX10_committed 121 = .ok (.istore 9, 2) := by decide +kernel
theorem dX10_committed_123 : decode cX10_committed 123 = .ok (.lload 5, 2) := by decide +kernel
theorem dX10_committed_125 : decode cX10_committed 125 = .ok (.iload 8, 2) := by decide +kernel
theorem dX10_committed_127 : decode cX10_committed 127 = .ok (.ifCond .ne 7, 3) := by decide +kernel
theorem dX10_committed_130 : decode cX10_committed 130 = .ok (.lconst 0, 1) := by decide +kernel
theorem dX10_committed_131 : decode cX10_committed 131 = .ok (.goto 22, 3) := by decide +kernel
theorem dX10_committed_134 : decode cX10_committed 134 = .ok (.iload 4, 2) := by decide +kernel
theorem dX10_committed_136 : decode cX10_committed 136 = .ok (.ifCond .le 14, 3) := by decide +kernel
theorem dX10_committed_139 : decode cX10_committed 139 = .ok (.iload 9, 2) := by decide +kernel
theorem dX10_committed_141 : decode cX10_committed 141 = .ok (.iload 4, 2) := by decide +kernel
theorem dX10_committed_143 : decode cX10_committed 143 = .ok (.invokestatic 68, 3) := by decide +kernel
theorem dX10_committed_146 : decode cX10_committed 146 = .ok (.i2l, 1) := by decide +kernel
theorem dX10_committed_147 : decode cX10_committed 147 = .ok (.goto 6, 3) := by decide +kernel
theorem dX10_committed_150 : decode cX10_committed 150 = .ok (.iload 9, 2) := by decide +kernel
theorem dX10_committed_152 : decode cX10_committed 152 = .ok (.i2l, 1) := by decide +kernel
theorem dX10_committed_153 : decode cX10_committed 153 = .ok (.ladd, 1) := by decide +kernel
theorem dX10_committed_154 : decode cX10_committed 154 = .ok (.lstore 5, 2) := by decide +kernel
theorem dX10_committed_156 : decode cX10_committed 156 = .ok (.iinc 7 1, 3) := by decide +kernel
theorem dX10_committed_159 : decode cX10_committed 159 = .ok (.goto (-105), 3) := by decide +kernel
theorem dX10_committed_162 : decode cX10_committed 162 = .ok (.lload 5, 2) := by decide +kernel
theorem dX10_committed_164 : decode cX10_committed 164 = .ok (.lreturn, 1) := by decide +kernel
def rm_X10_committed : Room := { frames := 2, cells := 0, slots := 0, locals := 45 }
section
variable {p : Program} {l : Launch} {e : Env} {s : State} {m : MethodId} {args : Array Value} {below : List Frame} {meth : Method} {c : Code} {Q : State → Prop} {G : va_G} {aC : Nat → ClassId} {t b0 : Nat}
def f_X10_committed_J111 (k54 : Int64 → Int32 → AH → Option (Int64 × AH)) (v0 : Nat) (v1 : Int32) (v2 : Int32) (v4 : Int32) (v5 : Int64) (v7 : Int32) (w0 : Int32) (N : AH) : Option (Int64 × AH) := ob2 (f_X10_flowOf v0 v1 v7 (3 : Int32) N) (fun x20 N19 => if ¬ w0 = 0 then if v4 ≤ 0 then k54 (v5 + (Int32.toInt64 x20)) (v7 + 1) N19 else ob2 (f_X10_up x20 v4 N19) (fun x24 N23 => k54 (v5 + (Int32.toInt64 x24)) (v7 + 1) N23) else k54 (v5 + (0 : Int64)) (v7 + 1) N19)
set_option maxHeartbeats 4000000 in
set_option maxRecDepth 100000 in
theorem w_X10_committed_J111 {P : Int64 × AH → Prop} (X : CX cX10_committed RX10 10 G aC t b0 p s m args c) (hr : RtJ p l e rm_X10_committed s m args below meth c 0 0 Q cX10_committed G aC b0 P) (v0 : Nat) (v1 : Int32) (v2 : Int32) (v4 : Int32) (v5 : Int64) (v7 : Int32) (w0 : Int32) {k54 : Int64 → Int32 → AH → Option (Int64 × AH)}
    (hk54 : ∀ (v5 : Int64) (v7 : Int32) (N : AH) (H : Heap) (locs : List Loc) (ls : Array Slot), Rp G aC b0 N H → va_S (fun q => b0 ≤ q) s.heap H locs → lv_has ls 10 [(0, .ref v0), (1, .int v1), (2, .int v2), (4, .int v4), (5, .long v5), (7, .int v7)] → owp (k54 v5 v7 N) P → W p l e rm_X10_committed s m args below meth c H locs 0 0 Q (F0 m 54 ls [])) (N : AH) (H : Heap) (locs : List Loc) (ls : Array Slot) (hR : Rp G aC b0 N H) (hS : va_S (fun q => b0 ≤ q) s.heap H locs) (hl : lv_has ls 10 [(0, .ref v0), (1, .int v1), (2, .int v2), (4, .int v4), (5, .long v5), (7, .int v7)]) (hp : owp (f_X10_committed_J111 k54 v0 v1 v2 v4 v5 v7 w0 N) P) : W p l e rm_X10_committed s m args below meth c H locs 0 0 Q (F0 m 111 ls [.int w0]) := by
  have hx := X.1.1
  have hb := X.1.2.1
  unfold f_X10_committed_J111 at hp
  refine lv_istore (lv' := [(8, .int w0), (0, .ref v0), (1, .int v1), (2, .int v2), (4, .int v4), (5, .long v5), (7, .int v7)]) hx hb dX10_committed_111 hl (by decide) rfl (fun ls hl => ?_)
  refine lv_aload_n hx hb dX10_committed_113 rfl (lv_at hl 1 rfl) ?_
  refine lv_iload_n hx hb dX10_committed_114 rfl (lv_at hl 2 rfl) ?_
  refine lv_iload hx hb dX10_committed_115 (lv_at hl 6 rfl) ?_
  refine lv_iconst (v := (3)) hx hb dX10_committed_117 (by decide) ?_
  obtain ⟨x20, N19, e_N19, hp⟩ := owp_ob2 hp
  refine iv_X10_flowOf (rest := []) mw_X10_64 X hR hS e_N19 hl.1 (Nat.le_of_ble_eq_true rfl) ⟨Nat.le_of_ble_eq_true rfl, Nat.le_of_ble_eq_true rfl⟩ ⟨Nat.le_of_ble_eq_true rfl, Nat.le_of_ble_eq_true rfl⟩ dX10_committed_118 (fun H locs hR hS => ?_)
  refine lv_istore (lv' := [(9, .int x20), (8, .int w0), (0, .ref v0), (1, .int v1), (2, .int v2), (4, .int v4), (5, .long v5), (7, .int v7)]) hx hb dX10_committed_121 hl (by decide) rfl (fun ls hl => ?_)
  refine lv_lload hx hb dX10_committed_123 (lv_at hl 6 rfl) ?_
  refine lv_iload hx hb dX10_committed_125 (lv_at hl 1 rfl) ?_
  refine lv_if_ne (tgt := 134) hx hb dX10_committed_127 (by decide) (fun k21 => ?_) (fun k21 => ?_)
  · have hp := owp_t k21 hp
    refine lv_iload hx hb dX10_committed_134 (lv_at hl 5 rfl) ?_
    refine lv_if_le (tgt := 150) hx hb dX10_committed_136 (by decide) (fun k22 => ?_) (fun k22 => ?_)
    · have hp := owp_t k22 hp
      refine lv_iload hx hb dX10_committed_150 (lv_at hl 0 rfl) ?_
      refine lv_i2l (v := Int32.toInt64 x20) hx hb dX10_committed_152 rfl ?_
      refine lv_ladd hx hb dX10_committed_153 ?_
      refine lv_lstore (lv' := [(5, .long (v5 + (Int32.toInt64 x20))), (9, .int x20), (8, .int w0), (0, .ref v0), (1, .int v1), (2, .int v2), (4, .int v4), (7, .int v7)]) hx hb dX10_committed_154 hl (by decide) rfl (fun ls hl => ?_)
      refine lv_iinc (v := v7 + 1) (lv' := [(7, .int (v7 + 1)), (5, .long (v5 + (Int32.toInt64 x20))), (9, .int x20), (8, .int w0), (0, .ref v0), (1, .int v1), (2, .int v2), (4, .int v4)]) hx hb dX10_committed_156 hl (k := 7) rfl rfl (by decide) rfl (fun ls hl => ?_)
      refine lv_goto (tgt := 54) hx hb dX10_committed_159 (by decide) ?_
      exact hk54 _ _ _ _ _ _ hR hS (lv_sub hl [4, 5, 6, 7, 1, 0] rfl) hp
    · have hp := owp_f k22 hp
      refine lv_iload hx hb dX10_committed_139 (lv_at hl 0 rfl) ?_
      refine lv_iload hx hb dX10_committed_141 (lv_at hl 5 rfl) ?_
      obtain ⟨x24, N23, e_N23, hp⟩ := owp_ob2 hp
      refine iv_X10_up (rest := [.long v5]) mw_X10_68 X hR hS e_N23 hl.1 (Nat.le_of_ble_eq_true rfl) ⟨Nat.le_of_ble_eq_true rfl, Nat.le_of_ble_eq_true rfl⟩ ⟨Nat.le_of_ble_eq_true rfl, Nat.le_of_ble_eq_true rfl⟩ dX10_committed_143 (fun H locs hR hS => ?_)
      refine lv_i2l (v := Int32.toInt64 x24) hx hb dX10_committed_146 rfl ?_
      refine lv_goto (tgt := 153) hx hb dX10_committed_147 (by decide) ?_
      refine lv_ladd hx hb dX10_committed_153 ?_
      refine lv_lstore (lv' := [(5, .long (v5 + (Int32.toInt64 x24))), (9, .int x20), (8, .int w0), (0, .ref v0), (1, .int v1), (2, .int v2), (4, .int v4), (7, .int v7)]) hx hb dX10_committed_154 hl (by decide) rfl (fun ls hl => ?_)
      refine lv_iinc (v := v7 + 1) (lv' := [(7, .int (v7 + 1)), (5, .long (v5 + (Int32.toInt64 x24))), (9, .int x20), (8, .int w0), (0, .ref v0), (1, .int v1), (2, .int v2), (4, .int v4)]) hx hb dX10_committed_156 hl (k := 7) rfl rfl (by decide) rfl (fun ls hl => ?_)
      refine lv_goto (tgt := 54) hx hb dX10_committed_159 (by decide) ?_
      exact hk54 _ _ _ _ _ _ hR hS (lv_sub hl [4, 5, 6, 7, 1, 0] rfl) hp
  · have hp := owp_f (fun q => q k21) hp
    refine lv_lconst (v := 0) hx hb dX10_committed_130 (by decide) ?_
    refine lv_goto (tgt := 153) hx hb dX10_committed_131 (by decide) ?_
    refine lv_ladd hx hb dX10_committed_153 ?_
    refine lv_lstore (lv' := [(5, .long (v5 + (0 : Int64))), (9, .int x20), (8, .int w0), (0, .ref v0), (1, .int v1), (2, .int v2), (4, .int v4), (7, .int v7)]) hx hb dX10_committed_154 hl (by decide) rfl (fun ls hl => ?_)
    refine lv_iinc (v := v7 + 1) (lv' := [(7, .int (v7 + 1)), (5, .long (v5 + (0 : Int64))), (9, .int x20), (8, .int w0), (0, .ref v0), (1, .int v1), (2, .int v2), (4, .int v4)]) hx hb dX10_committed_156 hl (k := 7) rfl rfl (by decide) rfl (fun ls hl => ?_)
    refine lv_goto (tgt := 54) hx hb dX10_committed_159 (by decide) ?_
    exact hk54 _ _ _ _ _ _ hR hS (lv_sub hl [4, 5, 6, 7, 1, 0] rfl) hp
def f_X10_committed_L54 (v0 : Nat) (v1 : Int32) (v2 : Int32) (v4 : Int32) (k162 : Int64 → AH → Option (Int64 × AH)) : Nat → Int64 → Int32 → AH → Option (Int64 × AH)
  | 0, _, _, _ => none
  | n + 1, v5, v7, N => ob2 (f_X10_of v0 v1 (5 : Int32) N) (fun x13 N12 => if x13 ≤ v7 then k162 v5 N12 else if (8 : Int32) ≤ v2 then ob2 (f_X10_flowOf v0 v1 v7 (1 : Int32) N12) (fun x17 N16 => if ¬ x17 = (v2 - (8 : Int32)) then f_X10_committed_J111 (f_X10_committed_L54 v0 v1 v2 v4 k162 n) v0 v1 v2 v4 v5 v7 (0 : Int32) N16 else f_X10_committed_J111 (f_X10_committed_L54 v0 v1 v2 v4 k162 n) v0 v1 v2 v4 v5 v7 (1 : Int32) N16) else ob2 (f_X10_flowOf v0 v1 v7 (0 : Int32) N12) (fun x26 N25 => if ¬ x26 = v2 then f_X10_committed_J111 (f_X10_committed_L54 v0 v1 v2 v4 k162 n) v0 v1 v2 v4 v5 v7 (0 : Int32) N25 else f_X10_committed_J111 (f_X10_committed_L54 v0 v1 v2 v4 k162 n) v0 v1 v2 v4 v5 v7 (1 : Int32) N25))
set_option maxHeartbeats 4000000 in
set_option maxRecDepth 100000 in
theorem w_X10_committed_L54 {P : Int64 × AH → Prop} (X : CX cX10_committed RX10 10 G aC t b0 p s m args c) (hr : RtJ p l e rm_X10_committed s m args below meth c 0 0 Q cX10_committed G aC b0 P) (v0 : Nat) (v1 : Int32) (v2 : Int32) (v4 : Int32) {k162 : Int64 → AH → Option (Int64 × AH)}
    (hk162 : ∀ (v5 : Int64) (N : AH) (H : Heap) (locs : List Loc) (ls : Array Slot), Rp G aC b0 N H → va_S (fun q => b0 ≤ q) s.heap H locs → lv_has ls 10 [(5, .long v5)] → owp (k162 v5 N) P → W p l e rm_X10_committed s m args below meth c H locs 0 0 Q (F0 m 162 ls [])) :
    ∀ (n : Nat) (v5 : Int64) (v7 : Int32) (N : AH) (H : Heap) (locs : List Loc) (ls : Array Slot), Rp G aC b0 N H → va_S (fun q => b0 ≤ q) s.heap H locs → lv_has ls 10 [(0, .ref v0), (1, .int v1), (2, .int v2), (4, .int v4), (5, .long v5), (7, .int v7)] → owp (f_X10_committed_L54 v0 v1 v2 v4 k162 n v5 v7 N) P → W p l e rm_X10_committed s m args below meth c H locs 0 0 Q (F0 m 54 ls []) := by
  have hx := X.1.1
  have hb := X.1.2.1
  intro n
  induction n with
  | zero =>
    intro v5 v7 N H locs ls hR hS hl hp
    exact (show False from hp).elim
  | succ n ih =>
    intro v5 v7 N H locs ls hR hS hl hp
    rw [f_X10_committed_L54] at hp
    refine lv_iload hx hb dX10_committed_54 (lv_at hl 5 rfl) ?_
    refine lv_aload_n hx hb dX10_committed_56 rfl (lv_at hl 0 rfl) ?_
    refine lv_iload_n hx hb dX10_committed_57 rfl (lv_at hl 1 rfl) ?_
    refine lv_iconst (v := (5)) hx hb dX10_committed_58 (by decide) ?_
    obtain ⟨x13, N12, e_N12, hp⟩ := owp_ob2 hp
    refine iv_X10_of (rest := [.int v7]) mw_X10_52 X hR hS e_N12 hl.1 (Nat.le_of_ble_eq_true rfl) ⟨Nat.le_of_ble_eq_true rfl, Nat.le_of_ble_eq_true rfl⟩ ⟨Nat.le_of_ble_eq_true rfl, Nat.le_of_ble_eq_true rfl⟩ dX10_committed_59 (fun H locs hR hS => ?_)
    refine lv_icmp_ge (tgt := 162) hx hb dX10_committed_62 (by decide) (fun k14 => ?_) (fun k14 => ?_)
    · have hp := owp_t k14 hp
      exact hk162 _ _ _ _ _ hR hS (lv_sub hl [4] rfl) hp
    · have hp := owp_f k14 hp
      refine lv_iload_n hx hb dX10_committed_65 rfl (lv_at hl 2 rfl) ?_
      refine lv_bipush (v := (8)) hx hb dX10_committed_66 (by decide) ?_
      refine lv_icmp_ge (tgt := 91) hx hb dX10_committed_68 (by decide) (fun k15 => ?_) (fun k15 => ?_)
      · have hp := owp_t k15 hp
        refine lv_aload_n hx hb dX10_committed_91 rfl (lv_at hl 0 rfl) ?_
        refine lv_iload_n hx hb dX10_committed_92 rfl (lv_at hl 1 rfl) ?_
        refine lv_iload hx hb dX10_committed_93 (lv_at hl 5 rfl) ?_
        refine lv_iconst (v := (1)) hx hb dX10_committed_95 (by decide) ?_
        obtain ⟨x17, N16, e_N16, hp⟩ := owp_ob2 hp
        refine iv_X10_flowOf (rest := []) mw_X10_64 X hR hS e_N16 hl.1 (Nat.le_of_ble_eq_true rfl) ⟨Nat.le_of_ble_eq_true rfl, Nat.le_of_ble_eq_true rfl⟩ ⟨Nat.le_of_ble_eq_true rfl, Nat.le_of_ble_eq_true rfl⟩ dX10_committed_96 (fun H locs hR hS => ?_)
        refine lv_iload_n hx hb dX10_committed_99 rfl (lv_at hl 2 rfl) ?_
        refine lv_bipush (v := (8)) hx hb dX10_committed_100 (by decide) ?_
        refine lv_isub hx hb dX10_committed_102 ?_
        refine lv_icmp_ne (tgt := 110) hx hb dX10_committed_103 (by decide) (fun k18 => ?_) (fun k18 => ?_)
        · have hp := owp_t k18 hp
          refine lv_iconst (v := (0)) hx hb dX10_committed_110 (by decide) ?_
          exact w_X10_committed_J111 X hr _ _ _ _ _ _ _ ih _ _ _ _ hR hS hl hp
        · have hp := owp_f (fun q => q k18) hp
          refine lv_iconst (v := (1)) hx hb dX10_committed_106 (by decide) ?_
          refine lv_goto (tgt := 111) hx hb dX10_committed_107 (by decide) ?_
          exact w_X10_committed_J111 X hr _ _ _ _ _ _ _ ih _ _ _ _ hR hS hl hp
      · have hp := owp_f k15 hp
        refine lv_aload_n hx hb dX10_committed_71 rfl (lv_at hl 0 rfl) ?_
        refine lv_iload_n hx hb dX10_committed_72 rfl (lv_at hl 1 rfl) ?_
        refine lv_iload hx hb dX10_committed_73 (lv_at hl 5 rfl) ?_
        refine lv_iconst (v := (0)) hx hb dX10_committed_75 (by decide) ?_
        obtain ⟨x26, N25, e_N25, hp⟩ := owp_ob2 hp
        refine iv_X10_flowOf (rest := []) mw_X10_64 X hR hS e_N25 hl.1 (Nat.le_of_ble_eq_true rfl) ⟨Nat.le_of_ble_eq_true rfl, Nat.le_of_ble_eq_true rfl⟩ ⟨Nat.le_of_ble_eq_true rfl, Nat.le_of_ble_eq_true rfl⟩ dX10_committed_76 (fun H locs hR hS => ?_)
        refine lv_iload_n hx hb dX10_committed_79 rfl (lv_at hl 2 rfl) ?_
        refine lv_icmp_ne (tgt := 87) hx hb dX10_committed_80 (by decide) (fun k27 => ?_) (fun k27 => ?_)
        · have hp := owp_t k27 hp
          refine lv_iconst (v := (0)) hx hb dX10_committed_87 (by decide) ?_
          refine lv_goto (tgt := 111) hx hb dX10_committed_88 (by decide) ?_
          exact w_X10_committed_J111 X hr _ _ _ _ _ _ _ ih _ _ _ _ hR hS hl hp
        · have hp := owp_f (fun q => q k27) hp
          refine lv_iconst (v := (1)) hx hb dX10_committed_83 (by decide) ?_
          refine lv_goto (tgt := 111) hx hb dX10_committed_84 (by decide) ?_
          exact w_X10_committed_J111 X hr _ _ _ _ _ _ _ ih _ _ _ _ hR hS hl hp
def f_X10_committed_J30 (v0 : Nat) (v1 : Int32) (v2 : Int32) (w0 : Int32) (N : AH) : Option (Int64 × AH) := ob2 (f_X10_of v0 v1 (0 : Int32) N) (fun x9 N8 => ob2 (f_X10_of v0 v1 (2 : Int32) N8) (fun x11 N10 => f_X10_committed_L54 v0 v1 v2 ((x9 + x11) - w0) (fun v28 N29 => some (v28, N29)) FU (0 : Int64) (0 : Int32) N10))
set_option maxHeartbeats 4000000 in
set_option maxRecDepth 100000 in
theorem w_X10_committed_J30 {P : Int64 × AH → Prop} (X : CX cX10_committed RX10 10 G aC t b0 p s m args c) (hr : RtJ p l e rm_X10_committed s m args below meth c 0 0 Q cX10_committed G aC b0 P) (v0 : Nat) (v1 : Int32) (v2 : Int32) (w0 : Int32) (N : AH) (H : Heap) (locs : List Loc) (ls : Array Slot) (hR : Rp G aC b0 N H) (hS : va_S (fun q => b0 ≤ q) s.heap H locs) (hl : lv_has ls 10 [(0, .ref v0), (1, .int v1), (2, .int v2)]) (hp : owp (f_X10_committed_J30 v0 v1 v2 w0 N) P) : W p l e rm_X10_committed s m args below meth c H locs 0 0 Q (F0 m 30 ls [.int w0]) := by
  have hx := X.1.1
  have hb := X.1.2.1
  unfold f_X10_committed_J30 at hp
  refine lv_istore_n (lv' := [(3, .int w0), (0, .ref v0), (1, .int v1), (2, .int v2)]) hx hb dX10_committed_30 rfl hl (by decide) rfl (fun ls hl => ?_)
  refine lv_aload_n hx hb dX10_committed_31 rfl (lv_at hl 1 rfl) ?_
  refine lv_iload_n hx hb dX10_committed_32 rfl (lv_at hl 2 rfl) ?_
  refine lv_iconst (v := (0)) hx hb dX10_committed_33 (by decide) ?_
  obtain ⟨x9, N8, e_N8, hp⟩ := owp_ob2 hp
  refine iv_X10_of (rest := []) mw_X10_52 X hR hS e_N8 hl.1 (Nat.le_of_ble_eq_true rfl) ⟨Nat.le_of_ble_eq_true rfl, Nat.le_of_ble_eq_true rfl⟩ ⟨Nat.le_of_ble_eq_true rfl, Nat.le_of_ble_eq_true rfl⟩ dX10_committed_34 (fun H locs hR hS => ?_)
  refine lv_aload_n hx hb dX10_committed_37 rfl (lv_at hl 1 rfl) ?_
  refine lv_iload_n hx hb dX10_committed_38 rfl (lv_at hl 2 rfl) ?_
  refine lv_iconst (v := (2)) hx hb dX10_committed_39 (by decide) ?_
  obtain ⟨x11, N10, e_N10, hp⟩ := owp_ob2 hp
  refine iv_X10_of (rest := [.int x9]) mw_X10_52 X hR hS e_N10 hl.1 (Nat.le_of_ble_eq_true rfl) ⟨Nat.le_of_ble_eq_true rfl, Nat.le_of_ble_eq_true rfl⟩ ⟨Nat.le_of_ble_eq_true rfl, Nat.le_of_ble_eq_true rfl⟩ dX10_committed_40 (fun H locs hR hS => ?_)
  refine lv_iadd hx hb dX10_committed_43 ?_
  refine lv_iload_n hx hb dX10_committed_44 rfl (lv_at hl 0 rfl) ?_
  refine lv_isub hx hb dX10_committed_45 ?_
  refine lv_istore (lv' := [(4, .int ((x9 + x11) - w0)), (3, .int w0), (0, .ref v0), (1, .int v1), (2, .int v2)]) hx hb dX10_committed_46 hl (by decide) rfl (fun ls hl => ?_)
  refine lv_lconst (v := 0) hx hb dX10_committed_48 (by decide) ?_
  refine lv_lstore (lv' := [(5, .long (0 : Int64)), (4, .int ((x9 + x11) - w0)), (3, .int w0), (0, .ref v0), (1, .int v1), (2, .int v2)]) hx hb dX10_committed_49 hl (by decide) rfl (fun ls hl => ?_)
  refine lv_iconst (v := (0)) hx hb dX10_committed_51 (by decide) ?_
  refine lv_istore (lv' := [(7, .int (0 : Int32)), (5, .long (0 : Int64)), (4, .int ((x9 + x11) - w0)), (3, .int w0), (0, .ref v0), (1, .int v1), (2, .int v2)]) hx hb dX10_committed_52 hl (by decide) rfl (fun ls hl => ?_)
  refine w_X10_committed_L54 X hr _ _ _ _ (fun v28 N29 H locs ls hR hS hl hp => ?_) _ _ _ _ _ _ _ hR hS (lv_sub hl [4, 5, 6, 2, 1, 0] rfl) hp
  refine lv_lload hx hb dX10_committed_162 (lv_at hl 0 rfl) ?_
  exact hr _ _ _ _ _ _ hR hS dX10_committed_164 hp
def f_X10_committed (v0 : Nat) (v1 : Int32) (v2 : Int32) (N : AH) : Option (Int64 × AH) := ob (iO N v0 10) (fun _ => ob (hR N v0 10 0) (fun x1 => ob (aI N x1 (0 : Int32)) (fun x2 => ob2 (f_X10_of v0 v1 (0 : Int32) N) (fun x4 N3 => if x2 ≤ x4 then ob2 (f_X10_of v0 v1 (0 : Int32) N3) (fun x7 N6 => f_X10_committed_J30 v0 v1 v2 x7 N6) else ob (hR N3 v0 10 0) (fun x30 => ob (aI N3 x30 (0 : Int32)) (fun x31 => f_X10_committed_J30 v0 v1 v2 x31 N3))))))
set_option maxHeartbeats 4000000 in
set_option maxRecDepth 100000 in
theorem wk_X10_committed {P : Int64 × AH → Prop} (X : CX cX10_committed RX10 10 G aC t b0 p s m args c) (hr : RtJ p l e rm_X10_committed s m args below meth c 0 0 Q cX10_committed G aC b0 P) (v0 : Nat) (v1 : Int32) (v2 : Int32) (N : AH) (H : Heap) (locs : List Loc) (ls : Array Slot) (hR : Rp G aC b0 N H) (hS : va_S (fun q => b0 ≤ q) s.heap H locs) (hl : lv_has ls 10 [(0, .ref v0), (1, .int v1), (2, .int v2)]) (hp : owp (f_X10_committed v0 v1 v2 N) P) : W p l e rm_X10_committed s m args below meth c H locs 0 0 Q (F0 m 0 ls []) := by
  have hx := X.1.1
  have hb := X.1.2.1
  unfold f_X10_committed at hp
  obtain ⟨_, _, hp⟩ := owp_ob hp
  refine lv_aload_n hx hb dX10_committed_0 rfl (lv_at hl 0 rfl) ?_
  obtain ⟨x1, e_x1, hp⟩ := owp_ob hp
  refine gf_X10_7 X hR e_x1 dX10_committed_1 ?_
  refine lv_iconst (v := (0)) hx hb dX10_committed_4 (by decide) ?_
  obtain ⟨x2, e_x2, hp⟩ := owp_ob hp
  refine ab_iald X hR e_x2 dX10_committed_5 ?_
  refine lv_aload_n hx hb dX10_committed_6 rfl (lv_at hl 0 rfl) ?_
  refine lv_iload_n hx hb dX10_committed_7 rfl (lv_at hl 1 rfl) ?_
  refine lv_iconst (v := (0)) hx hb dX10_committed_8 (by decide) ?_
  obtain ⟨x4, N3, e_N3, hp⟩ := owp_ob2 hp
  refine iv_X10_of (rest := [.int x2]) mw_X10_52 X hR hS e_N3 hl.1 (Nat.le_of_ble_eq_true rfl) ⟨Nat.le_of_ble_eq_true rfl, Nat.le_of_ble_eq_true rfl⟩ ⟨Nat.le_of_ble_eq_true rfl, Nat.le_of_ble_eq_true rfl⟩ dX10_committed_9 (fun H locs hR hS => ?_)
  refine lv_icmp_le (tgt := 24) hx hb dX10_committed_12 (by decide) (fun k5 => ?_) (fun k5 => ?_)
  · have hp := owp_t k5 hp
    refine lv_aload_n hx hb dX10_committed_24 rfl (lv_at hl 0 rfl) ?_
    refine lv_iload_n hx hb dX10_committed_25 rfl (lv_at hl 1 rfl) ?_
    refine lv_iconst (v := (0)) hx hb dX10_committed_26 (by decide) ?_
    obtain ⟨x7, N6, e_N6, hp⟩ := owp_ob2 hp
    refine iv_X10_of (rest := []) mw_X10_52 X hR hS e_N6 hl.1 (Nat.le_of_ble_eq_true rfl) ⟨Nat.le_of_ble_eq_true rfl, Nat.le_of_ble_eq_true rfl⟩ ⟨Nat.le_of_ble_eq_true rfl, Nat.le_of_ble_eq_true rfl⟩ dX10_committed_27 (fun H locs hR hS => ?_)
    exact w_X10_committed_J30 X hr _ _ _ _ _ _ _ _ hR hS hl hp
  · have hp := owp_f k5 hp
    refine lv_aload_n hx hb dX10_committed_15 rfl (lv_at hl 0 rfl) ?_
    obtain ⟨x30, e_x30, hp⟩ := owp_ob hp
    refine gf_X10_7 X hR e_x30 dX10_committed_16 ?_
    refine lv_iconst (v := (0)) hx hb dX10_committed_19 (by decide) ?_
    obtain ⟨x31, e_x31, hp⟩ := owp_ob hp
    refine ab_iald X hR e_x31 dX10_committed_20 ?_
    refine lv_goto (tgt := 30) hx hb dX10_committed_21 (by decide) ?_
    exact w_X10_committed_J30 X hr _ _ _ _ _ _ _ _ hR hS hl hp
end
theorem ct_X10_committed {v0 : Nat} {v1 : Int32} {v2 : Int32} {N N1 : AH} {r : Int64} (h : f_X10_committed v0 v1 v2 N = some (r, N1)) : Ct yX10_committed cX10_committed 10 (some .long) rm_X10_committed [.ref v0, .int v1, .int v2] N (some (.long r)) N1 :=
  ab_met (own := RX10) (by decide +kernel) rfl (Nat.le_of_ble_eq_true rfl) (fun l G aC t b0 p e s m below meth c ls X hr hlk hnm hR hS hl => wk_X10_committed X (RtJ_met X.1.1 X.1.2.1 hr hlk) _ _ _ _ _ _ _ hR hS hl (owp_of h))
theorem cw_X10_committed : Cond.code yX10_committed cX10_committed 10 (some .long) ∈ WT := WT_of 1113 (by decide +kernel) (by decide +kernel)
theorem iv_X10_committed {p : Program} {l : Launch} {e : Env} {R : Room} {s : State} {m : MethodId} {args : Array Value} {below : List Frame} {meth : Method} {c : Code} {H : Heap} {locs : List Loc} {cells slots : Nat} {Q : State → Prop} {cc : ByteArray} {own : String} {nL : Nat} {G : va_G} {aC : Nat → ClassId} {t b0 : Nat} {N N1 : AH} {pc index : Nat} {ls : Array Slot} {rest : List Value} {v0 : Nat} {v1 : Int32} {v2 : Int32} {r : Int64} (w1 : Cond.methodLink own index yX10_committed ∈ WT) (X : CX cc own nL G aC t b0 p s m args c) (hR : Rp G aC b0 N H) (hS : va_S (fun q => b0 ≤ q) s.heap H locs) (h : f_X10_committed v0 v1 v2 N = some (r, N1)) (hls : ls.size = nL) (hW : (rest.map fun v => v.category).sum ≤ 8) (hR1 : 3 ≤ R.frames ∧ 74 ≤ R.locals) (hcs : cells + 0 ≤ R.cells ∧ slots + 0 ≤ R.slots) (hdg : decode cc pc = .ok (.invokevirtual index, 3)) (kk : ∀ (H1 : Heap) (locs1 : List Loc), Rp G aC b0 N1 H1 → va_S (fun q => b0 ≤ q) s.heap H1 locs1 → W p l e R s m args below meth c H1 locs1 cells slots Q (F0 m (pc + 3) ls (.long r :: rest))) : W p l e R s m args below meth c H locs cells slots Q (F0 m pc ls (.int v2 :: .int v1 :: .ref v0 :: rest)) :=
  ab_callV (n := 2) (As := [.int v1, .int v2]) X hR hS (ct_X10_committed h) (ob_rc (c := 10) (N := N) (a := v0) h) (T := TX10) (k := 20) (C := RX10) rfl w1 (WT_of 1112 (by decide +kernel) (by decide +kernel)) (WT_of 48 (by decide +kernel) (by decide +kernel)) (WT_of 92 (by decide +kernel) (by decide +kernel)) cw_X10_committed ⟨rfl, by decide +kernel, by decide +kernel, by decide +kernel⟩ rfl hls hW hR1 hcs rfl hdg kk
-- X10_isAdmitted
theorem mw_X10_206 : Cond.methodLink RX10 206 yX10_committed ∈ WT := WT_of 1110 (by decide +kernel) (by decide +kernel)
theorem dX10_isAdmitted_0 : decode cX10_isAdmitted 0 = .ok (.iconst 1, 1) := by decide +kernel
theorem dX10_isAdmitted_1 : decode cX10_isAdmitted 1 = .ok (.istore_n 2, 1) := by decide +kernel
theorem dX10_isAdmitted_2 : decode cX10_isAdmitted 2 = .ok (.iconst 0, 1) := by decide +kernel
theorem dX10_isAdmitted_3 : decode cX10_isAdmitted 3 = .ok (.istore_n 3, 1) := by decide +kernel
theorem dX10_isAdmitted_4 : decode cX10_isAdmitted 4 = .ok (.iload_n 3, 1) := by decide +kernel
theorem dX10_isAdmitted_5 : decode cX10_isAdmitted 5 = .ok (.bipush 16, 2) := by decide +kernel
theorem dX10_isAdmitted_7 : decode cX10_isAdmitted 7 = .ok (.if_icmp .ge 189, 3) := by decide +kernel
theorem dX10_isAdmitted_10 : decode cX10_isAdmitted 10 = .ok (.lconst 0, 1) := by decide +kernel
theorem dX10_isAdmitted_11 : decode cX10_isAdmitted 11 = .ok (.lstore 4, 2) := by decide +kernel
theorem dX10_isAdmitted_13 : decode cX10_isAdmitted 13 = .ok (.iconst 0, 1) := by decide +kernel
theorem dX10_isAdmitted_14 : decode cX10_isAdmitted 14 = .ok (.istore 6, 2) := by decide +kernel
theorem dX10_isAdmitted_16 : decode cX10_isAdmitted 16 = .ok (.iload 6, 2) := by decide +kernel
theorem dX10_isAdmitted_18 : decode cX10_isAdmitted 18 = .ok (.iload_n 1, 1) := by decide +kernel
theorem dX10_isAdmitted_19 : decode cX10_isAdmitted 19 = .ok (.if_icmp .ge 45, 3) := by decide +kernel
theorem dX10_isAdmitted_22 : decode cX10_isAdmitted 22 = .ok (.lload 4, 2) := by decide +kernel
theorem dX10_isAdmitted_24 : decode cX10_isAdmitted 24 = .ok (.aload_n 0, 1) := by decide +kernel
theorem dX10_isAdmitted_25 : decode cX10_isAdmitted 25 = .ok (.iload 6, 2) := by decide +kernel
theorem dX10_isAdmitted_27 : decode cX10_isAdmitted 27 = .ok (.iconst 2, 1) := by decide +kernel
theorem dX10_isAdmitted_28 : decode cX10_isAdmitted 28 = .ok (.invokevirtual 52, 3) := by decide +kernel
theorem dX10_isAdmitted_31 : decode cX10_isAdmitted 31 = .ok (.ifCond .le 23, 3) := by decide +kernel
theorem dX10_isAdmitted_34 : decode cX10_isAdmitted 34 = .ok (.aload_n 0, 1) := by decide +kernel
theorem dX10_isAdmitted_35 : decode cX10_isAdmitted 35 = .ok (.iload 6, 2) := by decide +kernel
theorem dX10_isAdmitted_37 : decode cX10_isAdmitted 37 = .ok (.invokevirtual 107, 3) := by decide +kernel
theorem dX10_isAdmitted_40 : decode cX10_isAdmitted 40 = .ok (.iconst 2, 1) := by decide +kernel
theorem dX10_isAdmitted_41 : decode cX10_isAdmitted 41 = .ok (.if_icmp .ge 13, 3) := by decide +kernel
theorem dX10_isAdmitted_44 : decode cX10_isAdmitted 44 = .ok (.aload_n 0, 1) := by decide +kernel
theorem dX10_isAdmitted_45 : decode cX10_isAdmitted 45 = .ok (.iload 6, 2) := by decide +kernel
theorem dX10_isAdmitted_47 : decode cX10_isAdmitted 47 = .ok (.iload_n 3, 1) := by decide +kernel
theorem dX10_isAdmitted_48 : decode cX10_isAdmitted 48 = .ok (.invokevirtual 206, 3) := by decide +kernel
theorem dX10_isAdmitted_51 : decode cX10_isAdmitted 51 = .ok (.goto 4, 3) := by decide +kernel
theorem dX10_isAdmitted_54 : decode cX10_isAdmitted 54 = .ok (.lconst 0, 1) := by decide +kernel
theorem dX10_isAdmitted_55 : decode cX10_isAdmitted 55 = .ok (.ladd, 1) := by decide +kernel
theorem dX10_isAdmitted_56 : decode cX10_isAdmitted 56 = .ok (.lstore 4, 2) := by decide +kernel
theorem dX10_isAdmitted_58 : decode cX10_isAdmitted 58 = .ok (.iinc 6 1, 3) := by decide +kernel
theorem dX10_isAdmitted_61 : decode cX10_isAdmitted 61 = .ok (.goto (-45), 3) := by decide +kernel
theorem dX10_isAdmitted_64 : decode cX10_isAdmitted 64 = .ok (.iconst 0, 1) := by decide +kernel
theorem dX10_isAdmitted_65 : decode cX10_isAdmitted 65 = .ok (.istore 6, 2) := by decide +kernel
theorem dX10_isAdmitted_67 : decode cX10_isAdmitted 67 = .ok (.iload 6, 2) := by decide +kernel
theorem dX10_isAdmitted_69 : decode cX10_isAdmitted 69 = .ok (.aload_n 0, 1) := by decide +kernel
theorem dX10_isAdmitted_70 : decode cX10_isAdmitted 70 = .ok (.iload_n 1, 1) := by decide +kernel
theorem dX10_isAdmitted_71 : decode cX10_isAdmitted 71 = .ok (.iconst 5, 1) := by decide +kernel
theorem dX10_isAdmitted_72 : decode cX10_isAdmitted 72 = .ok (.invokevirtual 52, 3) := by decide +kernel
theorem dX10_isAdmitted_75 : decode cX10_isAdmitted 75 = .ok (.if_icmp .ge 89, 3) := by decide +kernel
theorem dX10_isAdmitted_78 : decode cX10_isAdmitted 78 = .ok (.iload_n 3, 1) := by decide +kernel
theorem dX10_isAdmitted_79 : decode cX10_isAdmitted 79 = .ok (.bipush 8, 2) := by decide +kernel
theorem dX10_isAdmitted_81 : decode cX10_isAdmitted 81 = .ok (.if_icmp .ge 23, 3) := by decide +kernel
theorem dX10_isAdmitted_84 : decode cX10_isAdmitted 84 = .ok (.aload_n 0, 1) := by decide +kernel
theorem dX10_isAdmitted_85 : decode cX10_isAdmitted 85 = .ok (.iload_n 1, 1) := by decide +kernel
theorem dX10_isAdmitted_86 : decode cX10_isAdmitted 86 = .ok (.iload 6, 2) := by decide +kernel
theorem dX10_isAdmitted_88 : decode cX10_isAdmitted 88 = .ok (.iconst 0, 1) := by decide +kernel
theorem dX10_isAdmitted_89 : decode cX10_isAdmitted 89 = .ok (.invokevirtual 64, 3) := by decide +kernel
theorem dX10_isAdmitted_92 : decode cX10_isAdmitted 92 = .ok (.iload_n 3, 1) := by decide +kernel
theorem dX10_isAdmitted_93 : decode cX10_isAdmitted 93 = .ok (.if_icmp .ne 7, 3) := by decide +kernel
theorem dX10_isAdmitted_96 : decode cX10_isAdmitted 96 = .ok (.iconst 1, 1) := by decide +kernel
theorem dX10_isAdmitted_97 : decode cX10_isAdmitted 97 = .ok (.goto 27, 3) := by decide +kernel
theorem dX10_isAdmitted_100 : decode cX10_isAdmitted 100 = .ok (.iconst 0, 1) := by decide +kernel
theorem dX10_isAdmitted_101 : decode cX10_isAdmitted 101 = .ok (.goto 23, 3) := by decide +kernel
theorem dX10_isAdmitted_104 : decode cX10_isAdmitted 104 = .ok (.aload_n 0, 1) := by decide +kernel
theorem dX10_isAdmitted_105 : decode cX10_isAdmitted 105 = .ok (.iload_n 1, 1) := by decide +kernel
theorem dX10_isAdmitted_106 : decode cX10_isAdmitted 106 = .ok (.iload 6, 2) := by decide +kernel
theorem dX10_isAdmitted_108 : decode cX10_isAdmitted 108 = .ok (.iconst 1, 1) := by decide +kernel
theorem dX10_isAdmitted_109 : decode cX10_isAdmitted 109 = .ok (.invokevirtual 64, 3) := by decide +kernel
theorem dX10_isAdmitted_112 : decode cX10_isAdmitted 112 = .ok (.iload_n 3, 1) := by decide +kernel
theorem dX10_isAdmitted_113 : decode cX10_isAdmitted 113 = .ok (.bipush 8, 2) := by decide +kernel
theorem dX10_isAdmitted_115 : decode cX10_isAdmitted 115 = .ok (.isub, 1) := by decide +kernel
theorem dX10_isAdmitted_116 : decode cX10_isAdmitted 116 = .ok (.if_icmp .ne 7, 3) := by decide +kernel
theorem dX10_isAdmitted_119 : decode cX10_isAdmitted 119 = .ok (.iconst 1, 1) := by decide +kernel
theorem dX10_isAdmitted_120 : decode cX10_isAdmitted 120 = .ok (.goto 4, 3) := by decide +kernel
theorem dX10_isAdmitted_123 : decode cX10_isAdmitted 123 = .ok (.iconst 0, 1) := by decide +kernel
theorem dX10_isAdmitted_124 : decode cX10_isAdmitted 124 = .ok (.istore 7, 2) := by decide +kernel
theorem dX10_isAdmitted_126 : decode cX10_isAdmitted 126 = .ok (.lload 4, 2) := by decide +kernel
theorem dX10_isAdmitted_128 : decode cX10_isAdmitted 128 = .ok (.iload 7, 2) := by decide +kernel
theorem dX10_isAdmitted_130 : decode cX10_isAdmitted 130 = .ok (.ifCond .eq 24, 3) := by decide +kernel
theorem dX10_isAdmitted_133 : decode cX10_isAdmitted 133 = .ok (.aload_n 0, 1) := by decide +kernel
theorem dX10_isAdmitted_134 : decode cX10_isAdmitted 134 = .ok (.iload_n 1, 1) := by decide +kernel
theorem dX10_isAdmitted_135 : decode cX10_isAdmitted 135 = .ok (.iload 6, 2) := by decide +kernel
theorem dX10_isAdmitted_137 : decode cX10_isAdmitted 137 = .ok (.iconst 2, 1) := by decide +kernel
theorem dX10_isAdmitted_138 : decode cX10_isAdmitted 138 = .ok (.invokevirtual 64, 3) := by decide +kernel
theorem dX10_isAdmitted_141 : decode cX10_isAdmitted 141 = .ok (.aload_n 0, 1) := by decide +kernel
theorem dX10_isAdmitted_142 : decode cX10_isAdmitted 142 = .ok (.iload_n 1, 1) := by decide +kernel
theorem dX10_isAdmitted_143 : decode cX10_isAdmitted 143 = .ok (.iconst 2, 1) := by decide +kernel
theorem dX10_isAdmitted_144 : decode cX10_isAdmitted 144 = .ok (.invokevirtual 52, 3) := by decide +kernel
theorem dX10_isAdmitted_147 : decode cX10_isAdmitted 147 = .ok (.invokestatic 68, 3) := by decide +kernel
theorem dX10_isAdmitted_150 : decode cX10_isAdmitted 150 = .ok (.i2l, 1) := by decide +kernel
theorem dX10_isAdmitted_151 : decode cX10_isAdmitted 151 = .ok (.goto 4, 3) := by decide +kernel
theorem dX10_isAdmitted_154 : decode cX10_isAdmitted 154 = .ok (.lconst 0, 1) := by decide +kernel
theorem dX10_isAdmitted_155 : decode cX10_isAdmitted 155 = .ok (.ladd, 1) := by decide +kernel
theorem dX10_isAdmitted_156 : decode cX10_isAdmitted 156 = .ok (.lstore 4, 2) := by decide +kernel
theorem dX10_isAdmitted_158 : decode cX10_isAdmitted 158 = .ok (.iinc 6 1, 3) := by decide +kernel
theorem dX10_isAdmitted_161 : decode cX10_isAdmitted 161 = .ok (.goto (-94), 3) := by decide +kernel
theorem dX10_isAdmitted_164 : decode cX10_isAdmitted 164 = .ok (.iload_n 2, 1) := by decide +kernel
theorem dX10_isAdmitted_165 : decode cX10_isAdmitted 165 = .ok (.ifCond .eq 23, 3) := by decide +kernel
theorem dX10_isAdmitted_168 : decode cX10_isAdmitted 168 = .ok (.lload 4, 2) := by decide +kernel
theorem dX10_isAdmitted_170 : decode cX10_isAdmitted 170 = .ok (.aload_n 0, 1) := by decide +kernel
theorem dX10_isAdmitted_171 : decode cX10_isAdmitted 171 = .ok (.getfield 7, 3) := by decide +kernel
theorem dX10_isAdmitted_174 : decode cX10_isAdmitted 174 = .ok (.bipush 10, 2) := by decide +kernel
theorem dX10_isAdmitted_176 : decode cX10_isAdmitted 176 = .ok (.iload_n 3, 1) := by decide +kernel
theorem dX10_isAdmitted_177 : decode cX10_isAdmitted 177 = .ok (.iadd, 1) := by decide +kernel
theorem dX10_isAdmitted_178 : decode cX10_isAdmitted 178 = .ok (.iaload, 1) := by decide +kernel
theorem dX10_isAdmitted_179 : decode cX10_isAdmitted 179 = .ok (.i2l, 1) := by decide +kernel
theorem dX10_isAdmitted_180 : decode cX10_isAdmitted 180 = .ok (.lcmp, 1) := by decide +kernel
theorem dX10_isAdmitted_181 : decode cX10_isAdmitted 181 = .ok (.ifCond .gt 7, 3) := by decide +kernel
theorem dX10_isAdmitted_184 : decode cX10_isAdmitted 184 = .ok (.iconst 1, 1) := by decide +kernel
theorem dX10_isAdmitted_185 : decode cX10_isAdmitted 185 = .ok (.goto 4, 3) := by decide +kernel
theorem dX10_isAdmitted_188 : decode cX10_isAdmitted 188 = .ok (.iconst 0, 1) := by decide +kernel
theorem dX10_isAdmitted_189 : decode cX10_isAdmitted 189 = .ok (.istore_n 2, 1) := by decide +kernel
theorem dX10_isAdmitted_190 : decode cX10_isAdmitted 190 = .ok (.iinc 3 1, 3) := by decide +kernel
theorem dX10_isAdmitted_193 : decode cX10_isAdmitted 193 = .ok (.goto (-189), 3) := by decide +kernel
theorem dX10_isAdmitted_196 : decode cX10_isAdmitted 196 = .ok (.iload_n 2, 1) := by decide +kernel
theorem dX10_isAdmitted_197 : decode cX10_isAdmitted 197 = .ok (.ireturn, 1) := by decide +kernel
def rm_X10_isAdmitted : Room := { frames := 3, cells := 0, slots := 0, locals := 74 }
section
variable {p : Program} {l : Launch} {e : Env} {s : State} {m : MethodId} {args : Array Value} {below : List Frame} {meth : Method} {c : Code} {Q : State → Prop} {G : va_G} {aC : Nat → ClassId} {t b0 : Nat}
def f_X10_isAdmitted_L16 (v0 : Nat) (v1 : Int32) (v2 : Int32) (v3 : Int32) (k64 : Int64 → AH → Option (Int32 × AH)) : Nat → Int64 → Int32 → AH → Option (Int32 × AH)
  | 0, _, _, _ => none
  | n + 1, v4, v6, N => if v1 ≤ v6 then k64 v4 N else ob2 (f_X10_of v0 v6 (2 : Int32) N) (fun x4 N3 => if x4 ≤ 0 then f_X10_isAdmitted_L16 v0 v1 v2 v3 k64 n (v4 + (0 : Int64)) (v6 + 1) N3 else ob2 (f_X10_stateOf v0 v6 N3) (fun x7 N6 => if (2 : Int32) ≤ x7 then f_X10_isAdmitted_L16 v0 v1 v2 v3 k64 n (v4 + (0 : Int64)) (v6 + 1) N6 else ob2 (f_X10_committed v0 v6 v3 N6) (fun x10 N9 => f_X10_isAdmitted_L16 v0 v1 v2 v3 k64 n (v4 + x10) (v6 + 1) N9)))
set_option maxHeartbeats 4000000 in
set_option maxRecDepth 100000 in
theorem w_X10_isAdmitted_L16 {P : Int32 × AH → Prop} (X : CX cX10_isAdmitted RX10 8 G aC t b0 p s m args c) (hr : RtZ p l e rm_X10_isAdmitted s m args below meth c 0 0 Q cX10_isAdmitted G aC b0 P) (v0 : Nat) (v1 : Int32) (v2 : Int32) (v3 : Int32) {k64 : Int64 → AH → Option (Int32 × AH)}
    (hk64 : ∀ (v4 : Int64) (N : AH) (H : Heap) (locs : List Loc) (ls : Array Slot), Rp G aC b0 N H → va_S (fun q => b0 ≤ q) s.heap H locs → lv_has ls 8 [(0, .ref v0), (1, .int v1), (2, .int v2), (3, .int v3), (4, .long v4)] → owp (k64 v4 N) P → W p l e rm_X10_isAdmitted s m args below meth c H locs 0 0 Q (F0 m 64 ls [])) :
    ∀ (n : Nat) (v4 : Int64) (v6 : Int32) (N : AH) (H : Heap) (locs : List Loc) (ls : Array Slot), Rp G aC b0 N H → va_S (fun q => b0 ≤ q) s.heap H locs → lv_has ls 8 [(0, .ref v0), (1, .int v1), (2, .int v2), (3, .int v3), (4, .long v4), (6, .int v6)] → owp (f_X10_isAdmitted_L16 v0 v1 v2 v3 k64 n v4 v6 N) P → W p l e rm_X10_isAdmitted s m args below meth c H locs 0 0 Q (F0 m 16 ls []) := by
  have hx := X.1.1
  have hb := X.1.2.1
  intro n
  induction n with
  | zero =>
    intro v4 v6 N H locs ls hR hS hl hp
    exact (show False from hp).elim
  | succ n ih =>
    intro v4 v6 N H locs ls hR hS hl hp
    rw [f_X10_isAdmitted_L16] at hp
    refine lv_iload hx hb dX10_isAdmitted_16 (lv_at hl 5 rfl) ?_
    refine lv_iload_n hx hb dX10_isAdmitted_18 rfl (lv_at hl 1 rfl) ?_
    refine lv_icmp_ge (tgt := 64) hx hb dX10_isAdmitted_19 (by decide) (fun k2 => ?_) (fun k2 => ?_)
    · have hp := owp_t k2 hp
      exact hk64 _ _ _ _ _ hR hS (lv_sub hl [0, 1, 2, 3, 4] rfl) hp
    · have hp := owp_f k2 hp
      refine lv_lload hx hb dX10_isAdmitted_22 (lv_at hl 4 rfl) ?_
      refine lv_aload_n hx hb dX10_isAdmitted_24 rfl (lv_at hl 0 rfl) ?_
      refine lv_iload hx hb dX10_isAdmitted_25 (lv_at hl 5 rfl) ?_
      refine lv_iconst (v := (2)) hx hb dX10_isAdmitted_27 (by decide) ?_
      obtain ⟨x4, N3, e_N3, hp⟩ := owp_ob2 hp
      refine iv_X10_of (rest := [.long v4]) mw_X10_52 X hR hS e_N3 hl.1 (Nat.le_of_ble_eq_true rfl) ⟨Nat.le_of_ble_eq_true rfl, Nat.le_of_ble_eq_true rfl⟩ ⟨Nat.le_of_ble_eq_true rfl, Nat.le_of_ble_eq_true rfl⟩ dX10_isAdmitted_28 (fun H locs hR hS => ?_)
      refine lv_if_le (tgt := 54) hx hb dX10_isAdmitted_31 (by decide) (fun k5 => ?_) (fun k5 => ?_)
      · have hp := owp_t k5 hp
        refine lv_lconst (v := 0) hx hb dX10_isAdmitted_54 (by decide) ?_
        refine lv_ladd hx hb dX10_isAdmitted_55 ?_
        refine lv_lstore (lv' := [(4, .long (v4 + (0 : Int64))), (0, .ref v0), (1, .int v1), (2, .int v2), (3, .int v3), (6, .int v6)]) hx hb dX10_isAdmitted_56 hl (by decide) rfl (fun ls hl => ?_)
        refine lv_iinc (v := v6 + 1) (lv' := [(6, .int (v6 + 1)), (4, .long (v4 + (0 : Int64))), (0, .ref v0), (1, .int v1), (2, .int v2), (3, .int v3)]) hx hb dX10_isAdmitted_58 hl (k := 5) rfl rfl (by decide) rfl (fun ls hl => ?_)
        refine lv_goto (tgt := 16) hx hb dX10_isAdmitted_61 (by decide) ?_
        exact ih _ _ _ _ _ _ hR hS (lv_sub hl [2, 3, 4, 5, 1, 0] rfl) hp
      · have hp := owp_f k5 hp
        refine lv_aload_n hx hb dX10_isAdmitted_34 rfl (lv_at hl 0 rfl) ?_
        refine lv_iload hx hb dX10_isAdmitted_35 (lv_at hl 5 rfl) ?_
        obtain ⟨x7, N6, e_N6, hp⟩ := owp_ob2 hp
        refine iv_X10_stateOf (rest := [.long v4]) mw_X10_107 X hR hS e_N6 hl.1 (Nat.le_of_ble_eq_true rfl) ⟨Nat.le_of_ble_eq_true rfl, Nat.le_of_ble_eq_true rfl⟩ ⟨Nat.le_of_ble_eq_true rfl, Nat.le_of_ble_eq_true rfl⟩ dX10_isAdmitted_37 (fun H locs hR hS => ?_)
        refine lv_iconst (v := (2)) hx hb dX10_isAdmitted_40 (by decide) ?_
        refine lv_icmp_ge (tgt := 54) hx hb dX10_isAdmitted_41 (by decide) (fun k8 => ?_) (fun k8 => ?_)
        · have hp := owp_t k8 hp
          refine lv_lconst (v := 0) hx hb dX10_isAdmitted_54 (by decide) ?_
          refine lv_ladd hx hb dX10_isAdmitted_55 ?_
          refine lv_lstore (lv' := [(4, .long (v4 + (0 : Int64))), (0, .ref v0), (1, .int v1), (2, .int v2), (3, .int v3), (6, .int v6)]) hx hb dX10_isAdmitted_56 hl (by decide) rfl (fun ls hl => ?_)
          refine lv_iinc (v := v6 + 1) (lv' := [(6, .int (v6 + 1)), (4, .long (v4 + (0 : Int64))), (0, .ref v0), (1, .int v1), (2, .int v2), (3, .int v3)]) hx hb dX10_isAdmitted_58 hl (k := 5) rfl rfl (by decide) rfl (fun ls hl => ?_)
          refine lv_goto (tgt := 16) hx hb dX10_isAdmitted_61 (by decide) ?_
          exact ih _ _ _ _ _ _ hR hS (lv_sub hl [2, 3, 4, 5, 1, 0] rfl) hp
        · have hp := owp_f k8 hp
          refine lv_aload_n hx hb dX10_isAdmitted_44 rfl (lv_at hl 0 rfl) ?_
          refine lv_iload hx hb dX10_isAdmitted_45 (lv_at hl 5 rfl) ?_
          refine lv_iload_n hx hb dX10_isAdmitted_47 rfl (lv_at hl 3 rfl) ?_
          obtain ⟨x10, N9, e_N9, hp⟩ := owp_ob2 hp
          refine iv_X10_committed (rest := [.long v4]) mw_X10_206 X hR hS e_N9 hl.1 (Nat.le_of_ble_eq_true rfl) ⟨Nat.le_of_ble_eq_true rfl, Nat.le_of_ble_eq_true rfl⟩ ⟨Nat.le_of_ble_eq_true rfl, Nat.le_of_ble_eq_true rfl⟩ dX10_isAdmitted_48 (fun H locs hR hS => ?_)
          refine lv_goto (tgt := 55) hx hb dX10_isAdmitted_51 (by decide) ?_
          refine lv_ladd hx hb dX10_isAdmitted_55 ?_
          refine lv_lstore (lv' := [(4, .long (v4 + x10)), (0, .ref v0), (1, .int v1), (2, .int v2), (3, .int v3), (6, .int v6)]) hx hb dX10_isAdmitted_56 hl (by decide) rfl (fun ls hl => ?_)
          refine lv_iinc (v := v6 + 1) (lv' := [(6, .int (v6 + 1)), (4, .long (v4 + x10)), (0, .ref v0), (1, .int v1), (2, .int v2), (3, .int v3)]) hx hb dX10_isAdmitted_58 hl (k := 5) rfl rfl (by decide) rfl (fun ls hl => ?_)
          refine lv_goto (tgt := 16) hx hb dX10_isAdmitted_61 (by decide) ?_
          exact ih _ _ _ _ _ _ hR hS (lv_sub hl [2, 3, 4, 5, 1, 0] rfl) hp
def f_X10_isAdmitted_J124 (k67 : Int64 → Int32 → AH → Option (Int32 × AH)) (v0 : Nat) (v1 : Int32) (v2 : Int32) (v3 : Int32) (v4 : Int64) (v6 : Int32) (w0 : Int32) (N : AH) : Option (Int32 × AH) := if w0 = 0 then k67 (v4 + (0 : Int64)) (v6 + 1) N else ob2 (f_X10_flowOf v0 v1 v6 (2 : Int32) N) (fun x22 N21 => ob2 (f_X10_of v0 v1 (2 : Int32) N21) (fun x24 N23 => ob2 (f_X10_up x22 x24 N23) (fun x26 N25 => k67 (v4 + (Int32.toInt64 x26)) (v6 + 1) N25)))
set_option maxHeartbeats 4000000 in
set_option maxRecDepth 100000 in
theorem w_X10_isAdmitted_J124 {P : Int32 × AH → Prop} (X : CX cX10_isAdmitted RX10 8 G aC t b0 p s m args c) (hr : RtZ p l e rm_X10_isAdmitted s m args below meth c 0 0 Q cX10_isAdmitted G aC b0 P) (v0 : Nat) (v1 : Int32) (v2 : Int32) (v3 : Int32) (v4 : Int64) (v6 : Int32) (w0 : Int32) {k67 : Int64 → Int32 → AH → Option (Int32 × AH)}
    (hk67 : ∀ (v4 : Int64) (v6 : Int32) (N : AH) (H : Heap) (locs : List Loc) (ls : Array Slot), Rp G aC b0 N H → va_S (fun q => b0 ≤ q) s.heap H locs → lv_has ls 8 [(0, .ref v0), (1, .int v1), (2, .int v2), (3, .int v3), (4, .long v4), (6, .int v6)] → owp (k67 v4 v6 N) P → W p l e rm_X10_isAdmitted s m args below meth c H locs 0 0 Q (F0 m 67 ls [])) (N : AH) (H : Heap) (locs : List Loc) (ls : Array Slot) (hR : Rp G aC b0 N H) (hS : va_S (fun q => b0 ≤ q) s.heap H locs) (hl : lv_has ls 8 [(0, .ref v0), (1, .int v1), (2, .int v2), (3, .int v3), (4, .long v4), (6, .int v6)]) (hp : owp (f_X10_isAdmitted_J124 k67 v0 v1 v2 v3 v4 v6 w0 N) P) : W p l e rm_X10_isAdmitted s m args below meth c H locs 0 0 Q (F0 m 124 ls [.int w0]) := by
  have hx := X.1.1
  have hb := X.1.2.1
  unfold f_X10_isAdmitted_J124 at hp
  refine lv_istore (lv' := [(7, .int w0), (0, .ref v0), (1, .int v1), (2, .int v2), (3, .int v3), (4, .long v4), (6, .int v6)]) hx hb dX10_isAdmitted_124 hl (by decide) rfl (fun ls hl => ?_)
  refine lv_lload hx hb dX10_isAdmitted_126 (lv_at hl 5 rfl) ?_
  refine lv_iload hx hb dX10_isAdmitted_128 (lv_at hl 0 rfl) ?_
  refine lv_if_eq (tgt := 154) hx hb dX10_isAdmitted_130 (by decide) (fun k20 => ?_) (fun k20 => ?_)
  · have hp := owp_t k20 hp
    refine lv_lconst (v := 0) hx hb dX10_isAdmitted_154 (by decide) ?_
    refine lv_ladd hx hb dX10_isAdmitted_155 ?_
    refine lv_lstore (lv' := [(4, .long (v4 + (0 : Int64))), (7, .int w0), (0, .ref v0), (1, .int v1), (2, .int v2), (3, .int v3), (6, .int v6)]) hx hb dX10_isAdmitted_156 hl (by decide) rfl (fun ls hl => ?_)
    refine lv_iinc (v := v6 + 1) (lv' := [(6, .int (v6 + 1)), (4, .long (v4 + (0 : Int64))), (7, .int w0), (0, .ref v0), (1, .int v1), (2, .int v2), (3, .int v3)]) hx hb dX10_isAdmitted_158 hl (k := 6) rfl rfl (by decide) rfl (fun ls hl => ?_)
    refine lv_goto (tgt := 67) hx hb dX10_isAdmitted_161 (by decide) ?_
    exact hk67 _ _ _ _ _ _ hR hS (lv_sub hl [3, 4, 5, 6, 1, 0] rfl) hp
  · have hp := owp_f k20 hp
    refine lv_aload_n hx hb dX10_isAdmitted_133 rfl (lv_at hl 1 rfl) ?_
    refine lv_iload_n hx hb dX10_isAdmitted_134 rfl (lv_at hl 2 rfl) ?_
    refine lv_iload hx hb dX10_isAdmitted_135 (lv_at hl 6 rfl) ?_
    refine lv_iconst (v := (2)) hx hb dX10_isAdmitted_137 (by decide) ?_
    obtain ⟨x22, N21, e_N21, hp⟩ := owp_ob2 hp
    refine iv_X10_flowOf (rest := [.long v4]) mw_X10_64 X hR hS e_N21 hl.1 (Nat.le_of_ble_eq_true rfl) ⟨Nat.le_of_ble_eq_true rfl, Nat.le_of_ble_eq_true rfl⟩ ⟨Nat.le_of_ble_eq_true rfl, Nat.le_of_ble_eq_true rfl⟩ dX10_isAdmitted_138 (fun H locs hR hS => ?_)
    refine lv_aload_n hx hb dX10_isAdmitted_141 rfl (lv_at hl 1 rfl) ?_
    refine lv_iload_n hx hb dX10_isAdmitted_142 rfl (lv_at hl 2 rfl) ?_
    refine lv_iconst (v := (2)) hx hb dX10_isAdmitted_143 (by decide) ?_
    obtain ⟨x24, N23, e_N23, hp⟩ := owp_ob2 hp
    refine iv_X10_of (rest := [.int x22, .long v4]) mw_X10_52 X hR hS e_N23 hl.1 (Nat.le_of_ble_eq_true rfl) ⟨Nat.le_of_ble_eq_true rfl, Nat.le_of_ble_eq_true rfl⟩ ⟨Nat.le_of_ble_eq_true rfl, Nat.le_of_ble_eq_true rfl⟩ dX10_isAdmitted_144 (fun H locs hR hS => ?_)
    obtain ⟨x26, N25, e_N25, hp⟩ := owp_ob2 hp
    refine iv_X10_up (rest := [.long v4]) mw_X10_68 X hR hS e_N25 hl.1 (Nat.le_of_ble_eq_true rfl) ⟨Nat.le_of_ble_eq_true rfl, Nat.le_of_ble_eq_true rfl⟩ ⟨Nat.le_of_ble_eq_true rfl, Nat.le_of_ble_eq_true rfl⟩ dX10_isAdmitted_147 (fun H locs hR hS => ?_)
    refine lv_i2l (v := Int32.toInt64 x26) hx hb dX10_isAdmitted_150 rfl ?_
    refine lv_goto (tgt := 155) hx hb dX10_isAdmitted_151 (by decide) ?_
    refine lv_ladd hx hb dX10_isAdmitted_155 ?_
    refine lv_lstore (lv' := [(4, .long (v4 + (Int32.toInt64 x26))), (7, .int w0), (0, .ref v0), (1, .int v1), (2, .int v2), (3, .int v3), (6, .int v6)]) hx hb dX10_isAdmitted_156 hl (by decide) rfl (fun ls hl => ?_)
    refine lv_iinc (v := v6 + 1) (lv' := [(6, .int (v6 + 1)), (4, .long (v4 + (Int32.toInt64 x26))), (7, .int w0), (0, .ref v0), (1, .int v1), (2, .int v2), (3, .int v3)]) hx hb dX10_isAdmitted_158 hl (k := 6) rfl rfl (by decide) rfl (fun ls hl => ?_)
    refine lv_goto (tgt := 67) hx hb dX10_isAdmitted_161 (by decide) ?_
    exact hk67 _ _ _ _ _ _ hR hS (lv_sub hl [3, 4, 5, 6, 1, 0] rfl) hp
def f_X10_isAdmitted_L67 (v0 : Nat) (v1 : Int32) (v2 : Int32) (v3 : Int32) (k164 : Int64 → AH → Option (Int32 × AH)) : Nat → Int64 → Int32 → AH → Option (Int32 × AH)
  | 0, _, _, _ => none
  | n + 1, v4, v6, N => ob2 (f_X10_of v0 v1 (5 : Int32) N) (fun x14 N13 => if x14 ≤ v6 then k164 v4 N13 else if (8 : Int32) ≤ v3 then ob2 (f_X10_flowOf v0 v1 v6 (1 : Int32) N13) (fun x18 N17 => if ¬ x18 = (v3 - (8 : Int32)) then f_X10_isAdmitted_J124 (f_X10_isAdmitted_L67 v0 v1 v2 v3 k164 n) v0 v1 v2 v3 v4 v6 (0 : Int32) N17 else f_X10_isAdmitted_J124 (f_X10_isAdmitted_L67 v0 v1 v2 v3 k164 n) v0 v1 v2 v3 v4 v6 (1 : Int32) N17) else ob2 (f_X10_flowOf v0 v1 v6 (0 : Int32) N13) (fun x28 N27 => if ¬ x28 = v3 then f_X10_isAdmitted_J124 (f_X10_isAdmitted_L67 v0 v1 v2 v3 k164 n) v0 v1 v2 v3 v4 v6 (0 : Int32) N27 else f_X10_isAdmitted_J124 (f_X10_isAdmitted_L67 v0 v1 v2 v3 k164 n) v0 v1 v2 v3 v4 v6 (1 : Int32) N27))
set_option maxHeartbeats 4000000 in
set_option maxRecDepth 100000 in
theorem w_X10_isAdmitted_L67 {P : Int32 × AH → Prop} (X : CX cX10_isAdmitted RX10 8 G aC t b0 p s m args c) (hr : RtZ p l e rm_X10_isAdmitted s m args below meth c 0 0 Q cX10_isAdmitted G aC b0 P) (v0 : Nat) (v1 : Int32) (v2 : Int32) (v3 : Int32) {k164 : Int64 → AH → Option (Int32 × AH)}
    (hk164 : ∀ (v4 : Int64) (N : AH) (H : Heap) (locs : List Loc) (ls : Array Slot), Rp G aC b0 N H → va_S (fun q => b0 ≤ q) s.heap H locs → lv_has ls 8 [(0, .ref v0), (1, .int v1), (2, .int v2), (3, .int v3), (4, .long v4)] → owp (k164 v4 N) P → W p l e rm_X10_isAdmitted s m args below meth c H locs 0 0 Q (F0 m 164 ls [])) :
    ∀ (n : Nat) (v4 : Int64) (v6 : Int32) (N : AH) (H : Heap) (locs : List Loc) (ls : Array Slot), Rp G aC b0 N H → va_S (fun q => b0 ≤ q) s.heap H locs → lv_has ls 8 [(0, .ref v0), (1, .int v1), (2, .int v2), (3, .int v3), (4, .long v4), (6, .int v6)] → owp (f_X10_isAdmitted_L67 v0 v1 v2 v3 k164 n v4 v6 N) P → W p l e rm_X10_isAdmitted s m args below meth c H locs 0 0 Q (F0 m 67 ls []) := by
  have hx := X.1.1
  have hb := X.1.2.1
  intro n
  induction n with
  | zero =>
    intro v4 v6 N H locs ls hR hS hl hp
    exact (show False from hp).elim
  | succ n ih =>
    intro v4 v6 N H locs ls hR hS hl hp
    rw [f_X10_isAdmitted_L67] at hp
    refine lv_iload hx hb dX10_isAdmitted_67 (lv_at hl 5 rfl) ?_
    refine lv_aload_n hx hb dX10_isAdmitted_69 rfl (lv_at hl 0 rfl) ?_
    refine lv_iload_n hx hb dX10_isAdmitted_70 rfl (lv_at hl 1 rfl) ?_
    refine lv_iconst (v := (5)) hx hb dX10_isAdmitted_71 (by decide) ?_
    obtain ⟨x14, N13, e_N13, hp⟩ := owp_ob2 hp
    refine iv_X10_of (rest := [.int v6]) mw_X10_52 X hR hS e_N13 hl.1 (Nat.le_of_ble_eq_true rfl) ⟨Nat.le_of_ble_eq_true rfl, Nat.le_of_ble_eq_true rfl⟩ ⟨Nat.le_of_ble_eq_true rfl, Nat.le_of_ble_eq_true rfl⟩ dX10_isAdmitted_72 (fun H locs hR hS => ?_)
    refine lv_icmp_ge (tgt := 164) hx hb dX10_isAdmitted_75 (by decide) (fun k15 => ?_) (fun k15 => ?_)
    · have hp := owp_t k15 hp
      exact hk164 _ _ _ _ _ hR hS (lv_sub hl [0, 1, 2, 3, 4] rfl) hp
    · have hp := owp_f k15 hp
      refine lv_iload_n hx hb dX10_isAdmitted_78 rfl (lv_at hl 3 rfl) ?_
      refine lv_bipush (v := (8)) hx hb dX10_isAdmitted_79 (by decide) ?_
      refine lv_icmp_ge (tgt := 104) hx hb dX10_isAdmitted_81 (by decide) (fun k16 => ?_) (fun k16 => ?_)
      · have hp := owp_t k16 hp
        refine lv_aload_n hx hb dX10_isAdmitted_104 rfl (lv_at hl 0 rfl) ?_
        refine lv_iload_n hx hb dX10_isAdmitted_105 rfl (lv_at hl 1 rfl) ?_
        refine lv_iload hx hb dX10_isAdmitted_106 (lv_at hl 5 rfl) ?_
        refine lv_iconst (v := (1)) hx hb dX10_isAdmitted_108 (by decide) ?_
        obtain ⟨x18, N17, e_N17, hp⟩ := owp_ob2 hp
        refine iv_X10_flowOf (rest := []) mw_X10_64 X hR hS e_N17 hl.1 (Nat.le_of_ble_eq_true rfl) ⟨Nat.le_of_ble_eq_true rfl, Nat.le_of_ble_eq_true rfl⟩ ⟨Nat.le_of_ble_eq_true rfl, Nat.le_of_ble_eq_true rfl⟩ dX10_isAdmitted_109 (fun H locs hR hS => ?_)
        refine lv_iload_n hx hb dX10_isAdmitted_112 rfl (lv_at hl 3 rfl) ?_
        refine lv_bipush (v := (8)) hx hb dX10_isAdmitted_113 (by decide) ?_
        refine lv_isub hx hb dX10_isAdmitted_115 ?_
        refine lv_icmp_ne (tgt := 123) hx hb dX10_isAdmitted_116 (by decide) (fun k19 => ?_) (fun k19 => ?_)
        · have hp := owp_t k19 hp
          refine lv_iconst (v := (0)) hx hb dX10_isAdmitted_123 (by decide) ?_
          exact w_X10_isAdmitted_J124 X hr _ _ _ _ _ _ _ ih _ _ _ _ hR hS hl hp
        · have hp := owp_f (fun q => q k19) hp
          refine lv_iconst (v := (1)) hx hb dX10_isAdmitted_119 (by decide) ?_
          refine lv_goto (tgt := 124) hx hb dX10_isAdmitted_120 (by decide) ?_
          exact w_X10_isAdmitted_J124 X hr _ _ _ _ _ _ _ ih _ _ _ _ hR hS hl hp
      · have hp := owp_f k16 hp
        refine lv_aload_n hx hb dX10_isAdmitted_84 rfl (lv_at hl 0 rfl) ?_
        refine lv_iload_n hx hb dX10_isAdmitted_85 rfl (lv_at hl 1 rfl) ?_
        refine lv_iload hx hb dX10_isAdmitted_86 (lv_at hl 5 rfl) ?_
        refine lv_iconst (v := (0)) hx hb dX10_isAdmitted_88 (by decide) ?_
        obtain ⟨x28, N27, e_N27, hp⟩ := owp_ob2 hp
        refine iv_X10_flowOf (rest := []) mw_X10_64 X hR hS e_N27 hl.1 (Nat.le_of_ble_eq_true rfl) ⟨Nat.le_of_ble_eq_true rfl, Nat.le_of_ble_eq_true rfl⟩ ⟨Nat.le_of_ble_eq_true rfl, Nat.le_of_ble_eq_true rfl⟩ dX10_isAdmitted_89 (fun H locs hR hS => ?_)
        refine lv_iload_n hx hb dX10_isAdmitted_92 rfl (lv_at hl 3 rfl) ?_
        refine lv_icmp_ne (tgt := 100) hx hb dX10_isAdmitted_93 (by decide) (fun k29 => ?_) (fun k29 => ?_)
        · have hp := owp_t k29 hp
          refine lv_iconst (v := (0)) hx hb dX10_isAdmitted_100 (by decide) ?_
          refine lv_goto (tgt := 124) hx hb dX10_isAdmitted_101 (by decide) ?_
          exact w_X10_isAdmitted_J124 X hr _ _ _ _ _ _ _ ih _ _ _ _ hR hS hl hp
        · have hp := owp_f (fun q => q k29) hp
          refine lv_iconst (v := (1)) hx hb dX10_isAdmitted_96 (by decide) ?_
          refine lv_goto (tgt := 124) hx hb dX10_isAdmitted_97 (by decide) ?_
          exact w_X10_isAdmitted_J124 X hr _ _ _ _ _ _ _ ih _ _ _ _ hR hS hl hp
def f_X10_isAdmitted_L4 (v0 : Nat) (v1 : Int32) (k196 : Int32 → AH → Option (Int32 × AH)) : Nat → Int32 → Int32 → AH → Option (Int32 × AH)
  | 0, _, _, _ => none
  | n + 1, v2, v3, N => if (16 : Int32) ≤ v3 then k196 v2 N else f_X10_isAdmitted_L16 v0 v1 v2 v3 (fun v11 N12 => f_X10_isAdmitted_L67 v0 v1 v2 v3 (fun v30 N31 => if v2 = 0 then f_X10_isAdmitted_L4 v0 v1 k196 n (0 : Int32) (v3 + 1) N31 else ob (hR N31 v0 10 0) (fun x33 => ob (aI N31 x33 ((10 : Int32) + v3)) (fun x34 => if 0 < (lg_cmp v30 (Int32.toInt64 x34)) then f_X10_isAdmitted_L4 v0 v1 k196 n (0 : Int32) (v3 + 1) N31 else f_X10_isAdmitted_L4 v0 v1 k196 n (1 : Int32) (v3 + 1) N31))) FU v11 (0 : Int32) N12) FU (0 : Int64) (0 : Int32) N
set_option maxHeartbeats 4000000 in
set_option maxRecDepth 100000 in
theorem w_X10_isAdmitted_L4 {P : Int32 × AH → Prop} (X : CX cX10_isAdmitted RX10 8 G aC t b0 p s m args c) (hr : RtZ p l e rm_X10_isAdmitted s m args below meth c 0 0 Q cX10_isAdmitted G aC b0 P) (v0 : Nat) (v1 : Int32) {k196 : Int32 → AH → Option (Int32 × AH)}
    (hk196 : ∀ (v2 : Int32) (N : AH) (H : Heap) (locs : List Loc) (ls : Array Slot), Rp G aC b0 N H → va_S (fun q => b0 ≤ q) s.heap H locs → lv_has ls 8 [(2, .int v2)] → owp (k196 v2 N) P → W p l e rm_X10_isAdmitted s m args below meth c H locs 0 0 Q (F0 m 196 ls [])) :
    ∀ (n : Nat) (v2 : Int32) (v3 : Int32) (N : AH) (H : Heap) (locs : List Loc) (ls : Array Slot), Rp G aC b0 N H → va_S (fun q => b0 ≤ q) s.heap H locs → lv_has ls 8 [(0, .ref v0), (1, .int v1), (2, .int v2), (3, .int v3)] → owp (f_X10_isAdmitted_L4 v0 v1 k196 n v2 v3 N) P → W p l e rm_X10_isAdmitted s m args below meth c H locs 0 0 Q (F0 m 4 ls []) := by
  have hx := X.1.1
  have hb := X.1.2.1
  intro n
  induction n with
  | zero =>
    intro v2 v3 N H locs ls hR hS hl hp
    exact (show False from hp).elim
  | succ n ih =>
    intro v2 v3 N H locs ls hR hS hl hp
    rw [f_X10_isAdmitted_L4] at hp
    refine lv_iload_n hx hb dX10_isAdmitted_4 rfl (lv_at hl 3 rfl) ?_
    refine lv_bipush (v := (16)) hx hb dX10_isAdmitted_5 (by decide) ?_
    refine lv_icmp_ge (tgt := 196) hx hb dX10_isAdmitted_7 (by decide) (fun k1 => ?_) (fun k1 => ?_)
    · have hp := owp_t k1 hp
      exact hk196 _ _ _ _ _ hR hS (lv_sub hl [2] rfl) hp
    · have hp := owp_f k1 hp
      refine lv_lconst (v := 0) hx hb dX10_isAdmitted_10 (by decide) ?_
      refine lv_lstore (lv' := [(4, .long (0 : Int64)), (0, .ref v0), (1, .int v1), (2, .int v2), (3, .int v3)]) hx hb dX10_isAdmitted_11 hl (by decide) rfl (fun ls hl => ?_)
      refine lv_iconst (v := (0)) hx hb dX10_isAdmitted_13 (by decide) ?_
      refine lv_istore (lv' := [(6, .int (0 : Int32)), (4, .long (0 : Int64)), (0, .ref v0), (1, .int v1), (2, .int v2), (3, .int v3)]) hx hb dX10_isAdmitted_14 hl (by decide) rfl (fun ls hl => ?_)
      refine w_X10_isAdmitted_L16 X hr _ _ _ _ (fun v11 N12 H locs ls hR hS hl hp => ?_) _ _ _ _ _ _ _ hR hS (lv_sub hl [2, 3, 4, 5, 1, 0] rfl) hp
      refine lv_iconst (v := (0)) hx hb dX10_isAdmitted_64 (by decide) ?_
      refine lv_istore (lv' := [(6, .int (0 : Int32)), (0, .ref v0), (1, .int v1), (2, .int v2), (3, .int v3), (4, .long v11)]) hx hb dX10_isAdmitted_65 hl (by decide) rfl (fun ls hl => ?_)
      refine w_X10_isAdmitted_L67 X hr _ _ _ _ (fun v30 N31 H locs ls hR hS hl hp => ?_) _ _ _ _ _ _ _ hR hS (lv_sub hl [1, 2, 3, 4, 5, 0] rfl) hp
      refine lv_iload_n hx hb dX10_isAdmitted_164 rfl (lv_at hl 2 rfl) ?_
      refine lv_if_eq (tgt := 188) hx hb dX10_isAdmitted_165 (by decide) (fun k32 => ?_) (fun k32 => ?_)
      · have hp := owp_t k32 hp
        refine lv_iconst (v := (0)) hx hb dX10_isAdmitted_188 (by decide) ?_
        refine lv_istore_n (lv' := [(2, .int (0 : Int32)), (0, .ref v0), (1, .int v1), (3, .int v3), (4, .long v30)]) hx hb dX10_isAdmitted_189 rfl hl (by decide) rfl (fun ls hl => ?_)
        refine lv_iinc (v := v3 + 1) (lv' := [(3, .int (v3 + 1)), (2, .int (0 : Int32)), (0, .ref v0), (1, .int v1), (4, .long v30)]) hx hb dX10_isAdmitted_190 hl (k := 3) rfl rfl (by decide) rfl (fun ls hl => ?_)
        refine lv_goto (tgt := 4) hx hb dX10_isAdmitted_193 (by decide) ?_
        exact ih _ _ _ _ _ _ hR hS (lv_sub hl [2, 3, 1, 0] rfl) hp
      · have hp := owp_f k32 hp
        refine lv_lload hx hb dX10_isAdmitted_168 (lv_at hl 4 rfl) ?_
        refine lv_aload_n hx hb dX10_isAdmitted_170 rfl (lv_at hl 0 rfl) ?_
        obtain ⟨x33, e_x33, hp⟩ := owp_ob hp
        refine gf_X10_7 X hR e_x33 dX10_isAdmitted_171 ?_
        refine lv_bipush (v := (10)) hx hb dX10_isAdmitted_174 (by decide) ?_
        refine lv_iload_n hx hb dX10_isAdmitted_176 rfl (lv_at hl 3 rfl) ?_
        refine lv_iadd hx hb dX10_isAdmitted_177 ?_
        obtain ⟨x34, e_x34, hp⟩ := owp_ob hp
        refine ab_iald X hR e_x34 dX10_isAdmitted_178 ?_
        refine lv_i2l (v := Int32.toInt64 x34) hx hb dX10_isAdmitted_179 rfl ?_
        refine W.lcmp hx hb dX10_isAdmitted_180 ?_
        refine lv_if_gt (tgt := 188) hx hb dX10_isAdmitted_181 (by decide) (fun k35 => ?_) (fun k35 => ?_)
        · have hp := owp_t k35 hp
          refine lv_iconst (v := (0)) hx hb dX10_isAdmitted_188 (by decide) ?_
          refine lv_istore_n (lv' := [(2, .int (0 : Int32)), (0, .ref v0), (1, .int v1), (3, .int v3), (4, .long v30)]) hx hb dX10_isAdmitted_189 rfl hl (by decide) rfl (fun ls hl => ?_)
          refine lv_iinc (v := v3 + 1) (lv' := [(3, .int (v3 + 1)), (2, .int (0 : Int32)), (0, .ref v0), (1, .int v1), (4, .long v30)]) hx hb dX10_isAdmitted_190 hl (k := 3) rfl rfl (by decide) rfl (fun ls hl => ?_)
          refine lv_goto (tgt := 4) hx hb dX10_isAdmitted_193 (by decide) ?_
          exact ih _ _ _ _ _ _ hR hS (lv_sub hl [2, 3, 1, 0] rfl) hp
        · have hp := owp_f k35 hp
          refine lv_iconst (v := (1)) hx hb dX10_isAdmitted_184 (by decide) ?_
          refine lv_goto (tgt := 189) hx hb dX10_isAdmitted_185 (by decide) ?_
          refine lv_istore_n (lv' := [(2, .int (1 : Int32)), (0, .ref v0), (1, .int v1), (3, .int v3), (4, .long v30)]) hx hb dX10_isAdmitted_189 rfl hl (by decide) rfl (fun ls hl => ?_)
          refine lv_iinc (v := v3 + 1) (lv' := [(3, .int (v3 + 1)), (2, .int (1 : Int32)), (0, .ref v0), (1, .int v1), (4, .long v30)]) hx hb dX10_isAdmitted_190 hl (k := 3) rfl rfl (by decide) rfl (fun ls hl => ?_)
          refine lv_goto (tgt := 4) hx hb dX10_isAdmitted_193 (by decide) ?_
          exact ih _ _ _ _ _ _ hR hS (lv_sub hl [2, 3, 1, 0] rfl) hp
def f_X10_isAdmitted (v0 : Nat) (v1 : Int32) (N : AH) : Option (Int32 × AH) := ob (iO N v0 10) (fun _ => f_X10_isAdmitted_L4 v0 v1 (fun v36 N37 => rZ v36 N37) FU (1 : Int32) (0 : Int32) N)
set_option maxHeartbeats 4000000 in
set_option maxRecDepth 100000 in
theorem wk_X10_isAdmitted {P : Int32 × AH → Prop} (X : CX cX10_isAdmitted RX10 8 G aC t b0 p s m args c) (hr : RtZ p l e rm_X10_isAdmitted s m args below meth c 0 0 Q cX10_isAdmitted G aC b0 P) (v0 : Nat) (v1 : Int32) (N : AH) (H : Heap) (locs : List Loc) (ls : Array Slot) (hR : Rp G aC b0 N H) (hS : va_S (fun q => b0 ≤ q) s.heap H locs) (hl : lv_has ls 8 [(0, .ref v0), (1, .int v1)]) (hp : owp (f_X10_isAdmitted v0 v1 N) P) : W p l e rm_X10_isAdmitted s m args below meth c H locs 0 0 Q (F0 m 0 ls []) := by
  have hx := X.1.1
  have hb := X.1.2.1
  unfold f_X10_isAdmitted at hp
  obtain ⟨_, _, hp⟩ := owp_ob hp
  refine lv_iconst (v := (1)) hx hb dX10_isAdmitted_0 (by decide) ?_
  refine lv_istore_n (lv' := [(2, .int (1 : Int32)), (0, .ref v0), (1, .int v1)]) hx hb dX10_isAdmitted_1 rfl hl (by decide) rfl (fun ls hl => ?_)
  refine lv_iconst (v := (0)) hx hb dX10_isAdmitted_2 (by decide) ?_
  refine lv_istore_n (lv' := [(3, .int (0 : Int32)), (2, .int (1 : Int32)), (0, .ref v0), (1, .int v1)]) hx hb dX10_isAdmitted_3 rfl hl (by decide) rfl (fun ls hl => ?_)
  refine w_X10_isAdmitted_L4 X hr _ _ (fun v36 N37 H locs ls hR hS hl hp => ?_) _ _ _ _ _ _ _ hR hS (lv_sub hl [2, 3, 1, 0] rfl) hp
  refine lv_iload_n hx hb dX10_isAdmitted_196 rfl (lv_at hl 0 rfl) ?_
  exact hr _ _ _ _ _ _ hR hS dX10_isAdmitted_197 hp
end
theorem ct_X10_isAdmitted {v0 : Nat} {v1 : Int32} {N N1 : AH} {r : Int32} (h : f_X10_isAdmitted v0 v1 N = some (r, N1)) : Ct yX10_isAdmitted cX10_isAdmitted 8 (some .boolean) rm_X10_isAdmitted [.ref v0, .int v1] N (some (.int r)) N1 :=
  ab_met (own := RX10) (by decide +kernel) rfl (Nat.le_of_ble_eq_true rfl) (fun l G aC t b0 p e s m below meth c ls X hr hlk hnm hR hS hl => wk_X10_isAdmitted X (RtZ_met X.1.1 X.1.2.1 hr hlk) _ _ _ _ _ _ hR hS hl (owp_of h))
theorem cw_X10_isAdmitted : Cond.code yX10_isAdmitted cX10_isAdmitted 8 (some .boolean) ∈ WT := WT_of 1105 (by decide +kernel) (by decide +kernel)
theorem iv_X10_isAdmitted {p : Program} {l : Launch} {e : Env} {R : Room} {s : State} {m : MethodId} {args : Array Value} {below : List Frame} {meth : Method} {c : Code} {H : Heap} {locs : List Loc} {cells slots : Nat} {Q : State → Prop} {cc : ByteArray} {own : String} {nL : Nat} {G : va_G} {aC : Nat → ClassId} {t b0 : Nat} {N N1 : AH} {pc index : Nat} {ls : Array Slot} {rest : List Value} {v0 : Nat} {v1 : Int32} {r : Int32} (w1 : Cond.methodLink own index yX10_isAdmitted ∈ WT) (X : CX cc own nL G aC t b0 p s m args c) (hR : Rp G aC b0 N H) (hS : va_S (fun q => b0 ≤ q) s.heap H locs) (h : f_X10_isAdmitted v0 v1 N = some (r, N1)) (hls : ls.size = nL) (hW : (rest.map fun v => v.category).sum ≤ 8) (hR1 : 4 ≤ R.frames ∧ 101 ≤ R.locals) (hcs : cells + 0 ≤ R.cells ∧ slots + 0 ≤ R.slots) (hdg : decode cc pc = .ok (.invokevirtual index, 3)) (kk : ∀ (H1 : Heap) (locs1 : List Loc), Rp G aC b0 N1 H1 → va_S (fun q => b0 ≤ q) s.heap H1 locs1 → W p l e R s m args below meth c H1 locs1 cells slots Q (F0 m (pc + 3) ls (.int r :: rest))) : W p l e R s m args below meth c H locs cells slots Q (F0 m pc ls (.int v1 :: .ref v0 :: rest)) :=
  ab_callV (n := 1) (As := [.int v1]) X hR hS (ct_X10_isAdmitted h) (ob_rc (c := 10) (N := N) (a := v0) h) (T := TX10) (k := 20) (C := RX10) rfl w1 (WT_of 1104 (by decide +kernel) (by decide +kernel)) (WT_of 46 (by decide +kernel) (by decide +kernel)) (WT_of 92 (by decide +kernel) (by decide +kernel)) cw_X10_isAdmitted ⟨rfl, by decide +kernel, by decide +kernel, by decide +kernel⟩ rfl hls hW hR1 hcs rfl hdg kk
-- X10_addGroup
theorem mw_X10_216 : Cond.methodLink RX10 216 yX10_isAdmitted ∈ WT := WT_of 1102 (by decide +kernel) (by decide +kernel)
theorem dX10_addGroup_0 : decode cX10_addGroup 0 = .ok (.iload_n 1, 1) := by decide +kernel
theorem dX10_addGroup_1 : decode cX10_addGroup 1 = .ok (.i2l, 1) := by decide +kernel
theorem dX10_addGroup_2 : decode cX10_addGroup 2 = .ok (.lconst 0, 1) := by decide +kernel
theorem dX10_addGroup_3 : decode cX10_addGroup 3 = .ok (.ldc2_w 210, 3) := by decide +kernel
theorem dX10_addGroup_6 : decode cX10_addGroup 6 = .ok (.invokestatic 60, 3) := by decide +kernel
theorem dX10_addGroup_9 : decode cX10_addGroup 9 = .ok (.ifCond .eq 27, 3) := by decide +kernel
theorem dX10_addGroup_12 : decode cX10_addGroup 12 = .ok (.iload_n 2, 1) := by decide +kernel
theorem dX10_addGroup_13 : decode cX10_addGroup 13 = .ok (.i2l, 1) := by decide +kernel
theorem dX10_addGroup_14 : decode cX10_addGroup 14 = .ok (.lconst 1, 1) := by decide +kernel
theorem dX10_addGroup_15 : decode cX10_addGroup 15 = .ok (.ldc2_w 212, 3) := by decide +kernel
theorem dX10_addGroup_18 : decode cX10_addGroup 18 = .ok (.invokestatic 60, 3) := by decide +kernel
theorem dX10_addGroup_21 : decode cX10_addGroup 21 = .ok (.ifCond .eq 15, 3) := by decide +kernel
theorem dX10_addGroup_24 : decode cX10_addGroup 24 = .ok (.iload_n 3, 1) := by decide +kernel
theorem dX10_addGroup_25 : decode cX10_addGroup 25 = .ok (.i2l, 1) := by decide +kernel
theorem dX10_addGroup_26 : decode cX10_addGroup 26 = .ok (.lconst 0, 1) := by decide +kernel
theorem dX10_addGroup_27 : decode cX10_addGroup 27 = .ok (.ldc2_w 214, 3) := by decide +kernel
theorem dX10_addGroup_30 : decode cX10_addGroup 30 = .ok (.invokestatic 60, 3) := by decide +kernel
theorem dX10_addGroup_33 : decode cX10_addGroup 33 = .ok (.ifCond .ne 6, 3) := by decide +kernel
theorem dX10_addGroup_36 : decode cX10_addGroup 36 = .ok (.bipush (-3), 2) := by decide +kernel
theorem dX10_addGroup_38 : decode cX10_addGroup 38 = .ok (.ireturn, 1) := by decide +kernel
theorem dX10_addGroup_39 : decode cX10_addGroup 39 = .ok (.aload_n 0, 1) := by decide +kernel
theorem dX10_addGroup_40 : decode cX10_addGroup 40 = .ok (.getfield 7, 3) := by decide +kernel
theorem dX10_addGroup_43 : decode cX10_addGroup 43 = .ok (.bipush 7, 2) := by decide +kernel
theorem dX10_addGroup_45 : decode cX10_addGroup 45 = .ok (.iaload, 1) := by decide +kernel
theorem dX10_addGroup_46 : decode cX10_addGroup 46 = .ok (.ifCond .ne 6, 3) := by decide +kernel
theorem dX10_addGroup_49 : decode cX10_addGroup 49 = .ok (.bipush (-4), 2) := by decide +kernel
theorem dX10_addGroup_51 : decode cX10_addGroup 51 = .ok (.ireturn, 1) := by decide +kernel
theorem dX10_addGroup_52 : decode cX10_addGroup 52 = .ok (.aload_n 0, 1) := by decide +kernel
theorem dX10_addGroup_53 : decode cX10_addGroup 53 = .ok (.getfield 7, 3) := by decide +kernel
theorem dX10_addGroup_56 : decode cX10_addGroup 56 = .ok (.bipush 6, 2) := by decide +kernel
theorem dX10_addGroup_58 : decode cX10_addGroup 58 = .ok (.iaload, 1) := by decide +kernel
theorem dX10_addGroup_59 : decode cX10_addGroup 59 = .ok (.bipush 12, 2) := by decide +kernel
theorem dX10_addGroup_61 : decode cX10_addGroup 61 = .ok (.if_icmp .ne 6, 3) := by decide +kernel
theorem dX10_addGroup_64 : decode cX10_addGroup 64 = .ok (.bipush (-5), 2) := by decide +kernel
theorem dX10_addGroup_66 : decode cX10_addGroup 66 = .ok (.ireturn, 1) := by decide +kernel
theorem dX10_addGroup_67 : decode cX10_addGroup 67 = .ok (.aload_n 0, 1) := by decide +kernel
theorem dX10_addGroup_68 : decode cX10_addGroup 68 = .ok (.invokevirtual 203, 3) := by decide +kernel
theorem dX10_addGroup_71 : decode cX10_addGroup 71 = .ok (.aload_n 0, 1) := by decide +kernel
theorem dX10_addGroup_72 : decode cX10_addGroup 72 = .ok (.getfield 7, 3) := by decide +kernel
theorem dX10_addGroup_75 : decode cX10_addGroup 75 = .ok (.bipush 6, 2) := by decide +kernel
theorem dX10_addGroup_77 : decode cX10_addGroup 77 = .ok (.iaload, 1) := by decide +kernel
theorem dX10_addGroup_78 : decode cX10_addGroup 78 = .ok (.istore 4, 2) := by decide +kernel
theorem dX10_addGroup_80 : decode cX10_addGroup 80 = .ok (.aload_n 0, 1) := by decide +kernel
theorem dX10_addGroup_81 : decode cX10_addGroup 81 = .ok (.iload 4, 2) := by decide +kernel
theorem dX10_addGroup_83 : decode cX10_addGroup 83 = .ok (.iconst 0, 1) := by decide +kernel
theorem dX10_addGroup_84 : decode cX10_addGroup 84 = .ok (.aload_n 0, 1) := by decide +kernel
theorem dX10_addGroup_85 : decode cX10_addGroup 85 = .ok (.getfield 7, 3) := by decide +kernel
theorem dX10_addGroup_88 : decode cX10_addGroup 88 = .ok (.iconst 0, 1) := by decide +kernel
theorem dX10_addGroup_89 : decode cX10_addGroup 89 = .ok (.iaload, 1) := by decide +kernel
theorem dX10_addGroup_90 : decode cX10_addGroup 90 = .ok (.iload_n 1, 1) := by decide +kernel
theorem dX10_addGroup_91 : decode cX10_addGroup 91 = .ok (.iadd, 1) := by decide +kernel
theorem dX10_addGroup_92 : decode cX10_addGroup 92 = .ok (.invokevirtual 56, 3) := by decide +kernel
theorem dX10_addGroup_95 : decode cX10_addGroup 95 = .ok (.aload_n 0, 1) := by decide +kernel
theorem dX10_addGroup_96 : decode cX10_addGroup 96 = .ok (.iload 4, 2) := by decide +kernel
theorem dX10_addGroup_98 : decode cX10_addGroup 98 = .ok (.iconst 1, 1) := by decide +kernel
theorem dX10_addGroup_99 : decode cX10_addGroup 99 = .ok (.iload_n 2, 1) := by decide +kernel
theorem dX10_addGroup_100 : decode cX10_addGroup 100 = .ok (.invokevirtual 56, 3) := by decide +kernel
theorem dX10_addGroup_103 : decode cX10_addGroup 103 = .ok (.aload_n 0, 1) := by decide +kernel
theorem dX10_addGroup_104 : decode cX10_addGroup 104 = .ok (.iload 4, 2) := by decide +kernel
theorem dX10_addGroup_106 : decode cX10_addGroup 106 = .ok (.iconst 2, 1) := by decide +kernel
theorem dX10_addGroup_107 : decode cX10_addGroup 107 = .ok (.iload_n 3, 1) := by decide +kernel
theorem dX10_addGroup_108 : decode cX10_addGroup 108 = .ok (.invokevirtual 56, 3) := by decide +kernel
theorem dX10_addGroup_111 : decode cX10_addGroup 111 = .ok (.aload_n 0, 1) := by decide +kernel
theorem dX10_addGroup_112 : decode cX10_addGroup 112 = .ok (.iload 4, 2) := by decide +kernel
theorem dX10_addGroup_114 : decode cX10_addGroup 114 = .ok (.iconst 3, 1) := by decide +kernel
theorem dX10_addGroup_115 : decode cX10_addGroup 115 = .ok (.iconst (-1), 1) := by decide +kernel
theorem dX10_addGroup_116 : decode cX10_addGroup 116 = .ok (.invokevirtual 56, 3) := by decide +kernel
theorem dX10_addGroup_119 : decode cX10_addGroup 119 = .ok (.aload_n 0, 1) := by decide +kernel
theorem dX10_addGroup_120 : decode cX10_addGroup 120 = .ok (.iload 4, 2) := by decide +kernel
theorem dX10_addGroup_122 : decode cX10_addGroup 122 = .ok (.iconst 4, 1) := by decide +kernel
theorem dX10_addGroup_123 : decode cX10_addGroup 123 = .ok (.iconst 0, 1) := by decide +kernel
theorem dX10_addGroup_124 : decode cX10_addGroup 124 = .ok (.invokevirtual 56, 3) := by decide +kernel
theorem dX10_addGroup_127 : decode cX10_addGroup 127 = .ok (.aload_n 0, 1) := by decide +kernel
theorem dX10_addGroup_128 : decode cX10_addGroup 128 = .ok (.iload 4, 2) := by decide +kernel
theorem dX10_addGroup_130 : decode cX10_addGroup 130 = .ok (.iconst 5, 1) := by decide +kernel
theorem dX10_addGroup_131 : decode cX10_addGroup 131 = .ok (.aload_n 0, 1) := by decide +kernel
theorem dX10_addGroup_132 : decode cX10_addGroup 132 = .ok (.getfield 7, 3) := by decide +kernel
theorem dX10_addGroup_135 : decode cX10_addGroup 135 = .ok (.bipush 7, 2) := by decide +kernel
theorem dX10_addGroup_137 : decode cX10_addGroup 137 = .ok (.iaload, 1) := by decide +kernel
theorem dX10_addGroup_138 : decode cX10_addGroup 138 = .ok (.invokevirtual 56, 3) := by decide +kernel
theorem dX10_addGroup_141 : decode cX10_addGroup 141 = .ok (.iconst 0, 1) := by decide +kernel
theorem dX10_addGroup_142 : decode cX10_addGroup 142 = .ok (.istore 5, 2) := by decide +kernel
theorem dX10_addGroup_144 : decode cX10_addGroup 144 = .ok (.iload 5, 2) := by decide +kernel
theorem dX10_addGroup_146 : decode cX10_addGroup 146 = .ok (.aload_n 0, 1) := by decide +kernel
theorem dX10_addGroup_147 : decode cX10_addGroup 147 = .ok (.getfield 7, 3) := by decide +kernel
theorem dX10_addGroup_150 : decode cX10_addGroup 150 = .ok (.bipush 7, 2) := by decide +kernel
theorem dX10_addGroup_152 : decode cX10_addGroup 152 = .ok (.iaload, 1) := by decide +kernel
theorem dX10_addGroup_153 : decode cX10_addGroup 153 = .ok (.if_icmp .ge 98, 3) := by decide +kernel
theorem dX10_addGroup_156 : decode cX10_addGroup 156 = .ok (.bipush 42, 2) := by decide +kernel
theorem dX10_addGroup_158 : decode cX10_addGroup 158 = .ok (.iconst 3, 1) := by decide +kernel
theorem dX10_addGroup_159 : decode cX10_addGroup 159 = .ok (.iload 5, 2) := by decide +kernel
theorem dX10_addGroup_161 : decode cX10_addGroup 161 = .ok (.imul, 1) := by decide +kernel
theorem dX10_addGroup_162 : decode cX10_addGroup 162 = .ok (.iadd, 1) := by decide +kernel
theorem dX10_addGroup_163 : decode cX10_addGroup 163 = .ok (.istore 6, 2) := by decide +kernel
theorem dX10_addGroup_165 : decode cX10_addGroup 165 = .ok (.aload_n 0, 1) := by decide +kernel
theorem dX10_addGroup_166 : decode cX10_addGroup 166 = .ok (.iload 4, 2) := by decide +kernel
theorem dX10_addGroup_168 : decode cX10_addGroup 168 = .ok (.iload 5, 2) := by decide +kernel
theorem dX10_addGroup_170 : decode cX10_addGroup 170 = .ok (.iconst 0, 1) := by decide +kernel
theorem dX10_addGroup_171 : decode cX10_addGroup 171 = .ok (.aload_n 0, 1) := by decide +kernel
theorem dX10_addGroup_172 : decode cX10_addGroup 172 = .ok (.getfield 7, 3) := by decide +kernel
theorem dX10_addGroup_175 : decode cX10_addGroup 175 = .ok (.iload 6, 2) := by decide +kernel
theorem dX10_addGroup_177 : decode cX10_addGroup 177 = .ok (.iaload, 1) := by decide +kernel
theorem dX10_addGroup_178 : decode cX10_addGroup 178 = .ok (.invokevirtual 137, 3) := by decide +kernel
theorem dX10_addGroup_181 : decode cX10_addGroup 181 = .ok (.aload_n 0, 1) := by decide +kernel
theorem dX10_addGroup_182 : decode cX10_addGroup 182 = .ok (.iload 4, 2) := by decide +kernel
theorem dX10_addGroup_184 : decode cX10_addGroup 184 = .ok (.iload 5, 2) := by decide +kernel
theorem dX10_addGroup_186 : decode cX10_addGroup 186 = .ok (.iconst 1, 1) := by decide +kernel
theorem dX10_addGroup_187 : decode cX10_addGroup 187 = .ok (.aload_n 0, 1) := by decide +kernel
theorem dX10_addGroup_188 : decode cX10_addGroup 188 = .ok (.getfield 7, 3) := by decide +kernel
theorem dX10_addGroup_191 : decode cX10_addGroup 191 = .ok (.iload 6, 2) := by decide +kernel
theorem dX10_addGroup_193 : decode cX10_addGroup 193 = .ok (.iconst 1, 1) := by decide +kernel
theorem dX10_addGroup_194 : decode cX10_addGroup 194 = .ok (.iadd, 1) := by decide +kernel
theorem dX10_addGroup_195 : decode cX10_addGroup 195 = .ok (.iaload, 1) := by decide +kernel
theorem dX10_addGroup_196 : decode cX10_addGroup 196 = .ok (.invokevirtual 137, 3) := by decide +kernel
theorem dX10_addGroup_199 : decode cX10_addGroup 199 = .ok (.aload_n 0, 1) := by decide +kernel
theorem dX10_addGroup_200 : decode cX10_addGroup 200 = .ok (.iload 4, 2) := by decide +kernel
theorem dX10_addGroup_202 : decode cX10_addGroup 202 = .ok (.iload 5, 2) := by decide +kernel
theorem dX10_addGroup_204 : decode cX10_addGroup 204 = .ok (.iconst 2, 1) := by decide +kernel
theorem dX10_addGroup_205 : decode cX10_addGroup 205 = .ok (.aload_n 0, 1) := by decide +kernel
theorem dX10_addGroup_206 : decode cX10_addGroup 206 = .ok (.getfield 7, 3) := by decide +kernel
theorem dX10_addGroup_209 : decode cX10_addGroup 209 = .ok (.iload 6, 2) := by decide +kernel
theorem dX10_addGroup_211 : decode cX10_addGroup 211 = .ok (.iconst 2, 1) := by decide +kernel
theorem dX10_addGroup_212 : decode cX10_addGroup 212 = .ok (.iadd, 1) := by decide +kernel
theorem dX10_addGroup_213 : decode cX10_addGroup 213 = .ok (.iaload, 1) := by decide +kernel
theorem dX10_addGroup_214 : decode cX10_addGroup 214 = .ok (.invokevirtual 137, 3) := by decide +kernel
theorem dX10_addGroup_217 : decode cX10_addGroup 217 = .ok (.aload_n 0, 1) := by decide +kernel
theorem dX10_addGroup_218 : decode cX10_addGroup 218 = .ok (.iload 4, 2) := by decide +kernel
theorem dX10_addGroup_220 : decode cX10_addGroup 220 = .ok (.iload 5, 2) := by decide +kernel
theorem dX10_addGroup_222 : decode cX10_addGroup 222 = .ok (.iconst 3, 1) := by decide +kernel
theorem dX10_addGroup_223 : decode cX10_addGroup 223 = .ok (.aload_n 0, 1) := by decide +kernel
theorem dX10_addGroup_224 : decode cX10_addGroup 224 = .ok (.getfield 7, 3) := by decide +kernel
theorem dX10_addGroup_227 : decode cX10_addGroup 227 = .ok (.iload 6, 2) := by decide +kernel
theorem dX10_addGroup_229 : decode cX10_addGroup 229 = .ok (.iconst 2, 1) := by decide +kernel
theorem dX10_addGroup_230 : decode cX10_addGroup 230 = .ok (.iadd, 1) := by decide +kernel
theorem dX10_addGroup_231 : decode cX10_addGroup 231 = .ok (.iaload, 1) := by decide +kernel
theorem dX10_addGroup_232 : decode cX10_addGroup 232 = .ok (.invokevirtual 137, 3) := by decide +kernel
theorem dX10_addGroup_235 : decode cX10_addGroup 235 = .ok (.aload_n 0, 1) := by decide +kernel
theorem dX10_addGroup_236 : decode cX10_addGroup 236 = .ok (.iload 4, 2) := by decide +kernel
theorem dX10_addGroup_238 : decode cX10_addGroup 238 = .ok (.iload 5, 2) := by decide +kernel
theorem dX10_addGroup_240 : decode cX10_addGroup 240 = .ok (.iconst 4, 1) := by decide +kernel
theorem dX10_addGroup_241 : decode cX10_addGroup 241 = .ok (.iconst 0, 1) := by decide +kernel
theorem dX10_addGroup_242 : decode cX10_addGroup 242 = .ok (.invokevirtual 137, 3) := by decide +kernel
theorem dX10_addGroup_245 : decode cX10_addGroup 245 = .ok (.iinc 5 1, 3) := by decide +kernel
theorem dX10_addGroup_248 : decode cX10_addGroup 248 = .ok (.goto (-104), 3) := by decide +kernel
theorem dX10_addGroup_251 : decode cX10_addGroup 251 = .ok (.aload_n 0, 1) := by decide +kernel
theorem dX10_addGroup_252 : decode cX10_addGroup 252 = .ok (.getfield 7, 3) := by decide +kernel
theorem dX10_addGroup_255 : decode cX10_addGroup 255 = .ok (.bipush 7, 2) := by decide +kernel
theorem dX10_addGroup_257 : decode cX10_addGroup 257 = .ok (.iconst 0, 1) := by decide +kernel
theorem dX10_addGroup_258 : decode cX10_addGroup 258 = .ok (.iastore, 1) := by decide +kernel
theorem dX10_addGroup_259 : decode cX10_addGroup 259 = .ok (.aload_n 0, 1) := by decide +kernel
theorem dX10_addGroup_260 : decode cX10_addGroup 260 = .ok (.getfield 7, 3) := by decide +kernel
theorem dX10_addGroup_263 : decode cX10_addGroup 263 = .ok (.bipush 6, 2) := by decide +kernel
theorem dX10_addGroup_265 : decode cX10_addGroup 265 = .ok (.dup2, 1) := by decide +kernel
theorem dX10_addGroup_266 : decode cX10_addGroup 266 = .ok (.iaload, 1) := by decide +kernel
theorem dX10_addGroup_267 : decode cX10_addGroup 267 = .ok (.iconst 1, 1) := by decide +kernel
theorem dX10_addGroup_268 : decode cX10_addGroup 268 = .ok (.iadd, 1) := by decide +kernel
theorem dX10_addGroup_269 : decode cX10_addGroup 269 = .ok (.iastore, 1) := by decide +kernel
theorem dX10_addGroup_270 : decode cX10_addGroup 270 = .ok (.aload_n 0, 1) := by decide +kernel
theorem dX10_addGroup_271 : decode cX10_addGroup 271 = .ok (.iload 4, 2) := by decide +kernel
theorem dX10_addGroup_273 : decode cX10_addGroup 273 = .ok (.invokevirtual 97, 3) := by decide +kernel
theorem dX10_addGroup_276 : decode cX10_addGroup 276 = .ok (.ifCond .eq 33, 3) := by decide +kernel
theorem dX10_addGroup_279 : decode cX10_addGroup 279 = .ok (.aload_n 0, 1) := by decide +kernel
theorem dX10_addGroup_280 : decode cX10_addGroup 280 = .ok (.iload 4, 2) := by decide +kernel
theorem dX10_addGroup_282 : decode cX10_addGroup 282 = .ok (.invokevirtual 216, 3) := by decide +kernel
theorem dX10_addGroup_285 : decode cX10_addGroup 285 = .ok (.ifCond .ne 24, 3) := by decide +kernel
theorem dX10_addGroup_288 : decode cX10_addGroup 288 = .ok (.aload_n 0, 1) := by decide +kernel
theorem dX10_addGroup_289 : decode cX10_addGroup 289 = .ok (.iload 4, 2) := by decide +kernel
theorem dX10_addGroup_291 : decode cX10_addGroup 291 = .ok (.iconst 4, 1) := by decide +kernel
theorem dX10_addGroup_292 : decode cX10_addGroup 292 = .ok (.iconst 1, 1) := by decide +kernel
theorem dX10_addGroup_293 : decode cX10_addGroup 293 = .ok (.invokevirtual 56, 3) := by decide +kernel
theorem dX10_addGroup_296 : decode cX10_addGroup 296 = .ok (.aload_n 0, 1) := by decide +kernel
theorem dX10_addGroup_297 : decode cX10_addGroup 297 = .ok (.iconst 3, 1) := by decide +kernel
theorem dX10_addGroup_298 : decode cX10_addGroup 298 = .ok (.iload 4, 2) := by decide +kernel
theorem dX10_addGroup_300 : decode cX10_addGroup 300 = .ok (.aload_n 0, 1) := by decide +kernel
theorem dX10_addGroup_301 : decode cX10_addGroup 301 = .ok (.getfield 7, 3) := by decide +kernel
theorem dX10_addGroup_304 : decode cX10_addGroup 304 = .ok (.iconst 0, 1) := by decide +kernel
theorem dX10_addGroup_305 : decode cX10_addGroup 305 = .ok (.iaload, 1) := by decide +kernel
theorem dX10_addGroup_306 : decode cX10_addGroup 306 = .ok (.invokevirtual 134, 3) := by decide +kernel
theorem dX10_addGroup_309 : decode cX10_addGroup 309 = .ok (.iload 4, 2) := by decide +kernel
theorem dX10_addGroup_311 : decode cX10_addGroup 311 = .ok (.ireturn, 1) := by decide +kernel
def rm_X10_addGroup : Room := { frames := 4, cells := 0, slots := 0, locals := 101 }
section
variable {p : Program} {l : Launch} {e : Env} {s : State} {m : MethodId} {args : Array Value} {below : List Frame} {meth : Method} {c : Code} {Q : State → Prop} {G : va_G} {aC : Nat → ClassId} {t b0 : Nat}
def f_X10_addGroup_L144 (v0 : Nat) (v4 : Int32) (k251 : AH → Option (Int32 × AH)) : Nat → Int32 → AH → Option (Int32 × AH)
  | 0, _, _ => none
  | n + 1, v5, N => ob (hR N v0 10 0) (fun x29 => ob (aI N x29 (7 : Int32)) (fun x30 => if x30 ≤ v5 then k251 N else ob (hR N v0 10 0) (fun x32 => ob (aI N x32 ((42 : Int32) + ((3 : Int32) * v5))) (fun x33 => ob2 (f_X10_setsFlow v0 v4 v5 (0 : Int32) x33 N) (fun _ N34 => ob (hR N34 v0 10 0) (fun x35 => ob (aI N34 x35 (((42 : Int32) + ((3 : Int32) * v5)) + (1 : Int32))) (fun x36 => ob2 (f_X10_setsFlow v0 v4 v5 (1 : Int32) x36 N34) (fun _ N37 => ob (hR N37 v0 10 0) (fun x38 => ob (aI N37 x38 (((42 : Int32) + ((3 : Int32) * v5)) + (2 : Int32))) (fun x39 => ob2 (f_X10_setsFlow v0 v4 v5 (2 : Int32) x39 N37) (fun _ N40 => ob (hR N40 v0 10 0) (fun x41 => ob (aI N40 x41 (((42 : Int32) + ((3 : Int32) * v5)) + (2 : Int32))) (fun x42 => ob2 (f_X10_setsFlow v0 v4 v5 (3 : Int32) x42 N40) (fun _ N43 => ob2 (f_X10_setsFlow v0 v4 v5 (4 : Int32) (0 : Int32) N43) (fun _ N44 => f_X10_addGroup_L144 v0 v4 k251 n (v5 + 1) N44)))))))))))))))
set_option maxHeartbeats 4000000 in
set_option maxRecDepth 100000 in
theorem w_X10_addGroup_L144 {P : Int32 × AH → Prop} (X : CX cX10_addGroup RX10 7 G aC t b0 p s m args c) (hr : RtI p l e rm_X10_addGroup s m args below meth c 0 0 Q cX10_addGroup G aC b0 P) (v0 : Nat) (v4 : Int32) {k251 : AH → Option (Int32 × AH)}
    (hk251 : ∀ (N : AH) (H : Heap) (locs : List Loc) (ls : Array Slot), Rp G aC b0 N H → va_S (fun q => b0 ≤ q) s.heap H locs → lv_has ls 7 [(0, .ref v0), (4, .int v4)] → owp (k251 N) P → W p l e rm_X10_addGroup s m args below meth c H locs 0 0 Q (F0 m 251 ls [])) :
    ∀ (n : Nat) (v5 : Int32) (N : AH) (H : Heap) (locs : List Loc) (ls : Array Slot), Rp G aC b0 N H → va_S (fun q => b0 ≤ q) s.heap H locs → lv_has ls 7 [(0, .ref v0), (4, .int v4), (5, .int v5)] → owp (f_X10_addGroup_L144 v0 v4 k251 n v5 N) P → W p l e rm_X10_addGroup s m args below meth c H locs 0 0 Q (F0 m 144 ls []) := by
  have hx := X.1.1
  have hb := X.1.2.1
  intro n
  induction n with
  | zero =>
    intro v5 N H locs ls hR hS hl hp
    exact (show False from hp).elim
  | succ n ih =>
    intro v5 N H locs ls hR hS hl hp
    rw [f_X10_addGroup_L144] at hp
    refine lv_iload hx hb dX10_addGroup_144 (lv_at hl 2 rfl) ?_
    refine lv_aload_n hx hb dX10_addGroup_146 rfl (lv_at hl 0 rfl) ?_
    obtain ⟨x29, e_x29, hp⟩ := owp_ob hp
    refine gf_X10_7 X hR e_x29 dX10_addGroup_147 ?_
    refine lv_bipush (v := (7)) hx hb dX10_addGroup_150 (by decide) ?_
    obtain ⟨x30, e_x30, hp⟩ := owp_ob hp
    refine ab_iald X hR e_x30 dX10_addGroup_152 ?_
    refine lv_icmp_ge (tgt := 251) hx hb dX10_addGroup_153 (by decide) (fun k31 => ?_) (fun k31 => ?_)
    · have hp := owp_t k31 hp
      exact hk251 _ _ _ _ hR hS (lv_sub hl [0, 1] rfl) hp
    · have hp := owp_f k31 hp
      refine lv_bipush (v := (42)) hx hb dX10_addGroup_156 (by decide) ?_
      refine lv_iconst (v := (3)) hx hb dX10_addGroup_158 (by decide) ?_
      refine lv_iload hx hb dX10_addGroup_159 (lv_at hl 2 rfl) ?_
      refine lv_imul hx hb dX10_addGroup_161 ?_
      refine lv_iadd hx hb dX10_addGroup_162 ?_
      refine lv_istore (lv' := [(6, .int ((42 : Int32) + ((3 : Int32) * v5))), (0, .ref v0), (4, .int v4), (5, .int v5)]) hx hb dX10_addGroup_163 hl (by decide) rfl (fun ls hl => ?_)
      refine lv_aload_n hx hb dX10_addGroup_165 rfl (lv_at hl 1 rfl) ?_
      refine lv_iload hx hb dX10_addGroup_166 (lv_at hl 2 rfl) ?_
      refine lv_iload hx hb dX10_addGroup_168 (lv_at hl 3 rfl) ?_
      refine lv_iconst (v := (0)) hx hb dX10_addGroup_170 (by decide) ?_
      refine lv_aload_n hx hb dX10_addGroup_171 rfl (lv_at hl 1 rfl) ?_
      obtain ⟨x32, e_x32, hp⟩ := owp_ob hp
      refine gf_X10_7 X hR e_x32 dX10_addGroup_172 ?_
      refine lv_iload hx hb dX10_addGroup_175 (lv_at hl 0 rfl) ?_
      obtain ⟨x33, e_x33, hp⟩ := owp_ob hp
      refine ab_iald X hR e_x33 dX10_addGroup_177 ?_
      obtain ⟨_, N34, e_N34, hp⟩ := owp_ob2 hp
      refine iv_X10_setsFlow (rest := []) mw_X10_137 X hR hS e_N34 hl.1 (Nat.le_of_ble_eq_true rfl) ⟨Nat.le_of_ble_eq_true rfl, Nat.le_of_ble_eq_true rfl⟩ ⟨Nat.le_of_ble_eq_true rfl, Nat.le_of_ble_eq_true rfl⟩ dX10_addGroup_178 (fun H locs hR hS => ?_)
      refine lv_aload_n hx hb dX10_addGroup_181 rfl (lv_at hl 1 rfl) ?_
      refine lv_iload hx hb dX10_addGroup_182 (lv_at hl 2 rfl) ?_
      refine lv_iload hx hb dX10_addGroup_184 (lv_at hl 3 rfl) ?_
      refine lv_iconst (v := (1)) hx hb dX10_addGroup_186 (by decide) ?_
      refine lv_aload_n hx hb dX10_addGroup_187 rfl (lv_at hl 1 rfl) ?_
      obtain ⟨x35, e_x35, hp⟩ := owp_ob hp
      refine gf_X10_7 X hR e_x35 dX10_addGroup_188 ?_
      refine lv_iload hx hb dX10_addGroup_191 (lv_at hl 0 rfl) ?_
      refine lv_iconst (v := (1)) hx hb dX10_addGroup_193 (by decide) ?_
      refine lv_iadd hx hb dX10_addGroup_194 ?_
      obtain ⟨x36, e_x36, hp⟩ := owp_ob hp
      refine ab_iald X hR e_x36 dX10_addGroup_195 ?_
      obtain ⟨_, N37, e_N37, hp⟩ := owp_ob2 hp
      refine iv_X10_setsFlow (rest := []) mw_X10_137 X hR hS e_N37 hl.1 (Nat.le_of_ble_eq_true rfl) ⟨Nat.le_of_ble_eq_true rfl, Nat.le_of_ble_eq_true rfl⟩ ⟨Nat.le_of_ble_eq_true rfl, Nat.le_of_ble_eq_true rfl⟩ dX10_addGroup_196 (fun H locs hR hS => ?_)
      refine lv_aload_n hx hb dX10_addGroup_199 rfl (lv_at hl 1 rfl) ?_
      refine lv_iload hx hb dX10_addGroup_200 (lv_at hl 2 rfl) ?_
      refine lv_iload hx hb dX10_addGroup_202 (lv_at hl 3 rfl) ?_
      refine lv_iconst (v := (2)) hx hb dX10_addGroup_204 (by decide) ?_
      refine lv_aload_n hx hb dX10_addGroup_205 rfl (lv_at hl 1 rfl) ?_
      obtain ⟨x38, e_x38, hp⟩ := owp_ob hp
      refine gf_X10_7 X hR e_x38 dX10_addGroup_206 ?_
      refine lv_iload hx hb dX10_addGroup_209 (lv_at hl 0 rfl) ?_
      refine lv_iconst (v := (2)) hx hb dX10_addGroup_211 (by decide) ?_
      refine lv_iadd hx hb dX10_addGroup_212 ?_
      obtain ⟨x39, e_x39, hp⟩ := owp_ob hp
      refine ab_iald X hR e_x39 dX10_addGroup_213 ?_
      obtain ⟨_, N40, e_N40, hp⟩ := owp_ob2 hp
      refine iv_X10_setsFlow (rest := []) mw_X10_137 X hR hS e_N40 hl.1 (Nat.le_of_ble_eq_true rfl) ⟨Nat.le_of_ble_eq_true rfl, Nat.le_of_ble_eq_true rfl⟩ ⟨Nat.le_of_ble_eq_true rfl, Nat.le_of_ble_eq_true rfl⟩ dX10_addGroup_214 (fun H locs hR hS => ?_)
      refine lv_aload_n hx hb dX10_addGroup_217 rfl (lv_at hl 1 rfl) ?_
      refine lv_iload hx hb dX10_addGroup_218 (lv_at hl 2 rfl) ?_
      refine lv_iload hx hb dX10_addGroup_220 (lv_at hl 3 rfl) ?_
      refine lv_iconst (v := (3)) hx hb dX10_addGroup_222 (by decide) ?_
      refine lv_aload_n hx hb dX10_addGroup_223 rfl (lv_at hl 1 rfl) ?_
      obtain ⟨x41, e_x41, hp⟩ := owp_ob hp
      refine gf_X10_7 X hR e_x41 dX10_addGroup_224 ?_
      refine lv_iload hx hb dX10_addGroup_227 (lv_at hl 0 rfl) ?_
      refine lv_iconst (v := (2)) hx hb dX10_addGroup_229 (by decide) ?_
      refine lv_iadd hx hb dX10_addGroup_230 ?_
      obtain ⟨x42, e_x42, hp⟩ := owp_ob hp
      refine ab_iald X hR e_x42 dX10_addGroup_231 ?_
      obtain ⟨_, N43, e_N43, hp⟩ := owp_ob2 hp
      refine iv_X10_setsFlow (rest := []) mw_X10_137 X hR hS e_N43 hl.1 (Nat.le_of_ble_eq_true rfl) ⟨Nat.le_of_ble_eq_true rfl, Nat.le_of_ble_eq_true rfl⟩ ⟨Nat.le_of_ble_eq_true rfl, Nat.le_of_ble_eq_true rfl⟩ dX10_addGroup_232 (fun H locs hR hS => ?_)
      refine lv_aload_n hx hb dX10_addGroup_235 rfl (lv_at hl 1 rfl) ?_
      refine lv_iload hx hb dX10_addGroup_236 (lv_at hl 2 rfl) ?_
      refine lv_iload hx hb dX10_addGroup_238 (lv_at hl 3 rfl) ?_
      refine lv_iconst (v := (4)) hx hb dX10_addGroup_240 (by decide) ?_
      refine lv_iconst (v := (0)) hx hb dX10_addGroup_241 (by decide) ?_
      obtain ⟨_, N44, e_N44, hp⟩ := owp_ob2 hp
      refine iv_X10_setsFlow (rest := []) mw_X10_137 X hR hS e_N44 hl.1 (Nat.le_of_ble_eq_true rfl) ⟨Nat.le_of_ble_eq_true rfl, Nat.le_of_ble_eq_true rfl⟩ ⟨Nat.le_of_ble_eq_true rfl, Nat.le_of_ble_eq_true rfl⟩ dX10_addGroup_242 (fun H locs hR hS => ?_)
      refine lv_iinc (v := v5 + 1) (lv' := [(5, .int (v5 + 1)), (6, .int ((42 : Int32) + ((3 : Int32) * v5))), (0, .ref v0), (4, .int v4)]) hx hb dX10_addGroup_245 hl (k := 3) rfl rfl (by decide) rfl (fun ls hl => ?_)
      refine lv_goto (tgt := 144) hx hb dX10_addGroup_248 (by decide) ?_
      exact ih _ _ _ _ _ hR hS (lv_sub hl [2, 3, 0] rfl) hp
def f_X10_addGroup (v0 : Nat) (v1 : Int32) (v2 : Int32) (v3 : Int32) (N : AH) : Option (Int32 × AH) := ob (iO N v0 10) (fun _ => ob2 (f_X10_in (Int32.toInt64 v1) (0 : Int64) (1000 : Int64) N) (fun x2 N1 => if x2 = 0 then some ((-3 : Int32), N1) else ob2 (f_X10_in (Int32.toInt64 v2) (1 : Int64) (100 : Int64) N1) (fun x5 N4 => if x5 = 0 then some ((-3 : Int32), N4) else ob2 (f_X10_in (Int32.toInt64 v3) (0 : Int64) (10000 : Int64) N4) (fun x8 N7 => if ¬ x8 = 0 then ob (hR N7 v0 10 0) (fun x10 => ob (aI N7 x10 (7 : Int32)) (fun x11 => if ¬ x11 = 0 then ob (hR N7 v0 10 0) (fun x13 => ob (aI N7 x13 (6 : Int32)) (fun x14 => if ¬ x14 = (12 : Int32) then ob2 (f_X10_saves v0 N7) (fun _ N16 => ob (hR N16 v0 10 0) (fun x17 => ob (aI N16 x17 (6 : Int32)) (fun x18 => ob (hR N16 v0 10 0) (fun x19 => ob (aI N16 x19 (0 : Int32)) (fun x20 => ob2 (f_X10_sets v0 x18 (0 : Int32) (x20 + v1) N16) (fun _ N21 => ob2 (f_X10_sets v0 x18 (1 : Int32) v2 N21) (fun _ N22 => ob2 (f_X10_sets v0 x18 (2 : Int32) v3 N22) (fun _ N23 => ob2 (f_X10_sets v0 x18 (3 : Int32) (-1 : Int32) N23) (fun _ N24 => ob2 (f_X10_sets v0 x18 (4 : Int32) (0 : Int32) N24) (fun _ N25 => ob (hR N25 v0 10 0) (fun x26 => ob (aI N25 x26 (7 : Int32)) (fun x27 => ob2 (f_X10_sets v0 x18 (5 : Int32) x27 N25) (fun _ N28 => f_X10_addGroup_L144 v0 x18 (fun N45 => ob (hR N45 v0 10 0) (fun x46 => ob (sI N45 x46 (7 : Int32) (0 : Int32)) (fun N47 => ob (hR N47 v0 10 0) (fun x48 => ob (aI N47 x48 (6 : Int32)) (fun x49 => ob (sI N47 x48 (6 : Int32) (x49 + (1 : Int32))) (fun N50 => ob2 (f_X10_hasDeadline v0 x18 N50) (fun x52 N51 => if x52 = 0 then some (x18, N51) else ob2 (f_X10_isAdmitted v0 x18 N51) (fun x55 N54 => if ¬ x55 = 0 then some (x18, N54) else ob2 (f_X10_sets v0 x18 (4 : Int32) (1 : Int32) N54) (fun _ N57 => ob (hR N57 v0 10 0) (fun x58 => ob (aI N57 x58 (0 : Int32)) (fun x59 => ob2 (f_X10_notes v0 (3 : Int32) x18 x59 N57) (fun _ N60 => some (x18, N60))))))))))))) FU (0 : Int32) N28))))))))))))) else some ((-5 : Int32), N7))) else some ((-4 : Int32), N7))) else some ((-3 : Int32), N7)))))
set_option maxHeartbeats 4000000 in
set_option maxRecDepth 100000 in
theorem wk_X10_addGroup {P : Int32 × AH → Prop} (X : CX cX10_addGroup RX10 7 G aC t b0 p s m args c) (hr : RtI p l e rm_X10_addGroup s m args below meth c 0 0 Q cX10_addGroup G aC b0 P) (v0 : Nat) (v1 : Int32) (v2 : Int32) (v3 : Int32) (N : AH) (H : Heap) (locs : List Loc) (ls : Array Slot) (hR : Rp G aC b0 N H) (hS : va_S (fun q => b0 ≤ q) s.heap H locs) (hl : lv_has ls 7 [(0, .ref v0), (1, .int v1), (2, .int v2), (3, .int v3)]) (hp : owp (f_X10_addGroup v0 v1 v2 v3 N) P) : W p l e rm_X10_addGroup s m args below meth c H locs 0 0 Q (F0 m 0 ls []) := by
  have hx := X.1.1
  have hb := X.1.2.1
  unfold f_X10_addGroup at hp
  obtain ⟨_, _, hp⟩ := owp_ob hp
  refine lv_iload_n hx hb dX10_addGroup_0 rfl (lv_at hl 1 rfl) ?_
  refine lv_i2l (v := Int32.toInt64 v1) hx hb dX10_addGroup_1 rfl ?_
  refine lv_lconst (v := 0) hx hb dX10_addGroup_2 (by decide) ?_
  refine lv_ldc2 (own := RX10) (v := 1000) hx hb X.1.2.2.2.1 (X.1.2.2.2.2 _ (WT_of 1083 (by decide +kernel) (by decide +kernel))) dX10_addGroup_3 ?_
  obtain ⟨x2, N1, e_N1, hp⟩ := owp_ob2 hp
  refine iv_X10_in (rest := []) mw_X10_60 X hR hS e_N1 hl.1 (Nat.le_of_ble_eq_true rfl) ⟨Nat.le_of_ble_eq_true rfl, Nat.le_of_ble_eq_true rfl⟩ ⟨Nat.le_of_ble_eq_true rfl, Nat.le_of_ble_eq_true rfl⟩ dX10_addGroup_6 (fun H locs hR hS => ?_)
  refine lv_if_eq (tgt := 36) hx hb dX10_addGroup_9 (by decide) (fun k3 => ?_) (fun k3 => ?_)
  · have hp := owp_t k3 hp
    refine lv_bipush (v := (-3)) hx hb dX10_addGroup_36 (by decide) ?_
    exact hr _ _ _ _ _ _ hR hS dX10_addGroup_38 hp
  · have hp := owp_f k3 hp
    refine lv_iload_n hx hb dX10_addGroup_12 rfl (lv_at hl 2 rfl) ?_
    refine lv_i2l (v := Int32.toInt64 v2) hx hb dX10_addGroup_13 rfl ?_
    refine lv_lconst (v := 1) hx hb dX10_addGroup_14 (by decide) ?_
    refine lv_ldc2 (own := RX10) (v := 100) hx hb X.1.2.2.2.1 (X.1.2.2.2.2 _ (WT_of 1084 (by decide +kernel) (by decide +kernel))) dX10_addGroup_15 ?_
    obtain ⟨x5, N4, e_N4, hp⟩ := owp_ob2 hp
    refine iv_X10_in (rest := []) mw_X10_60 X hR hS e_N4 hl.1 (Nat.le_of_ble_eq_true rfl) ⟨Nat.le_of_ble_eq_true rfl, Nat.le_of_ble_eq_true rfl⟩ ⟨Nat.le_of_ble_eq_true rfl, Nat.le_of_ble_eq_true rfl⟩ dX10_addGroup_18 (fun H locs hR hS => ?_)
    refine lv_if_eq (tgt := 36) hx hb dX10_addGroup_21 (by decide) (fun k6 => ?_) (fun k6 => ?_)
    · have hp := owp_t k6 hp
      refine lv_bipush (v := (-3)) hx hb dX10_addGroup_36 (by decide) ?_
      exact hr _ _ _ _ _ _ hR hS dX10_addGroup_38 hp
    · have hp := owp_f k6 hp
      refine lv_iload_n hx hb dX10_addGroup_24 rfl (lv_at hl 3 rfl) ?_
      refine lv_i2l (v := Int32.toInt64 v3) hx hb dX10_addGroup_25 rfl ?_
      refine lv_lconst (v := 0) hx hb dX10_addGroup_26 (by decide) ?_
      refine lv_ldc2 (own := RX10) (v := 10000) hx hb X.1.2.2.2.1 (X.1.2.2.2.2 _ (WT_of 1085 (by decide +kernel) (by decide +kernel))) dX10_addGroup_27 ?_
      obtain ⟨x8, N7, e_N7, hp⟩ := owp_ob2 hp
      refine iv_X10_in (rest := []) mw_X10_60 X hR hS e_N7 hl.1 (Nat.le_of_ble_eq_true rfl) ⟨Nat.le_of_ble_eq_true rfl, Nat.le_of_ble_eq_true rfl⟩ ⟨Nat.le_of_ble_eq_true rfl, Nat.le_of_ble_eq_true rfl⟩ dX10_addGroup_30 (fun H locs hR hS => ?_)
      refine lv_if_ne (tgt := 39) hx hb dX10_addGroup_33 (by decide) (fun k9 => ?_) (fun k9 => ?_)
      · have hp := owp_t k9 hp
        refine lv_aload_n hx hb dX10_addGroup_39 rfl (lv_at hl 0 rfl) ?_
        obtain ⟨x10, e_x10, hp⟩ := owp_ob hp
        refine gf_X10_7 X hR e_x10 dX10_addGroup_40 ?_
        refine lv_bipush (v := (7)) hx hb dX10_addGroup_43 (by decide) ?_
        obtain ⟨x11, e_x11, hp⟩ := owp_ob hp
        refine ab_iald X hR e_x11 dX10_addGroup_45 ?_
        refine lv_if_ne (tgt := 52) hx hb dX10_addGroup_46 (by decide) (fun k12 => ?_) (fun k12 => ?_)
        · have hp := owp_t k12 hp
          refine lv_aload_n hx hb dX10_addGroup_52 rfl (lv_at hl 0 rfl) ?_
          obtain ⟨x13, e_x13, hp⟩ := owp_ob hp
          refine gf_X10_7 X hR e_x13 dX10_addGroup_53 ?_
          refine lv_bipush (v := (6)) hx hb dX10_addGroup_56 (by decide) ?_
          obtain ⟨x14, e_x14, hp⟩ := owp_ob hp
          refine ab_iald X hR e_x14 dX10_addGroup_58 ?_
          refine lv_bipush (v := (12)) hx hb dX10_addGroup_59 (by decide) ?_
          refine lv_icmp_ne (tgt := 67) hx hb dX10_addGroup_61 (by decide) (fun k15 => ?_) (fun k15 => ?_)
          · have hp := owp_t k15 hp
            refine lv_aload_n hx hb dX10_addGroup_67 rfl (lv_at hl 0 rfl) ?_
            obtain ⟨_, N16, e_N16, hp⟩ := owp_ob2 hp
            refine iv_X10_saves (rest := []) mw_X10_203 X hR hS e_N16 hl.1 (Nat.le_of_ble_eq_true rfl) ⟨Nat.le_of_ble_eq_true rfl, Nat.le_of_ble_eq_true rfl⟩ ⟨Nat.le_of_ble_eq_true rfl, Nat.le_of_ble_eq_true rfl⟩ dX10_addGroup_68 (fun H locs hR hS => ?_)
            refine lv_aload_n hx hb dX10_addGroup_71 rfl (lv_at hl 0 rfl) ?_
            obtain ⟨x17, e_x17, hp⟩ := owp_ob hp
            refine gf_X10_7 X hR e_x17 dX10_addGroup_72 ?_
            refine lv_bipush (v := (6)) hx hb dX10_addGroup_75 (by decide) ?_
            obtain ⟨x18, e_x18, hp⟩ := owp_ob hp
            refine ab_iald X hR e_x18 dX10_addGroup_77 ?_
            refine lv_istore (lv' := [(4, .int x18), (0, .ref v0), (1, .int v1), (2, .int v2), (3, .int v3)]) hx hb dX10_addGroup_78 hl (by decide) rfl (fun ls hl => ?_)
            refine lv_aload_n hx hb dX10_addGroup_80 rfl (lv_at hl 1 rfl) ?_
            refine lv_iload hx hb dX10_addGroup_81 (lv_at hl 0 rfl) ?_
            refine lv_iconst (v := (0)) hx hb dX10_addGroup_83 (by decide) ?_
            refine lv_aload_n hx hb dX10_addGroup_84 rfl (lv_at hl 1 rfl) ?_
            obtain ⟨x19, e_x19, hp⟩ := owp_ob hp
            refine gf_X10_7 X hR e_x19 dX10_addGroup_85 ?_
            refine lv_iconst (v := (0)) hx hb dX10_addGroup_88 (by decide) ?_
            obtain ⟨x20, e_x20, hp⟩ := owp_ob hp
            refine ab_iald X hR e_x20 dX10_addGroup_89 ?_
            refine lv_iload_n hx hb dX10_addGroup_90 rfl (lv_at hl 2 rfl) ?_
            refine lv_iadd hx hb dX10_addGroup_91 ?_
            obtain ⟨_, N21, e_N21, hp⟩ := owp_ob2 hp
            refine iv_X10_sets (rest := []) mw_X10_56 X hR hS e_N21 hl.1 (Nat.le_of_ble_eq_true rfl) ⟨Nat.le_of_ble_eq_true rfl, Nat.le_of_ble_eq_true rfl⟩ ⟨Nat.le_of_ble_eq_true rfl, Nat.le_of_ble_eq_true rfl⟩ dX10_addGroup_92 (fun H locs hR hS => ?_)
            refine lv_aload_n hx hb dX10_addGroup_95 rfl (lv_at hl 1 rfl) ?_
            refine lv_iload hx hb dX10_addGroup_96 (lv_at hl 0 rfl) ?_
            refine lv_iconst (v := (1)) hx hb dX10_addGroup_98 (by decide) ?_
            refine lv_iload_n hx hb dX10_addGroup_99 rfl (lv_at hl 3 rfl) ?_
            obtain ⟨_, N22, e_N22, hp⟩ := owp_ob2 hp
            refine iv_X10_sets (rest := []) mw_X10_56 X hR hS e_N22 hl.1 (Nat.le_of_ble_eq_true rfl) ⟨Nat.le_of_ble_eq_true rfl, Nat.le_of_ble_eq_true rfl⟩ ⟨Nat.le_of_ble_eq_true rfl, Nat.le_of_ble_eq_true rfl⟩ dX10_addGroup_100 (fun H locs hR hS => ?_)
            refine lv_aload_n hx hb dX10_addGroup_103 rfl (lv_at hl 1 rfl) ?_
            refine lv_iload hx hb dX10_addGroup_104 (lv_at hl 0 rfl) ?_
            refine lv_iconst (v := (2)) hx hb dX10_addGroup_106 (by decide) ?_
            refine lv_iload_n hx hb dX10_addGroup_107 rfl (lv_at hl 4 rfl) ?_
            obtain ⟨_, N23, e_N23, hp⟩ := owp_ob2 hp
            refine iv_X10_sets (rest := []) mw_X10_56 X hR hS e_N23 hl.1 (Nat.le_of_ble_eq_true rfl) ⟨Nat.le_of_ble_eq_true rfl, Nat.le_of_ble_eq_true rfl⟩ ⟨Nat.le_of_ble_eq_true rfl, Nat.le_of_ble_eq_true rfl⟩ dX10_addGroup_108 (fun H locs hR hS => ?_)
            refine lv_aload_n hx hb dX10_addGroup_111 rfl (lv_at hl 1 rfl) ?_
            refine lv_iload hx hb dX10_addGroup_112 (lv_at hl 0 rfl) ?_
            refine lv_iconst (v := (3)) hx hb dX10_addGroup_114 (by decide) ?_
            refine lv_iconst (v := (-1)) hx hb dX10_addGroup_115 (by decide) ?_
            obtain ⟨_, N24, e_N24, hp⟩ := owp_ob2 hp
            refine iv_X10_sets (rest := []) mw_X10_56 X hR hS e_N24 hl.1 (Nat.le_of_ble_eq_true rfl) ⟨Nat.le_of_ble_eq_true rfl, Nat.le_of_ble_eq_true rfl⟩ ⟨Nat.le_of_ble_eq_true rfl, Nat.le_of_ble_eq_true rfl⟩ dX10_addGroup_116 (fun H locs hR hS => ?_)
            refine lv_aload_n hx hb dX10_addGroup_119 rfl (lv_at hl 1 rfl) ?_
            refine lv_iload hx hb dX10_addGroup_120 (lv_at hl 0 rfl) ?_
            refine lv_iconst (v := (4)) hx hb dX10_addGroup_122 (by decide) ?_
            refine lv_iconst (v := (0)) hx hb dX10_addGroup_123 (by decide) ?_
            obtain ⟨_, N25, e_N25, hp⟩ := owp_ob2 hp
            refine iv_X10_sets (rest := []) mw_X10_56 X hR hS e_N25 hl.1 (Nat.le_of_ble_eq_true rfl) ⟨Nat.le_of_ble_eq_true rfl, Nat.le_of_ble_eq_true rfl⟩ ⟨Nat.le_of_ble_eq_true rfl, Nat.le_of_ble_eq_true rfl⟩ dX10_addGroup_124 (fun H locs hR hS => ?_)
            refine lv_aload_n hx hb dX10_addGroup_127 rfl (lv_at hl 1 rfl) ?_
            refine lv_iload hx hb dX10_addGroup_128 (lv_at hl 0 rfl) ?_
            refine lv_iconst (v := (5)) hx hb dX10_addGroup_130 (by decide) ?_
            refine lv_aload_n hx hb dX10_addGroup_131 rfl (lv_at hl 1 rfl) ?_
            obtain ⟨x26, e_x26, hp⟩ := owp_ob hp
            refine gf_X10_7 X hR e_x26 dX10_addGroup_132 ?_
            refine lv_bipush (v := (7)) hx hb dX10_addGroup_135 (by decide) ?_
            obtain ⟨x27, e_x27, hp⟩ := owp_ob hp
            refine ab_iald X hR e_x27 dX10_addGroup_137 ?_
            obtain ⟨_, N28, e_N28, hp⟩ := owp_ob2 hp
            refine iv_X10_sets (rest := []) mw_X10_56 X hR hS e_N28 hl.1 (Nat.le_of_ble_eq_true rfl) ⟨Nat.le_of_ble_eq_true rfl, Nat.le_of_ble_eq_true rfl⟩ ⟨Nat.le_of_ble_eq_true rfl, Nat.le_of_ble_eq_true rfl⟩ dX10_addGroup_138 (fun H locs hR hS => ?_)
            refine lv_iconst (v := (0)) hx hb dX10_addGroup_141 (by decide) ?_
            refine lv_istore (lv' := [(5, .int (0 : Int32)), (4, .int x18), (0, .ref v0), (1, .int v1), (2, .int v2), (3, .int v3)]) hx hb dX10_addGroup_142 hl (by decide) rfl (fun ls hl => ?_)
            refine w_X10_addGroup_L144 X hr _ _ (fun N45 H locs ls hR hS hl hp => ?_) _ _ _ _ _ _ hR hS (lv_sub hl [2, 1, 0] rfl) hp
            refine lv_aload_n hx hb dX10_addGroup_251 rfl (lv_at hl 0 rfl) ?_
            obtain ⟨x46, e_x46, hp⟩ := owp_ob hp
            refine gf_X10_7 X hR e_x46 dX10_addGroup_252 ?_
            refine lv_bipush (v := (7)) hx hb dX10_addGroup_255 (by decide) ?_
            refine lv_iconst (v := (0)) hx hb dX10_addGroup_257 (by decide) ?_
            obtain ⟨N47, e_N47, hp⟩ := owp_ob hp
            refine ab_iast X hR hS e_N47 dX10_addGroup_258 (fun H locs hR hS => ?_)
            refine lv_aload_n hx hb dX10_addGroup_259 rfl (lv_at hl 0 rfl) ?_
            obtain ⟨x48, e_x48, hp⟩ := owp_ob hp
            refine gf_X10_7 X hR e_x48 dX10_addGroup_260 ?_
            refine lv_bipush (v := (6)) hx hb dX10_addGroup_263 (by decide) ?_
            refine lv_dup2_11 hx hb dX10_addGroup_265 rfl rfl ?_
            obtain ⟨x49, e_x49, hp⟩ := owp_ob hp
            refine ab_iald X hR e_x49 dX10_addGroup_266 ?_
            refine lv_iconst (v := (1)) hx hb dX10_addGroup_267 (by decide) ?_
            refine lv_iadd hx hb dX10_addGroup_268 ?_
            obtain ⟨N50, e_N50, hp⟩ := owp_ob hp
            refine ab_iast X hR hS e_N50 dX10_addGroup_269 (fun H locs hR hS => ?_)
            refine lv_aload_n hx hb dX10_addGroup_270 rfl (lv_at hl 0 rfl) ?_
            refine lv_iload hx hb dX10_addGroup_271 (lv_at hl 1 rfl) ?_
            obtain ⟨x52, N51, e_N51, hp⟩ := owp_ob2 hp
            refine iv_X10_hasDeadline (rest := []) mw_X10_97 X hR hS e_N51 hl.1 (Nat.le_of_ble_eq_true rfl) ⟨Nat.le_of_ble_eq_true rfl, Nat.le_of_ble_eq_true rfl⟩ ⟨Nat.le_of_ble_eq_true rfl, Nat.le_of_ble_eq_true rfl⟩ dX10_addGroup_273 (fun H locs hR hS => ?_)
            refine lv_if_eq (tgt := 309) hx hb dX10_addGroup_276 (by decide) (fun k53 => ?_) (fun k53 => ?_)
            · have hp := owp_t k53 hp
              refine lv_iload hx hb dX10_addGroup_309 (lv_at hl 1 rfl) ?_
              exact hr _ _ _ _ _ _ hR hS dX10_addGroup_311 hp
            · have hp := owp_f k53 hp
              refine lv_aload_n hx hb dX10_addGroup_279 rfl (lv_at hl 0 rfl) ?_
              refine lv_iload hx hb dX10_addGroup_280 (lv_at hl 1 rfl) ?_
              obtain ⟨x55, N54, e_N54, hp⟩ := owp_ob2 hp
              refine iv_X10_isAdmitted (rest := []) mw_X10_216 X hR hS e_N54 hl.1 (Nat.le_of_ble_eq_true rfl) ⟨Nat.le_of_ble_eq_true rfl, Nat.le_of_ble_eq_true rfl⟩ ⟨Nat.le_of_ble_eq_true rfl, Nat.le_of_ble_eq_true rfl⟩ dX10_addGroup_282 (fun H locs hR hS => ?_)
              refine lv_if_ne (tgt := 309) hx hb dX10_addGroup_285 (by decide) (fun k56 => ?_) (fun k56 => ?_)
              · have hp := owp_t k56 hp
                refine lv_iload hx hb dX10_addGroup_309 (lv_at hl 1 rfl) ?_
                exact hr _ _ _ _ _ _ hR hS dX10_addGroup_311 hp
              · have hp := owp_f (fun q => q k56) hp
                refine lv_aload_n hx hb dX10_addGroup_288 rfl (lv_at hl 0 rfl) ?_
                refine lv_iload hx hb dX10_addGroup_289 (lv_at hl 1 rfl) ?_
                refine lv_iconst (v := (4)) hx hb dX10_addGroup_291 (by decide) ?_
                refine lv_iconst (v := (1)) hx hb dX10_addGroup_292 (by decide) ?_
                obtain ⟨_, N57, e_N57, hp⟩ := owp_ob2 hp
                refine iv_X10_sets (rest := []) mw_X10_56 X hR hS e_N57 hl.1 (Nat.le_of_ble_eq_true rfl) ⟨Nat.le_of_ble_eq_true rfl, Nat.le_of_ble_eq_true rfl⟩ ⟨Nat.le_of_ble_eq_true rfl, Nat.le_of_ble_eq_true rfl⟩ dX10_addGroup_293 (fun H locs hR hS => ?_)
                refine lv_aload_n hx hb dX10_addGroup_296 rfl (lv_at hl 0 rfl) ?_
                refine lv_iconst (v := (3)) hx hb dX10_addGroup_297 (by decide) ?_
                refine lv_iload hx hb dX10_addGroup_298 (lv_at hl 1 rfl) ?_
                refine lv_aload_n hx hb dX10_addGroup_300 rfl (lv_at hl 0 rfl) ?_
                obtain ⟨x58, e_x58, hp⟩ := owp_ob hp
                refine gf_X10_7 X hR e_x58 dX10_addGroup_301 ?_
                refine lv_iconst (v := (0)) hx hb dX10_addGroup_304 (by decide) ?_
                obtain ⟨x59, e_x59, hp⟩ := owp_ob hp
                refine ab_iald X hR e_x59 dX10_addGroup_305 ?_
                obtain ⟨_, N60, e_N60, hp⟩ := owp_ob2 hp
                refine iv_X10_notes (rest := []) mw_X10_134 X hR hS e_N60 hl.1 (Nat.le_of_ble_eq_true rfl) ⟨Nat.le_of_ble_eq_true rfl, Nat.le_of_ble_eq_true rfl⟩ ⟨Nat.le_of_ble_eq_true rfl, Nat.le_of_ble_eq_true rfl⟩ dX10_addGroup_306 (fun H locs hR hS => ?_)
                refine lv_iload hx hb dX10_addGroup_309 (lv_at hl 1 rfl) ?_
                exact hr _ _ _ _ _ _ hR hS dX10_addGroup_311 hp
          · have hp := owp_f (fun q => q k15) hp
            refine lv_bipush (v := (-5)) hx hb dX10_addGroup_64 (by decide) ?_
            exact hr _ _ _ _ _ _ hR hS dX10_addGroup_66 hp
        · have hp := owp_f (fun q => q k12) hp
          refine lv_bipush (v := (-4)) hx hb dX10_addGroup_49 (by decide) ?_
          exact hr _ _ _ _ _ _ hR hS dX10_addGroup_51 hp
      · have hp := owp_f (fun q => q k9) hp
        refine lv_bipush (v := (-3)) hx hb dX10_addGroup_36 (by decide) ?_
        exact hr _ _ _ _ _ _ hR hS dX10_addGroup_38 hp
end
theorem ct_X10_addGroup {v0 : Nat} {v1 : Int32} {v2 : Int32} {v3 : Int32} {N N1 : AH} {r : Int32} (h : f_X10_addGroup v0 v1 v2 v3 N = some (r, N1)) : Ct yX10_addGroup cX10_addGroup 7 (some .int) rm_X10_addGroup [.ref v0, .int v1, .int v2, .int v3] N (some (.int r)) N1 :=
  ab_met (own := RX10) (by decide +kernel) rfl (Nat.le_of_ble_eq_true rfl) (fun l G aC t b0 p e s m below meth c ls X hr hlk hnm hR hS hl => wk_X10_addGroup X (RtI_met X.1.1 X.1.2.1 hr hlk) _ _ _ _ _ _ _ _ hR hS hl (owp_of h))
theorem cw_X10_addGroup : Cond.code yX10_addGroup cX10_addGroup 7 (some .int) ∈ WT := WT_of 1082 (by decide +kernel) (by decide +kernel)
theorem iv_X10_addGroup {p : Program} {l : Launch} {e : Env} {R : Room} {s : State} {m : MethodId} {args : Array Value} {below : List Frame} {meth : Method} {c : Code} {H : Heap} {locs : List Loc} {cells slots : Nat} {Q : State → Prop} {cc : ByteArray} {own : String} {nL : Nat} {G : va_G} {aC : Nat → ClassId} {t b0 : Nat} {N N1 : AH} {pc index : Nat} {ls : Array Slot} {rest : List Value} {v0 : Nat} {v1 : Int32} {v2 : Int32} {v3 : Int32} {r : Int32} (w1 : Cond.methodLink own index yX10_addGroup ∈ WT) (X : CX cc own nL G aC t b0 p s m args c) (hR : Rp G aC b0 N H) (hS : va_S (fun q => b0 ≤ q) s.heap H locs) (h : f_X10_addGroup v0 v1 v2 v3 N = some (r, N1)) (hls : ls.size = nL) (hW : (rest.map fun v => v.category).sum ≤ 8) (hR1 : 5 ≤ R.frames ∧ 127 ≤ R.locals) (hcs : cells + 0 ≤ R.cells ∧ slots + 0 ≤ R.slots) (hdg : decode cc pc = .ok (.invokevirtual index, 3)) (kk : ∀ (H1 : Heap) (locs1 : List Loc), Rp G aC b0 N1 H1 → va_S (fun q => b0 ≤ q) s.heap H1 locs1 → W p l e R s m args below meth c H1 locs1 cells slots Q (F0 m (pc + 3) ls (.int r :: rest))) : W p l e R s m args below meth c H locs cells slots Q (F0 m pc ls (.int v3 :: .int v2 :: .int v1 :: .ref v0 :: rest)) :=
  ab_callV (n := 3) (As := [.int v1, .int v2, .int v3]) X hR hS (ct_X10_addGroup h) (ob_rc (c := 10) (N := N) (a := v0) h) (T := TX10) (k := 20) (C := RX10) rfl w1 (WT_of 1080 (by decide +kernel) (by decide +kernel)) (WT_of 1081 (by decide +kernel) (by decide +kernel)) (WT_of 92 (by decide +kernel) (by decide +kernel)) cw_X10_addGroup ⟨rfl, by decide +kernel, by decide +kernel, by decide +kernel⟩ rfl hls hW hR1 hcs rfl hdg kk
