-- X10_becomes
theorem dX10_becomes_0 : decode cX10_becomes 0 = .ok (.aload_n 0, 1) := by decide +kernel
theorem dX10_becomes_1 : decode cX10_becomes 1 = .ok (.invokevirtual 203, 3) := by decide +kernel
theorem dX10_becomes_4 : decode cX10_becomes 4 = .ok (.aload_n 0, 1) := by decide +kernel
theorem dX10_becomes_5 : decode cX10_becomes 5 = .ok (.getfield 7, 3) := by decide +kernel
theorem dX10_becomes_8 : decode cX10_becomes 8 = .ok (.iload_n 1, 1) := by decide +kernel
theorem dX10_becomes_9 : decode cX10_becomes 9 = .ok (.iaload, 1) := by decide +kernel
theorem dX10_becomes_10 : decode cX10_becomes 10 = .ok (.istore_n 3, 1) := by decide +kernel
theorem dX10_becomes_11 : decode cX10_becomes 11 = .ok (.aload_n 0, 1) := by decide +kernel
theorem dX10_becomes_12 : decode cX10_becomes 12 = .ok (.getfield 7, 3) := by decide +kernel
theorem dX10_becomes_15 : decode cX10_becomes 15 = .ok (.iload_n 1, 1) := by decide +kernel
theorem dX10_becomes_16 : decode cX10_becomes 16 = .ok (.iload_n 2, 1) := by decide +kernel
theorem dX10_becomes_17 : decode cX10_becomes 17 = .ok (.iastore, 1) := by decide +kernel
theorem dX10_becomes_18 : decode cX10_becomes 18 = .ok (.iload_n 3, 1) := by decide +kernel
theorem dX10_becomes_19 : decode cX10_becomes 19 = .ok (.ireturn, 1) := by decide +kernel
def rm_X10_becomes : Room := { frames := 2, cells := 0, slots := 0, locals := 44 }
section
variable {p : Program} {l : Launch} {e : Env} {s : State} {m : MethodId} {args : Array Value} {below : List Frame} {meth : Method} {c : Code} {Q : State → Prop} {G : va_G} {aC : Nat → ClassId} {t b0 : Nat}
def f_X10_becomes (v0 : Nat) (v1 : Int32) (v2 : Int32) (N : AH) : Option (Int32 × AH) := ob (iO N v0 10) (fun _ => ob2 (f_X10_saves v0 N) (fun _ N1 => ob (hR N1 v0 10 0) (fun x2 => ob (aI N1 x2 v1) (fun x3 => ob (hR N1 v0 10 0) (fun x4 => ob (sI N1 x4 v1 v2) (fun N5 => some (x3, N5)))))))
set_option maxHeartbeats 4000000 in
set_option maxRecDepth 100000 in
theorem wk_X10_becomes {P : Int32 × AH → Prop} (X : CX cX10_becomes RX10 4 G aC t b0 p s m args c) (hr : RtI p l e rm_X10_becomes s m args below meth c 0 0 Q cX10_becomes G aC b0 P) (v0 : Nat) (v1 : Int32) (v2 : Int32) (N : AH) (H : Heap) (locs : List Loc) (ls : Array Slot) (hR : Rp G aC b0 N H) (hS : va_S (fun q => b0 ≤ q) s.heap H locs) (hl : lv_has ls 4 [(0, .ref v0), (1, .int v1), (2, .int v2)]) (hp : owp (f_X10_becomes v0 v1 v2 N) P) : W p l e rm_X10_becomes s m args below meth c H locs 0 0 Q (F0 m 0 ls []) := by
  have hx := X.1.1
  have hb := X.1.2.1
  unfold f_X10_becomes at hp
  obtain ⟨_, _, hp⟩ := owp_ob hp
  refine lv_aload_n hx hb dX10_becomes_0 rfl (lv_at hl 0 rfl) ?_
  obtain ⟨_, N1, e_N1, hp⟩ := owp_ob2 hp
  refine iv_X10_saves (rest := []) mw_X10_203 X hR hS e_N1 hl.1 (Nat.le_of_ble_eq_true rfl) ⟨Nat.le_of_ble_eq_true rfl, Nat.le_of_ble_eq_true rfl⟩ ⟨Nat.le_of_ble_eq_true rfl, Nat.le_of_ble_eq_true rfl⟩ dX10_becomes_1 (fun H locs hR hS => ?_)
  refine lv_aload_n hx hb dX10_becomes_4 rfl (lv_at hl 0 rfl) ?_
  obtain ⟨x2, e_x2, hp⟩ := owp_ob hp
  refine gf_X10_7 X hR e_x2 dX10_becomes_5 ?_
  refine lv_iload_n hx hb dX10_becomes_8 rfl (lv_at hl 1 rfl) ?_
  obtain ⟨x3, e_x3, hp⟩ := owp_ob hp
  refine ab_iald X hR e_x3 dX10_becomes_9 ?_
  refine lv_istore_n (lv' := [(3, .int x3), (0, .ref v0), (1, .int v1), (2, .int v2)]) hx hb dX10_becomes_10 rfl hl (by decide) rfl (fun ls hl => ?_)
  refine lv_aload_n hx hb dX10_becomes_11 rfl (lv_at hl 1 rfl) ?_
  obtain ⟨x4, e_x4, hp⟩ := owp_ob hp
  refine gf_X10_7 X hR e_x4 dX10_becomes_12 ?_
  refine lv_iload_n hx hb dX10_becomes_15 rfl (lv_at hl 2 rfl) ?_
  refine lv_iload_n hx hb dX10_becomes_16 rfl (lv_at hl 3 rfl) ?_
  obtain ⟨N5, e_N5, hp⟩ := owp_ob hp
  refine ab_iast X hR hS e_N5 dX10_becomes_17 (fun H locs hR hS => ?_)
  refine lv_iload_n hx hb dX10_becomes_18 rfl (lv_at hl 0 rfl) ?_
  exact hr _ _ _ _ _ _ hR hS dX10_becomes_19 hp
end
theorem ct_X10_becomes {v0 : Nat} {v1 : Int32} {v2 : Int32} {N N1 : AH} {r : Int32} (h : f_X10_becomes v0 v1 v2 N = some (r, N1)) : Ct yX10_becomes cX10_becomes 4 (some .int) rm_X10_becomes [.ref v0, .int v1, .int v2] N (some (.int r)) N1 :=
  ab_met (own := RX10) (by decide +kernel) rfl (Nat.le_of_ble_eq_true rfl) (fun l G aC t b0 p e s m below meth c ls X hr hlk hnm hR hS hl => wk_X10_becomes X (RtI_met X.1.1 X.1.2.1 hr hlk) _ _ _ _ _ _ _ hR hS hl (owp_of h))
theorem cw_X10_becomes : Cond.code yX10_becomes cX10_becomes 4 (some .int) ∈ WT := WT_of 1133 (by decide +kernel) (by decide +kernel)
theorem iv_X10_becomes {p : Program} {l : Launch} {e : Env} {R : Room} {s : State} {m : MethodId} {args : Array Value} {below : List Frame} {meth : Method} {c : Code} {H : Heap} {locs : List Loc} {cells slots : Nat} {Q : State → Prop} {cc : ByteArray} {own : String} {nL : Nat} {G : va_G} {aC : Nat → ClassId} {t b0 : Nat} {N N1 : AH} {pc index : Nat} {ls : Array Slot} {rest : List Value} {v0 : Nat} {v1 : Int32} {v2 : Int32} {r : Int32} (w1 : Cond.methodLink own index yX10_becomes ∈ WT) (X : CX cc own nL G aC t b0 p s m args c) (hR : Rp G aC b0 N H) (hS : va_S (fun q => b0 ≤ q) s.heap H locs) (h : f_X10_becomes v0 v1 v2 N = some (r, N1)) (hls : ls.size = nL) (hW : (rest.map fun v => v.category).sum ≤ 8) (hR1 : 3 ≤ R.frames ∧ 67 ≤ R.locals) (hcs : cells + 0 ≤ R.cells ∧ slots + 0 ≤ R.slots) (hdg : decode cc pc = .ok (.invokevirtual index, 3)) (kk : ∀ (H1 : Heap) (locs1 : List Loc), Rp G aC b0 N1 H1 → va_S (fun q => b0 ≤ q) s.heap H1 locs1 → W p l e R s m args below meth c H1 locs1 cells slots Q (F0 m (pc + 3) ls (.int r :: rest))) : W p l e R s m args below meth c H locs cells slots Q (F0 m pc ls (.int v2 :: .int v1 :: .ref v0 :: rest)) :=
  ab_callV (n := 2) (As := [.int v1, .int v2]) X hR hS (ct_X10_becomes h) (ob_rc (c := 10) (N := N) (a := v0) h) (T := TX10) (k := 20) (C := RX10) rfl w1 (WT_of 1132 (by decide +kernel) (by decide +kernel)) (WT_of 51 (by decide +kernel) (by decide +kernel)) (WT_of 92 (by decide +kernel) (by decide +kernel)) cw_X10_becomes ⟨rfl, by decide +kernel, by decide +kernel, by decide +kernel⟩ rfl hls hW hR1 hcs rfl hdg kk
-- X10_setCapacity
theorem mw_X10_221 : Cond.methodLink RX10 221 yX10_becomes ∈ WT := WT_of 1130 (by decide +kernel) (by decide +kernel)
theorem dX10_setCapacity_0 : decode cX10_setCapacity 0 = .ok (.iload_n 1, 1) := by decide +kernel
theorem dX10_setCapacity_1 : decode cX10_setCapacity 1 = .ok (.i2l, 1) := by decide +kernel
theorem dX10_setCapacity_2 : decode cX10_setCapacity 2 = .ok (.lconst 0, 1) := by decide +kernel
theorem dX10_setCapacity_3 : decode cX10_setCapacity 3 = .ok (.ldc2_w 219, 3) := by decide +kernel
theorem dX10_setCapacity_6 : decode cX10_setCapacity 6 = .ok (.invokestatic 60, 3) := by decide +kernel
theorem dX10_setCapacity_9 : decode cX10_setCapacity 9 = .ok (.ifCond .ne 6, 3) := by decide +kernel
theorem dX10_setCapacity_12 : decode cX10_setCapacity 12 = .ok (.bipush (-2), 2) := by decide +kernel
theorem dX10_setCapacity_14 : decode cX10_setCapacity 14 = .ok (.ireturn, 1) := by decide +kernel
theorem dX10_setCapacity_15 : decode cX10_setCapacity 15 = .ok (.iload_n 2, 1) := by decide +kernel
theorem dX10_setCapacity_16 : decode cX10_setCapacity 16 = .ok (.i2l, 1) := by decide +kernel
theorem dX10_setCapacity_17 : decode cX10_setCapacity 17 = .ok (.lconst 0, 1) := by decide +kernel
theorem dX10_setCapacity_18 : decode cX10_setCapacity 18 = .ok (.ldc2_w 210, 3) := by decide +kernel
theorem dX10_setCapacity_21 : decode cX10_setCapacity 21 = .ok (.invokestatic 60, 3) := by decide +kernel
theorem dX10_setCapacity_24 : decode cX10_setCapacity 24 = .ok (.ifCond .eq 15, 3) := by decide +kernel
theorem dX10_setCapacity_27 : decode cX10_setCapacity 27 = .ok (.aload_n 0, 1) := by decide +kernel
theorem dX10_setCapacity_28 : decode cX10_setCapacity 28 = .ok (.bipush 10, 2) := by decide +kernel
theorem dX10_setCapacity_30 : decode cX10_setCapacity 30 = .ok (.iload_n 1, 1) := by decide +kernel
theorem dX10_setCapacity_31 : decode cX10_setCapacity 31 = .ok (.iadd, 1) := by decide +kernel
theorem dX10_setCapacity_32 : decode cX10_setCapacity 32 = .ok (.iload_n 2, 1) := by decide +kernel
theorem dX10_setCapacity_33 : decode cX10_setCapacity 33 = .ok (.invokevirtual 221, 3) := by decide +kernel
theorem dX10_setCapacity_36 : decode cX10_setCapacity 36 = .ok (.goto 5, 3) := by decide +kernel
theorem dX10_setCapacity_39 : decode cX10_setCapacity 39 = .ok (.bipush (-3), 2) := by decide +kernel
theorem dX10_setCapacity_41 : decode cX10_setCapacity 41 = .ok (.ireturn, 1) := by decide +kernel
def rm_X10_setCapacity : Room := { frames := 3, cells := 0, slots := 0, locals := 67 }
section
variable {p : Program} {l : Launch} {e : Env} {s : State} {m : MethodId} {args : Array Value} {below : List Frame} {meth : Method} {c : Code} {Q : State → Prop} {G : va_G} {aC : Nat → ClassId} {t b0 : Nat}
def f_X10_setCapacity (v0 : Nat) (v1 : Int32) (v2 : Int32) (N : AH) : Option (Int32 × AH) := ob (iO N v0 10) (fun _ => ob2 (f_X10_in (Int32.toInt64 v1) (0 : Int64) (15 : Int64) N) (fun x2 N1 => if ¬ x2 = 0 then ob2 (f_X10_in (Int32.toInt64 v2) (0 : Int64) (1000 : Int64) N1) (fun x5 N4 => if x5 = 0 then some ((-3 : Int32), N4) else ob2 (f_X10_becomes v0 ((10 : Int32) + v1) v2 N4) (fun x8 N7 => some (x8, N7))) else some ((-2 : Int32), N1)))
set_option maxHeartbeats 4000000 in
set_option maxRecDepth 100000 in
theorem wk_X10_setCapacity {P : Int32 × AH → Prop} (X : CX cX10_setCapacity RX10 3 G aC t b0 p s m args c) (hr : RtI p l e rm_X10_setCapacity s m args below meth c 0 0 Q cX10_setCapacity G aC b0 P) (v0 : Nat) (v1 : Int32) (v2 : Int32) (N : AH) (H : Heap) (locs : List Loc) (ls : Array Slot) (hR : Rp G aC b0 N H) (hS : va_S (fun q => b0 ≤ q) s.heap H locs) (hl : lv_has ls 3 [(0, .ref v0), (1, .int v1), (2, .int v2)]) (hp : owp (f_X10_setCapacity v0 v1 v2 N) P) : W p l e rm_X10_setCapacity s m args below meth c H locs 0 0 Q (F0 m 0 ls []) := by
  have hx := X.1.1
  have hb := X.1.2.1
  unfold f_X10_setCapacity at hp
  obtain ⟨_, _, hp⟩ := owp_ob hp
  refine lv_iload_n hx hb dX10_setCapacity_0 rfl (lv_at hl 1 rfl) ?_
  refine lv_i2l (v := Int32.toInt64 v1) hx hb dX10_setCapacity_1 rfl ?_
  refine lv_lconst (v := 0) hx hb dX10_setCapacity_2 (by decide) ?_
  refine lv_ldc2 (own := RX10) (v := 15) hx hb X.1.2.2.2.1 (X.1.2.2.2.2 _ (WT_of 1129 (by decide +kernel) (by decide +kernel))) dX10_setCapacity_3 ?_
  obtain ⟨x2, N1, e_N1, hp⟩ := owp_ob2 hp
  refine iv_X10_in (rest := []) mw_X10_60 X hR hS e_N1 hl.1 (Nat.le_of_ble_eq_true rfl) ⟨Nat.le_of_ble_eq_true rfl, Nat.le_of_ble_eq_true rfl⟩ ⟨Nat.le_of_ble_eq_true rfl, Nat.le_of_ble_eq_true rfl⟩ dX10_setCapacity_6 (fun H locs hR hS => ?_)
  refine lv_if_ne (tgt := 15) hx hb dX10_setCapacity_9 (by decide) (fun k3 => ?_) (fun k3 => ?_)
  · have hp := owp_t k3 hp
    refine lv_iload_n hx hb dX10_setCapacity_15 rfl (lv_at hl 2 rfl) ?_
    refine lv_i2l (v := Int32.toInt64 v2) hx hb dX10_setCapacity_16 rfl ?_
    refine lv_lconst (v := 0) hx hb dX10_setCapacity_17 (by decide) ?_
    refine lv_ldc2 (own := RX10) (v := 1000) hx hb X.1.2.2.2.1 (X.1.2.2.2.2 _ (WT_of 1083 (by decide +kernel) (by decide +kernel))) dX10_setCapacity_18 ?_
    obtain ⟨x5, N4, e_N4, hp⟩ := owp_ob2 hp
    refine iv_X10_in (rest := []) mw_X10_60 X hR hS e_N4 hl.1 (Nat.le_of_ble_eq_true rfl) ⟨Nat.le_of_ble_eq_true rfl, Nat.le_of_ble_eq_true rfl⟩ ⟨Nat.le_of_ble_eq_true rfl, Nat.le_of_ble_eq_true rfl⟩ dX10_setCapacity_21 (fun H locs hR hS => ?_)
    refine lv_if_eq (tgt := 39) hx hb dX10_setCapacity_24 (by decide) (fun k6 => ?_) (fun k6 => ?_)
    · have hp := owp_t k6 hp
      refine lv_bipush (v := (-3)) hx hb dX10_setCapacity_39 (by decide) ?_
      exact hr _ _ _ _ _ _ hR hS dX10_setCapacity_41 hp
    · have hp := owp_f k6 hp
      refine lv_aload_n hx hb dX10_setCapacity_27 rfl (lv_at hl 0 rfl) ?_
      refine lv_bipush (v := (10)) hx hb dX10_setCapacity_28 (by decide) ?_
      refine lv_iload_n hx hb dX10_setCapacity_30 rfl (lv_at hl 1 rfl) ?_
      refine lv_iadd hx hb dX10_setCapacity_31 ?_
      refine lv_iload_n hx hb dX10_setCapacity_32 rfl (lv_at hl 2 rfl) ?_
      obtain ⟨x8, N7, e_N7, hp⟩ := owp_ob2 hp
      refine iv_X10_becomes (rest := []) mw_X10_221 X hR hS e_N7 hl.1 (Nat.le_of_ble_eq_true rfl) ⟨Nat.le_of_ble_eq_true rfl, Nat.le_of_ble_eq_true rfl⟩ ⟨Nat.le_of_ble_eq_true rfl, Nat.le_of_ble_eq_true rfl⟩ dX10_setCapacity_33 (fun H locs hR hS => ?_)
      refine lv_goto (tgt := 41) hx hb dX10_setCapacity_36 (by decide) ?_
      exact hr _ _ _ _ _ _ hR hS dX10_setCapacity_41 hp
  · have hp := owp_f (fun q => q k3) hp
    refine lv_bipush (v := (-2)) hx hb dX10_setCapacity_12 (by decide) ?_
    exact hr _ _ _ _ _ _ hR hS dX10_setCapacity_14 hp
end
theorem ct_X10_setCapacity {v0 : Nat} {v1 : Int32} {v2 : Int32} {N N1 : AH} {r : Int32} (h : f_X10_setCapacity v0 v1 v2 N = some (r, N1)) : Ct yX10_setCapacity cX10_setCapacity 3 (some .int) rm_X10_setCapacity [.ref v0, .int v1, .int v2] N (some (.int r)) N1 :=
  ab_met (own := RX10) (by decide +kernel) rfl (Nat.le_of_ble_eq_true rfl) (fun l G aC t b0 p e s m below meth c ls X hr hlk hnm hR hS hl => wk_X10_setCapacity X (RtI_met X.1.1 X.1.2.1 hr hlk) _ _ _ _ _ _ _ hR hS hl (owp_of h))
theorem cw_X10_setCapacity : Cond.code yX10_setCapacity cX10_setCapacity 3 (some .int) ∈ WT := WT_of 1128 (by decide +kernel) (by decide +kernel)
theorem iv_X10_setCapacity {p : Program} {l : Launch} {e : Env} {R : Room} {s : State} {m : MethodId} {args : Array Value} {below : List Frame} {meth : Method} {c : Code} {H : Heap} {locs : List Loc} {cells slots : Nat} {Q : State → Prop} {cc : ByteArray} {own : String} {nL : Nat} {G : va_G} {aC : Nat → ClassId} {t b0 : Nat} {N N1 : AH} {pc index : Nat} {ls : Array Slot} {rest : List Value} {v0 : Nat} {v1 : Int32} {v2 : Int32} {r : Int32} (w1 : Cond.methodLink own index yX10_setCapacity ∈ WT) (X : CX cc own nL G aC t b0 p s m args c) (hR : Rp G aC b0 N H) (hS : va_S (fun q => b0 ≤ q) s.heap H locs) (h : f_X10_setCapacity v0 v1 v2 N = some (r, N1)) (hls : ls.size = nL) (hW : (rest.map fun v => v.category).sum ≤ 8) (hR1 : 4 ≤ R.frames ∧ 89 ≤ R.locals) (hcs : cells + 0 ≤ R.cells ∧ slots + 0 ≤ R.slots) (hdg : decode cc pc = .ok (.invokevirtual index, 3)) (kk : ∀ (H1 : Heap) (locs1 : List Loc), Rp G aC b0 N1 H1 → va_S (fun q => b0 ≤ q) s.heap H1 locs1 → W p l e R s m args below meth c H1 locs1 cells slots Q (F0 m (pc + 3) ls (.int r :: rest))) : W p l e R s m args below meth c H locs cells slots Q (F0 m pc ls (.int v2 :: .int v1 :: .ref v0 :: rest)) :=
  ab_callV (n := 2) (As := [.int v1, .int v2]) X hR hS (ct_X10_setCapacity h) (ob_rc (c := 10) (N := N) (a := v0) h) (T := TX10) (k := 20) (C := RX10) rfl w1 (WT_of 1126 (by decide +kernel) (by decide +kernel)) (WT_of 1127 (by decide +kernel) (by decide +kernel)) (WT_of 92 (by decide +kernel) (by decide +kernel)) cw_X10_setCapacity ⟨rfl, by decide +kernel, by decide +kernel, by decide +kernel⟩ rfl hls hW hR1 hcs rfl hdg kk
-- X10_setPolicy
theorem dX10_setPolicy_0 : decode cX10_setPolicy 0 = .ok (.iload_n 1, 1) := by decide +kernel
theorem dX10_setPolicy_1 : decode cX10_setPolicy 1 = .ok (.i2l, 1) := by decide +kernel
theorem dX10_setPolicy_2 : decode cX10_setPolicy 2 = .ok (.lconst 0, 1) := by decide +kernel
theorem dX10_setPolicy_3 : decode cX10_setPolicy 3 = .ok (.ldc2_w 224, 3) := by decide +kernel
theorem dX10_setPolicy_6 : decode cX10_setPolicy 6 = .ok (.invokestatic 60, 3) := by decide +kernel
theorem dX10_setPolicy_9 : decode cX10_setPolicy 9 = .ok (.ifCond .eq 12, 3) := by decide +kernel
theorem dX10_setPolicy_12 : decode cX10_setPolicy 12 = .ok (.aload_n 0, 1) := by decide +kernel
theorem dX10_setPolicy_13 : decode cX10_setPolicy 13 = .ok (.iconst 1, 1) := by decide +kernel
theorem dX10_setPolicy_14 : decode cX10_setPolicy 14 = .ok (.iload_n 1, 1) := by decide +kernel
theorem dX10_setPolicy_15 : decode cX10_setPolicy 15 = .ok (.invokevirtual 221, 3) := by decide +kernel
theorem dX10_setPolicy_18 : decode cX10_setPolicy 18 = .ok (.goto 5, 3) := by decide +kernel
theorem dX10_setPolicy_21 : decode cX10_setPolicy 21 = .ok (.bipush (-3), 2) := by decide +kernel
theorem dX10_setPolicy_23 : decode cX10_setPolicy 23 = .ok (.ireturn, 1) := by decide +kernel
def rm_X10_setPolicy : Room := { frames := 3, cells := 0, slots := 0, locals := 67 }
section
variable {p : Program} {l : Launch} {e : Env} {s : State} {m : MethodId} {args : Array Value} {below : List Frame} {meth : Method} {c : Code} {Q : State → Prop} {G : va_G} {aC : Nat → ClassId} {t b0 : Nat}
def f_X10_setPolicy (v0 : Nat) (v1 : Int32) (N : AH) : Option (Int32 × AH) := ob (iO N v0 10) (fun _ => ob2 (f_X10_in (Int32.toInt64 v1) (0 : Int64) (5 : Int64) N) (fun x2 N1 => if x2 = 0 then some ((-3 : Int32), N1) else ob2 (f_X10_becomes v0 (1 : Int32) v1 N1) (fun x5 N4 => some (x5, N4))))
set_option maxHeartbeats 4000000 in
set_option maxRecDepth 100000 in
theorem wk_X10_setPolicy {P : Int32 × AH → Prop} (X : CX cX10_setPolicy RX10 2 G aC t b0 p s m args c) (hr : RtI p l e rm_X10_setPolicy s m args below meth c 0 0 Q cX10_setPolicy G aC b0 P) (v0 : Nat) (v1 : Int32) (N : AH) (H : Heap) (locs : List Loc) (ls : Array Slot) (hR : Rp G aC b0 N H) (hS : va_S (fun q => b0 ≤ q) s.heap H locs) (hl : lv_has ls 2 [(0, .ref v0), (1, .int v1)]) (hp : owp (f_X10_setPolicy v0 v1 N) P) : W p l e rm_X10_setPolicy s m args below meth c H locs 0 0 Q (F0 m 0 ls []) := by
  have hx := X.1.1
  have hb := X.1.2.1
  unfold f_X10_setPolicy at hp
  obtain ⟨_, _, hp⟩ := owp_ob hp
  refine lv_iload_n hx hb dX10_setPolicy_0 rfl (lv_at hl 1 rfl) ?_
  refine lv_i2l (v := Int32.toInt64 v1) hx hb dX10_setPolicy_1 rfl ?_
  refine lv_lconst (v := 0) hx hb dX10_setPolicy_2 (by decide) ?_
  refine lv_ldc2 (own := RX10) (v := 5) hx hb X.1.2.2.2.1 (X.1.2.2.2.2 _ (WT_of 1138 (by decide +kernel) (by decide +kernel))) dX10_setPolicy_3 ?_
  obtain ⟨x2, N1, e_N1, hp⟩ := owp_ob2 hp
  refine iv_X10_in (rest := []) mw_X10_60 X hR hS e_N1 hl.1 (Nat.le_of_ble_eq_true rfl) ⟨Nat.le_of_ble_eq_true rfl, Nat.le_of_ble_eq_true rfl⟩ ⟨Nat.le_of_ble_eq_true rfl, Nat.le_of_ble_eq_true rfl⟩ dX10_setPolicy_6 (fun H locs hR hS => ?_)
  refine lv_if_eq (tgt := 21) hx hb dX10_setPolicy_9 (by decide) (fun k3 => ?_) (fun k3 => ?_)
  · have hp := owp_t k3 hp
    refine lv_bipush (v := (-3)) hx hb dX10_setPolicy_21 (by decide) ?_
    exact hr _ _ _ _ _ _ hR hS dX10_setPolicy_23 hp
  · have hp := owp_f k3 hp
    refine lv_aload_n hx hb dX10_setPolicy_12 rfl (lv_at hl 0 rfl) ?_
    refine lv_iconst (v := (1)) hx hb dX10_setPolicy_13 (by decide) ?_
    refine lv_iload_n hx hb dX10_setPolicy_14 rfl (lv_at hl 1 rfl) ?_
    obtain ⟨x5, N4, e_N4, hp⟩ := owp_ob2 hp
    refine iv_X10_becomes (rest := []) mw_X10_221 X hR hS e_N4 hl.1 (Nat.le_of_ble_eq_true rfl) ⟨Nat.le_of_ble_eq_true rfl, Nat.le_of_ble_eq_true rfl⟩ ⟨Nat.le_of_ble_eq_true rfl, Nat.le_of_ble_eq_true rfl⟩ dX10_setPolicy_15 (fun H locs hR hS => ?_)
    refine lv_goto (tgt := 23) hx hb dX10_setPolicy_18 (by decide) ?_
    exact hr _ _ _ _ _ _ hR hS dX10_setPolicy_23 hp
end
theorem ct_X10_setPolicy {v0 : Nat} {v1 : Int32} {N N1 : AH} {r : Int32} (h : f_X10_setPolicy v0 v1 N = some (r, N1)) : Ct yX10_setPolicy cX10_setPolicy 2 (some .int) rm_X10_setPolicy [.ref v0, .int v1] N (some (.int r)) N1 :=
  ab_met (own := RX10) (by decide +kernel) rfl (Nat.le_of_ble_eq_true rfl) (fun l G aC t b0 p e s m below meth c ls X hr hlk hnm hR hS hl => wk_X10_setPolicy X (RtI_met X.1.1 X.1.2.1 hr hlk) _ _ _ _ _ _ hR hS hl (owp_of h))
theorem cw_X10_setPolicy : Cond.code yX10_setPolicy cX10_setPolicy 2 (some .int) ∈ WT := WT_of 1137 (by decide +kernel) (by decide +kernel)
theorem iv_X10_setPolicy {p : Program} {l : Launch} {e : Env} {R : Room} {s : State} {m : MethodId} {args : Array Value} {below : List Frame} {meth : Method} {c : Code} {H : Heap} {locs : List Loc} {cells slots : Nat} {Q : State → Prop} {cc : ByteArray} {own : String} {nL : Nat} {G : va_G} {aC : Nat → ClassId} {t b0 : Nat} {N N1 : AH} {pc index : Nat} {ls : Array Slot} {rest : List Value} {v0 : Nat} {v1 : Int32} {r : Int32} (w1 : Cond.methodLink own index yX10_setPolicy ∈ WT) (X : CX cc own nL G aC t b0 p s m args c) (hR : Rp G aC b0 N H) (hS : va_S (fun q => b0 ≤ q) s.heap H locs) (h : f_X10_setPolicy v0 v1 N = some (r, N1)) (hls : ls.size = nL) (hW : (rest.map fun v => v.category).sum ≤ 8) (hR1 : 4 ≤ R.frames ∧ 88 ≤ R.locals) (hcs : cells + 0 ≤ R.cells ∧ slots + 0 ≤ R.slots) (hdg : decode cc pc = .ok (.invokevirtual index, 3)) (kk : ∀ (H1 : Heap) (locs1 : List Loc), Rp G aC b0 N1 H1 → va_S (fun q => b0 ≤ q) s.heap H1 locs1 → W p l e R s m args below meth c H1 locs1 cells slots Q (F0 m (pc + 3) ls (.int r :: rest))) : W p l e R s m args below meth c H locs cells slots Q (F0 m pc ls (.int v1 :: .ref v0 :: rest)) :=
  ab_callV (n := 1) (As := [.int v1]) X hR hS (ct_X10_setPolicy h) (ob_rc (c := 10) (N := N) (a := v0) h) (T := TX10) (k := 20) (C := RX10) rfl w1 (WT_of 1135 (by decide +kernel) (by decide +kernel)) (WT_of 1136 (by decide +kernel) (by decide +kernel)) (WT_of 92 (by decide +kernel) (by decide +kernel)) cw_X10_setPolicy ⟨rfl, by decide +kernel, by decide +kernel, by decide +kernel⟩ rfl hls hW hR1 hcs rfl hdg kk
-- X10_setRules
theorem dX10_setRules_0 : decode cX10_setRules 0 = .ok (.aload_n 0, 1) := by decide +kernel
theorem dX10_setRules_1 : decode cX10_setRules 1 = .ok (.getfield 7, 3) := by decide +kernel
theorem dX10_setRules_4 : decode cX10_setRules 4 = .ok (.iconst 2, 1) := by decide +kernel
theorem dX10_setRules_5 : decode cX10_setRules 5 = .ok (.iaload, 1) := by decide +kernel
theorem dX10_setRules_6 : decode cX10_setRules 6 = .ok (.iconst 2, 1) := by decide +kernel
theorem dX10_setRules_7 : decode cX10_setRules 7 = .ok (.aload_n 0, 1) := by decide +kernel
theorem dX10_setRules_8 : decode cX10_setRules 8 = .ok (.getfield 7, 3) := by decide +kernel
theorem dX10_setRules_11 : decode cX10_setRules 11 = .ok (.iconst 3, 1) := by decide +kernel
theorem dX10_setRules_12 : decode cX10_setRules 12 = .ok (.iaload, 1) := by decide +kernel
theorem dX10_setRules_13 : decode cX10_setRules 13 = .ok (.imul, 1) := by decide +kernel
theorem dX10_setRules_14 : decode cX10_setRules 14 = .ok (.iadd, 1) := by decide +kernel
theorem dX10_setRules_15 : decode cX10_setRules 15 = .ok (.istore_n 3, 1) := by decide +kernel
theorem dX10_setRules_16 : decode cX10_setRules 16 = .ok (.aload_n 0, 1) := by decide +kernel
theorem dX10_setRules_17 : decode cX10_setRules 17 = .ok (.invokevirtual 203, 3) := by decide +kernel
theorem dX10_setRules_20 : decode cX10_setRules 20 = .ok (.aload_n 0, 1) := by decide +kernel
theorem dX10_setRules_21 : decode cX10_setRules 21 = .ok (.getfield 7, 3) := by decide +kernel
theorem dX10_setRules_24 : decode cX10_setRules 24 = .ok (.iconst 2, 1) := by decide +kernel
theorem dX10_setRules_25 : decode cX10_setRules 25 = .ok (.iload_n 1, 1) := by decide +kernel
theorem dX10_setRules_26 : decode cX10_setRules 26 = .ok (.ifCond .eq 7, 3) := by decide +kernel
theorem dX10_setRules_29 : decode cX10_setRules 29 = .ok (.iconst 1, 1) := by decide +kernel
theorem dX10_setRules_30 : decode cX10_setRules 30 = .ok (.goto 4, 3) := by decide +kernel
theorem dX10_setRules_33 : decode cX10_setRules 33 = .ok (.iconst 0, 1) := by decide +kernel
theorem dX10_setRules_34 : decode cX10_setRules 34 = .ok (.iastore, 1) := by decide +kernel
theorem dX10_setRules_35 : decode cX10_setRules 35 = .ok (.aload_n 0, 1) := by decide +kernel
theorem dX10_setRules_36 : decode cX10_setRules 36 = .ok (.getfield 7, 3) := by decide +kernel
theorem dX10_setRules_39 : decode cX10_setRules 39 = .ok (.iconst 3, 1) := by decide +kernel
theorem dX10_setRules_40 : decode cX10_setRules 40 = .ok (.iload_n 2, 1) := by decide +kernel
theorem dX10_setRules_41 : decode cX10_setRules 41 = .ok (.ifCond .eq 7, 3) := by decide +kernel
theorem dX10_setRules_44 : decode cX10_setRules 44 = .ok (.iconst 1, 1) := by decide +kernel
theorem dX10_setRules_45 : decode cX10_setRules 45 = .ok (.goto 4, 3) := by decide +kernel
theorem dX10_setRules_48 : decode cX10_setRules 48 = .ok (.iconst 0, 1) := by decide +kernel
theorem dX10_setRules_49 : decode cX10_setRules 49 = .ok (.iastore, 1) := by decide +kernel
theorem dX10_setRules_50 : decode cX10_setRules 50 = .ok (.iload_n 3, 1) := by decide +kernel
theorem dX10_setRules_51 : decode cX10_setRules 51 = .ok (.ireturn, 1) := by decide +kernel
def rm_X10_setRules : Room := { frames := 2, cells := 0, slots := 0, locals := 44 }
section
variable {p : Program} {l : Launch} {e : Env} {s : State} {m : MethodId} {args : Array Value} {below : List Frame} {meth : Method} {c : Code} {Q : State → Prop} {G : va_G} {aC : Nat → ClassId} {t b0 : Nat}
def f_X10_setRules_J34 (v0 : Nat) (v2 : Int32) (v3 : Int32) (w0 : Nat) (w1 : Int32) (w2 : Int32) (N : AH) : Option (Int32 × AH) := ob (sI N w0 w1 w2) (fun N8 => ob (hR N8 v0 10 0) (fun x9 => if v2 = 0 then ob (sI N8 x9 (3 : Int32) (0 : Int32)) (fun N11 => some (v3, N11)) else ob (sI N8 x9 (3 : Int32) (1 : Int32)) (fun N12 => some (v3, N12))))
set_option maxHeartbeats 4000000 in
set_option maxRecDepth 100000 in
theorem w_X10_setRules_J34 {P : Int32 × AH → Prop} (X : CX cX10_setRules RX10 4 G aC t b0 p s m args c) (hr : RtI p l e rm_X10_setRules s m args below meth c 0 0 Q cX10_setRules G aC b0 P) (v0 : Nat) (v2 : Int32) (v3 : Int32) (w0 : Nat) (w1 : Int32) (w2 : Int32) (N : AH) (H : Heap) (locs : List Loc) (ls : Array Slot) (hR : Rp G aC b0 N H) (hS : va_S (fun q => b0 ≤ q) s.heap H locs) (hl : lv_has ls 4 [(0, .ref v0), (2, .int v2), (3, .int v3)]) (hp : owp (f_X10_setRules_J34 v0 v2 v3 w0 w1 w2 N) P) : W p l e rm_X10_setRules s m args below meth c H locs 0 0 Q (F0 m 34 ls [.int w2, .int w1, .ref w0]) := by
  have hx := X.1.1
  have hb := X.1.2.1
  unfold f_X10_setRules_J34 at hp
  obtain ⟨N8, e_N8, hp⟩ := owp_ob hp
  refine ab_iast X hR hS e_N8 dX10_setRules_34 (fun H locs hR hS => ?_)
  refine lv_aload_n hx hb dX10_setRules_35 rfl (lv_at hl 0 rfl) ?_
  obtain ⟨x9, e_x9, hp⟩ := owp_ob hp
  refine gf_X10_7 X hR e_x9 dX10_setRules_36 ?_
  refine lv_iconst (v := (3)) hx hb dX10_setRules_39 (by decide) ?_
  refine lv_iload_n hx hb dX10_setRules_40 rfl (lv_at hl 1 rfl) ?_
  refine lv_if_eq (tgt := 48) hx hb dX10_setRules_41 (by decide) (fun k10 => ?_) (fun k10 => ?_)
  · have hp := owp_t k10 hp
    refine lv_iconst (v := (0)) hx hb dX10_setRules_48 (by decide) ?_
    obtain ⟨N11, e_N11, hp⟩ := owp_ob hp
    refine ab_iast X hR hS e_N11 dX10_setRules_49 (fun H locs hR hS => ?_)
    refine lv_iload_n hx hb dX10_setRules_50 rfl (lv_at hl 2 rfl) ?_
    exact hr _ _ _ _ _ _ hR hS dX10_setRules_51 hp
  · have hp := owp_f k10 hp
    refine lv_iconst (v := (1)) hx hb dX10_setRules_44 (by decide) ?_
    refine lv_goto (tgt := 49) hx hb dX10_setRules_45 (by decide) ?_
    obtain ⟨N12, e_N12, hp⟩ := owp_ob hp
    refine ab_iast X hR hS e_N12 dX10_setRules_49 (fun H locs hR hS => ?_)
    refine lv_iload_n hx hb dX10_setRules_50 rfl (lv_at hl 2 rfl) ?_
    exact hr _ _ _ _ _ _ hR hS dX10_setRules_51 hp
def f_X10_setRules (v0 : Nat) (v1 : Int32) (v2 : Int32) (N : AH) : Option (Int32 × AH) := ob (iO N v0 10) (fun _ => ob (hR N v0 10 0) (fun x1 => ob (aI N x1 (2 : Int32)) (fun x2 => ob (hR N v0 10 0) (fun x3 => ob (aI N x3 (3 : Int32)) (fun x4 => ob2 (f_X10_saves v0 N) (fun _ N5 => ob (hR N5 v0 10 0) (fun x6 => if v1 = 0 then f_X10_setRules_J34 v0 v2 (x2 + ((2 : Int32) * x4)) x6 (2 : Int32) (0 : Int32) N5 else f_X10_setRules_J34 v0 v2 (x2 + ((2 : Int32) * x4)) x6 (2 : Int32) (1 : Int32) N5)))))))
set_option maxHeartbeats 4000000 in
set_option maxRecDepth 100000 in
theorem wk_X10_setRules {P : Int32 × AH → Prop} (X : CX cX10_setRules RX10 4 G aC t b0 p s m args c) (hr : RtI p l e rm_X10_setRules s m args below meth c 0 0 Q cX10_setRules G aC b0 P) (v0 : Nat) (v1 : Int32) (v2 : Int32) (N : AH) (H : Heap) (locs : List Loc) (ls : Array Slot) (hR : Rp G aC b0 N H) (hS : va_S (fun q => b0 ≤ q) s.heap H locs) (hl : lv_has ls 4 [(0, .ref v0), (1, .int v1), (2, .int v2)]) (hp : owp (f_X10_setRules v0 v1 v2 N) P) : W p l e rm_X10_setRules s m args below meth c H locs 0 0 Q (F0 m 0 ls []) := by
  have hx := X.1.1
  have hb := X.1.2.1
  unfold f_X10_setRules at hp
  obtain ⟨_, _, hp⟩ := owp_ob hp
  refine lv_aload_n hx hb dX10_setRules_0 rfl (lv_at hl 0 rfl) ?_
  obtain ⟨x1, e_x1, hp⟩ := owp_ob hp
  refine gf_X10_7 X hR e_x1 dX10_setRules_1 ?_
  refine lv_iconst (v := (2)) hx hb dX10_setRules_4 (by decide) ?_
  obtain ⟨x2, e_x2, hp⟩ := owp_ob hp
  refine ab_iald X hR e_x2 dX10_setRules_5 ?_
  refine lv_iconst (v := (2)) hx hb dX10_setRules_6 (by decide) ?_
  refine lv_aload_n hx hb dX10_setRules_7 rfl (lv_at hl 0 rfl) ?_
  obtain ⟨x3, e_x3, hp⟩ := owp_ob hp
  refine gf_X10_7 X hR e_x3 dX10_setRules_8 ?_
  refine lv_iconst (v := (3)) hx hb dX10_setRules_11 (by decide) ?_
  obtain ⟨x4, e_x4, hp⟩ := owp_ob hp
  refine ab_iald X hR e_x4 dX10_setRules_12 ?_
  refine lv_imul hx hb dX10_setRules_13 ?_
  refine lv_iadd hx hb dX10_setRules_14 ?_
  refine lv_istore_n (lv' := [(3, .int (x2 + ((2 : Int32) * x4))), (0, .ref v0), (1, .int v1), (2, .int v2)]) hx hb dX10_setRules_15 rfl hl (by decide) rfl (fun ls hl => ?_)
  refine lv_aload_n hx hb dX10_setRules_16 rfl (lv_at hl 1 rfl) ?_
  obtain ⟨_, N5, e_N5, hp⟩ := owp_ob2 hp
  refine iv_X10_saves (rest := []) mw_X10_203 X hR hS e_N5 hl.1 (Nat.le_of_ble_eq_true rfl) ⟨Nat.le_of_ble_eq_true rfl, Nat.le_of_ble_eq_true rfl⟩ ⟨Nat.le_of_ble_eq_true rfl, Nat.le_of_ble_eq_true rfl⟩ dX10_setRules_17 (fun H locs hR hS => ?_)
  refine lv_aload_n hx hb dX10_setRules_20 rfl (lv_at hl 1 rfl) ?_
  obtain ⟨x6, e_x6, hp⟩ := owp_ob hp
  refine gf_X10_7 X hR e_x6 dX10_setRules_21 ?_
  refine lv_iconst (v := (2)) hx hb dX10_setRules_24 (by decide) ?_
  refine lv_iload_n hx hb dX10_setRules_25 rfl (lv_at hl 2 rfl) ?_
  refine lv_if_eq (tgt := 33) hx hb dX10_setRules_26 (by decide) (fun k7 => ?_) (fun k7 => ?_)
  · have hp := owp_t k7 hp
    refine lv_iconst (v := (0)) hx hb dX10_setRules_33 (by decide) ?_
    exact w_X10_setRules_J34 X hr _ _ _ _ _ _ _ _ _ _ hR hS (lv_sub hl [1, 3, 0] rfl) hp
  · have hp := owp_f k7 hp
    refine lv_iconst (v := (1)) hx hb dX10_setRules_29 (by decide) ?_
    refine lv_goto (tgt := 34) hx hb dX10_setRules_30 (by decide) ?_
    exact w_X10_setRules_J34 X hr _ _ _ _ _ _ _ _ _ _ hR hS (lv_sub hl [1, 3, 0] rfl) hp
end
theorem ct_X10_setRules {v0 : Nat} {v1 : Int32} {v2 : Int32} {N N1 : AH} {r : Int32} (h : f_X10_setRules v0 v1 v2 N = some (r, N1)) : Ct yX10_setRules cX10_setRules 4 (some .int) rm_X10_setRules [.ref v0, .int v1, .int v2] N (some (.int r)) N1 :=
  ab_met (own := RX10) (by decide +kernel) rfl (Nat.le_of_ble_eq_true rfl) (fun l G aC t b0 p e s m below meth c ls X hr hlk hnm hR hS hl => wk_X10_setRules X (RtI_met X.1.1 X.1.2.1 hr hlk) _ _ _ _ _ _ _ hR hS hl (owp_of h))
theorem cw_X10_setRules : Cond.code yX10_setRules cX10_setRules 4 (some .int) ∈ WT := WT_of 1142 (by decide +kernel) (by decide +kernel)
theorem iv_X10_setRules {p : Program} {l : Launch} {e : Env} {R : Room} {s : State} {m : MethodId} {args : Array Value} {below : List Frame} {meth : Method} {c : Code} {H : Heap} {locs : List Loc} {cells slots : Nat} {Q : State → Prop} {cc : ByteArray} {own : String} {nL : Nat} {G : va_G} {aC : Nat → ClassId} {t b0 : Nat} {N N1 : AH} {pc index : Nat} {ls : Array Slot} {rest : List Value} {v0 : Nat} {v1 : Int32} {v2 : Int32} {r : Int32} (w1 : Cond.methodLink own index yX10_setRules ∈ WT) (X : CX cc own nL G aC t b0 p s m args c) (hR : Rp G aC b0 N H) (hS : va_S (fun q => b0 ≤ q) s.heap H locs) (h : f_X10_setRules v0 v1 v2 N = some (r, N1)) (hls : ls.size = nL) (hW : (rest.map fun v => v.category).sum ≤ 8) (hR1 : 3 ≤ R.frames ∧ 67 ≤ R.locals) (hcs : cells + 0 ≤ R.cells ∧ slots + 0 ≤ R.slots) (hdg : decode cc pc = .ok (.invokevirtual index, 3)) (kk : ∀ (H1 : Heap) (locs1 : List Loc), Rp G aC b0 N1 H1 → va_S (fun q => b0 ≤ q) s.heap H1 locs1 → W p l e R s m args below meth c H1 locs1 cells slots Q (F0 m (pc + 3) ls (.int r :: rest))) : W p l e R s m args below meth c H locs cells slots Q (F0 m pc ls (.int v2 :: .int v1 :: .ref v0 :: rest)) :=
  ab_callV (n := 2) (As := [.int v1, .int v2]) X hR hS (ct_X10_setRules h) (ob_rc (c := 10) (N := N) (a := v0) h) (T := TX10) (k := 20) (C := RX10) rfl w1 (WT_of 1140 (by decide +kernel) (by decide +kernel)) (WT_of 1141 (by decide +kernel) (by decide +kernel)) (WT_of 92 (by decide +kernel) (by decide +kernel)) cw_X10_setRules ⟨rfl, by decide +kernel, by decide +kernel, by decide +kernel⟩ rfl hls hW hR1 hcs rfl hdg kk
-- X10_pass
theorem mw_X10_228 : Cond.methodLink RX10 228 yX10_ticks ∈ WT := WT_of 1148 (by decide +kernel) (by decide +kernel)
theorem dX10_pass_0 : decode cX10_pass 0 = .ok (.iload_n 1, 1) := by decide +kernel
theorem dX10_pass_1 : decode cX10_pass 1 = .ok (.i2l, 1) := by decide +kernel
theorem dX10_pass_2 : decode cX10_pass 2 = .ok (.lconst 1, 1) := by decide +kernel
theorem dX10_pass_3 : decode cX10_pass 3 = .ok (.ldc2_w 226, 3) := by decide +kernel
theorem dX10_pass_6 : decode cX10_pass 6 = .ok (.invokestatic 60, 3) := by decide +kernel
theorem dX10_pass_9 : decode cX10_pass 9 = .ok (.ifCond .ne 6, 3) := by decide +kernel
theorem dX10_pass_12 : decode cX10_pass 12 = .ok (.bipush (-3), 2) := by decide +kernel
theorem dX10_pass_14 : decode cX10_pass 14 = .ok (.ireturn, 1) := by decide +kernel
theorem dX10_pass_15 : decode cX10_pass 15 = .ok (.aload_n 0, 1) := by decide +kernel
theorem dX10_pass_16 : decode cX10_pass 16 = .ok (.invokevirtual 203, 3) := by decide +kernel
theorem dX10_pass_19 : decode cX10_pass 19 = .ok (.iconst 0, 1) := by decide +kernel
theorem dX10_pass_20 : decode cX10_pass 20 = .ok (.istore_n 2, 1) := by decide +kernel
theorem dX10_pass_21 : decode cX10_pass 21 = .ok (.iload_n 2, 1) := by decide +kernel
theorem dX10_pass_22 : decode cX10_pass 22 = .ok (.iload_n 1, 1) := by decide +kernel
theorem dX10_pass_23 : decode cX10_pass 23 = .ok (.if_icmp .ge 13, 3) := by decide +kernel
theorem dX10_pass_26 : decode cX10_pass 26 = .ok (.aload_n 0, 1) := by decide +kernel
theorem dX10_pass_27 : decode cX10_pass 27 = .ok (.invokevirtual 228, 3) := by decide +kernel
theorem dX10_pass_30 : decode cX10_pass 30 = .ok (.iinc 2 1, 3) := by decide +kernel
theorem dX10_pass_33 : decode cX10_pass 33 = .ok (.goto (-12), 3) := by decide +kernel
theorem dX10_pass_36 : decode cX10_pass 36 = .ok (.aload_n 0, 1) := by decide +kernel
theorem dX10_pass_37 : decode cX10_pass 37 = .ok (.iconst 1, 1) := by decide +kernel
theorem dX10_pass_38 : decode cX10_pass 38 = .ok (.invokevirtual 150, 3) := by decide +kernel
theorem dX10_pass_41 : decode cX10_pass 41 = .ok (.ireturn, 1) := by decide +kernel
def rm_X10_pass : Room := { frames := 9, cells := 0, slots := 0, locals := 203 }
section
variable {p : Program} {l : Launch} {e : Env} {s : State} {m : MethodId} {args : Array Value} {below : List Frame} {meth : Method} {c : Code} {Q : State → Prop} {G : va_G} {aC : Nat → ClassId} {t b0 : Nat}
def f_X10_pass_L21 (v0 : Nat) (v1 : Int32) (k36 : AH → Option (Int32 × AH)) : Nat → Int32 → AH → Option (Int32 × AH)
  | 0, _, _ => none
  | n + 1, v2, N => if v1 ≤ v2 then k36 N else ob2 (f_X10_ticks v0 N) (fun _ N6 => f_X10_pass_L21 v0 v1 k36 n (v2 + 1) N6)
set_option maxHeartbeats 4000000 in
set_option maxRecDepth 100000 in
theorem w_X10_pass_L21 {P : Int32 × AH → Prop} (X : CX cX10_pass RX10 3 G aC t b0 p s m args c) (hr : RtI p l e rm_X10_pass s m args below meth c 0 0 Q cX10_pass G aC b0 P) (v0 : Nat) (v1 : Int32) {k36 : AH → Option (Int32 × AH)}
    (hk36 : ∀ (N : AH) (H : Heap) (locs : List Loc) (ls : Array Slot), Rp G aC b0 N H → va_S (fun q => b0 ≤ q) s.heap H locs → lv_has ls 3 [(0, .ref v0)] → owp (k36 N) P → W p l e rm_X10_pass s m args below meth c H locs 0 0 Q (F0 m 36 ls [])) :
    ∀ (n : Nat) (v2 : Int32) (N : AH) (H : Heap) (locs : List Loc) (ls : Array Slot), Rp G aC b0 N H → va_S (fun q => b0 ≤ q) s.heap H locs → lv_has ls 3 [(0, .ref v0), (1, .int v1), (2, .int v2)] → owp (f_X10_pass_L21 v0 v1 k36 n v2 N) P → W p l e rm_X10_pass s m args below meth c H locs 0 0 Q (F0 m 21 ls []) := by
  have hx := X.1.1
  have hb := X.1.2.1
  intro n
  induction n with
  | zero =>
    intro v2 N H locs ls hR hS hl hp
    exact (show False from hp).elim
  | succ n ih =>
    intro v2 N H locs ls hR hS hl hp
    rw [f_X10_pass_L21] at hp
    refine lv_iload_n hx hb dX10_pass_21 rfl (lv_at hl 2 rfl) ?_
    refine lv_iload_n hx hb dX10_pass_22 rfl (lv_at hl 1 rfl) ?_
    refine lv_icmp_ge (tgt := 36) hx hb dX10_pass_23 (by decide) (fun k5 => ?_) (fun k5 => ?_)
    · have hp := owp_t k5 hp
      exact hk36 _ _ _ _ hR hS (lv_sub hl [0] rfl) hp
    · have hp := owp_f k5 hp
      refine lv_aload_n hx hb dX10_pass_26 rfl (lv_at hl 0 rfl) ?_
      obtain ⟨_, N6, e_N6, hp⟩ := owp_ob2 hp
      refine iv_X10_ticks (rest := []) mw_X10_228 X hR hS e_N6 hl.1 (Nat.le_of_ble_eq_true rfl) ⟨Nat.le_of_ble_eq_true rfl, Nat.le_of_ble_eq_true rfl⟩ ⟨Nat.le_of_ble_eq_true rfl, Nat.le_of_ble_eq_true rfl⟩ dX10_pass_27 (fun H locs hR hS => ?_)
      refine lv_iinc (v := v2 + 1) (lv' := [(2, .int (v2 + 1)), (0, .ref v0), (1, .int v1)]) hx hb dX10_pass_30 hl (k := 2) rfl rfl (by decide) rfl (fun ls hl => ?_)
      refine lv_goto (tgt := 21) hx hb dX10_pass_33 (by decide) ?_
      exact ih _ _ _ _ _ hR hS (lv_sub hl [1, 2, 0] rfl) hp
def f_X10_pass (v0 : Nat) (v1 : Int32) (N : AH) : Option (Int32 × AH) := ob (iO N v0 10) (fun _ => ob2 (f_X10_in (Int32.toInt64 v1) (1 : Int64) (500 : Int64) N) (fun x2 N1 => if ¬ x2 = 0 then ob2 (f_X10_saves v0 N1) (fun _ N4 => f_X10_pass_L21 v0 v1 (fun N7 => ob2 (f_X10_many v0 (1 : Int32) N7) (fun x9 N8 => some (x9, N8))) FU (0 : Int32) N4) else some ((-3 : Int32), N1)))
set_option maxHeartbeats 4000000 in
set_option maxRecDepth 100000 in
theorem wk_X10_pass {P : Int32 × AH → Prop} (X : CX cX10_pass RX10 3 G aC t b0 p s m args c) (hr : RtI p l e rm_X10_pass s m args below meth c 0 0 Q cX10_pass G aC b0 P) (v0 : Nat) (v1 : Int32) (N : AH) (H : Heap) (locs : List Loc) (ls : Array Slot) (hR : Rp G aC b0 N H) (hS : va_S (fun q => b0 ≤ q) s.heap H locs) (hl : lv_has ls 3 [(0, .ref v0), (1, .int v1)]) (hp : owp (f_X10_pass v0 v1 N) P) : W p l e rm_X10_pass s m args below meth c H locs 0 0 Q (F0 m 0 ls []) := by
  have hx := X.1.1
  have hb := X.1.2.1
  unfold f_X10_pass at hp
  obtain ⟨_, _, hp⟩ := owp_ob hp
  refine lv_iload_n hx hb dX10_pass_0 rfl (lv_at hl 1 rfl) ?_
  refine lv_i2l (v := Int32.toInt64 v1) hx hb dX10_pass_1 rfl ?_
  refine lv_lconst (v := 1) hx hb dX10_pass_2 (by decide) ?_
  refine lv_ldc2 (own := RX10) (v := 500) hx hb X.1.2.2.2.1 (X.1.2.2.2.2 _ (WT_of 1147 (by decide +kernel) (by decide +kernel))) dX10_pass_3 ?_
  obtain ⟨x2, N1, e_N1, hp⟩ := owp_ob2 hp
  refine iv_X10_in (rest := []) mw_X10_60 X hR hS e_N1 hl.1 (Nat.le_of_ble_eq_true rfl) ⟨Nat.le_of_ble_eq_true rfl, Nat.le_of_ble_eq_true rfl⟩ ⟨Nat.le_of_ble_eq_true rfl, Nat.le_of_ble_eq_true rfl⟩ dX10_pass_6 (fun H locs hR hS => ?_)
  refine lv_if_ne (tgt := 15) hx hb dX10_pass_9 (by decide) (fun k3 => ?_) (fun k3 => ?_)
  · have hp := owp_t k3 hp
    refine lv_aload_n hx hb dX10_pass_15 rfl (lv_at hl 0 rfl) ?_
    obtain ⟨_, N4, e_N4, hp⟩ := owp_ob2 hp
    refine iv_X10_saves (rest := []) mw_X10_203 X hR hS e_N4 hl.1 (Nat.le_of_ble_eq_true rfl) ⟨Nat.le_of_ble_eq_true rfl, Nat.le_of_ble_eq_true rfl⟩ ⟨Nat.le_of_ble_eq_true rfl, Nat.le_of_ble_eq_true rfl⟩ dX10_pass_16 (fun H locs hR hS => ?_)
    refine lv_iconst (v := (0)) hx hb dX10_pass_19 (by decide) ?_
    refine lv_istore_n (lv' := [(2, .int (0 : Int32)), (0, .ref v0), (1, .int v1)]) hx hb dX10_pass_20 rfl hl (by decide) rfl (fun ls hl => ?_)
    refine w_X10_pass_L21 X hr _ _ (fun N7 H locs ls hR hS hl hp => ?_) _ _ _ _ _ _ hR hS (lv_sub hl [1, 2, 0] rfl) hp
    refine lv_aload_n hx hb dX10_pass_36 rfl (lv_at hl 0 rfl) ?_
    refine lv_iconst (v := (1)) hx hb dX10_pass_37 (by decide) ?_
    obtain ⟨x9, N8, e_N8, hp⟩ := owp_ob2 hp
    refine iv_X10_many (rest := []) mw_X10_150 X hR hS e_N8 hl.1 (Nat.le_of_ble_eq_true rfl) ⟨Nat.le_of_ble_eq_true rfl, Nat.le_of_ble_eq_true rfl⟩ ⟨Nat.le_of_ble_eq_true rfl, Nat.le_of_ble_eq_true rfl⟩ dX10_pass_38 (fun H locs hR hS => ?_)
    exact hr _ _ _ _ _ _ hR hS dX10_pass_41 hp
  · have hp := owp_f (fun q => q k3) hp
    refine lv_bipush (v := (-3)) hx hb dX10_pass_12 (by decide) ?_
    exact hr _ _ _ _ _ _ hR hS dX10_pass_14 hp
end
theorem ct_X10_pass {v0 : Nat} {v1 : Int32} {N N1 : AH} {r : Int32} (h : f_X10_pass v0 v1 N = some (r, N1)) : Ct yX10_pass cX10_pass 3 (some .int) rm_X10_pass [.ref v0, .int v1] N (some (.int r)) N1 :=
  ab_met (own := RX10) (by decide +kernel) rfl (Nat.le_of_ble_eq_true rfl) (fun l G aC t b0 p e s m below meth c ls X hr hlk hnm hR hS hl => wk_X10_pass X (RtI_met X.1.1 X.1.2.1 hr hlk) _ _ _ _ _ _ hR hS hl (owp_of h))
theorem cw_X10_pass : Cond.code yX10_pass cX10_pass 3 (some .int) ∈ WT := WT_of 1146 (by decide +kernel) (by decide +kernel)
theorem iv_X10_pass {p : Program} {l : Launch} {e : Env} {R : Room} {s : State} {m : MethodId} {args : Array Value} {below : List Frame} {meth : Method} {c : Code} {H : Heap} {locs : List Loc} {cells slots : Nat} {Q : State → Prop} {cc : ByteArray} {own : String} {nL : Nat} {G : va_G} {aC : Nat → ClassId} {t b0 : Nat} {N N1 : AH} {pc index : Nat} {ls : Array Slot} {rest : List Value} {v0 : Nat} {v1 : Int32} {r : Int32} (w1 : Cond.methodLink own index yX10_pass ∈ WT) (X : CX cc own nL G aC t b0 p s m args c) (hR : Rp G aC b0 N H) (hS : va_S (fun q => b0 ≤ q) s.heap H locs) (h : f_X10_pass v0 v1 N = some (r, N1)) (hls : ls.size = nL) (hW : (rest.map fun v => v.category).sum ≤ 8) (hR1 : 10 ≤ R.frames ∧ 225 ≤ R.locals) (hcs : cells + 0 ≤ R.cells ∧ slots + 0 ≤ R.slots) (hdg : decode cc pc = .ok (.invokevirtual index, 3)) (kk : ∀ (H1 : Heap) (locs1 : List Loc), Rp G aC b0 N1 H1 → va_S (fun q => b0 ≤ q) s.heap H1 locs1 → W p l e R s m args below meth c H1 locs1 cells slots Q (F0 m (pc + 3) ls (.int r :: rest))) : W p l e R s m args below meth c H locs cells slots Q (F0 m pc ls (.int v1 :: .ref v0 :: rest)) :=
  ab_callV (n := 1) (As := [.int v1]) X hR hS (ct_X10_pass h) (ob_rc (c := 10) (N := N) (a := v0) h) (T := TX10) (k := 20) (C := RX10) rfl w1 (WT_of 1144 (by decide +kernel) (by decide +kernel)) (WT_of 1145 (by decide +kernel) (by decide +kernel)) (WT_of 92 (by decide +kernel) (by decide +kernel)) cw_X10_pass ⟨rfl, by decide +kernel, by decide +kernel, by decide +kernel⟩ rfl hls hW hR1 hcs rfl hdg kk
-- X10_undo
theorem dX10_undo_0 : decode cX10_undo 0 = .ok (.aload_n 0, 1) := by decide +kernel
theorem dX10_undo_1 : decode cX10_undo 1 = .ok (.getfield 44, 3) := by decide +kernel
theorem dX10_undo_4 : decode cX10_undo 4 = .ok (.ifCond .ne 6, 3) := by decide +kernel
theorem dX10_undo_7 : decode cX10_undo 7 = .ok (.bipush (-4), 2) := by decide +kernel
theorem dX10_undo_9 : decode cX10_undo 9 = .ok (.ireturn, 1) := by decide +kernel
theorem dX10_undo_10 : decode cX10_undo 10 = .ok (.aload_n 0, 1) := by decide +kernel
theorem dX10_undo_11 : decode cX10_undo 11 = .ok (.sipush 1182, 3) := by decide +kernel
theorem dX10_undo_14 : decode cX10_undo 14 = .ok (.aload_n 0, 1) := by decide +kernel
theorem dX10_undo_15 : decode cX10_undo 15 = .ok (.getfield 44, 3) := by decide +kernel
theorem dX10_undo_18 : decode cX10_undo 18 = .ok (.imul, 1) := by decide +kernel
theorem dX10_undo_19 : decode cX10_undo 19 = .ok (.iconst 0, 1) := by decide +kernel
theorem dX10_undo_20 : decode cX10_undo 20 = .ok (.invokevirtual 48, 3) := by decide +kernel
theorem dX10_undo_23 : decode cX10_undo 23 = .ok (.aload_n 0, 1) := by decide +kernel
theorem dX10_undo_24 : decode cX10_undo 24 = .ok (.dup, 1) := by decide +kernel
theorem dX10_undo_25 : decode cX10_undo 25 = .ok (.getfield 44, 3) := by decide +kernel
theorem dX10_undo_28 : decode cX10_undo 28 = .ok (.iconst 1, 1) := by decide +kernel
theorem dX10_undo_29 : decode cX10_undo 29 = .ok (.isub, 1) := by decide +kernel
theorem dX10_undo_30 : decode cX10_undo 30 = .ok (.putfield 44, 3) := by decide +kernel
theorem dX10_undo_33 : decode cX10_undo 33 = .ok (.aload_n 0, 1) := by decide +kernel
theorem dX10_undo_34 : decode cX10_undo 34 = .ok (.getfield 44, 3) := by decide +kernel
theorem dX10_undo_37 : decode cX10_undo 37 = .ok (.ireturn, 1) := by decide +kernel
def rm_X10_undo : Room := { frames := 1, cells := 0, slots := 0, locals := 23 }
section
variable {p : Program} {l : Launch} {e : Env} {s : State} {m : MethodId} {args : Array Value} {below : List Frame} {meth : Method} {c : Code} {Q : State → Prop} {G : va_G} {aC : Nat → ClassId} {t b0 : Nat}
def f_X10_undo (v0 : Nat) (N : AH) : Option (Int32 × AH) := ob (iO N v0 10) (fun _ => ob (hI N v0 10 1) (fun x1 => if ¬ x1 = 0 then ob (hI N v0 10 1) (fun x3 => ob2 (f_X10_copies v0 ((1182 : Int32) * x3) (0 : Int32) N) (fun _ N4 => ob (hI N4 v0 10 1) (fun x5 => ob (pI N4 v0 10 1 (x5 - (1 : Int32))) (fun N6 => ob (hI N6 v0 10 1) (fun x7 => some (x7, N6)))))) else some ((-4 : Int32), N)))
set_option maxHeartbeats 4000000 in
set_option maxRecDepth 100000 in
theorem wk_X10_undo {P : Int32 × AH → Prop} (X : CX cX10_undo RX10 1 G aC t b0 p s m args c) (hr : RtI p l e rm_X10_undo s m args below meth c 0 0 Q cX10_undo G aC b0 P) (v0 : Nat) (N : AH) (H : Heap) (locs : List Loc) (ls : Array Slot) (hR : Rp G aC b0 N H) (hS : va_S (fun q => b0 ≤ q) s.heap H locs) (hl : lv_has ls 1 [(0, .ref v0)]) (hp : owp (f_X10_undo v0 N) P) : W p l e rm_X10_undo s m args below meth c H locs 0 0 Q (F0 m 0 ls []) := by
  have hx := X.1.1
  have hb := X.1.2.1
  unfold f_X10_undo at hp
  obtain ⟨_, _, hp⟩ := owp_ob hp
  refine lv_aload_n hx hb dX10_undo_0 rfl (lv_at hl 0 rfl) ?_
  obtain ⟨x1, e_x1, hp⟩ := owp_ob hp
  refine gf_X10_44 X hR e_x1 dX10_undo_1 ?_
  refine lv_if_ne (tgt := 10) hx hb dX10_undo_4 (by decide) (fun k2 => ?_) (fun k2 => ?_)
  · have hp := owp_t k2 hp
    refine lv_aload_n hx hb dX10_undo_10 rfl (lv_at hl 0 rfl) ?_
    refine lv_sipush (v := (1182)) hx hb dX10_undo_11 (by decide) ?_
    refine lv_aload_n hx hb dX10_undo_14 rfl (lv_at hl 0 rfl) ?_
    obtain ⟨x3, e_x3, hp⟩ := owp_ob hp
    refine gf_X10_44 X hR e_x3 dX10_undo_15 ?_
    refine lv_imul hx hb dX10_undo_18 ?_
    refine lv_iconst (v := (0)) hx hb dX10_undo_19 (by decide) ?_
    obtain ⟨_, N4, e_N4, hp⟩ := owp_ob2 hp
    refine iv_X10_copies (rest := []) mw_X10_48 X hR hS e_N4 hl.1 (Nat.le_of_ble_eq_true rfl) ⟨Nat.le_of_ble_eq_true rfl, Nat.le_of_ble_eq_true rfl⟩ ⟨Nat.le_of_ble_eq_true rfl, Nat.le_of_ble_eq_true rfl⟩ dX10_undo_20 (fun H locs hR hS => ?_)
    refine lv_aload_n hx hb dX10_undo_23 rfl (lv_at hl 0 rfl) ?_
    refine lv_dup hx hb dX10_undo_24 rfl ?_
    obtain ⟨x5, e_x5, hp⟩ := owp_ob hp
    refine gf_X10_44 X hR e_x5 dX10_undo_25 ?_
    refine lv_iconst (v := (1)) hx hb dX10_undo_28 (by decide) ?_
    refine lv_isub hx hb dX10_undo_29 ?_
    obtain ⟨N6, e_N6, hp⟩ := owp_ob hp
    refine pf_X10_44 X hR hS e_N6 dX10_undo_30 (fun H locs hR hS => ?_)
    refine lv_aload_n hx hb dX10_undo_33 rfl (lv_at hl 0 rfl) ?_
    obtain ⟨x7, e_x7, hp⟩ := owp_ob hp
    refine gf_X10_44 X hR e_x7 dX10_undo_34 ?_
    exact hr _ _ _ _ _ _ hR hS dX10_undo_37 hp
  · have hp := owp_f (fun q => q k2) hp
    refine lv_bipush (v := (-4)) hx hb dX10_undo_7 (by decide) ?_
    exact hr _ _ _ _ _ _ hR hS dX10_undo_9 hp
end
theorem ct_X10_undo {v0 : Nat} {N N1 : AH} {r : Int32} (h : f_X10_undo v0 N = some (r, N1)) : Ct yX10_undo cX10_undo 1 (some .int) rm_X10_undo [.ref v0] N (some (.int r)) N1 :=
  ab_met (own := RX10) (by decide +kernel) rfl (Nat.le_of_ble_eq_true rfl) (fun l G aC t b0 p e s m below meth c ls X hr hlk hnm hR hS hl => wk_X10_undo X (RtI_met X.1.1 X.1.2.1 hr hlk) _ _ _ _ _ hR hS hl (owp_of h))
theorem cw_X10_undo : Cond.code yX10_undo cX10_undo 1 (some .int) ∈ WT := WT_of 1225 (by decide +kernel) (by decide +kernel)
theorem iv_X10_undo {p : Program} {l : Launch} {e : Env} {R : Room} {s : State} {m : MethodId} {args : Array Value} {below : List Frame} {meth : Method} {c : Code} {H : Heap} {locs : List Loc} {cells slots : Nat} {Q : State → Prop} {cc : ByteArray} {own : String} {nL : Nat} {G : va_G} {aC : Nat → ClassId} {t b0 : Nat} {N N1 : AH} {pc index : Nat} {ls : Array Slot} {rest : List Value} {v0 : Nat} {r : Int32} (w1 : Cond.methodLink own index yX10_undo ∈ WT) (X : CX cc own nL G aC t b0 p s m args c) (hR : Rp G aC b0 N H) (hS : va_S (fun q => b0 ≤ q) s.heap H locs) (h : f_X10_undo v0 N = some (r, N1)) (hls : ls.size = nL) (hW : (rest.map fun v => v.category).sum ≤ 8) (hR1 : 2 ≤ R.frames ∧ 43 ≤ R.locals) (hcs : cells + 0 ≤ R.cells ∧ slots + 0 ≤ R.slots) (hdg : decode cc pc = .ok (.invokevirtual index, 3)) (kk : ∀ (H1 : Heap) (locs1 : List Loc), Rp G aC b0 N1 H1 → va_S (fun q => b0 ≤ q) s.heap H1 locs1 → W p l e R s m args below meth c H1 locs1 cells slots Q (F0 m (pc + 3) ls (.int r :: rest))) : W p l e R s m args below meth c H locs cells slots Q (F0 m pc ls (.ref v0 :: rest)) :=
  ab_callV (n := 0) (As := []) X hR hS (ct_X10_undo h) (ob_rc (c := 10) (N := N) (a := v0) h) (T := TX10) (k := 20) (C := RX10) rfl w1 (WT_of 1223 (by decide +kernel) (by decide +kernel)) (WT_of 1224 (by decide +kernel) (by decide +kernel)) (WT_of 92 (by decide +kernel) (by decide +kernel)) cw_X10_undo ⟨rfl, by decide +kernel, by decide +kernel, by decide +kernel⟩ rfl hls hW hR1 hcs rfl hdg kk
-- X10_time
theorem dX10_time_0 : decode cX10_time 0 = .ok (.aload_n 0, 1) := by decide +kernel
theorem dX10_time_1 : decode cX10_time 1 = .ok (.getfield 7, 3) := by decide +kernel
theorem dX10_time_4 : decode cX10_time 4 = .ok (.iconst 0, 1) := by decide +kernel
theorem dX10_time_5 : decode cX10_time 5 = .ok (.iaload, 1) := by decide +kernel
theorem dX10_time_6 : decode cX10_time 6 = .ok (.ireturn, 1) := by decide +kernel
def rm_X10_time : Room := { frames := 0, cells := 0, slots := 0, locals := 0 }
section
variable {p : Program} {l : Launch} {e : Env} {s : State} {m : MethodId} {args : Array Value} {below : List Frame} {meth : Method} {c : Code} {Q : State → Prop} {G : va_G} {aC : Nat → ClassId} {t b0 : Nat}
def f_X10_time (v0 : Nat) (N : AH) : Option (Int32 × AH) := ob (iO N v0 10) (fun _ => ob (hR N v0 10 0) (fun x1 => ob (aI N x1 (0 : Int32)) (fun x2 => some (x2, N))))
set_option maxHeartbeats 4000000 in
set_option maxRecDepth 100000 in
theorem wk_X10_time {P : Int32 × AH → Prop} (X : CX cX10_time RX10 1 G aC t b0 p s m args c) (hr : RtI p l e rm_X10_time s m args below meth c 0 0 Q cX10_time G aC b0 P) (v0 : Nat) (N : AH) (H : Heap) (locs : List Loc) (ls : Array Slot) (hR : Rp G aC b0 N H) (hS : va_S (fun q => b0 ≤ q) s.heap H locs) (hl : lv_has ls 1 [(0, .ref v0)]) (hp : owp (f_X10_time v0 N) P) : W p l e rm_X10_time s m args below meth c H locs 0 0 Q (F0 m 0 ls []) := by
  have hx := X.1.1
  have hb := X.1.2.1
  unfold f_X10_time at hp
  obtain ⟨_, _, hp⟩ := owp_ob hp
  refine lv_aload_n hx hb dX10_time_0 rfl (lv_at hl 0 rfl) ?_
  obtain ⟨x1, e_x1, hp⟩ := owp_ob hp
  refine gf_X10_7 X hR e_x1 dX10_time_1 ?_
  refine lv_iconst (v := (0)) hx hb dX10_time_4 (by decide) ?_
  obtain ⟨x2, e_x2, hp⟩ := owp_ob hp
  refine ab_iald X hR e_x2 dX10_time_5 ?_
  exact hr _ _ _ _ _ _ hR hS dX10_time_6 hp
end
theorem ct_X10_time {v0 : Nat} {N N1 : AH} {r : Int32} (h : f_X10_time v0 N = some (r, N1)) : Ct yX10_time cX10_time 1 (some .int) rm_X10_time [.ref v0] N (some (.int r)) N1 :=
  ab_met (own := RX10) (by decide +kernel) rfl (Nat.le_of_ble_eq_true rfl) (fun l G aC t b0 p e s m below meth c ls X hr hlk hnm hR hS hl => wk_X10_time X (RtI_met X.1.1 X.1.2.1 hr hlk) _ _ _ _ _ hR hS hl (owp_of h))
theorem cw_X10_time : Cond.code yX10_time cX10_time 1 (some .int) ∈ WT := WT_of 1229 (by decide +kernel) (by decide +kernel)
theorem iv_X10_time {p : Program} {l : Launch} {e : Env} {R : Room} {s : State} {m : MethodId} {args : Array Value} {below : List Frame} {meth : Method} {c : Code} {H : Heap} {locs : List Loc} {cells slots : Nat} {Q : State → Prop} {cc : ByteArray} {own : String} {nL : Nat} {G : va_G} {aC : Nat → ClassId} {t b0 : Nat} {N N1 : AH} {pc index : Nat} {ls : Array Slot} {rest : List Value} {v0 : Nat} {r : Int32} (w1 : Cond.methodLink own index yX10_time ∈ WT) (X : CX cc own nL G aC t b0 p s m args c) (hR : Rp G aC b0 N H) (hS : va_S (fun q => b0 ≤ q) s.heap H locs) (h : f_X10_time v0 N = some (r, N1)) (hls : ls.size = nL) (hW : (rest.map fun v => v.category).sum ≤ 8) (hR1 : 1 ≤ R.frames ∧ 20 ≤ R.locals) (hcs : cells + 0 ≤ R.cells ∧ slots + 0 ≤ R.slots) (hdg : decode cc pc = .ok (.invokevirtual index, 3)) (kk : ∀ (H1 : Heap) (locs1 : List Loc), Rp G aC b0 N1 H1 → va_S (fun q => b0 ≤ q) s.heap H1 locs1 → W p l e R s m args below meth c H1 locs1 cells slots Q (F0 m (pc + 3) ls (.int r :: rest))) : W p l e R s m args below meth c H locs cells slots Q (F0 m pc ls (.ref v0 :: rest)) :=
  ab_callV (n := 0) (As := []) X hR hS (ct_X10_time h) (ob_rc (c := 10) (N := N) (a := v0) h) (T := TX10) (k := 20) (C := RX10) rfl w1 (WT_of 1227 (by decide +kernel) (by decide +kernel)) (WT_of 1228 (by decide +kernel) (by decide +kernel)) (WT_of 92 (by decide +kernel) (by decide +kernel)) cw_X10_time ⟨rfl, by decide +kernel, by decide +kernel, by decide +kernel⟩ rfl hls hW hR1 hcs rfl hdg kk
-- X10_groupCount
theorem dX10_groupCount_0 : decode cX10_groupCount 0 = .ok (.aload_n 0, 1) := by decide +kernel
theorem dX10_groupCount_1 : decode cX10_groupCount 1 = .ok (.getfield 7, 3) := by decide +kernel
theorem dX10_groupCount_4 : decode cX10_groupCount 4 = .ok (.bipush 6, 2) := by decide +kernel
theorem dX10_groupCount_6 : decode cX10_groupCount 6 = .ok (.iaload, 1) := by decide +kernel
theorem dX10_groupCount_7 : decode cX10_groupCount 7 = .ok (.ireturn, 1) := by decide +kernel
def rm_X10_groupCount : Room := { frames := 0, cells := 0, slots := 0, locals := 0 }
section
variable {p : Program} {l : Launch} {e : Env} {s : State} {m : MethodId} {args : Array Value} {below : List Frame} {meth : Method} {c : Code} {Q : State → Prop} {G : va_G} {aC : Nat → ClassId} {t b0 : Nat}
def f_X10_groupCount (v0 : Nat) (N : AH) : Option (Int32 × AH) := ob (iO N v0 10) (fun _ => ob (hR N v0 10 0) (fun x1 => ob (aI N x1 (6 : Int32)) (fun x2 => some (x2, N))))
set_option maxHeartbeats 4000000 in
set_option maxRecDepth 100000 in
theorem wk_X10_groupCount {P : Int32 × AH → Prop} (X : CX cX10_groupCount RX10 1 G aC t b0 p s m args c) (hr : RtI p l e rm_X10_groupCount s m args below meth c 0 0 Q cX10_groupCount G aC b0 P) (v0 : Nat) (N : AH) (H : Heap) (locs : List Loc) (ls : Array Slot) (hR : Rp G aC b0 N H) (hS : va_S (fun q => b0 ≤ q) s.heap H locs) (hl : lv_has ls 1 [(0, .ref v0)]) (hp : owp (f_X10_groupCount v0 N) P) : W p l e rm_X10_groupCount s m args below meth c H locs 0 0 Q (F0 m 0 ls []) := by
  have hx := X.1.1
  have hb := X.1.2.1
  unfold f_X10_groupCount at hp
  obtain ⟨_, _, hp⟩ := owp_ob hp
  refine lv_aload_n hx hb dX10_groupCount_0 rfl (lv_at hl 0 rfl) ?_
  obtain ⟨x1, e_x1, hp⟩ := owp_ob hp
  refine gf_X10_7 X hR e_x1 dX10_groupCount_1 ?_
  refine lv_bipush (v := (6)) hx hb dX10_groupCount_4 (by decide) ?_
  obtain ⟨x2, e_x2, hp⟩ := owp_ob hp
  refine ab_iald X hR e_x2 dX10_groupCount_6 ?_
  exact hr _ _ _ _ _ _ hR hS dX10_groupCount_7 hp
end
theorem ct_X10_groupCount {v0 : Nat} {N N1 : AH} {r : Int32} (h : f_X10_groupCount v0 N = some (r, N1)) : Ct yX10_groupCount cX10_groupCount 1 (some .int) rm_X10_groupCount [.ref v0] N (some (.int r)) N1 :=
  ab_met (own := RX10) (by decide +kernel) rfl (Nat.le_of_ble_eq_true rfl) (fun l G aC t b0 p e s m below meth c ls X hr hlk hnm hR hS hl => wk_X10_groupCount X (RtI_met X.1.1 X.1.2.1 hr hlk) _ _ _ _ _ hR hS hl (owp_of h))
theorem cw_X10_groupCount : Cond.code yX10_groupCount cX10_groupCount 1 (some .int) ∈ WT := WT_of 1233 (by decide +kernel) (by decide +kernel)
theorem iv_X10_groupCount {p : Program} {l : Launch} {e : Env} {R : Room} {s : State} {m : MethodId} {args : Array Value} {below : List Frame} {meth : Method} {c : Code} {H : Heap} {locs : List Loc} {cells slots : Nat} {Q : State → Prop} {cc : ByteArray} {own : String} {nL : Nat} {G : va_G} {aC : Nat → ClassId} {t b0 : Nat} {N N1 : AH} {pc index : Nat} {ls : Array Slot} {rest : List Value} {v0 : Nat} {r : Int32} (w1 : Cond.methodLink own index yX10_groupCount ∈ WT) (X : CX cc own nL G aC t b0 p s m args c) (hR : Rp G aC b0 N H) (hS : va_S (fun q => b0 ≤ q) s.heap H locs) (h : f_X10_groupCount v0 N = some (r, N1)) (hls : ls.size = nL) (hW : (rest.map fun v => v.category).sum ≤ 8) (hR1 : 1 ≤ R.frames ∧ 20 ≤ R.locals) (hcs : cells + 0 ≤ R.cells ∧ slots + 0 ≤ R.slots) (hdg : decode cc pc = .ok (.invokevirtual index, 3)) (kk : ∀ (H1 : Heap) (locs1 : List Loc), Rp G aC b0 N1 H1 → va_S (fun q => b0 ≤ q) s.heap H1 locs1 → W p l e R s m args below meth c H1 locs1 cells slots Q (F0 m (pc + 3) ls (.int r :: rest))) : W p l e R s m args below meth c H locs cells slots Q (F0 m pc ls (.ref v0 :: rest)) :=
  ab_callV (n := 0) (As := []) X hR hS (ct_X10_groupCount h) (ob_rc (c := 10) (N := N) (a := v0) h) (T := TX10) (k := 20) (C := RX10) rfl w1 (WT_of 1231 (by decide +kernel) (by decide +kernel)) (WT_of 1232 (by decide +kernel) (by decide +kernel)) (WT_of 92 (by decide +kernel) (by decide +kernel)) cw_X10_groupCount ⟨rfl, by decide +kernel, by decide +kernel, by decide +kernel⟩ rfl hls hW hR1 hcs rfl hdg kk
-- X10_state
theorem mw_X10_231 : Cond.methodLink RX10 231 yX10_isGroup ∈ WT := WT_of 1238 (by decide +kernel) (by decide +kernel)
theorem dX10_state_0 : decode cX10_state 0 = .ok (.aload_n 0, 1) := by decide +kernel
theorem dX10_state_1 : decode cX10_state 1 = .ok (.iload_n 1, 1) := by decide +kernel
theorem dX10_state_2 : decode cX10_state 2 = .ok (.invokevirtual 231, 3) := by decide +kernel
theorem dX10_state_5 : decode cX10_state 5 = .ok (.ifCond .eq 11, 3) := by decide +kernel
theorem dX10_state_8 : decode cX10_state 8 = .ok (.aload_n 0, 1) := by decide +kernel
theorem dX10_state_9 : decode cX10_state 9 = .ok (.iload_n 1, 1) := by decide +kernel
theorem dX10_state_10 : decode cX10_state 10 = .ok (.invokevirtual 107, 3) := by decide +kernel
theorem dX10_state_13 : decode cX10_state 13 = .ok (.goto 5, 3) := by decide +kernel
theorem dX10_state_16 : decode cX10_state 16 = .ok (.bipush (-2), 2) := by decide +kernel
theorem dX10_state_18 : decode cX10_state 18 = .ok (.ireturn, 1) := by decide +kernel
def rm_X10_state : Room := { frames := 2, cells := 0, slots := 0, locals := 46 }
section
variable {p : Program} {l : Launch} {e : Env} {s : State} {m : MethodId} {args : Array Value} {below : List Frame} {meth : Method} {c : Code} {Q : State → Prop} {G : va_G} {aC : Nat → ClassId} {t b0 : Nat}
def f_X10_state (v0 : Nat) (v1 : Int32) (N : AH) : Option (Int32 × AH) := ob (iO N v0 10) (fun _ => ob2 (f_X10_isGroup v0 v1 N) (fun x2 N1 => if x2 = 0 then some ((-2 : Int32), N1) else ob2 (f_X10_stateOf v0 v1 N1) (fun x5 N4 => some (x5, N4))))
set_option maxHeartbeats 4000000 in
set_option maxRecDepth 100000 in
theorem wk_X10_state {P : Int32 × AH → Prop} (X : CX cX10_state RX10 2 G aC t b0 p s m args c) (hr : RtI p l e rm_X10_state s m args below meth c 0 0 Q cX10_state G aC b0 P) (v0 : Nat) (v1 : Int32) (N : AH) (H : Heap) (locs : List Loc) (ls : Array Slot) (hR : Rp G aC b0 N H) (hS : va_S (fun q => b0 ≤ q) s.heap H locs) (hl : lv_has ls 2 [(0, .ref v0), (1, .int v1)]) (hp : owp (f_X10_state v0 v1 N) P) : W p l e rm_X10_state s m args below meth c H locs 0 0 Q (F0 m 0 ls []) := by
  have hx := X.1.1
  have hb := X.1.2.1
  unfold f_X10_state at hp
  obtain ⟨_, _, hp⟩ := owp_ob hp
  refine lv_aload_n hx hb dX10_state_0 rfl (lv_at hl 0 rfl) ?_
  refine lv_iload_n hx hb dX10_state_1 rfl (lv_at hl 1 rfl) ?_
  obtain ⟨x2, N1, e_N1, hp⟩ := owp_ob2 hp
  refine iv_X10_isGroup (rest := []) mw_X10_231 X hR hS e_N1 hl.1 (Nat.le_of_ble_eq_true rfl) ⟨Nat.le_of_ble_eq_true rfl, Nat.le_of_ble_eq_true rfl⟩ ⟨Nat.le_of_ble_eq_true rfl, Nat.le_of_ble_eq_true rfl⟩ dX10_state_2 (fun H locs hR hS => ?_)
  refine lv_if_eq (tgt := 16) hx hb dX10_state_5 (by decide) (fun k3 => ?_) (fun k3 => ?_)
  · have hp := owp_t k3 hp
    refine lv_bipush (v := (-2)) hx hb dX10_state_16 (by decide) ?_
    exact hr _ _ _ _ _ _ hR hS dX10_state_18 hp
  · have hp := owp_f k3 hp
    refine lv_aload_n hx hb dX10_state_8 rfl (lv_at hl 0 rfl) ?_
    refine lv_iload_n hx hb dX10_state_9 rfl (lv_at hl 1 rfl) ?_
    obtain ⟨x5, N4, e_N4, hp⟩ := owp_ob2 hp
    refine iv_X10_stateOf (rest := []) mw_X10_107 X hR hS e_N4 hl.1 (Nat.le_of_ble_eq_true rfl) ⟨Nat.le_of_ble_eq_true rfl, Nat.le_of_ble_eq_true rfl⟩ ⟨Nat.le_of_ble_eq_true rfl, Nat.le_of_ble_eq_true rfl⟩ dX10_state_10 (fun H locs hR hS => ?_)
    refine lv_goto (tgt := 18) hx hb dX10_state_13 (by decide) ?_
    exact hr _ _ _ _ _ _ hR hS dX10_state_18 hp
end
theorem ct_X10_state {v0 : Nat} {v1 : Int32} {N N1 : AH} {r : Int32} (h : f_X10_state v0 v1 N = some (r, N1)) : Ct yX10_state cX10_state 2 (some .int) rm_X10_state [.ref v0, .int v1] N (some (.int r)) N1 :=
  ab_met (own := RX10) (by decide +kernel) rfl (Nat.le_of_ble_eq_true rfl) (fun l G aC t b0 p e s m below meth c ls X hr hlk hnm hR hS hl => wk_X10_state X (RtI_met X.1.1 X.1.2.1 hr hlk) _ _ _ _ _ _ hR hS hl (owp_of h))
theorem cw_X10_state : Cond.code yX10_state cX10_state 2 (some .int) ∈ WT := WT_of 1237 (by decide +kernel) (by decide +kernel)
theorem iv_X10_state {p : Program} {l : Launch} {e : Env} {R : Room} {s : State} {m : MethodId} {args : Array Value} {below : List Frame} {meth : Method} {c : Code} {H : Heap} {locs : List Loc} {cells slots : Nat} {Q : State → Prop} {cc : ByteArray} {own : String} {nL : Nat} {G : va_G} {aC : Nat → ClassId} {t b0 : Nat} {N N1 : AH} {pc index : Nat} {ls : Array Slot} {rest : List Value} {v0 : Nat} {v1 : Int32} {r : Int32} (w1 : Cond.methodLink own index yX10_state ∈ WT) (X : CX cc own nL G aC t b0 p s m args c) (hR : Rp G aC b0 N H) (hS : va_S (fun q => b0 ≤ q) s.heap H locs) (h : f_X10_state v0 v1 N = some (r, N1)) (hls : ls.size = nL) (hW : (rest.map fun v => v.category).sum ≤ 8) (hR1 : 3 ≤ R.frames ∧ 67 ≤ R.locals) (hcs : cells + 0 ≤ R.cells ∧ slots + 0 ≤ R.slots) (hdg : decode cc pc = .ok (.invokevirtual index, 3)) (kk : ∀ (H1 : Heap) (locs1 : List Loc), Rp G aC b0 N1 H1 → va_S (fun q => b0 ≤ q) s.heap H1 locs1 → W p l e R s m args below meth c H1 locs1 cells slots Q (F0 m (pc + 3) ls (.int r :: rest))) : W p l e R s m args below meth c H locs cells slots Q (F0 m pc ls (.int v1 :: .ref v0 :: rest)) :=
  ab_callV (n := 1) (As := [.int v1]) X hR hS (ct_X10_state h) (ob_rc (c := 10) (N := N) (a := v0) h) (T := TX10) (k := 20) (C := RX10) rfl w1 (WT_of 1235 (by decide +kernel) (by decide +kernel)) (WT_of 1236 (by decide +kernel) (by decide +kernel)) (WT_of 92 (by decide +kernel) (by decide +kernel)) cw_X10_state ⟨rfl, by decide +kernel, by decide +kernel, by decide +kernel⟩ rfl hls hW hR1 hcs rfl hdg kk
-- X10_arrival
theorem dX10_arrival_0 : decode cX10_arrival 0 = .ok (.aload_n 0, 1) := by decide +kernel
theorem dX10_arrival_1 : decode cX10_arrival 1 = .ok (.iload_n 1, 1) := by decide +kernel
theorem dX10_arrival_2 : decode cX10_arrival 2 = .ok (.invokevirtual 231, 3) := by decide +kernel
theorem dX10_arrival_5 : decode cX10_arrival 5 = .ok (.ifCond .eq 12, 3) := by decide +kernel
theorem dX10_arrival_8 : decode cX10_arrival 8 = .ok (.aload_n 0, 1) := by decide +kernel
theorem dX10_arrival_9 : decode cX10_arrival 9 = .ok (.iload_n 1, 1) := by decide +kernel
theorem dX10_arrival_10 : decode cX10_arrival 10 = .ok (.iconst 0, 1) := by decide +kernel
theorem dX10_arrival_11 : decode cX10_arrival 11 = .ok (.invokevirtual 52, 3) := by decide +kernel
theorem dX10_arrival_14 : decode cX10_arrival 14 = .ok (.goto 5, 3) := by decide +kernel
theorem dX10_arrival_17 : decode cX10_arrival 17 = .ok (.bipush (-2), 2) := by decide +kernel
theorem dX10_arrival_19 : decode cX10_arrival 19 = .ok (.ireturn, 1) := by decide +kernel
def rm_X10_arrival : Room := { frames := 2, cells := 0, slots := 0, locals := 46 }
section
variable {p : Program} {l : Launch} {e : Env} {s : State} {m : MethodId} {args : Array Value} {below : List Frame} {meth : Method} {c : Code} {Q : State → Prop} {G : va_G} {aC : Nat → ClassId} {t b0 : Nat}
def f_X10_arrival (v0 : Nat) (v1 : Int32) (N : AH) : Option (Int32 × AH) := ob (iO N v0 10) (fun _ => ob2 (f_X10_isGroup v0 v1 N) (fun x2 N1 => if x2 = 0 then some ((-2 : Int32), N1) else ob2 (f_X10_of v0 v1 (0 : Int32) N1) (fun x5 N4 => some (x5, N4))))
set_option maxHeartbeats 4000000 in
set_option maxRecDepth 100000 in
theorem wk_X10_arrival {P : Int32 × AH → Prop} (X : CX cX10_arrival RX10 2 G aC t b0 p s m args c) (hr : RtI p l e rm_X10_arrival s m args below meth c 0 0 Q cX10_arrival G aC b0 P) (v0 : Nat) (v1 : Int32) (N : AH) (H : Heap) (locs : List Loc) (ls : Array Slot) (hR : Rp G aC b0 N H) (hS : va_S (fun q => b0 ≤ q) s.heap H locs) (hl : lv_has ls 2 [(0, .ref v0), (1, .int v1)]) (hp : owp (f_X10_arrival v0 v1 N) P) : W p l e rm_X10_arrival s m args below meth c H locs 0 0 Q (F0 m 0 ls []) := by
  have hx := X.1.1
  have hb := X.1.2.1
  unfold f_X10_arrival at hp
  obtain ⟨_, _, hp⟩ := owp_ob hp
  refine lv_aload_n hx hb dX10_arrival_0 rfl (lv_at hl 0 rfl) ?_
  refine lv_iload_n hx hb dX10_arrival_1 rfl (lv_at hl 1 rfl) ?_
  obtain ⟨x2, N1, e_N1, hp⟩ := owp_ob2 hp
  refine iv_X10_isGroup (rest := []) mw_X10_231 X hR hS e_N1 hl.1 (Nat.le_of_ble_eq_true rfl) ⟨Nat.le_of_ble_eq_true rfl, Nat.le_of_ble_eq_true rfl⟩ ⟨Nat.le_of_ble_eq_true rfl, Nat.le_of_ble_eq_true rfl⟩ dX10_arrival_2 (fun H locs hR hS => ?_)
  refine lv_if_eq (tgt := 17) hx hb dX10_arrival_5 (by decide) (fun k3 => ?_) (fun k3 => ?_)
  · have hp := owp_t k3 hp
    refine lv_bipush (v := (-2)) hx hb dX10_arrival_17 (by decide) ?_
    exact hr _ _ _ _ _ _ hR hS dX10_arrival_19 hp
  · have hp := owp_f k3 hp
    refine lv_aload_n hx hb dX10_arrival_8 rfl (lv_at hl 0 rfl) ?_
    refine lv_iload_n hx hb dX10_arrival_9 rfl (lv_at hl 1 rfl) ?_
    refine lv_iconst (v := (0)) hx hb dX10_arrival_10 (by decide) ?_
    obtain ⟨x5, N4, e_N4, hp⟩ := owp_ob2 hp
    refine iv_X10_of (rest := []) mw_X10_52 X hR hS e_N4 hl.1 (Nat.le_of_ble_eq_true rfl) ⟨Nat.le_of_ble_eq_true rfl, Nat.le_of_ble_eq_true rfl⟩ ⟨Nat.le_of_ble_eq_true rfl, Nat.le_of_ble_eq_true rfl⟩ dX10_arrival_11 (fun H locs hR hS => ?_)
    refine lv_goto (tgt := 19) hx hb dX10_arrival_14 (by decide) ?_
    exact hr _ _ _ _ _ _ hR hS dX10_arrival_19 hp
end
theorem ct_X10_arrival {v0 : Nat} {v1 : Int32} {N N1 : AH} {r : Int32} (h : f_X10_arrival v0 v1 N = some (r, N1)) : Ct yX10_arrival cX10_arrival 2 (some .int) rm_X10_arrival [.ref v0, .int v1] N (some (.int r)) N1 :=
  ab_met (own := RX10) (by decide +kernel) rfl (Nat.le_of_ble_eq_true rfl) (fun l G aC t b0 p e s m below meth c ls X hr hlk hnm hR hS hl => wk_X10_arrival X (RtI_met X.1.1 X.1.2.1 hr hlk) _ _ _ _ _ _ hR hS hl (owp_of h))
theorem cw_X10_arrival : Cond.code yX10_arrival cX10_arrival 2 (some .int) ∈ WT := WT_of 1245 (by decide +kernel) (by decide +kernel)
theorem iv_X10_arrival {p : Program} {l : Launch} {e : Env} {R : Room} {s : State} {m : MethodId} {args : Array Value} {below : List Frame} {meth : Method} {c : Code} {H : Heap} {locs : List Loc} {cells slots : Nat} {Q : State → Prop} {cc : ByteArray} {own : String} {nL : Nat} {G : va_G} {aC : Nat → ClassId} {t b0 : Nat} {N N1 : AH} {pc index : Nat} {ls : Array Slot} {rest : List Value} {v0 : Nat} {v1 : Int32} {r : Int32} (w1 : Cond.methodLink own index yX10_arrival ∈ WT) (X : CX cc own nL G aC t b0 p s m args c) (hR : Rp G aC b0 N H) (hS : va_S (fun q => b0 ≤ q) s.heap H locs) (h : f_X10_arrival v0 v1 N = some (r, N1)) (hls : ls.size = nL) (hW : (rest.map fun v => v.category).sum ≤ 8) (hR1 : 3 ≤ R.frames ∧ 67 ≤ R.locals) (hcs : cells + 0 ≤ R.cells ∧ slots + 0 ≤ R.slots) (hdg : decode cc pc = .ok (.invokevirtual index, 3)) (kk : ∀ (H1 : Heap) (locs1 : List Loc), Rp G aC b0 N1 H1 → va_S (fun q => b0 ≤ q) s.heap H1 locs1 → W p l e R s m args below meth c H1 locs1 cells slots Q (F0 m (pc + 3) ls (.int r :: rest))) : W p l e R s m args below meth c H locs cells slots Q (F0 m pc ls (.int v1 :: .ref v0 :: rest)) :=
  ab_callV (n := 1) (As := [.int v1]) X hR hS (ct_X10_arrival h) (ob_rc (c := 10) (N := N) (a := v0) h) (T := TX10) (k := 20) (C := RX10) rfl w1 (WT_of 1243 (by decide +kernel) (by decide +kernel)) (WT_of 1244 (by decide +kernel) (by decide +kernel)) (WT_of 92 (by decide +kernel) (by decide +kernel)) cw_X10_arrival ⟨rfl, by decide +kernel, by decide +kernel, by decide +kernel⟩ rfl hls hW hR1 hcs rfl hdg kk
-- X10_end
theorem dX10_end_0 : decode cX10_end 0 = .ok (.aload_n 0, 1) := by decide +kernel
theorem dX10_end_1 : decode cX10_end 1 = .ok (.iload_n 1, 1) := by decide +kernel
theorem dX10_end_2 : decode cX10_end 2 = .ok (.invokevirtual 231, 3) := by decide +kernel
theorem dX10_end_5 : decode cX10_end 5 = .ok (.ifCond .eq 12, 3) := by decide +kernel
theorem dX10_end_8 : decode cX10_end 8 = .ok (.aload_n 0, 1) := by decide +kernel
theorem dX10_end_9 : decode cX10_end 9 = .ok (.iload_n 1, 1) := by decide +kernel
theorem dX10_end_10 : decode cX10_end 10 = .ok (.iconst 3, 1) := by decide +kernel
theorem dX10_end_11 : decode cX10_end 11 = .ok (.invokevirtual 52, 3) := by decide +kernel
theorem dX10_end_14 : decode cX10_end 14 = .ok (.goto 5, 3) := by decide +kernel
theorem dX10_end_17 : decode cX10_end 17 = .ok (.bipush (-2), 2) := by decide +kernel
theorem dX10_end_19 : decode cX10_end 19 = .ok (.ireturn, 1) := by decide +kernel
def rm_X10_end : Room := { frames := 2, cells := 0, slots := 0, locals := 46 }
section
variable {p : Program} {l : Launch} {e : Env} {s : State} {m : MethodId} {args : Array Value} {below : List Frame} {meth : Method} {c : Code} {Q : State → Prop} {G : va_G} {aC : Nat → ClassId} {t b0 : Nat}
def f_X10_end (v0 : Nat) (v1 : Int32) (N : AH) : Option (Int32 × AH) := ob (iO N v0 10) (fun _ => ob2 (f_X10_isGroup v0 v1 N) (fun x2 N1 => if x2 = 0 then some ((-2 : Int32), N1) else ob2 (f_X10_of v0 v1 (3 : Int32) N1) (fun x5 N4 => some (x5, N4))))
set_option maxHeartbeats 4000000 in
set_option maxRecDepth 100000 in
theorem wk_X10_end {P : Int32 × AH → Prop} (X : CX cX10_end RX10 2 G aC t b0 p s m args c) (hr : RtI p l e rm_X10_end s m args below meth c 0 0 Q cX10_end G aC b0 P) (v0 : Nat) (v1 : Int32) (N : AH) (H : Heap) (locs : List Loc) (ls : Array Slot) (hR : Rp G aC b0 N H) (hS : va_S (fun q => b0 ≤ q) s.heap H locs) (hl : lv_has ls 2 [(0, .ref v0), (1, .int v1)]) (hp : owp (f_X10_end v0 v1 N) P) : W p l e rm_X10_end s m args below meth c H locs 0 0 Q (F0 m 0 ls []) := by
  have hx := X.1.1
  have hb := X.1.2.1
  unfold f_X10_end at hp
  obtain ⟨_, _, hp⟩ := owp_ob hp
  refine lv_aload_n hx hb dX10_end_0 rfl (lv_at hl 0 rfl) ?_
  refine lv_iload_n hx hb dX10_end_1 rfl (lv_at hl 1 rfl) ?_
  obtain ⟨x2, N1, e_N1, hp⟩ := owp_ob2 hp
  refine iv_X10_isGroup (rest := []) mw_X10_231 X hR hS e_N1 hl.1 (Nat.le_of_ble_eq_true rfl) ⟨Nat.le_of_ble_eq_true rfl, Nat.le_of_ble_eq_true rfl⟩ ⟨Nat.le_of_ble_eq_true rfl, Nat.le_of_ble_eq_true rfl⟩ dX10_end_2 (fun H locs hR hS => ?_)
  refine lv_if_eq (tgt := 17) hx hb dX10_end_5 (by decide) (fun k3 => ?_) (fun k3 => ?_)
  · have hp := owp_t k3 hp
    refine lv_bipush (v := (-2)) hx hb dX10_end_17 (by decide) ?_
    exact hr _ _ _ _ _ _ hR hS dX10_end_19 hp
  · have hp := owp_f k3 hp
    refine lv_aload_n hx hb dX10_end_8 rfl (lv_at hl 0 rfl) ?_
    refine lv_iload_n hx hb dX10_end_9 rfl (lv_at hl 1 rfl) ?_
    refine lv_iconst (v := (3)) hx hb dX10_end_10 (by decide) ?_
    obtain ⟨x5, N4, e_N4, hp⟩ := owp_ob2 hp
    refine iv_X10_of (rest := []) mw_X10_52 X hR hS e_N4 hl.1 (Nat.le_of_ble_eq_true rfl) ⟨Nat.le_of_ble_eq_true rfl, Nat.le_of_ble_eq_true rfl⟩ ⟨Nat.le_of_ble_eq_true rfl, Nat.le_of_ble_eq_true rfl⟩ dX10_end_11 (fun H locs hR hS => ?_)
    refine lv_goto (tgt := 19) hx hb dX10_end_14 (by decide) ?_
    exact hr _ _ _ _ _ _ hR hS dX10_end_19 hp
end
theorem ct_X10_end {v0 : Nat} {v1 : Int32} {N N1 : AH} {r : Int32} (h : f_X10_end v0 v1 N = some (r, N1)) : Ct yX10_end cX10_end 2 (some .int) rm_X10_end [.ref v0, .int v1] N (some (.int r)) N1 :=
  ab_met (own := RX10) (by decide +kernel) rfl (Nat.le_of_ble_eq_true rfl) (fun l G aC t b0 p e s m below meth c ls X hr hlk hnm hR hS hl => wk_X10_end X (RtI_met X.1.1 X.1.2.1 hr hlk) _ _ _ _ _ _ hR hS hl (owp_of h))
theorem cw_X10_end : Cond.code yX10_end cX10_end 2 (some .int) ∈ WT := WT_of 1249 (by decide +kernel) (by decide +kernel)
theorem iv_X10_end {p : Program} {l : Launch} {e : Env} {R : Room} {s : State} {m : MethodId} {args : Array Value} {below : List Frame} {meth : Method} {c : Code} {H : Heap} {locs : List Loc} {cells slots : Nat} {Q : State → Prop} {cc : ByteArray} {own : String} {nL : Nat} {G : va_G} {aC : Nat → ClassId} {t b0 : Nat} {N N1 : AH} {pc index : Nat} {ls : Array Slot} {rest : List Value} {v0 : Nat} {v1 : Int32} {r : Int32} (w1 : Cond.methodLink own index yX10_end ∈ WT) (X : CX cc own nL G aC t b0 p s m args c) (hR : Rp G aC b0 N H) (hS : va_S (fun q => b0 ≤ q) s.heap H locs) (h : f_X10_end v0 v1 N = some (r, N1)) (hls : ls.size = nL) (hW : (rest.map fun v => v.category).sum ≤ 8) (hR1 : 3 ≤ R.frames ∧ 67 ≤ R.locals) (hcs : cells + 0 ≤ R.cells ∧ slots + 0 ≤ R.slots) (hdg : decode cc pc = .ok (.invokevirtual index, 3)) (kk : ∀ (H1 : Heap) (locs1 : List Loc), Rp G aC b0 N1 H1 → va_S (fun q => b0 ≤ q) s.heap H1 locs1 → W p l e R s m args below meth c H1 locs1 cells slots Q (F0 m (pc + 3) ls (.int r :: rest))) : W p l e R s m args below meth c H locs cells slots Q (F0 m pc ls (.int v1 :: .ref v0 :: rest)) :=
  ab_callV (n := 1) (As := [.int v1]) X hR hS (ct_X10_end h) (ob_rc (c := 10) (N := N) (a := v0) h) (T := TX10) (k := 20) (C := RX10) rfl w1 (WT_of 1247 (by decide +kernel) (by decide +kernel)) (WT_of 1248 (by decide +kernel) (by decide +kernel)) (WT_of 92 (by decide +kernel) (by decide +kernel)) cw_X10_end ⟨rfl, by decide +kernel, by decide +kernel, by decide +kernel⟩ rfl hls hW hR1 hcs rfl hdg kk
-- X10_flowCount
theorem dX10_flowCount_0 : decode cX10_flowCount 0 = .ok (.aload_n 0, 1) := by decide +kernel
theorem dX10_flowCount_1 : decode cX10_flowCount 1 = .ok (.iload_n 1, 1) := by decide +kernel
theorem dX10_flowCount_2 : decode cX10_flowCount 2 = .ok (.invokevirtual 231, 3) := by decide +kernel
theorem dX10_flowCount_5 : decode cX10_flowCount 5 = .ok (.ifCond .eq 12, 3) := by decide +kernel
theorem dX10_flowCount_8 : decode cX10_flowCount 8 = .ok (.aload_n 0, 1) := by decide +kernel
theorem dX10_flowCount_9 : decode cX10_flowCount 9 = .ok (.iload_n 1, 1) := by decide +kernel
theorem dX10_flowCount_10 : decode cX10_flowCount 10 = .ok (.iconst 5, 1) := by decide +kernel
theorem dX10_flowCount_11 : decode cX10_flowCount 11 = .ok (.invokevirtual 52, 3) := by decide +kernel
theorem dX10_flowCount_14 : decode cX10_flowCount 14 = .ok (.goto 5, 3) := by decide +kernel
theorem dX10_flowCount_17 : decode cX10_flowCount 17 = .ok (.bipush (-2), 2) := by decide +kernel
theorem dX10_flowCount_19 : decode cX10_flowCount 19 = .ok (.ireturn, 1) := by decide +kernel
def rm_X10_flowCount : Room := { frames := 2, cells := 0, slots := 0, locals := 46 }
section
variable {p : Program} {l : Launch} {e : Env} {s : State} {m : MethodId} {args : Array Value} {below : List Frame} {meth : Method} {c : Code} {Q : State → Prop} {G : va_G} {aC : Nat → ClassId} {t b0 : Nat}
def f_X10_flowCount (v0 : Nat) (v1 : Int32) (N : AH) : Option (Int32 × AH) := ob (iO N v0 10) (fun _ => ob2 (f_X10_isGroup v0 v1 N) (fun x2 N1 => if x2 = 0 then some ((-2 : Int32), N1) else ob2 (f_X10_of v0 v1 (5 : Int32) N1) (fun x5 N4 => some (x5, N4))))
set_option maxHeartbeats 4000000 in
set_option maxRecDepth 100000 in
theorem wk_X10_flowCount {P : Int32 × AH → Prop} (X : CX cX10_flowCount RX10 2 G aC t b0 p s m args c) (hr : RtI p l e rm_X10_flowCount s m args below meth c 0 0 Q cX10_flowCount G aC b0 P) (v0 : Nat) (v1 : Int32) (N : AH) (H : Heap) (locs : List Loc) (ls : Array Slot) (hR : Rp G aC b0 N H) (hS : va_S (fun q => b0 ≤ q) s.heap H locs) (hl : lv_has ls 2 [(0, .ref v0), (1, .int v1)]) (hp : owp (f_X10_flowCount v0 v1 N) P) : W p l e rm_X10_flowCount s m args below meth c H locs 0 0 Q (F0 m 0 ls []) := by
  have hx := X.1.1
  have hb := X.1.2.1
  unfold f_X10_flowCount at hp
  obtain ⟨_, _, hp⟩ := owp_ob hp
  refine lv_aload_n hx hb dX10_flowCount_0 rfl (lv_at hl 0 rfl) ?_
  refine lv_iload_n hx hb dX10_flowCount_1 rfl (lv_at hl 1 rfl) ?_
  obtain ⟨x2, N1, e_N1, hp⟩ := owp_ob2 hp
  refine iv_X10_isGroup (rest := []) mw_X10_231 X hR hS e_N1 hl.1 (Nat.le_of_ble_eq_true rfl) ⟨Nat.le_of_ble_eq_true rfl, Nat.le_of_ble_eq_true rfl⟩ ⟨Nat.le_of_ble_eq_true rfl, Nat.le_of_ble_eq_true rfl⟩ dX10_flowCount_2 (fun H locs hR hS => ?_)
  refine lv_if_eq (tgt := 17) hx hb dX10_flowCount_5 (by decide) (fun k3 => ?_) (fun k3 => ?_)
  · have hp := owp_t k3 hp
    refine lv_bipush (v := (-2)) hx hb dX10_flowCount_17 (by decide) ?_
    exact hr _ _ _ _ _ _ hR hS dX10_flowCount_19 hp
  · have hp := owp_f k3 hp
    refine lv_aload_n hx hb dX10_flowCount_8 rfl (lv_at hl 0 rfl) ?_
    refine lv_iload_n hx hb dX10_flowCount_9 rfl (lv_at hl 1 rfl) ?_
    refine lv_iconst (v := (5)) hx hb dX10_flowCount_10 (by decide) ?_
    obtain ⟨x5, N4, e_N4, hp⟩ := owp_ob2 hp
    refine iv_X10_of (rest := []) mw_X10_52 X hR hS e_N4 hl.1 (Nat.le_of_ble_eq_true rfl) ⟨Nat.le_of_ble_eq_true rfl, Nat.le_of_ble_eq_true rfl⟩ ⟨Nat.le_of_ble_eq_true rfl, Nat.le_of_ble_eq_true rfl⟩ dX10_flowCount_11 (fun H locs hR hS => ?_)
    refine lv_goto (tgt := 19) hx hb dX10_flowCount_14 (by decide) ?_
    exact hr _ _ _ _ _ _ hR hS dX10_flowCount_19 hp
end
theorem ct_X10_flowCount {v0 : Nat} {v1 : Int32} {N N1 : AH} {r : Int32} (h : f_X10_flowCount v0 v1 N = some (r, N1)) : Ct yX10_flowCount cX10_flowCount 2 (some .int) rm_X10_flowCount [.ref v0, .int v1] N (some (.int r)) N1 :=
  ab_met (own := RX10) (by decide +kernel) rfl (Nat.le_of_ble_eq_true rfl) (fun l G aC t b0 p e s m below meth c ls X hr hlk hnm hR hS hl => wk_X10_flowCount X (RtI_met X.1.1 X.1.2.1 hr hlk) _ _ _ _ _ _ hR hS hl (owp_of h))
theorem cw_X10_flowCount : Cond.code yX10_flowCount cX10_flowCount 2 (some .int) ∈ WT := WT_of 1253 (by decide +kernel) (by decide +kernel)
theorem iv_X10_flowCount {p : Program} {l : Launch} {e : Env} {R : Room} {s : State} {m : MethodId} {args : Array Value} {below : List Frame} {meth : Method} {c : Code} {H : Heap} {locs : List Loc} {cells slots : Nat} {Q : State → Prop} {cc : ByteArray} {own : String} {nL : Nat} {G : va_G} {aC : Nat → ClassId} {t b0 : Nat} {N N1 : AH} {pc index : Nat} {ls : Array Slot} {rest : List Value} {v0 : Nat} {v1 : Int32} {r : Int32} (w1 : Cond.methodLink own index yX10_flowCount ∈ WT) (X : CX cc own nL G aC t b0 p s m args c) (hR : Rp G aC b0 N H) (hS : va_S (fun q => b0 ≤ q) s.heap H locs) (h : f_X10_flowCount v0 v1 N = some (r, N1)) (hls : ls.size = nL) (hW : (rest.map fun v => v.category).sum ≤ 8) (hR1 : 3 ≤ R.frames ∧ 67 ≤ R.locals) (hcs : cells + 0 ≤ R.cells ∧ slots + 0 ≤ R.slots) (hdg : decode cc pc = .ok (.invokevirtual index, 3)) (kk : ∀ (H1 : Heap) (locs1 : List Loc), Rp G aC b0 N1 H1 → va_S (fun q => b0 ≤ q) s.heap H1 locs1 → W p l e R s m args below meth c H1 locs1 cells slots Q (F0 m (pc + 3) ls (.int r :: rest))) : W p l e R s m args below meth c H locs cells slots Q (F0 m pc ls (.int v1 :: .ref v0 :: rest)) :=
  ab_callV (n := 1) (As := [.int v1]) X hR hS (ct_X10_flowCount h) (ob_rc (c := 10) (N := N) (a := v0) h) (T := TX10) (k := 20) (C := RX10) rfl w1 (WT_of 1251 (by decide +kernel) (by decide +kernel)) (WT_of 1252 (by decide +kernel) (by decide +kernel)) (WT_of 92 (by decide +kernel) (by decide +kernel)) cw_X10_flowCount ⟨rfl, by decide +kernel, by decide +kernel, by decide +kernel⟩ rfl hls hW hR1 hcs rfl hdg kk
-- X10_isFlow
theorem dX10_isFlow_0 : decode cX10_isFlow 0 = .ok (.aload_n 0, 1) := by decide +kernel
theorem dX10_isFlow_1 : decode cX10_isFlow 1 = .ok (.iload_n 1, 1) := by decide +kernel
theorem dX10_isFlow_2 : decode cX10_isFlow 2 = .ok (.invokevirtual 231, 3) := by decide +kernel
theorem dX10_isFlow_5 : decode cX10_isFlow 5 = .ok (.ifCond .eq 25, 3) := by decide +kernel
theorem dX10_isFlow_8 : decode cX10_isFlow 8 = .ok (.iload_n 2, 1) := by decide +kernel
theorem dX10_isFlow_9 : decode cX10_isFlow 9 = .ok (.i2l, 1) := by decide +kernel
theorem dX10_isFlow_10 : decode cX10_isFlow 10 = .ok (.lconst 0, 1) := by decide +kernel
theorem dX10_isFlow_11 : decode cX10_isFlow 11 = .ok (.aload_n 0, 1) := by decide +kernel
theorem dX10_isFlow_12 : decode cX10_isFlow 12 = .ok (.iload_n 1, 1) := by decide +kernel
theorem dX10_isFlow_13 : decode cX10_isFlow 13 = .ok (.iconst 5, 1) := by decide +kernel
theorem dX10_isFlow_14 : decode cX10_isFlow 14 = .ok (.invokevirtual 52, 3) := by decide +kernel
theorem dX10_isFlow_17 : decode cX10_isFlow 17 = .ok (.iconst 1, 1) := by decide +kernel
theorem dX10_isFlow_18 : decode cX10_isFlow 18 = .ok (.isub, 1) := by decide +kernel
theorem dX10_isFlow_19 : decode cX10_isFlow 19 = .ok (.i2l, 1) := by decide +kernel
theorem dX10_isFlow_20 : decode cX10_isFlow 20 = .ok (.invokestatic 60, 3) := by decide +kernel
theorem dX10_isFlow_23 : decode cX10_isFlow 23 = .ok (.ifCond .eq 7, 3) := by decide +kernel
theorem dX10_isFlow_26 : decode cX10_isFlow 26 = .ok (.iconst 1, 1) := by decide +kernel
theorem dX10_isFlow_27 : decode cX10_isFlow 27 = .ok (.goto 4, 3) := by decide +kernel
theorem dX10_isFlow_30 : decode cX10_isFlow 30 = .ok (.iconst 0, 1) := by decide +kernel
theorem dX10_isFlow_31 : decode cX10_isFlow 31 = .ok (.ireturn, 1) := by decide +kernel
def rm_X10_isFlow : Room := { frames := 2, cells := 0, slots := 0, locals := 46 }
section
variable {p : Program} {l : Launch} {e : Env} {s : State} {m : MethodId} {args : Array Value} {below : List Frame} {meth : Method} {c : Code} {Q : State → Prop} {G : va_G} {aC : Nat → ClassId} {t b0 : Nat}
def f_X10_isFlow (v0 : Nat) (v1 : Int32) (v2 : Int32) (N : AH) : Option (Int32 × AH) := ob (iO N v0 10) (fun _ => ob2 (f_X10_isGroup v0 v1 N) (fun x2 N1 => if x2 = 0 then some ((0 : Int32), N1) else ob2 (f_X10_of v0 v1 (5 : Int32) N1) (fun x5 N4 => ob2 (f_X10_in (Int32.toInt64 v2) (0 : Int64) (Int32.toInt64 (x5 - (1 : Int32))) N4) (fun x7 N6 => if x7 = 0 then some ((0 : Int32), N6) else some ((1 : Int32), N6)))))
set_option maxHeartbeats 4000000 in
set_option maxRecDepth 100000 in
theorem wk_X10_isFlow {P : Int32 × AH → Prop} (X : CX cX10_isFlow RX10 3 G aC t b0 p s m args c) (hr : RtZ p l e rm_X10_isFlow s m args below meth c 0 0 Q cX10_isFlow G aC b0 P) (v0 : Nat) (v1 : Int32) (v2 : Int32) (N : AH) (H : Heap) (locs : List Loc) (ls : Array Slot) (hR : Rp G aC b0 N H) (hS : va_S (fun q => b0 ≤ q) s.heap H locs) (hl : lv_has ls 3 [(0, .ref v0), (1, .int v1), (2, .int v2)]) (hp : owp (f_X10_isFlow v0 v1 v2 N) P) : W p l e rm_X10_isFlow s m args below meth c H locs 0 0 Q (F0 m 0 ls []) := by
  have hx := X.1.1
  have hb := X.1.2.1
  unfold f_X10_isFlow at hp
  obtain ⟨_, _, hp⟩ := owp_ob hp
  refine lv_aload_n hx hb dX10_isFlow_0 rfl (lv_at hl 0 rfl) ?_
  refine lv_iload_n hx hb dX10_isFlow_1 rfl (lv_at hl 1 rfl) ?_
  obtain ⟨x2, N1, e_N1, hp⟩ := owp_ob2 hp
  refine iv_X10_isGroup (rest := []) mw_X10_231 X hR hS e_N1 hl.1 (Nat.le_of_ble_eq_true rfl) ⟨Nat.le_of_ble_eq_true rfl, Nat.le_of_ble_eq_true rfl⟩ ⟨Nat.le_of_ble_eq_true rfl, Nat.le_of_ble_eq_true rfl⟩ dX10_isFlow_2 (fun H locs hR hS => ?_)
  refine lv_if_eq (tgt := 30) hx hb dX10_isFlow_5 (by decide) (fun k3 => ?_) (fun k3 => ?_)
  · have hp := owp_t k3 hp
    refine lv_iconst (v := (0)) hx hb dX10_isFlow_30 (by decide) ?_
    exact hr _ _ _ _ _ _ hR hS dX10_isFlow_31 (rZ_0 hp)
  · have hp := owp_f k3 hp
    refine lv_iload_n hx hb dX10_isFlow_8 rfl (lv_at hl 2 rfl) ?_
    refine lv_i2l (v := Int32.toInt64 v2) hx hb dX10_isFlow_9 rfl ?_
    refine lv_lconst (v := 0) hx hb dX10_isFlow_10 (by decide) ?_
    refine lv_aload_n hx hb dX10_isFlow_11 rfl (lv_at hl 0 rfl) ?_
    refine lv_iload_n hx hb dX10_isFlow_12 rfl (lv_at hl 1 rfl) ?_
    refine lv_iconst (v := (5)) hx hb dX10_isFlow_13 (by decide) ?_
    obtain ⟨x5, N4, e_N4, hp⟩ := owp_ob2 hp
    refine iv_X10_of (rest := [.long (0 : Int64), .long (Int32.toInt64 v2)]) mw_X10_52 X hR hS e_N4 hl.1 (Nat.le_of_ble_eq_true rfl) ⟨Nat.le_of_ble_eq_true rfl, Nat.le_of_ble_eq_true rfl⟩ ⟨Nat.le_of_ble_eq_true rfl, Nat.le_of_ble_eq_true rfl⟩ dX10_isFlow_14 (fun H locs hR hS => ?_)
    refine lv_iconst (v := (1)) hx hb dX10_isFlow_17 (by decide) ?_
    refine lv_isub hx hb dX10_isFlow_18 ?_
    refine lv_i2l (v := Int32.toInt64 (x5 - (1 : Int32))) hx hb dX10_isFlow_19 rfl ?_
    obtain ⟨x7, N6, e_N6, hp⟩ := owp_ob2 hp
    refine iv_X10_in (rest := []) mw_X10_60 X hR hS e_N6 hl.1 (Nat.le_of_ble_eq_true rfl) ⟨Nat.le_of_ble_eq_true rfl, Nat.le_of_ble_eq_true rfl⟩ ⟨Nat.le_of_ble_eq_true rfl, Nat.le_of_ble_eq_true rfl⟩ dX10_isFlow_20 (fun H locs hR hS => ?_)
    refine lv_if_eq (tgt := 30) hx hb dX10_isFlow_23 (by decide) (fun k8 => ?_) (fun k8 => ?_)
    · have hp := owp_t k8 hp
      refine lv_iconst (v := (0)) hx hb dX10_isFlow_30 (by decide) ?_
      exact hr _ _ _ _ _ _ hR hS dX10_isFlow_31 (rZ_0 hp)
    · have hp := owp_f k8 hp
      refine lv_iconst (v := (1)) hx hb dX10_isFlow_26 (by decide) ?_
      refine lv_goto (tgt := 31) hx hb dX10_isFlow_27 (by decide) ?_
      exact hr _ _ _ _ _ _ hR hS dX10_isFlow_31 (rZ_1 hp)
end
theorem ct_X10_isFlow {v0 : Nat} {v1 : Int32} {v2 : Int32} {N N1 : AH} {r : Int32} (h : f_X10_isFlow v0 v1 v2 N = some (r, N1)) : Ct yX10_isFlow cX10_isFlow 3 (some .boolean) rm_X10_isFlow [.ref v0, .int v1, .int v2] N (some (.int r)) N1 :=
  ab_met (own := RX10) (by decide +kernel) rfl (Nat.le_of_ble_eq_true rfl) (fun l G aC t b0 p e s m below meth c ls X hr hlk hnm hR hS hl => wk_X10_isFlow X (RtZ_met X.1.1 X.1.2.1 hr hlk) _ _ _ _ _ _ _ hR hS hl (owp_of h))
theorem cw_X10_isFlow : Cond.code yX10_isFlow cX10_isFlow 3 (some .boolean) ∈ WT := WT_of 1261 (by decide +kernel) (by decide +kernel)
theorem iv_X10_isFlow {p : Program} {l : Launch} {e : Env} {R : Room} {s : State} {m : MethodId} {args : Array Value} {below : List Frame} {meth : Method} {c : Code} {H : Heap} {locs : List Loc} {cells slots : Nat} {Q : State → Prop} {cc : ByteArray} {own : String} {nL : Nat} {G : va_G} {aC : Nat → ClassId} {t b0 : Nat} {N N1 : AH} {pc index : Nat} {ls : Array Slot} {rest : List Value} {v0 : Nat} {v1 : Int32} {v2 : Int32} {r : Int32} (w1 : Cond.methodLink own index yX10_isFlow ∈ WT) (X : CX cc own nL G aC t b0 p s m args c) (hR : Rp G aC b0 N H) (hS : va_S (fun q => b0 ≤ q) s.heap H locs) (h : f_X10_isFlow v0 v1 v2 N = some (r, N1)) (hls : ls.size = nL) (hW : (rest.map fun v => v.category).sum ≤ 8) (hR1 : 3 ≤ R.frames ∧ 68 ≤ R.locals) (hcs : cells + 0 ≤ R.cells ∧ slots + 0 ≤ R.slots) (hdg : decode cc pc = .ok (.invokevirtual index, 3)) (kk : ∀ (H1 : Heap) (locs1 : List Loc), Rp G aC b0 N1 H1 → va_S (fun q => b0 ≤ q) s.heap H1 locs1 → W p l e R s m args below meth c H1 locs1 cells slots Q (F0 m (pc + 3) ls (.int r :: rest))) : W p l e R s m args below meth c H locs cells slots Q (F0 m pc ls (.int v2 :: .int v1 :: .ref v0 :: rest)) :=
  ab_callV (n := 2) (As := [.int v1, .int v2]) X hR hS (ct_X10_isFlow h) (ob_rc (c := 10) (N := N) (a := v0) h) (T := TX10) (k := 20) (C := RX10) rfl w1 (WT_of 1260 (by decide +kernel) (by decide +kernel)) (WT_of 71 (by decide +kernel) (by decide +kernel)) (WT_of 92 (by decide +kernel) (by decide +kernel)) cw_X10_isFlow ⟨rfl, by decide +kernel, by decide +kernel, by decide +kernel⟩ rfl hls hW hR1 hcs rfl hdg kk
-- X10_flowPart
theorem mw_X10_234 : Cond.methodLink RX10 234 yX10_isFlow ∈ WT := WT_of 1258 (by decide +kernel) (by decide +kernel)
theorem dX10_flowPart_0 : decode cX10_flowPart 0 = .ok (.aload_n 0, 1) := by decide +kernel
theorem dX10_flowPart_1 : decode cX10_flowPart 1 = .ok (.iload_n 1, 1) := by decide +kernel
theorem dX10_flowPart_2 : decode cX10_flowPart 2 = .ok (.iload_n 2, 1) := by decide +kernel
theorem dX10_flowPart_3 : decode cX10_flowPart 3 = .ok (.invokevirtual 234, 3) := by decide +kernel
theorem dX10_flowPart_6 : decode cX10_flowPart 6 = .ok (.ifCond .ne 6, 3) := by decide +kernel
theorem dX10_flowPart_9 : decode cX10_flowPart 9 = .ok (.bipush (-2), 2) := by decide +kernel
theorem dX10_flowPart_11 : decode cX10_flowPart 11 = .ok (.ireturn, 1) := by decide +kernel
theorem dX10_flowPart_12 : decode cX10_flowPart 12 = .ok (.iload_n 3, 1) := by decide +kernel
theorem dX10_flowPart_13 : decode cX10_flowPart 13 = .ok (.i2l, 1) := by decide +kernel
theorem dX10_flowPart_14 : decode cX10_flowPart 14 = .ok (.lconst 0, 1) := by decide +kernel
theorem dX10_flowPart_15 : decode cX10_flowPart 15 = .ok (.ldc2_w 237, 3) := by decide +kernel
theorem dX10_flowPart_18 : decode cX10_flowPart 18 = .ok (.invokestatic 60, 3) := by decide +kernel
theorem dX10_flowPart_21 : decode cX10_flowPart 21 = .ok (.ifCond .eq 13, 3) := by decide +kernel
theorem dX10_flowPart_24 : decode cX10_flowPart 24 = .ok (.aload_n 0, 1) := by decide +kernel
theorem dX10_flowPart_25 : decode cX10_flowPart 25 = .ok (.iload_n 1, 1) := by decide +kernel
theorem dX10_flowPart_26 : decode cX10_flowPart 26 = .ok (.iload_n 2, 1) := by decide +kernel
theorem dX10_flowPart_27 : decode cX10_flowPart 27 = .ok (.iload_n 3, 1) := by decide +kernel
theorem dX10_flowPart_28 : decode cX10_flowPart 28 = .ok (.invokevirtual 64, 3) := by decide +kernel
theorem dX10_flowPart_31 : decode cX10_flowPart 31 = .ok (.goto 5, 3) := by decide +kernel
theorem dX10_flowPart_34 : decode cX10_flowPart 34 = .ok (.bipush (-3), 2) := by decide +kernel
theorem dX10_flowPart_36 : decode cX10_flowPart 36 = .ok (.ireturn, 1) := by decide +kernel
def rm_X10_flowPart : Room := { frames := 3, cells := 0, slots := 0, locals := 68 }
section
variable {p : Program} {l : Launch} {e : Env} {s : State} {m : MethodId} {args : Array Value} {below : List Frame} {meth : Method} {c : Code} {Q : State → Prop} {G : va_G} {aC : Nat → ClassId} {t b0 : Nat}
def f_X10_flowPart (v0 : Nat) (v1 : Int32) (v2 : Int32) (v3 : Int32) (N : AH) : Option (Int32 × AH) := ob (iO N v0 10) (fun _ => ob2 (f_X10_isFlow v0 v1 v2 N) (fun x2 N1 => if ¬ x2 = 0 then ob2 (f_X10_in (Int32.toInt64 v3) (0 : Int64) (4 : Int64) N1) (fun x5 N4 => if x5 = 0 then some ((-3 : Int32), N4) else ob2 (f_X10_flowOf v0 v1 v2 v3 N4) (fun x8 N7 => some (x8, N7))) else some ((-2 : Int32), N1)))
set_option maxHeartbeats 4000000 in
set_option maxRecDepth 100000 in
theorem wk_X10_flowPart {P : Int32 × AH → Prop} (X : CX cX10_flowPart RX10 4 G aC t b0 p s m args c) (hr : RtI p l e rm_X10_flowPart s m args below meth c 0 0 Q cX10_flowPart G aC b0 P) (v0 : Nat) (v1 : Int32) (v2 : Int32) (v3 : Int32) (N : AH) (H : Heap) (locs : List Loc) (ls : Array Slot) (hR : Rp G aC b0 N H) (hS : va_S (fun q => b0 ≤ q) s.heap H locs) (hl : lv_has ls 4 [(0, .ref v0), (1, .int v1), (2, .int v2), (3, .int v3)]) (hp : owp (f_X10_flowPart v0 v1 v2 v3 N) P) : W p l e rm_X10_flowPart s m args below meth c H locs 0 0 Q (F0 m 0 ls []) := by
  have hx := X.1.1
  have hb := X.1.2.1
  unfold f_X10_flowPart at hp
  obtain ⟨_, _, hp⟩ := owp_ob hp
  refine lv_aload_n hx hb dX10_flowPart_0 rfl (lv_at hl 0 rfl) ?_
  refine lv_iload_n hx hb dX10_flowPart_1 rfl (lv_at hl 1 rfl) ?_
  refine lv_iload_n hx hb dX10_flowPart_2 rfl (lv_at hl 2 rfl) ?_
  obtain ⟨x2, N1, e_N1, hp⟩ := owp_ob2 hp
  refine iv_X10_isFlow (rest := []) mw_X10_234 X hR hS e_N1 hl.1 (Nat.le_of_ble_eq_true rfl) ⟨Nat.le_of_ble_eq_true rfl, Nat.le_of_ble_eq_true rfl⟩ ⟨Nat.le_of_ble_eq_true rfl, Nat.le_of_ble_eq_true rfl⟩ dX10_flowPart_3 (fun H locs hR hS => ?_)
  refine lv_if_ne (tgt := 12) hx hb dX10_flowPart_6 (by decide) (fun k3 => ?_) (fun k3 => ?_)
  · have hp := owp_t k3 hp
    refine lv_iload_n hx hb dX10_flowPart_12 rfl (lv_at hl 3 rfl) ?_
    refine lv_i2l (v := Int32.toInt64 v3) hx hb dX10_flowPart_13 rfl ?_
    refine lv_lconst (v := 0) hx hb dX10_flowPart_14 (by decide) ?_
    refine lv_ldc2 (own := RX10) (v := 4) hx hb X.1.2.2.2.1 (X.1.2.2.2.2 _ (WT_of 1262 (by decide +kernel) (by decide +kernel))) dX10_flowPart_15 ?_
    obtain ⟨x5, N4, e_N4, hp⟩ := owp_ob2 hp
    refine iv_X10_in (rest := []) mw_X10_60 X hR hS e_N4 hl.1 (Nat.le_of_ble_eq_true rfl) ⟨Nat.le_of_ble_eq_true rfl, Nat.le_of_ble_eq_true rfl⟩ ⟨Nat.le_of_ble_eq_true rfl, Nat.le_of_ble_eq_true rfl⟩ dX10_flowPart_18 (fun H locs hR hS => ?_)
    refine lv_if_eq (tgt := 34) hx hb dX10_flowPart_21 (by decide) (fun k6 => ?_) (fun k6 => ?_)
    · have hp := owp_t k6 hp
      refine lv_bipush (v := (-3)) hx hb dX10_flowPart_34 (by decide) ?_
      exact hr _ _ _ _ _ _ hR hS dX10_flowPart_36 hp
    · have hp := owp_f k6 hp
      refine lv_aload_n hx hb dX10_flowPart_24 rfl (lv_at hl 0 rfl) ?_
      refine lv_iload_n hx hb dX10_flowPart_25 rfl (lv_at hl 1 rfl) ?_
      refine lv_iload_n hx hb dX10_flowPart_26 rfl (lv_at hl 2 rfl) ?_
      refine lv_iload_n hx hb dX10_flowPart_27 rfl (lv_at hl 3 rfl) ?_
      obtain ⟨x8, N7, e_N7, hp⟩ := owp_ob2 hp
      refine iv_X10_flowOf (rest := []) mw_X10_64 X hR hS e_N7 hl.1 (Nat.le_of_ble_eq_true rfl) ⟨Nat.le_of_ble_eq_true rfl, Nat.le_of_ble_eq_true rfl⟩ ⟨Nat.le_of_ble_eq_true rfl, Nat.le_of_ble_eq_true rfl⟩ dX10_flowPart_28 (fun H locs hR hS => ?_)
      refine lv_goto (tgt := 36) hx hb dX10_flowPart_31 (by decide) ?_
      exact hr _ _ _ _ _ _ hR hS dX10_flowPart_36 hp
  · have hp := owp_f (fun q => q k3) hp
    refine lv_bipush (v := (-2)) hx hb dX10_flowPart_9 (by decide) ?_
    exact hr _ _ _ _ _ _ hR hS dX10_flowPart_11 hp
end
theorem ct_X10_flowPart {v0 : Nat} {v1 : Int32} {v2 : Int32} {v3 : Int32} {N N1 : AH} {r : Int32} (h : f_X10_flowPart v0 v1 v2 v3 N = some (r, N1)) : Ct yX10_flowPart cX10_flowPart 4 (some .int) rm_X10_flowPart [.ref v0, .int v1, .int v2, .int v3] N (some (.int r)) N1 :=
  ab_met (own := RX10) (by decide +kernel) rfl (Nat.le_of_ble_eq_true rfl) (fun l G aC t b0 p e s m below meth c ls X hr hlk hnm hR hS hl => wk_X10_flowPart X (RtI_met X.1.1 X.1.2.1 hr hlk) _ _ _ _ _ _ _ _ hR hS hl (owp_of h))
theorem cw_X10_flowPart : Cond.code yX10_flowPart cX10_flowPart 4 (some .int) ∈ WT := WT_of 1257 (by decide +kernel) (by decide +kernel)
theorem iv_X10_flowPart {p : Program} {l : Launch} {e : Env} {R : Room} {s : State} {m : MethodId} {args : Array Value} {below : List Frame} {meth : Method} {c : Code} {H : Heap} {locs : List Loc} {cells slots : Nat} {Q : State → Prop} {cc : ByteArray} {own : String} {nL : Nat} {G : va_G} {aC : Nat → ClassId} {t b0 : Nat} {N N1 : AH} {pc index : Nat} {ls : Array Slot} {rest : List Value} {v0 : Nat} {v1 : Int32} {v2 : Int32} {v3 : Int32} {r : Int32} (w1 : Cond.methodLink own index yX10_flowPart ∈ WT) (X : CX cc own nL G aC t b0 p s m args c) (hR : Rp G aC b0 N H) (hS : va_S (fun q => b0 ≤ q) s.heap H locs) (h : f_X10_flowPart v0 v1 v2 v3 N = some (r, N1)) (hls : ls.size = nL) (hW : (rest.map fun v => v.category).sum ≤ 8) (hR1 : 4 ≤ R.frames ∧ 91 ≤ R.locals) (hcs : cells + 0 ≤ R.cells ∧ slots + 0 ≤ R.slots) (hdg : decode cc pc = .ok (.invokevirtual index, 3)) (kk : ∀ (H1 : Heap) (locs1 : List Loc), Rp G aC b0 N1 H1 → va_S (fun q => b0 ≤ q) s.heap H1 locs1 → W p l e R s m args below meth c H1 locs1 cells slots Q (F0 m (pc + 3) ls (.int r :: rest))) : W p l e R s m args below meth c H locs cells slots Q (F0 m pc ls (.int v3 :: .int v2 :: .int v1 :: .ref v0 :: rest)) :=
  ab_callV (n := 3) (As := [.int v1, .int v2, .int v3]) X hR hS (ct_X10_flowPart h) (ob_rc (c := 10) (N := N) (a := v0) h) (T := TX10) (k := 20) (C := RX10) rfl w1 (WT_of 1255 (by decide +kernel) (by decide +kernel)) (WT_of 1256 (by decide +kernel) (by decide +kernel)) (WT_of 92 (by decide +kernel) (by decide +kernel)) cw_X10_flowPart ⟨rfl, by decide +kernel, by decide +kernel, by decide +kernel⟩ rfl hls hW hR1 hcs rfl hdg kk
-- X10_rest
theorem dX10_rest_0 : decode cX10_rest 0 = .ok (.aload_n 0, 1) := by decide +kernel
theorem dX10_rest_1 : decode cX10_rest 1 = .ok (.iload_n 1, 1) := by decide +kernel
theorem dX10_rest_2 : decode cX10_rest 2 = .ok (.invokevirtual 231, 3) := by decide +kernel
theorem dX10_rest_5 : decode cX10_rest 5 = .ok (.ifCond .eq 11, 3) := by decide +kernel
theorem dX10_rest_8 : decode cX10_rest 8 = .ok (.aload_n 0, 1) := by decide +kernel
theorem dX10_rest_9 : decode cX10_rest 9 = .ok (.iload_n 1, 1) := by decide +kernel
theorem dX10_rest_10 : decode cX10_rest 10 = .ok (.invokevirtual 88, 3) := by decide +kernel
theorem dX10_rest_13 : decode cX10_rest 13 = .ok (.goto 5, 3) := by decide +kernel
theorem dX10_rest_16 : decode cX10_rest 16 = .ok (.bipush (-2), 2) := by decide +kernel
theorem dX10_rest_18 : decode cX10_rest 18 = .ok (.ireturn, 1) := by decide +kernel
def rm_X10_rest : Room := { frames := 3, cells := 0, slots := 0, locals := 68 }
section
variable {p : Program} {l : Launch} {e : Env} {s : State} {m : MethodId} {args : Array Value} {below : List Frame} {meth : Method} {c : Code} {Q : State → Prop} {G : va_G} {aC : Nat → ClassId} {t b0 : Nat}
def f_X10_rest (v0 : Nat) (v1 : Int32) (N : AH) : Option (Int32 × AH) := ob (iO N v0 10) (fun _ => ob2 (f_X10_isGroup v0 v1 N) (fun x2 N1 => if x2 = 0 then some ((-2 : Int32), N1) else ob2 (f_X10_restOf v0 v1 N1) (fun x5 N4 => some (x5, N4))))
set_option maxHeartbeats 4000000 in
set_option maxRecDepth 100000 in
theorem wk_X10_rest {P : Int32 × AH → Prop} (X : CX cX10_rest RX10 2 G aC t b0 p s m args c) (hr : RtI p l e rm_X10_rest s m args below meth c 0 0 Q cX10_rest G aC b0 P) (v0 : Nat) (v1 : Int32) (N : AH) (H : Heap) (locs : List Loc) (ls : Array Slot) (hR : Rp G aC b0 N H) (hS : va_S (fun q => b0 ≤ q) s.heap H locs) (hl : lv_has ls 2 [(0, .ref v0), (1, .int v1)]) (hp : owp (f_X10_rest v0 v1 N) P) : W p l e rm_X10_rest s m args below meth c H locs 0 0 Q (F0 m 0 ls []) := by
  have hx := X.1.1
  have hb := X.1.2.1
  unfold f_X10_rest at hp
  obtain ⟨_, _, hp⟩ := owp_ob hp
  refine lv_aload_n hx hb dX10_rest_0 rfl (lv_at hl 0 rfl) ?_
  refine lv_iload_n hx hb dX10_rest_1 rfl (lv_at hl 1 rfl) ?_
  obtain ⟨x2, N1, e_N1, hp⟩ := owp_ob2 hp
  refine iv_X10_isGroup (rest := []) mw_X10_231 X hR hS e_N1 hl.1 (Nat.le_of_ble_eq_true rfl) ⟨Nat.le_of_ble_eq_true rfl, Nat.le_of_ble_eq_true rfl⟩ ⟨Nat.le_of_ble_eq_true rfl, Nat.le_of_ble_eq_true rfl⟩ dX10_rest_2 (fun H locs hR hS => ?_)
  refine lv_if_eq (tgt := 16) hx hb dX10_rest_5 (by decide) (fun k3 => ?_) (fun k3 => ?_)
  · have hp := owp_t k3 hp
    refine lv_bipush (v := (-2)) hx hb dX10_rest_16 (by decide) ?_
    exact hr _ _ _ _ _ _ hR hS dX10_rest_18 hp
  · have hp := owp_f k3 hp
    refine lv_aload_n hx hb dX10_rest_8 rfl (lv_at hl 0 rfl) ?_
    refine lv_iload_n hx hb dX10_rest_9 rfl (lv_at hl 1 rfl) ?_
    obtain ⟨x5, N4, e_N4, hp⟩ := owp_ob2 hp
    refine iv_X10_restOf (rest := []) mw_X10_88 X hR hS e_N4 hl.1 (Nat.le_of_ble_eq_true rfl) ⟨Nat.le_of_ble_eq_true rfl, Nat.le_of_ble_eq_true rfl⟩ ⟨Nat.le_of_ble_eq_true rfl, Nat.le_of_ble_eq_true rfl⟩ dX10_rest_10 (fun H locs hR hS => ?_)
    refine lv_goto (tgt := 18) hx hb dX10_rest_13 (by decide) ?_
    exact hr _ _ _ _ _ _ hR hS dX10_rest_18 hp
end
theorem ct_X10_rest {v0 : Nat} {v1 : Int32} {N N1 : AH} {r : Int32} (h : f_X10_rest v0 v1 N = some (r, N1)) : Ct yX10_rest cX10_rest 2 (some .int) rm_X10_rest [.ref v0, .int v1] N (some (.int r)) N1 :=
  ab_met (own := RX10) (by decide +kernel) rfl (Nat.le_of_ble_eq_true rfl) (fun l G aC t b0 p e s m below meth c ls X hr hlk hnm hR hS hl => wk_X10_rest X (RtI_met X.1.1 X.1.2.1 hr hlk) _ _ _ _ _ _ hR hS hl (owp_of h))
theorem cw_X10_rest : Cond.code yX10_rest cX10_rest 2 (some .int) ∈ WT := WT_of 1266 (by decide +kernel) (by decide +kernel)
theorem iv_X10_rest {p : Program} {l : Launch} {e : Env} {R : Room} {s : State} {m : MethodId} {args : Array Value} {below : List Frame} {meth : Method} {c : Code} {H : Heap} {locs : List Loc} {cells slots : Nat} {Q : State → Prop} {cc : ByteArray} {own : String} {nL : Nat} {G : va_G} {aC : Nat → ClassId} {t b0 : Nat} {N N1 : AH} {pc index : Nat} {ls : Array Slot} {rest : List Value} {v0 : Nat} {v1 : Int32} {r : Int32} (w1 : Cond.methodLink own index yX10_rest ∈ WT) (X : CX cc own nL G aC t b0 p s m args c) (hR : Rp G aC b0 N H) (hS : va_S (fun q => b0 ≤ q) s.heap H locs) (h : f_X10_rest v0 v1 N = some (r, N1)) (hls : ls.size = nL) (hW : (rest.map fun v => v.category).sum ≤ 8) (hR1 : 4 ≤ R.frames ∧ 89 ≤ R.locals) (hcs : cells + 0 ≤ R.cells ∧ slots + 0 ≤ R.slots) (hdg : decode cc pc = .ok (.invokevirtual index, 3)) (kk : ∀ (H1 : Heap) (locs1 : List Loc), Rp G aC b0 N1 H1 → va_S (fun q => b0 ≤ q) s.heap H1 locs1 → W p l e R s m args below meth c H1 locs1 cells slots Q (F0 m (pc + 3) ls (.int r :: rest))) : W p l e R s m args below meth c H locs cells slots Q (F0 m pc ls (.int v1 :: .ref v0 :: rest)) :=
  ab_callV (n := 1) (As := [.int v1]) X hR hS (ct_X10_rest h) (ob_rc (c := 10) (N := N) (a := v0) h) (T := TX10) (k := 20) (C := RX10) rfl w1 (WT_of 1264 (by decide +kernel) (by decide +kernel)) (WT_of 1265 (by decide +kernel) (by decide +kernel)) (WT_of 92 (by decide +kernel) (by decide +kernel)) cw_X10_rest ⟨rfl, by decide +kernel, by decide +kernel, by decide +kernel⟩ rfl hls hW hR1 hcs rfl hdg kk
-- X10_level
theorem dX10_level_0 : decode cX10_level 0 = .ok (.aload_n 0, 1) := by decide +kernel
theorem dX10_level_1 : decode cX10_level 1 = .ok (.iload_n 1, 1) := by decide +kernel
theorem dX10_level_2 : decode cX10_level 2 = .ok (.invokevirtual 231, 3) := by decide +kernel
theorem dX10_level_5 : decode cX10_level 5 = .ok (.ifCond .eq 11, 3) := by decide +kernel
theorem dX10_level_8 : decode cX10_level 8 = .ok (.aload_n 0, 1) := by decide +kernel
theorem dX10_level_9 : decode cX10_level 9 = .ok (.iload_n 1, 1) := by decide +kernel
theorem dX10_level_10 : decode cX10_level 10 = .ok (.invokevirtual 94, 3) := by decide +kernel
theorem dX10_level_13 : decode cX10_level 13 = .ok (.goto 5, 3) := by decide +kernel
theorem dX10_level_16 : decode cX10_level 16 = .ok (.bipush (-2), 2) := by decide +kernel
theorem dX10_level_18 : decode cX10_level 18 = .ok (.ireturn, 1) := by decide +kernel
def rm_X10_level : Room := { frames := 3, cells := 0, slots := 0, locals := 68 }
section
variable {p : Program} {l : Launch} {e : Env} {s : State} {m : MethodId} {args : Array Value} {below : List Frame} {meth : Method} {c : Code} {Q : State → Prop} {G : va_G} {aC : Nat → ClassId} {t b0 : Nat}
def f_X10_level (v0 : Nat) (v1 : Int32) (N : AH) : Option (Int32 × AH) := ob (iO N v0 10) (fun _ => ob2 (f_X10_isGroup v0 v1 N) (fun x2 N1 => if x2 = 0 then some ((-2 : Int32), N1) else ob2 (f_X10_levelOf v0 v1 N1) (fun x5 N4 => some (x5, N4))))
set_option maxHeartbeats 4000000 in
set_option maxRecDepth 100000 in
theorem wk_X10_level {P : Int32 × AH → Prop} (X : CX cX10_level RX10 2 G aC t b0 p s m args c) (hr : RtI p l e rm_X10_level s m args below meth c 0 0 Q cX10_level G aC b0 P) (v0 : Nat) (v1 : Int32) (N : AH) (H : Heap) (locs : List Loc) (ls : Array Slot) (hR : Rp G aC b0 N H) (hS : va_S (fun q => b0 ≤ q) s.heap H locs) (hl : lv_has ls 2 [(0, .ref v0), (1, .int v1)]) (hp : owp (f_X10_level v0 v1 N) P) : W p l e rm_X10_level s m args below meth c H locs 0 0 Q (F0 m 0 ls []) := by
  have hx := X.1.1
  have hb := X.1.2.1
  unfold f_X10_level at hp
  obtain ⟨_, _, hp⟩ := owp_ob hp
  refine lv_aload_n hx hb dX10_level_0 rfl (lv_at hl 0 rfl) ?_
  refine lv_iload_n hx hb dX10_level_1 rfl (lv_at hl 1 rfl) ?_
  obtain ⟨x2, N1, e_N1, hp⟩ := owp_ob2 hp
  refine iv_X10_isGroup (rest := []) mw_X10_231 X hR hS e_N1 hl.1 (Nat.le_of_ble_eq_true rfl) ⟨Nat.le_of_ble_eq_true rfl, Nat.le_of_ble_eq_true rfl⟩ ⟨Nat.le_of_ble_eq_true rfl, Nat.le_of_ble_eq_true rfl⟩ dX10_level_2 (fun H locs hR hS => ?_)
  refine lv_if_eq (tgt := 16) hx hb dX10_level_5 (by decide) (fun k3 => ?_) (fun k3 => ?_)
  · have hp := owp_t k3 hp
    refine lv_bipush (v := (-2)) hx hb dX10_level_16 (by decide) ?_
    exact hr _ _ _ _ _ _ hR hS dX10_level_18 hp
  · have hp := owp_f k3 hp
    refine lv_aload_n hx hb dX10_level_8 rfl (lv_at hl 0 rfl) ?_
    refine lv_iload_n hx hb dX10_level_9 rfl (lv_at hl 1 rfl) ?_
    obtain ⟨x5, N4, e_N4, hp⟩ := owp_ob2 hp
    refine iv_X10_levelOf (rest := []) mw_X10_94 X hR hS e_N4 hl.1 (Nat.le_of_ble_eq_true rfl) ⟨Nat.le_of_ble_eq_true rfl, Nat.le_of_ble_eq_true rfl⟩ ⟨Nat.le_of_ble_eq_true rfl, Nat.le_of_ble_eq_true rfl⟩ dX10_level_10 (fun H locs hR hS => ?_)
    refine lv_goto (tgt := 18) hx hb dX10_level_13 (by decide) ?_
    exact hr _ _ _ _ _ _ hR hS dX10_level_18 hp
end
theorem ct_X10_level {v0 : Nat} {v1 : Int32} {N N1 : AH} {r : Int32} (h : f_X10_level v0 v1 N = some (r, N1)) : Ct yX10_level cX10_level 2 (some .int) rm_X10_level [.ref v0, .int v1] N (some (.int r)) N1 :=
  ab_met (own := RX10) (by decide +kernel) rfl (Nat.le_of_ble_eq_true rfl) (fun l G aC t b0 p e s m below meth c ls X hr hlk hnm hR hS hl => wk_X10_level X (RtI_met X.1.1 X.1.2.1 hr hlk) _ _ _ _ _ _ hR hS hl (owp_of h))
theorem cw_X10_level : Cond.code yX10_level cX10_level 2 (some .int) ∈ WT := WT_of 1270 (by decide +kernel) (by decide +kernel)
theorem iv_X10_level {p : Program} {l : Launch} {e : Env} {R : Room} {s : State} {m : MethodId} {args : Array Value} {below : List Frame} {meth : Method} {c : Code} {H : Heap} {locs : List Loc} {cells slots : Nat} {Q : State → Prop} {cc : ByteArray} {own : String} {nL : Nat} {G : va_G} {aC : Nat → ClassId} {t b0 : Nat} {N N1 : AH} {pc index : Nat} {ls : Array Slot} {rest : List Value} {v0 : Nat} {v1 : Int32} {r : Int32} (w1 : Cond.methodLink own index yX10_level ∈ WT) (X : CX cc own nL G aC t b0 p s m args c) (hR : Rp G aC b0 N H) (hS : va_S (fun q => b0 ≤ q) s.heap H locs) (h : f_X10_level v0 v1 N = some (r, N1)) (hls : ls.size = nL) (hW : (rest.map fun v => v.category).sum ≤ 8) (hR1 : 4 ≤ R.frames ∧ 89 ≤ R.locals) (hcs : cells + 0 ≤ R.cells ∧ slots + 0 ≤ R.slots) (hdg : decode cc pc = .ok (.invokevirtual index, 3)) (kk : ∀ (H1 : Heap) (locs1 : List Loc), Rp G aC b0 N1 H1 → va_S (fun q => b0 ≤ q) s.heap H1 locs1 → W p l e R s m args below meth c H1 locs1 cells slots Q (F0 m (pc + 3) ls (.int r :: rest))) : W p l e R s m args below meth c H locs cells slots Q (F0 m pc ls (.int v1 :: .ref v0 :: rest)) :=
  ab_callV (n := 1) (As := [.int v1]) X hR hS (ct_X10_level h) (ob_rc (c := 10) (N := N) (a := v0) h) (T := TX10) (k := 20) (C := RX10) rfl w1 (WT_of 1268 (by decide +kernel) (by decide +kernel)) (WT_of 1269 (by decide +kernel) (by decide +kernel)) (WT_of 92 (by decide +kernel) (by decide +kernel)) cw_X10_level ⟨rfl, by decide +kernel, by decide +kernel, by decide +kernel⟩ rfl hls hW hR1 hcs rfl hdg kk
-- X10_loneSpan
theorem dX10_loneSpan_0 : decode cX10_loneSpan 0 = .ok (.aload_n 0, 1) := by decide +kernel
theorem dX10_loneSpan_1 : decode cX10_loneSpan 1 = .ok (.iload_n 1, 1) := by decide +kernel
theorem dX10_loneSpan_2 : decode cX10_loneSpan 2 = .ok (.invokevirtual 231, 3) := by decide +kernel
theorem dX10_loneSpan_5 : decode cX10_loneSpan 5 = .ok (.ifCond .ne 6, 3) := by decide +kernel
theorem dX10_loneSpan_8 : decode cX10_loneSpan 8 = .ok (.bipush (-2), 2) := by decide +kernel
theorem dX10_loneSpan_10 : decode cX10_loneSpan 10 = .ok (.ireturn, 1) := by decide +kernel
theorem dX10_loneSpan_11 : decode cX10_loneSpan 11 = .ok (.aload_n 0, 1) := by decide +kernel
theorem dX10_loneSpan_12 : decode cX10_loneSpan 12 = .ok (.iload_n 1, 1) := by decide +kernel
theorem dX10_loneSpan_13 : decode cX10_loneSpan 13 = .ok (.invokevirtual 107, 3) := by decide +kernel
theorem dX10_loneSpan_16 : decode cX10_loneSpan 16 = .ok (.iconst 2, 1) := by decide +kernel
theorem dX10_loneSpan_17 : decode cX10_loneSpan 17 = .ok (.if_icmp .ne 7, 3) := by decide +kernel
theorem dX10_loneSpan_20 : decode cX10_loneSpan 20 = .ok (.iconst (-1), 1) := by decide +kernel
theorem dX10_loneSpan_21 : decode cX10_loneSpan 21 = .ok (.goto 8, 3) := by decide +kernel
theorem dX10_loneSpan_24 : decode cX10_loneSpan 24 = .ok (.aload_n 0, 1) := by decide +kernel
theorem dX10_loneSpan_25 : decode cX10_loneSpan 25 = .ok (.iload_n 1, 1) := by decide +kernel
theorem dX10_loneSpan_26 : decode cX10_loneSpan 26 = .ok (.invokevirtual 83, 3) := by decide +kernel
theorem dX10_loneSpan_29 : decode cX10_loneSpan 29 = .ok (.ireturn, 1) := by decide +kernel
def rm_X10_loneSpan : Room := { frames := 5, cells := 0, slots := 0, locals := 114 }
section
variable {p : Program} {l : Launch} {e : Env} {s : State} {m : MethodId} {args : Array Value} {below : List Frame} {meth : Method} {c : Code} {Q : State → Prop} {G : va_G} {aC : Nat → ClassId} {t b0 : Nat}
def f_X10_loneSpan (v0 : Nat) (v1 : Int32) (N : AH) : Option (Int32 × AH) := ob (iO N v0 10) (fun _ => ob2 (f_X10_isGroup v0 v1 N) (fun x2 N1 => if ¬ x2 = 0 then ob2 (f_X10_stateOf v0 v1 N1) (fun x5 N4 => if ¬ x5 = (2 : Int32) then ob2 (f_X10_loneSpanOf v0 v1 N4) (fun x8 N7 => some (x8, N7)) else some ((-1 : Int32), N4)) else some ((-2 : Int32), N1)))
set_option maxHeartbeats 4000000 in
set_option maxRecDepth 100000 in
theorem wk_X10_loneSpan {P : Int32 × AH → Prop} (X : CX cX10_loneSpan RX10 2 G aC t b0 p s m args c) (hr : RtI p l e rm_X10_loneSpan s m args below meth c 0 0 Q cX10_loneSpan G aC b0 P) (v0 : Nat) (v1 : Int32) (N : AH) (H : Heap) (locs : List Loc) (ls : Array Slot) (hR : Rp G aC b0 N H) (hS : va_S (fun q => b0 ≤ q) s.heap H locs) (hl : lv_has ls 2 [(0, .ref v0), (1, .int v1)]) (hp : owp (f_X10_loneSpan v0 v1 N) P) : W p l e rm_X10_loneSpan s m args below meth c H locs 0 0 Q (F0 m 0 ls []) := by
  have hx := X.1.1
  have hb := X.1.2.1
  unfold f_X10_loneSpan at hp
  obtain ⟨_, _, hp⟩ := owp_ob hp
  refine lv_aload_n hx hb dX10_loneSpan_0 rfl (lv_at hl 0 rfl) ?_
  refine lv_iload_n hx hb dX10_loneSpan_1 rfl (lv_at hl 1 rfl) ?_
  obtain ⟨x2, N1, e_N1, hp⟩ := owp_ob2 hp
  refine iv_X10_isGroup (rest := []) mw_X10_231 X hR hS e_N1 hl.1 (Nat.le_of_ble_eq_true rfl) ⟨Nat.le_of_ble_eq_true rfl, Nat.le_of_ble_eq_true rfl⟩ ⟨Nat.le_of_ble_eq_true rfl, Nat.le_of_ble_eq_true rfl⟩ dX10_loneSpan_2 (fun H locs hR hS => ?_)
  refine lv_if_ne (tgt := 11) hx hb dX10_loneSpan_5 (by decide) (fun k3 => ?_) (fun k3 => ?_)
  · have hp := owp_t k3 hp
    refine lv_aload_n hx hb dX10_loneSpan_11 rfl (lv_at hl 0 rfl) ?_
    refine lv_iload_n hx hb dX10_loneSpan_12 rfl (lv_at hl 1 rfl) ?_
    obtain ⟨x5, N4, e_N4, hp⟩ := owp_ob2 hp
    refine iv_X10_stateOf (rest := []) mw_X10_107 X hR hS e_N4 hl.1 (Nat.le_of_ble_eq_true rfl) ⟨Nat.le_of_ble_eq_true rfl, Nat.le_of_ble_eq_true rfl⟩ ⟨Nat.le_of_ble_eq_true rfl, Nat.le_of_ble_eq_true rfl⟩ dX10_loneSpan_13 (fun H locs hR hS => ?_)
    refine lv_iconst (v := (2)) hx hb dX10_loneSpan_16 (by decide) ?_
    refine lv_icmp_ne (tgt := 24) hx hb dX10_loneSpan_17 (by decide) (fun k6 => ?_) (fun k6 => ?_)
    · have hp := owp_t k6 hp
      refine lv_aload_n hx hb dX10_loneSpan_24 rfl (lv_at hl 0 rfl) ?_
      refine lv_iload_n hx hb dX10_loneSpan_25 rfl (lv_at hl 1 rfl) ?_
      obtain ⟨x8, N7, e_N7, hp⟩ := owp_ob2 hp
      refine iv_X10_loneSpanOf (rest := []) mw_X10_83 X hR hS e_N7 hl.1 (Nat.le_of_ble_eq_true rfl) ⟨Nat.le_of_ble_eq_true rfl, Nat.le_of_ble_eq_true rfl⟩ ⟨Nat.le_of_ble_eq_true rfl, Nat.le_of_ble_eq_true rfl⟩ dX10_loneSpan_26 (fun H locs hR hS => ?_)
      exact hr _ _ _ _ _ _ hR hS dX10_loneSpan_29 hp
    · have hp := owp_f (fun q => q k6) hp
      refine lv_iconst (v := (-1)) hx hb dX10_loneSpan_20 (by decide) ?_
      refine lv_goto (tgt := 29) hx hb dX10_loneSpan_21 (by decide) ?_
      exact hr _ _ _ _ _ _ hR hS dX10_loneSpan_29 hp
  · have hp := owp_f (fun q => q k3) hp
    refine lv_bipush (v := (-2)) hx hb dX10_loneSpan_8 (by decide) ?_
    exact hr _ _ _ _ _ _ hR hS dX10_loneSpan_10 hp
end
theorem ct_X10_loneSpan {v0 : Nat} {v1 : Int32} {N N1 : AH} {r : Int32} (h : f_X10_loneSpan v0 v1 N = some (r, N1)) : Ct yX10_loneSpan cX10_loneSpan 2 (some .int) rm_X10_loneSpan [.ref v0, .int v1] N (some (.int r)) N1 :=
  ab_met (own := RX10) (by decide +kernel) rfl (Nat.le_of_ble_eq_true rfl) (fun l G aC t b0 p e s m below meth c ls X hr hlk hnm hR hS hl => wk_X10_loneSpan X (RtI_met X.1.1 X.1.2.1 hr hlk) _ _ _ _ _ _ hR hS hl (owp_of h))
theorem cw_X10_loneSpan : Cond.code yX10_loneSpan cX10_loneSpan 2 (some .int) ∈ WT := WT_of 1274 (by decide +kernel) (by decide +kernel)
theorem iv_X10_loneSpan {p : Program} {l : Launch} {e : Env} {R : Room} {s : State} {m : MethodId} {args : Array Value} {below : List Frame} {meth : Method} {c : Code} {H : Heap} {locs : List Loc} {cells slots : Nat} {Q : State → Prop} {cc : ByteArray} {own : String} {nL : Nat} {G : va_G} {aC : Nat → ClassId} {t b0 : Nat} {N N1 : AH} {pc index : Nat} {ls : Array Slot} {rest : List Value} {v0 : Nat} {v1 : Int32} {r : Int32} (w1 : Cond.methodLink own index yX10_loneSpan ∈ WT) (X : CX cc own nL G aC t b0 p s m args c) (hR : Rp G aC b0 N H) (hS : va_S (fun q => b0 ≤ q) s.heap H locs) (h : f_X10_loneSpan v0 v1 N = some (r, N1)) (hls : ls.size = nL) (hW : (rest.map fun v => v.category).sum ≤ 8) (hR1 : 6 ≤ R.frames ∧ 135 ≤ R.locals) (hcs : cells + 0 ≤ R.cells ∧ slots + 0 ≤ R.slots) (hdg : decode cc pc = .ok (.invokevirtual index, 3)) (kk : ∀ (H1 : Heap) (locs1 : List Loc), Rp G aC b0 N1 H1 → va_S (fun q => b0 ≤ q) s.heap H1 locs1 → W p l e R s m args below meth c H1 locs1 cells slots Q (F0 m (pc + 3) ls (.int r :: rest))) : W p l e R s m args below meth c H locs cells slots Q (F0 m pc ls (.int v1 :: .ref v0 :: rest)) :=
  ab_callV (n := 1) (As := [.int v1]) X hR hS (ct_X10_loneSpan h) (ob_rc (c := 10) (N := N) (a := v0) h) (T := TX10) (k := 20) (C := RX10) rfl w1 (WT_of 1272 (by decide +kernel) (by decide +kernel)) (WT_of 1273 (by decide +kernel) (by decide +kernel)) (WT_of 92 (by decide +kernel) (by decide +kernel)) cw_X10_loneSpan ⟨rfl, by decide +kernel, by decide +kernel, by decide +kernel⟩ rfl hls hW hR1 hcs rfl hdg kk
-- X10_place
theorem dX10_place_0 : decode cX10_place 0 = .ok (.aload_n 0, 1) := by decide +kernel
theorem dX10_place_1 : decode cX10_place 1 = .ok (.iload_n 1, 1) := by decide +kernel
theorem dX10_place_2 : decode cX10_place 2 = .ok (.invokevirtual 231, 3) := by decide +kernel
theorem dX10_place_5 : decode cX10_place 5 = .ok (.ifCond .ne 6, 3) := by decide +kernel
theorem dX10_place_8 : decode cX10_place 8 = .ok (.bipush (-2), 2) := by decide +kernel
theorem dX10_place_10 : decode cX10_place 10 = .ok (.ireturn, 1) := by decide +kernel
theorem dX10_place_11 : decode cX10_place 11 = .ok (.aload_n 0, 1) := by decide +kernel
theorem dX10_place_12 : decode cX10_place 12 = .ok (.invokevirtual 124, 3) := by decide +kernel
theorem dX10_place_15 : decode cX10_place 15 = .ok (.iconst (-1), 1) := by decide +kernel
theorem dX10_place_16 : decode cX10_place 16 = .ok (.istore_n 2, 1) := by decide +kernel
theorem dX10_place_17 : decode cX10_place 17 = .ok (.iconst 0, 1) := by decide +kernel
theorem dX10_place_18 : decode cX10_place 18 = .ok (.istore_n 3, 1) := by decide +kernel
theorem dX10_place_19 : decode cX10_place 19 = .ok (.iload_n 3, 1) := by decide +kernel
theorem dX10_place_20 : decode cX10_place 20 = .ok (.aload_n 0, 1) := by decide +kernel
theorem dX10_place_21 : decode cX10_place 21 = .ok (.getfield 101, 3) := by decide +kernel
theorem dX10_place_24 : decode cX10_place 24 = .ok (.if_icmp .ge 25, 3) := by decide +kernel
theorem dX10_place_27 : decode cX10_place 27 = .ok (.aload_n 0, 1) := by decide +kernel
theorem dX10_place_28 : decode cX10_place 28 = .ok (.getfield 22, 3) := by decide +kernel
theorem dX10_place_31 : decode cX10_place 31 = .ok (.iload_n 3, 1) := by decide +kernel
theorem dX10_place_32 : decode cX10_place 32 = .ok (.iaload, 1) := by decide +kernel
theorem dX10_place_33 : decode cX10_place 33 = .ok (.iload_n 1, 1) := by decide +kernel
theorem dX10_place_34 : decode cX10_place 34 = .ok (.if_icmp .ne 7, 3) := by decide +kernel
theorem dX10_place_37 : decode cX10_place 37 = .ok (.iload_n 3, 1) := by decide +kernel
theorem dX10_place_38 : decode cX10_place 38 = .ok (.goto 4, 3) := by decide +kernel
theorem dX10_place_41 : decode cX10_place 41 = .ok (.iload_n 2, 1) := by decide +kernel
theorem dX10_place_42 : decode cX10_place 42 = .ok (.istore_n 2, 1) := by decide +kernel
theorem dX10_place_43 : decode cX10_place 43 = .ok (.iinc 3 1, 3) := by decide +kernel
theorem dX10_place_46 : decode cX10_place 46 = .ok (.goto (-27), 3) := by decide +kernel
theorem dX10_place_49 : decode cX10_place 49 = .ok (.iload_n 2, 1) := by decide +kernel
theorem dX10_place_50 : decode cX10_place 50 = .ok (.ireturn, 1) := by decide +kernel
def rm_X10_place : Room := { frames := 7, cells := 0, slots := 0, locals := 159 }
section
variable {p : Program} {l : Launch} {e : Env} {s : State} {m : MethodId} {args : Array Value} {below : List Frame} {meth : Method} {c : Code} {Q : State → Prop} {G : va_G} {aC : Nat → ClassId} {t b0 : Nat}
def f_X10_place_L19 (v0 : Nat) (v1 : Int32) (k49 : Int32 → AH → Option (Int32 × AH)) : Nat → Int32 → Int32 → AH → Option (Int32 × AH)
  | 0, _, _, _ => none
  | n + 1, v2, v3, N => ob (hI N v0 10 7) (fun x5 => if x5 ≤ v3 then k49 v2 N else ob (hR N v0 10 6) (fun x7 => ob (aI N x7 v3) (fun x8 => if ¬ x8 = v1 then f_X10_place_L19 v0 v1 k49 n v2 (v3 + 1) N else f_X10_place_L19 v0 v1 k49 n v3 (v3 + 1) N)))
set_option maxHeartbeats 4000000 in
set_option maxRecDepth 100000 in
theorem w_X10_place_L19 {P : Int32 × AH → Prop} (X : CX cX10_place RX10 4 G aC t b0 p s m args c) (hr : RtI p l e rm_X10_place s m args below meth c 0 0 Q cX10_place G aC b0 P) (v0 : Nat) (v1 : Int32) {k49 : Int32 → AH → Option (Int32 × AH)}
    (hk49 : ∀ (v2 : Int32) (N : AH) (H : Heap) (locs : List Loc) (ls : Array Slot), Rp G aC b0 N H → va_S (fun q => b0 ≤ q) s.heap H locs → lv_has ls 4 [(2, .int v2)] → owp (k49 v2 N) P → W p l e rm_X10_place s m args below meth c H locs 0 0 Q (F0 m 49 ls [])) :
    ∀ (n : Nat) (v2 : Int32) (v3 : Int32) (N : AH) (H : Heap) (locs : List Loc) (ls : Array Slot), Rp G aC b0 N H → va_S (fun q => b0 ≤ q) s.heap H locs → lv_has ls 4 [(0, .ref v0), (1, .int v1), (2, .int v2), (3, .int v3)] → owp (f_X10_place_L19 v0 v1 k49 n v2 v3 N) P → W p l e rm_X10_place s m args below meth c H locs 0 0 Q (F0 m 19 ls []) := by
  have hx := X.1.1
  have hb := X.1.2.1
  intro n
  induction n with
  | zero =>
    intro v2 v3 N H locs ls hR hS hl hp
    exact (show False from hp).elim
  | succ n ih =>
    intro v2 v3 N H locs ls hR hS hl hp
    rw [f_X10_place_L19] at hp
    refine lv_iload_n hx hb dX10_place_19 rfl (lv_at hl 3 rfl) ?_
    refine lv_aload_n hx hb dX10_place_20 rfl (lv_at hl 0 rfl) ?_
    obtain ⟨x5, e_x5, hp⟩ := owp_ob hp
    refine gf_X10_101 X hR e_x5 dX10_place_21 ?_
    refine lv_icmp_ge (tgt := 49) hx hb dX10_place_24 (by decide) (fun k6 => ?_) (fun k6 => ?_)
    · have hp := owp_t k6 hp
      exact hk49 _ _ _ _ _ hR hS (lv_sub hl [2] rfl) hp
    · have hp := owp_f k6 hp
      refine lv_aload_n hx hb dX10_place_27 rfl (lv_at hl 0 rfl) ?_
      obtain ⟨x7, e_x7, hp⟩ := owp_ob hp
      refine gf_X10_22 X hR e_x7 dX10_place_28 ?_
      refine lv_iload_n hx hb dX10_place_31 rfl (lv_at hl 3 rfl) ?_
      obtain ⟨x8, e_x8, hp⟩ := owp_ob hp
      refine ab_iald X hR e_x8 dX10_place_32 ?_
      refine lv_iload_n hx hb dX10_place_33 rfl (lv_at hl 1 rfl) ?_
      refine lv_icmp_ne (tgt := 41) hx hb dX10_place_34 (by decide) (fun k9 => ?_) (fun k9 => ?_)
      · have hp := owp_t k9 hp
        refine lv_iload_n hx hb dX10_place_41 rfl (lv_at hl 2 rfl) ?_
        refine lv_istore_n (lv' := [(2, .int v2), (0, .ref v0), (1, .int v1), (3, .int v3)]) hx hb dX10_place_42 rfl hl (by decide) rfl (fun ls hl => ?_)
        refine lv_iinc (v := v3 + 1) (lv' := [(3, .int (v3 + 1)), (2, .int v2), (0, .ref v0), (1, .int v1)]) hx hb dX10_place_43 hl (k := 3) rfl rfl (by decide) rfl (fun ls hl => ?_)
        refine lv_goto (tgt := 19) hx hb dX10_place_46 (by decide) ?_
        exact ih _ _ _ _ _ _ hR hS (lv_sub hl [2, 3, 1, 0] rfl) hp
      · have hp := owp_f (fun q => q k9) hp
        refine lv_iload_n hx hb dX10_place_37 rfl (lv_at hl 3 rfl) ?_
        refine lv_goto (tgt := 42) hx hb dX10_place_38 (by decide) ?_
        refine lv_istore_n (lv' := [(2, .int v3), (0, .ref v0), (1, .int v1), (3, .int v3)]) hx hb dX10_place_42 rfl hl (by decide) rfl (fun ls hl => ?_)
        refine lv_iinc (v := v3 + 1) (lv' := [(3, .int (v3 + 1)), (2, .int v3), (0, .ref v0), (1, .int v1)]) hx hb dX10_place_43 hl (k := 3) rfl rfl (by decide) rfl (fun ls hl => ?_)
        refine lv_goto (tgt := 19) hx hb dX10_place_46 (by decide) ?_
        exact ih _ _ _ _ _ _ hR hS (lv_sub hl [2, 3, 1, 0] rfl) hp
def f_X10_place (v0 : Nat) (v1 : Int32) (N : AH) : Option (Int32 × AH) := ob (iO N v0 10) (fun _ => ob2 (f_X10_isGroup v0 v1 N) (fun x2 N1 => if ¬ x2 = 0 then ob2 (f_X10_orders v0 N1) (fun _ N4 => f_X10_place_L19 v0 v1 (fun v10 N11 => some (v10, N11)) FU (-1 : Int32) (0 : Int32) N4) else some ((-2 : Int32), N1)))
set_option maxHeartbeats 4000000 in
set_option maxRecDepth 100000 in
theorem wk_X10_place {P : Int32 × AH → Prop} (X : CX cX10_place RX10 4 G aC t b0 p s m args c) (hr : RtI p l e rm_X10_place s m args below meth c 0 0 Q cX10_place G aC b0 P) (v0 : Nat) (v1 : Int32) (N : AH) (H : Heap) (locs : List Loc) (ls : Array Slot) (hR : Rp G aC b0 N H) (hS : va_S (fun q => b0 ≤ q) s.heap H locs) (hl : lv_has ls 4 [(0, .ref v0), (1, .int v1)]) (hp : owp (f_X10_place v0 v1 N) P) : W p l e rm_X10_place s m args below meth c H locs 0 0 Q (F0 m 0 ls []) := by
  have hx := X.1.1
  have hb := X.1.2.1
  unfold f_X10_place at hp
  obtain ⟨_, _, hp⟩ := owp_ob hp
  refine lv_aload_n hx hb dX10_place_0 rfl (lv_at hl 0 rfl) ?_
  refine lv_iload_n hx hb dX10_place_1 rfl (lv_at hl 1 rfl) ?_
  obtain ⟨x2, N1, e_N1, hp⟩ := owp_ob2 hp
  refine iv_X10_isGroup (rest := []) mw_X10_231 X hR hS e_N1 hl.1 (Nat.le_of_ble_eq_true rfl) ⟨Nat.le_of_ble_eq_true rfl, Nat.le_of_ble_eq_true rfl⟩ ⟨Nat.le_of_ble_eq_true rfl, Nat.le_of_ble_eq_true rfl⟩ dX10_place_2 (fun H locs hR hS => ?_)
  refine lv_if_ne (tgt := 11) hx hb dX10_place_5 (by decide) (fun k3 => ?_) (fun k3 => ?_)
  · have hp := owp_t k3 hp
    refine lv_aload_n hx hb dX10_place_11 rfl (lv_at hl 0 rfl) ?_
    obtain ⟨_, N4, e_N4, hp⟩ := owp_ob2 hp
    refine iv_X10_orders (rest := []) mw_X10_124 X hR hS e_N4 hl.1 (Nat.le_of_ble_eq_true rfl) ⟨Nat.le_of_ble_eq_true rfl, Nat.le_of_ble_eq_true rfl⟩ ⟨Nat.le_of_ble_eq_true rfl, Nat.le_of_ble_eq_true rfl⟩ dX10_place_12 (fun H locs hR hS => ?_)
    refine lv_iconst (v := (-1)) hx hb dX10_place_15 (by decide) ?_
    refine lv_istore_n (lv' := [(2, .int (-1 : Int32)), (0, .ref v0), (1, .int v1)]) hx hb dX10_place_16 rfl hl (by decide) rfl (fun ls hl => ?_)
    refine lv_iconst (v := (0)) hx hb dX10_place_17 (by decide) ?_
    refine lv_istore_n (lv' := [(3, .int (0 : Int32)), (2, .int (-1 : Int32)), (0, .ref v0), (1, .int v1)]) hx hb dX10_place_18 rfl hl (by decide) rfl (fun ls hl => ?_)
    refine w_X10_place_L19 X hr _ _ (fun v10 N11 H locs ls hR hS hl hp => ?_) _ _ _ _ _ _ _ hR hS (lv_sub hl [2, 3, 1, 0] rfl) hp
    refine lv_iload_n hx hb dX10_place_49 rfl (lv_at hl 0 rfl) ?_
    exact hr _ _ _ _ _ _ hR hS dX10_place_50 hp
  · have hp := owp_f (fun q => q k3) hp
    refine lv_bipush (v := (-2)) hx hb dX10_place_8 (by decide) ?_
    exact hr _ _ _ _ _ _ hR hS dX10_place_10 hp
end
theorem ct_X10_place {v0 : Nat} {v1 : Int32} {N N1 : AH} {r : Int32} (h : f_X10_place v0 v1 N = some (r, N1)) : Ct yX10_place cX10_place 4 (some .int) rm_X10_place [.ref v0, .int v1] N (some (.int r)) N1 :=
  ab_met (own := RX10) (by decide +kernel) rfl (Nat.le_of_ble_eq_true rfl) (fun l G aC t b0 p e s m below meth c ls X hr hlk hnm hR hS hl => wk_X10_place X (RtI_met X.1.1 X.1.2.1 hr hlk) _ _ _ _ _ _ hR hS hl (owp_of h))
theorem cw_X10_place : Cond.code yX10_place cX10_place 4 (some .int) ∈ WT := WT_of 1278 (by decide +kernel) (by decide +kernel)
theorem iv_X10_place {p : Program} {l : Launch} {e : Env} {R : Room} {s : State} {m : MethodId} {args : Array Value} {below : List Frame} {meth : Method} {c : Code} {H : Heap} {locs : List Loc} {cells slots : Nat} {Q : State → Prop} {cc : ByteArray} {own : String} {nL : Nat} {G : va_G} {aC : Nat → ClassId} {t b0 : Nat} {N N1 : AH} {pc index : Nat} {ls : Array Slot} {rest : List Value} {v0 : Nat} {v1 : Int32} {r : Int32} (w1 : Cond.methodLink own index yX10_place ∈ WT) (X : CX cc own nL G aC t b0 p s m args c) (hR : Rp G aC b0 N H) (hS : va_S (fun q => b0 ≤ q) s.heap H locs) (h : f_X10_place v0 v1 N = some (r, N1)) (hls : ls.size = nL) (hW : (rest.map fun v => v.category).sum ≤ 8) (hR1 : 8 ≤ R.frames ∧ 182 ≤ R.locals) (hcs : cells + 0 ≤ R.cells ∧ slots + 0 ≤ R.slots) (hdg : decode cc pc = .ok (.invokevirtual index, 3)) (kk : ∀ (H1 : Heap) (locs1 : List Loc), Rp G aC b0 N1 H1 → va_S (fun q => b0 ≤ q) s.heap H1 locs1 → W p l e R s m args below meth c H1 locs1 cells slots Q (F0 m (pc + 3) ls (.int r :: rest))) : W p l e R s m args below meth c H locs cells slots Q (F0 m pc ls (.int v1 :: .ref v0 :: rest)) :=
  ab_callV (n := 1) (As := [.int v1]) X hR hS (ct_X10_place h) (ob_rc (c := 10) (N := N) (a := v0) h) (T := TX10) (k := 20) (C := RX10) rfl w1 (WT_of 1276 (by decide +kernel) (by decide +kernel)) (WT_of 1277 (by decide +kernel) (by decide +kernel)) (WT_of 92 (by decide +kernel) (by decide +kernel)) cw_X10_place ⟨rfl, by decide +kernel, by decide +kernel, by decide +kernel⟩ rfl hls hW hR1 hcs rfl hdg kk
-- X10_nextSpan
theorem dX10_nextSpan_0 : decode cX10_nextSpan 0 = .ok (.aload_n 0, 1) := by decide +kernel
theorem dX10_nextSpan_1 : decode cX10_nextSpan 1 = .ok (.iload_n 1, 1) := by decide +kernel
theorem dX10_nextSpan_2 : decode cX10_nextSpan 2 = .ok (.invokevirtual 231, 3) := by decide +kernel
theorem dX10_nextSpan_5 : decode cX10_nextSpan 5 = .ok (.ifCond .ne 6, 3) := by decide +kernel
theorem dX10_nextSpan_8 : decode cX10_nextSpan 8 = .ok (.bipush (-2), 2) := by decide +kernel
theorem dX10_nextSpan_10 : decode cX10_nextSpan 10 = .ok (.ireturn, 1) := by decide +kernel
theorem dX10_nextSpan_11 : decode cX10_nextSpan 11 = .ok (.aload_n 0, 1) := by decide +kernel
theorem dX10_nextSpan_12 : decode cX10_nextSpan 12 = .ok (.invokevirtual 141, 3) := by decide +kernel
theorem dX10_nextSpan_15 : decode cX10_nextSpan 15 = .ok (.aload_n 0, 1) := by decide +kernel
theorem dX10_nextSpan_16 : decode cX10_nextSpan 16 = .ok (.getfield 35, 3) := by decide +kernel
theorem dX10_nextSpan_19 : decode cX10_nextSpan 19 = .ok (.iload_n 1, 1) := by decide +kernel
theorem dX10_nextSpan_20 : decode cX10_nextSpan 20 = .ok (.iaload, 1) := by decide +kernel
theorem dX10_nextSpan_21 : decode cX10_nextSpan 21 = .ok (.ireturn, 1) := by decide +kernel
def rm_X10_nextSpan : Room := { frames := 8, cells := 0, slots := 0, locals := 180 }
section
variable {p : Program} {l : Launch} {e : Env} {s : State} {m : MethodId} {args : Array Value} {below : List Frame} {meth : Method} {c : Code} {Q : State → Prop} {G : va_G} {aC : Nat → ClassId} {t b0 : Nat}
def f_X10_nextSpan (v0 : Nat) (v1 : Int32) (N : AH) : Option (Int32 × AH) := ob (iO N v0 10) (fun _ => ob2 (f_X10_isGroup v0 v1 N) (fun x2 N1 => if ¬ x2 = 0 then ob2 (f_X10_worksOut v0 N1) (fun _ N4 => ob (hR N4 v0 10 13) (fun x5 => ob (aI N4 x5 v1) (fun x6 => some (x6, N4)))) else some ((-2 : Int32), N1)))
set_option maxHeartbeats 4000000 in
set_option maxRecDepth 100000 in
theorem wk_X10_nextSpan {P : Int32 × AH → Prop} (X : CX cX10_nextSpan RX10 2 G aC t b0 p s m args c) (hr : RtI p l e rm_X10_nextSpan s m args below meth c 0 0 Q cX10_nextSpan G aC b0 P) (v0 : Nat) (v1 : Int32) (N : AH) (H : Heap) (locs : List Loc) (ls : Array Slot) (hR : Rp G aC b0 N H) (hS : va_S (fun q => b0 ≤ q) s.heap H locs) (hl : lv_has ls 2 [(0, .ref v0), (1, .int v1)]) (hp : owp (f_X10_nextSpan v0 v1 N) P) : W p l e rm_X10_nextSpan s m args below meth c H locs 0 0 Q (F0 m 0 ls []) := by
  have hx := X.1.1
  have hb := X.1.2.1
  unfold f_X10_nextSpan at hp
  obtain ⟨_, _, hp⟩ := owp_ob hp
  refine lv_aload_n hx hb dX10_nextSpan_0 rfl (lv_at hl 0 rfl) ?_
  refine lv_iload_n hx hb dX10_nextSpan_1 rfl (lv_at hl 1 rfl) ?_
  obtain ⟨x2, N1, e_N1, hp⟩ := owp_ob2 hp
  refine iv_X10_isGroup (rest := []) mw_X10_231 X hR hS e_N1 hl.1 (Nat.le_of_ble_eq_true rfl) ⟨Nat.le_of_ble_eq_true rfl, Nat.le_of_ble_eq_true rfl⟩ ⟨Nat.le_of_ble_eq_true rfl, Nat.le_of_ble_eq_true rfl⟩ dX10_nextSpan_2 (fun H locs hR hS => ?_)
  refine lv_if_ne (tgt := 11) hx hb dX10_nextSpan_5 (by decide) (fun k3 => ?_) (fun k3 => ?_)
  · have hp := owp_t k3 hp
    refine lv_aload_n hx hb dX10_nextSpan_11 rfl (lv_at hl 0 rfl) ?_
    obtain ⟨_, N4, e_N4, hp⟩ := owp_ob2 hp
    refine iv_X10_worksOut (rest := []) mw_X10_141 X hR hS e_N4 hl.1 (Nat.le_of_ble_eq_true rfl) ⟨Nat.le_of_ble_eq_true rfl, Nat.le_of_ble_eq_true rfl⟩ ⟨Nat.le_of_ble_eq_true rfl, Nat.le_of_ble_eq_true rfl⟩ dX10_nextSpan_12 (fun H locs hR hS => ?_)
    refine lv_aload_n hx hb dX10_nextSpan_15 rfl (lv_at hl 0 rfl) ?_
    obtain ⟨x5, e_x5, hp⟩ := owp_ob hp
    refine gf_X10_35 X hR e_x5 dX10_nextSpan_16 ?_
    refine lv_iload_n hx hb dX10_nextSpan_19 rfl (lv_at hl 1 rfl) ?_
    obtain ⟨x6, e_x6, hp⟩ := owp_ob hp
    refine ab_iald X hR e_x6 dX10_nextSpan_20 ?_
    exact hr _ _ _ _ _ _ hR hS dX10_nextSpan_21 hp
  · have hp := owp_f (fun q => q k3) hp
    refine lv_bipush (v := (-2)) hx hb dX10_nextSpan_8 (by decide) ?_
    exact hr _ _ _ _ _ _ hR hS dX10_nextSpan_10 hp
end
theorem ct_X10_nextSpan {v0 : Nat} {v1 : Int32} {N N1 : AH} {r : Int32} (h : f_X10_nextSpan v0 v1 N = some (r, N1)) : Ct yX10_nextSpan cX10_nextSpan 2 (some .int) rm_X10_nextSpan [.ref v0, .int v1] N (some (.int r)) N1 :=
  ab_met (own := RX10) (by decide +kernel) rfl (Nat.le_of_ble_eq_true rfl) (fun l G aC t b0 p e s m below meth c ls X hr hlk hnm hR hS hl => wk_X10_nextSpan X (RtI_met X.1.1 X.1.2.1 hr hlk) _ _ _ _ _ _ hR hS hl (owp_of h))
theorem cw_X10_nextSpan : Cond.code yX10_nextSpan cX10_nextSpan 2 (some .int) ∈ WT := WT_of 1282 (by decide +kernel) (by decide +kernel)
theorem iv_X10_nextSpan {p : Program} {l : Launch} {e : Env} {R : Room} {s : State} {m : MethodId} {args : Array Value} {below : List Frame} {meth : Method} {c : Code} {H : Heap} {locs : List Loc} {cells slots : Nat} {Q : State → Prop} {cc : ByteArray} {own : String} {nL : Nat} {G : va_G} {aC : Nat → ClassId} {t b0 : Nat} {N N1 : AH} {pc index : Nat} {ls : Array Slot} {rest : List Value} {v0 : Nat} {v1 : Int32} {r : Int32} (w1 : Cond.methodLink own index yX10_nextSpan ∈ WT) (X : CX cc own nL G aC t b0 p s m args c) (hR : Rp G aC b0 N H) (hS : va_S (fun q => b0 ≤ q) s.heap H locs) (h : f_X10_nextSpan v0 v1 N = some (r, N1)) (hls : ls.size = nL) (hW : (rest.map fun v => v.category).sum ≤ 8) (hR1 : 9 ≤ R.frames ∧ 201 ≤ R.locals) (hcs : cells + 0 ≤ R.cells ∧ slots + 0 ≤ R.slots) (hdg : decode cc pc = .ok (.invokevirtual index, 3)) (kk : ∀ (H1 : Heap) (locs1 : List Loc), Rp G aC b0 N1 H1 → va_S (fun q => b0 ≤ q) s.heap H1 locs1 → W p l e R s m args below meth c H1 locs1 cells slots Q (F0 m (pc + 3) ls (.int r :: rest))) : W p l e R s m args below meth c H locs cells slots Q (F0 m pc ls (.int v1 :: .ref v0 :: rest)) :=
  ab_callV (n := 1) (As := [.int v1]) X hR hS (ct_X10_nextSpan h) (ob_rc (c := 10) (N := N) (a := v0) h) (T := TX10) (k := 20) (C := RX10) rfl w1 (WT_of 1280 (by decide +kernel) (by decide +kernel)) (WT_of 1281 (by decide +kernel) (by decide +kernel)) (WT_of 92 (by decide +kernel) (by decide +kernel)) cw_X10_nextSpan ⟨rfl, by decide +kernel, by decide +kernel, by decide +kernel⟩ rfl hls hW hR1 hcs rfl hdg kk
-- X10_nextRate
theorem dX10_nextRate_0 : decode cX10_nextRate 0 = .ok (.aload_n 0, 1) := by decide +kernel
theorem dX10_nextRate_1 : decode cX10_nextRate 1 = .ok (.iload_n 1, 1) := by decide +kernel
theorem dX10_nextRate_2 : decode cX10_nextRate 2 = .ok (.iload_n 2, 1) := by decide +kernel
theorem dX10_nextRate_3 : decode cX10_nextRate 3 = .ok (.invokevirtual 234, 3) := by decide +kernel
theorem dX10_nextRate_6 : decode cX10_nextRate 6 = .ok (.ifCond .ne 6, 3) := by decide +kernel
theorem dX10_nextRate_9 : decode cX10_nextRate 9 = .ok (.bipush (-2), 2) := by decide +kernel
theorem dX10_nextRate_11 : decode cX10_nextRate 11 = .ok (.ireturn, 1) := by decide +kernel
theorem dX10_nextRate_12 : decode cX10_nextRate 12 = .ok (.aload_n 0, 1) := by decide +kernel
theorem dX10_nextRate_13 : decode cX10_nextRate 13 = .ok (.invokevirtual 141, 3) := by decide +kernel
theorem dX10_nextRate_16 : decode cX10_nextRate 16 = .ok (.aload_n 0, 1) := by decide +kernel
theorem dX10_nextRate_17 : decode cX10_nextRate 17 = .ok (.getfield 38, 3) := by decide +kernel
theorem dX10_nextRate_20 : decode cX10_nextRate 20 = .ok (.bipush 16, 2) := by decide +kernel
theorem dX10_nextRate_22 : decode cX10_nextRate 22 = .ok (.iload_n 1, 1) := by decide +kernel
theorem dX10_nextRate_23 : decode cX10_nextRate 23 = .ok (.imul, 1) := by decide +kernel
theorem dX10_nextRate_24 : decode cX10_nextRate 24 = .ok (.iload_n 2, 1) := by decide +kernel
theorem dX10_nextRate_25 : decode cX10_nextRate 25 = .ok (.iadd, 1) := by decide +kernel
theorem dX10_nextRate_26 : decode cX10_nextRate 26 = .ok (.iaload, 1) := by decide +kernel
theorem dX10_nextRate_27 : decode cX10_nextRate 27 = .ok (.ireturn, 1) := by decide +kernel
def rm_X10_nextRate : Room := { frames := 8, cells := 0, slots := 0, locals := 180 }
section
variable {p : Program} {l : Launch} {e : Env} {s : State} {m : MethodId} {args : Array Value} {below : List Frame} {meth : Method} {c : Code} {Q : State → Prop} {G : va_G} {aC : Nat → ClassId} {t b0 : Nat}
def f_X10_nextRate (v0 : Nat) (v1 : Int32) (v2 : Int32) (N : AH) : Option (Int32 × AH) := ob (iO N v0 10) (fun _ => ob2 (f_X10_isFlow v0 v1 v2 N) (fun x2 N1 => if ¬ x2 = 0 then ob2 (f_X10_worksOut v0 N1) (fun _ N4 => ob (hR N4 v0 10 14) (fun x5 => ob (aI N4 x5 (((16 : Int32) * v1) + v2)) (fun x6 => some (x6, N4)))) else some ((-2 : Int32), N1)))
set_option maxHeartbeats 4000000 in
set_option maxRecDepth 100000 in
theorem wk_X10_nextRate {P : Int32 × AH → Prop} (X : CX cX10_nextRate RX10 3 G aC t b0 p s m args c) (hr : RtI p l e rm_X10_nextRate s m args below meth c 0 0 Q cX10_nextRate G aC b0 P) (v0 : Nat) (v1 : Int32) (v2 : Int32) (N : AH) (H : Heap) (locs : List Loc) (ls : Array Slot) (hR : Rp G aC b0 N H) (hS : va_S (fun q => b0 ≤ q) s.heap H locs) (hl : lv_has ls 3 [(0, .ref v0), (1, .int v1), (2, .int v2)]) (hp : owp (f_X10_nextRate v0 v1 v2 N) P) : W p l e rm_X10_nextRate s m args below meth c H locs 0 0 Q (F0 m 0 ls []) := by
  have hx := X.1.1
  have hb := X.1.2.1
  unfold f_X10_nextRate at hp
  obtain ⟨_, _, hp⟩ := owp_ob hp
  refine lv_aload_n hx hb dX10_nextRate_0 rfl (lv_at hl 0 rfl) ?_
  refine lv_iload_n hx hb dX10_nextRate_1 rfl (lv_at hl 1 rfl) ?_
  refine lv_iload_n hx hb dX10_nextRate_2 rfl (lv_at hl 2 rfl) ?_
  obtain ⟨x2, N1, e_N1, hp⟩ := owp_ob2 hp
  refine iv_X10_isFlow (rest := []) mw_X10_234 X hR hS e_N1 hl.1 (Nat.le_of_ble_eq_true rfl) ⟨Nat.le_of_ble_eq_true rfl, Nat.le_of_ble_eq_true rfl⟩ ⟨Nat.le_of_ble_eq_true rfl, Nat.le_of_ble_eq_true rfl⟩ dX10_nextRate_3 (fun H locs hR hS => ?_)
  refine lv_if_ne (tgt := 12) hx hb dX10_nextRate_6 (by decide) (fun k3 => ?_) (fun k3 => ?_)
  · have hp := owp_t k3 hp
    refine lv_aload_n hx hb dX10_nextRate_12 rfl (lv_at hl 0 rfl) ?_
    obtain ⟨_, N4, e_N4, hp⟩ := owp_ob2 hp
    refine iv_X10_worksOut (rest := []) mw_X10_141 X hR hS e_N4 hl.1 (Nat.le_of_ble_eq_true rfl) ⟨Nat.le_of_ble_eq_true rfl, Nat.le_of_ble_eq_true rfl⟩ ⟨Nat.le_of_ble_eq_true rfl, Nat.le_of_ble_eq_true rfl⟩ dX10_nextRate_13 (fun H locs hR hS => ?_)
    refine lv_aload_n hx hb dX10_nextRate_16 rfl (lv_at hl 0 rfl) ?_
    obtain ⟨x5, e_x5, hp⟩ := owp_ob hp
    refine gf_X10_38 X hR e_x5 dX10_nextRate_17 ?_
    refine lv_bipush (v := (16)) hx hb dX10_nextRate_20 (by decide) ?_
    refine lv_iload_n hx hb dX10_nextRate_22 rfl (lv_at hl 1 rfl) ?_
    refine lv_imul hx hb dX10_nextRate_23 ?_
    refine lv_iload_n hx hb dX10_nextRate_24 rfl (lv_at hl 2 rfl) ?_
    refine lv_iadd hx hb dX10_nextRate_25 ?_
    obtain ⟨x6, e_x6, hp⟩ := owp_ob hp
    refine ab_iald X hR e_x6 dX10_nextRate_26 ?_
    exact hr _ _ _ _ _ _ hR hS dX10_nextRate_27 hp
  · have hp := owp_f (fun q => q k3) hp
    refine lv_bipush (v := (-2)) hx hb dX10_nextRate_9 (by decide) ?_
    exact hr _ _ _ _ _ _ hR hS dX10_nextRate_11 hp
end
theorem ct_X10_nextRate {v0 : Nat} {v1 : Int32} {v2 : Int32} {N N1 : AH} {r : Int32} (h : f_X10_nextRate v0 v1 v2 N = some (r, N1)) : Ct yX10_nextRate cX10_nextRate 3 (some .int) rm_X10_nextRate [.ref v0, .int v1, .int v2] N (some (.int r)) N1 :=
  ab_met (own := RX10) (by decide +kernel) rfl (Nat.le_of_ble_eq_true rfl) (fun l G aC t b0 p e s m below meth c ls X hr hlk hnm hR hS hl => wk_X10_nextRate X (RtI_met X.1.1 X.1.2.1 hr hlk) _ _ _ _ _ _ _ hR hS hl (owp_of h))
theorem cw_X10_nextRate : Cond.code yX10_nextRate cX10_nextRate 3 (some .int) ∈ WT := WT_of 1286 (by decide +kernel) (by decide +kernel)
theorem iv_X10_nextRate {p : Program} {l : Launch} {e : Env} {R : Room} {s : State} {m : MethodId} {args : Array Value} {below : List Frame} {meth : Method} {c : Code} {H : Heap} {locs : List Loc} {cells slots : Nat} {Q : State → Prop} {cc : ByteArray} {own : String} {nL : Nat} {G : va_G} {aC : Nat → ClassId} {t b0 : Nat} {N N1 : AH} {pc index : Nat} {ls : Array Slot} {rest : List Value} {v0 : Nat} {v1 : Int32} {v2 : Int32} {r : Int32} (w1 : Cond.methodLink own index yX10_nextRate ∈ WT) (X : CX cc own nL G aC t b0 p s m args c) (hR : Rp G aC b0 N H) (hS : va_S (fun q => b0 ≤ q) s.heap H locs) (h : f_X10_nextRate v0 v1 v2 N = some (r, N1)) (hls : ls.size = nL) (hW : (rest.map fun v => v.category).sum ≤ 8) (hR1 : 9 ≤ R.frames ∧ 202 ≤ R.locals) (hcs : cells + 0 ≤ R.cells ∧ slots + 0 ≤ R.slots) (hdg : decode cc pc = .ok (.invokevirtual index, 3)) (kk : ∀ (H1 : Heap) (locs1 : List Loc), Rp G aC b0 N1 H1 → va_S (fun q => b0 ≤ q) s.heap H1 locs1 → W p l e R s m args below meth c H1 locs1 cells slots Q (F0 m (pc + 3) ls (.int r :: rest))) : W p l e R s m args below meth c H locs cells slots Q (F0 m pc ls (.int v2 :: .int v1 :: .ref v0 :: rest)) :=
  ab_callV (n := 2) (As := [.int v1, .int v2]) X hR hS (ct_X10_nextRate h) (ob_rc (c := 10) (N := N) (a := v0) h) (T := TX10) (k := 20) (C := RX10) rfl w1 (WT_of 1284 (by decide +kernel) (by decide +kernel)) (WT_of 1285 (by decide +kernel) (by decide +kernel)) (WT_of 92 (by decide +kernel) (by decide +kernel)) cw_X10_nextRate ⟨rfl, by decide +kernel, by decide +kernel, by decide +kernel⟩ rfl hls hW hR1 hcs rfl hdg kk
-- X10_spare
theorem dX10_spare_0 : decode cX10_spare 0 = .ok (.iload_n 1, 1) := by decide +kernel
theorem dX10_spare_1 : decode cX10_spare 1 = .ok (.i2l, 1) := by decide +kernel
theorem dX10_spare_2 : decode cX10_spare 2 = .ok (.lconst 0, 1) := by decide +kernel
theorem dX10_spare_3 : decode cX10_spare 3 = .ok (.ldc2_w 219, 3) := by decide +kernel
theorem dX10_spare_6 : decode cX10_spare 6 = .ok (.invokestatic 60, 3) := by decide +kernel
theorem dX10_spare_9 : decode cX10_spare 9 = .ok (.ifCond .ne 6, 3) := by decide +kernel
theorem dX10_spare_12 : decode cX10_spare 12 = .ok (.bipush (-2), 2) := by decide +kernel
theorem dX10_spare_14 : decode cX10_spare 14 = .ok (.ireturn, 1) := by decide +kernel
theorem dX10_spare_15 : decode cX10_spare 15 = .ok (.aload_n 0, 1) := by decide +kernel
theorem dX10_spare_16 : decode cX10_spare 16 = .ok (.invokevirtual 141, 3) := by decide +kernel
theorem dX10_spare_19 : decode cX10_spare 19 = .ok (.aload_n 0, 1) := by decide +kernel
theorem dX10_spare_20 : decode cX10_spare 20 = .ok (.getfield 16, 3) := by decide +kernel
theorem dX10_spare_23 : decode cX10_spare 23 = .ok (.iload_n 1, 1) := by decide +kernel
theorem dX10_spare_24 : decode cX10_spare 24 = .ok (.iaload, 1) := by decide +kernel
theorem dX10_spare_25 : decode cX10_spare 25 = .ok (.ireturn, 1) := by decide +kernel
def rm_X10_spare : Room := { frames := 8, cells := 0, slots := 0, locals := 180 }
section
variable {p : Program} {l : Launch} {e : Env} {s : State} {m : MethodId} {args : Array Value} {below : List Frame} {meth : Method} {c : Code} {Q : State → Prop} {G : va_G} {aC : Nat → ClassId} {t b0 : Nat}
def f_X10_spare (v0 : Nat) (v1 : Int32) (N : AH) : Option (Int32 × AH) := ob (iO N v0 10) (fun _ => ob2 (f_X10_in (Int32.toInt64 v1) (0 : Int64) (15 : Int64) N) (fun x2 N1 => if ¬ x2 = 0 then ob2 (f_X10_worksOut v0 N1) (fun _ N4 => ob (hR N4 v0 10 4) (fun x5 => ob (aI N4 x5 v1) (fun x6 => some (x6, N4)))) else some ((-2 : Int32), N1)))
set_option maxHeartbeats 4000000 in
set_option maxRecDepth 100000 in
theorem wk_X10_spare {P : Int32 × AH → Prop} (X : CX cX10_spare RX10 2 G aC t b0 p s m args c) (hr : RtI p l e rm_X10_spare s m args below meth c 0 0 Q cX10_spare G aC b0 P) (v0 : Nat) (v1 : Int32) (N : AH) (H : Heap) (locs : List Loc) (ls : Array Slot) (hR : Rp G aC b0 N H) (hS : va_S (fun q => b0 ≤ q) s.heap H locs) (hl : lv_has ls 2 [(0, .ref v0), (1, .int v1)]) (hp : owp (f_X10_spare v0 v1 N) P) : W p l e rm_X10_spare s m args below meth c H locs 0 0 Q (F0 m 0 ls []) := by
  have hx := X.1.1
  have hb := X.1.2.1
  unfold f_X10_spare at hp
  obtain ⟨_, _, hp⟩ := owp_ob hp
  refine lv_iload_n hx hb dX10_spare_0 rfl (lv_at hl 1 rfl) ?_
  refine lv_i2l (v := Int32.toInt64 v1) hx hb dX10_spare_1 rfl ?_
  refine lv_lconst (v := 0) hx hb dX10_spare_2 (by decide) ?_
  refine lv_ldc2 (own := RX10) (v := 15) hx hb X.1.2.2.2.1 (X.1.2.2.2.2 _ (WT_of 1129 (by decide +kernel) (by decide +kernel))) dX10_spare_3 ?_
  obtain ⟨x2, N1, e_N1, hp⟩ := owp_ob2 hp
  refine iv_X10_in (rest := []) mw_X10_60 X hR hS e_N1 hl.1 (Nat.le_of_ble_eq_true rfl) ⟨Nat.le_of_ble_eq_true rfl, Nat.le_of_ble_eq_true rfl⟩ ⟨Nat.le_of_ble_eq_true rfl, Nat.le_of_ble_eq_true rfl⟩ dX10_spare_6 (fun H locs hR hS => ?_)
  refine lv_if_ne (tgt := 15) hx hb dX10_spare_9 (by decide) (fun k3 => ?_) (fun k3 => ?_)
  · have hp := owp_t k3 hp
    refine lv_aload_n hx hb dX10_spare_15 rfl (lv_at hl 0 rfl) ?_
    obtain ⟨_, N4, e_N4, hp⟩ := owp_ob2 hp
    refine iv_X10_worksOut (rest := []) mw_X10_141 X hR hS e_N4 hl.1 (Nat.le_of_ble_eq_true rfl) ⟨Nat.le_of_ble_eq_true rfl, Nat.le_of_ble_eq_true rfl⟩ ⟨Nat.le_of_ble_eq_true rfl, Nat.le_of_ble_eq_true rfl⟩ dX10_spare_16 (fun H locs hR hS => ?_)
    refine lv_aload_n hx hb dX10_spare_19 rfl (lv_at hl 0 rfl) ?_
    obtain ⟨x5, e_x5, hp⟩ := owp_ob hp
    refine gf_X10_16 X hR e_x5 dX10_spare_20 ?_
    refine lv_iload_n hx hb dX10_spare_23 rfl (lv_at hl 1 rfl) ?_
    obtain ⟨x6, e_x6, hp⟩ := owp_ob hp
    refine ab_iald X hR e_x6 dX10_spare_24 ?_
    exact hr _ _ _ _ _ _ hR hS dX10_spare_25 hp
  · have hp := owp_f (fun q => q k3) hp
    refine lv_bipush (v := (-2)) hx hb dX10_spare_12 (by decide) ?_
    exact hr _ _ _ _ _ _ hR hS dX10_spare_14 hp
end
theorem ct_X10_spare {v0 : Nat} {v1 : Int32} {N N1 : AH} {r : Int32} (h : f_X10_spare v0 v1 N = some (r, N1)) : Ct yX10_spare cX10_spare 2 (some .int) rm_X10_spare [.ref v0, .int v1] N (some (.int r)) N1 :=
  ab_met (own := RX10) (by decide +kernel) rfl (Nat.le_of_ble_eq_true rfl) (fun l G aC t b0 p e s m below meth c ls X hr hlk hnm hR hS hl => wk_X10_spare X (RtI_met X.1.1 X.1.2.1 hr hlk) _ _ _ _ _ _ hR hS hl (owp_of h))
theorem cw_X10_spare : Cond.code yX10_spare cX10_spare 2 (some .int) ∈ WT := WT_of 1290 (by decide +kernel) (by decide +kernel)
theorem iv_X10_spare {p : Program} {l : Launch} {e : Env} {R : Room} {s : State} {m : MethodId} {args : Array Value} {below : List Frame} {meth : Method} {c : Code} {H : Heap} {locs : List Loc} {cells slots : Nat} {Q : State → Prop} {cc : ByteArray} {own : String} {nL : Nat} {G : va_G} {aC : Nat → ClassId} {t b0 : Nat} {N N1 : AH} {pc index : Nat} {ls : Array Slot} {rest : List Value} {v0 : Nat} {v1 : Int32} {r : Int32} (w1 : Cond.methodLink own index yX10_spare ∈ WT) (X : CX cc own nL G aC t b0 p s m args c) (hR : Rp G aC b0 N H) (hS : va_S (fun q => b0 ≤ q) s.heap H locs) (h : f_X10_spare v0 v1 N = some (r, N1)) (hls : ls.size = nL) (hW : (rest.map fun v => v.category).sum ≤ 8) (hR1 : 9 ≤ R.frames ∧ 201 ≤ R.locals) (hcs : cells + 0 ≤ R.cells ∧ slots + 0 ≤ R.slots) (hdg : decode cc pc = .ok (.invokevirtual index, 3)) (kk : ∀ (H1 : Heap) (locs1 : List Loc), Rp G aC b0 N1 H1 → va_S (fun q => b0 ≤ q) s.heap H1 locs1 → W p l e R s m args below meth c H1 locs1 cells slots Q (F0 m (pc + 3) ls (.int r :: rest))) : W p l e R s m args below meth c H locs cells slots Q (F0 m pc ls (.int v1 :: .ref v0 :: rest)) :=
  ab_callV (n := 1) (As := [.int v1]) X hR hS (ct_X10_spare h) (ob_rc (c := 10) (N := N) (a := v0) h) (T := TX10) (k := 20) (C := RX10) rfl w1 (WT_of 1288 (by decide +kernel) (by decide +kernel)) (WT_of 1289 (by decide +kernel) (by decide +kernel)) (WT_of 92 (by decide +kernel) (by decide +kernel)) cw_X10_spare ⟨rfl, by decide +kernel, by decide +kernel, by decide +kernel⟩ rfl hls hW hR1 hcs rfl hdg kk
-- X10_outlook
theorem dX10_outlook_0 : decode cX10_outlook 0 = .ok (.aload_n 0, 1) := by decide +kernel
theorem dX10_outlook_1 : decode cX10_outlook 1 = .ok (.iload_n 1, 1) := by decide +kernel
theorem dX10_outlook_2 : decode cX10_outlook 2 = .ok (.invokevirtual 231, 3) := by decide +kernel
theorem dX10_outlook_5 : decode cX10_outlook 5 = .ok (.ifCond .ne 6, 3) := by decide +kernel
theorem dX10_outlook_8 : decode cX10_outlook 8 = .ok (.bipush (-2), 2) := by decide +kernel
theorem dX10_outlook_10 : decode cX10_outlook 10 = .ok (.ireturn, 1) := by decide +kernel
theorem dX10_outlook_11 : decode cX10_outlook 11 = .ok (.aload_n 0, 1) := by decide +kernel
theorem dX10_outlook_12 : decode cX10_outlook 12 = .ok (.iconst 0, 1) := by decide +kernel
theorem dX10_outlook_13 : decode cX10_outlook 13 = .ok (.sipush 8274, 3) := by decide +kernel
theorem dX10_outlook_16 : decode cX10_outlook 16 = .ok (.invokevirtual 48, 3) := by decide +kernel
theorem dX10_outlook_19 : decode cX10_outlook 19 = .ok (.iconst 0, 1) := by decide +kernel
theorem dX10_outlook_20 : decode cX10_outlook 20 = .ok (.istore_n 2, 1) := by decide +kernel
theorem dX10_outlook_21 : decode cX10_outlook 21 = .ok (.iload_n 2, 1) := by decide +kernel
theorem dX10_outlook_22 : decode cX10_outlook 22 = .ok (.sipush 1000, 3) := by decide +kernel
theorem dX10_outlook_25 : decode cX10_outlook 25 = .ok (.if_icmp .ge 22, 3) := by decide +kernel
theorem dX10_outlook_28 : decode cX10_outlook 28 = .ok (.aload_n 0, 1) := by decide +kernel
theorem dX10_outlook_29 : decode cX10_outlook 29 = .ok (.iload_n 1, 1) := by decide +kernel
theorem dX10_outlook_30 : decode cX10_outlook 30 = .ok (.invokevirtual 107, 3) := by decide +kernel
theorem dX10_outlook_33 : decode cX10_outlook 33 = .ok (.iconst 2, 1) := by decide +kernel
theorem dX10_outlook_34 : decode cX10_outlook 34 = .ok (.if_icmp .ge 13, 3) := by decide +kernel
theorem dX10_outlook_37 : decode cX10_outlook 37 = .ok (.aload_n 0, 1) := by decide +kernel
theorem dX10_outlook_38 : decode cX10_outlook 38 = .ok (.invokevirtual 228, 3) := by decide +kernel
theorem dX10_outlook_41 : decode cX10_outlook 41 = .ok (.iinc 2 1, 3) := by decide +kernel
theorem dX10_outlook_44 : decode cX10_outlook 44 = .ok (.goto (-23), 3) := by decide +kernel
theorem dX10_outlook_47 : decode cX10_outlook 47 = .ok (.aload_n 0, 1) := by decide +kernel
theorem dX10_outlook_48 : decode cX10_outlook 48 = .ok (.iload_n 1, 1) := by decide +kernel
theorem dX10_outlook_49 : decode cX10_outlook 49 = .ok (.iconst 3, 1) := by decide +kernel
theorem dX10_outlook_50 : decode cX10_outlook 50 = .ok (.invokevirtual 52, 3) := by decide +kernel
theorem dX10_outlook_53 : decode cX10_outlook 53 = .ok (.istore_n 2, 1) := by decide +kernel
theorem dX10_outlook_54 : decode cX10_outlook 54 = .ok (.aload_n 0, 1) := by decide +kernel
theorem dX10_outlook_55 : decode cX10_outlook 55 = .ok (.sipush 8274, 3) := by decide +kernel
theorem dX10_outlook_58 : decode cX10_outlook 58 = .ok (.iconst 0, 1) := by decide +kernel
theorem dX10_outlook_59 : decode cX10_outlook 59 = .ok (.invokevirtual 48, 3) := by decide +kernel
theorem dX10_outlook_62 : decode cX10_outlook 62 = .ok (.iload_n 2, 1) := by decide +kernel
theorem dX10_outlook_63 : decode cX10_outlook 63 = .ok (.ireturn, 1) := by decide +kernel
def rm_X10_outlook : Room := { frames := 9, cells := 0, slots := 0, locals := 203 }
section
variable {p : Program} {l : Launch} {e : Env} {s : State} {m : MethodId} {args : Array Value} {below : List Frame} {meth : Method} {c : Code} {Q : State → Prop} {G : va_G} {aC : Nat → ClassId} {t b0 : Nat}
def f_X10_outlook_L21 (v0 : Nat) (v1 : Int32) (k47 : AH → Option (Int32 × AH)) : Nat → Int32 → AH → Option (Int32 × AH)
  | 0, _, _ => none
  | n + 1, v2, N => if (1000 : Int32) ≤ v2 then k47 N else ob2 (f_X10_stateOf v0 v1 N) (fun x7 N6 => if (2 : Int32) ≤ x7 then k47 N6 else ob2 (f_X10_ticks v0 N6) (fun _ N9 => f_X10_outlook_L21 v0 v1 k47 n (v2 + 1) N9))
set_option maxHeartbeats 4000000 in
set_option maxRecDepth 100000 in
theorem w_X10_outlook_L21 {P : Int32 × AH → Prop} (X : CX cX10_outlook RX10 3 G aC t b0 p s m args c) (hr : RtI p l e rm_X10_outlook s m args below meth c 0 0 Q cX10_outlook G aC b0 P) (v0 : Nat) (v1 : Int32) {k47 : AH → Option (Int32 × AH)}
    (hk47 : ∀ (N : AH) (H : Heap) (locs : List Loc) (ls : Array Slot), Rp G aC b0 N H → va_S (fun q => b0 ≤ q) s.heap H locs → lv_has ls 3 [(0, .ref v0), (1, .int v1)] → owp (k47 N) P → W p l e rm_X10_outlook s m args below meth c H locs 0 0 Q (F0 m 47 ls [])) :
    ∀ (n : Nat) (v2 : Int32) (N : AH) (H : Heap) (locs : List Loc) (ls : Array Slot), Rp G aC b0 N H → va_S (fun q => b0 ≤ q) s.heap H locs → lv_has ls 3 [(0, .ref v0), (1, .int v1), (2, .int v2)] → owp (f_X10_outlook_L21 v0 v1 k47 n v2 N) P → W p l e rm_X10_outlook s m args below meth c H locs 0 0 Q (F0 m 21 ls []) := by
  have hx := X.1.1
  have hb := X.1.2.1
  intro n
  induction n with
  | zero =>
    intro v2 N H locs ls hR hS hl hp
    exact (show False from hp).elim
  | succ n ih =>
    intro v2 N H locs ls hR hS hl hp
    rw [f_X10_outlook_L21] at hp
    refine lv_iload_n hx hb dX10_outlook_21 rfl (lv_at hl 2 rfl) ?_
    refine lv_sipush (v := (1000)) hx hb dX10_outlook_22 (by decide) ?_
    refine lv_icmp_ge (tgt := 47) hx hb dX10_outlook_25 (by decide) (fun k5 => ?_) (fun k5 => ?_)
    · have hp := owp_t k5 hp
      exact hk47 _ _ _ _ hR hS (lv_sub hl [0, 1] rfl) hp
    · have hp := owp_f k5 hp
      refine lv_aload_n hx hb dX10_outlook_28 rfl (lv_at hl 0 rfl) ?_
      refine lv_iload_n hx hb dX10_outlook_29 rfl (lv_at hl 1 rfl) ?_
      obtain ⟨x7, N6, e_N6, hp⟩ := owp_ob2 hp
      refine iv_X10_stateOf (rest := []) mw_X10_107 X hR hS e_N6 hl.1 (Nat.le_of_ble_eq_true rfl) ⟨Nat.le_of_ble_eq_true rfl, Nat.le_of_ble_eq_true rfl⟩ ⟨Nat.le_of_ble_eq_true rfl, Nat.le_of_ble_eq_true rfl⟩ dX10_outlook_30 (fun H locs hR hS => ?_)
      refine lv_iconst (v := (2)) hx hb dX10_outlook_33 (by decide) ?_
      refine lv_icmp_ge (tgt := 47) hx hb dX10_outlook_34 (by decide) (fun k8 => ?_) (fun k8 => ?_)
      · have hp := owp_t k8 hp
        exact hk47 _ _ _ _ hR hS (lv_sub hl [0, 1] rfl) hp
      · have hp := owp_f k8 hp
        refine lv_aload_n hx hb dX10_outlook_37 rfl (lv_at hl 0 rfl) ?_
        obtain ⟨_, N9, e_N9, hp⟩ := owp_ob2 hp
        refine iv_X10_ticks (rest := []) mw_X10_228 X hR hS e_N9 hl.1 (Nat.le_of_ble_eq_true rfl) ⟨Nat.le_of_ble_eq_true rfl, Nat.le_of_ble_eq_true rfl⟩ ⟨Nat.le_of_ble_eq_true rfl, Nat.le_of_ble_eq_true rfl⟩ dX10_outlook_38 (fun H locs hR hS => ?_)
        refine lv_iinc (v := v2 + 1) (lv' := [(2, .int (v2 + 1)), (0, .ref v0), (1, .int v1)]) hx hb dX10_outlook_41 hl (k := 2) rfl rfl (by decide) rfl (fun ls hl => ?_)
        refine lv_goto (tgt := 21) hx hb dX10_outlook_44 (by decide) ?_
        exact ih _ _ _ _ _ hR hS (lv_sub hl [1, 2, 0] rfl) hp
def f_X10_outlook_J47 (v0 : Nat) (v1 : Int32) (N : AH) : Option (Int32 × AH) := ob2 (f_X10_of v0 v1 (3 : Int32) N) (fun x12 N11 => ob2 (f_X10_copies v0 (8274 : Int32) (0 : Int32) N11) (fun _ N13 => some (x12, N13)))
set_option maxHeartbeats 4000000 in
set_option maxRecDepth 100000 in
theorem w_X10_outlook_J47 {P : Int32 × AH → Prop} (X : CX cX10_outlook RX10 3 G aC t b0 p s m args c) (hr : RtI p l e rm_X10_outlook s m args below meth c 0 0 Q cX10_outlook G aC b0 P) (v0 : Nat) (v1 : Int32) (N : AH) (H : Heap) (locs : List Loc) (ls : Array Slot) (hR : Rp G aC b0 N H) (hS : va_S (fun q => b0 ≤ q) s.heap H locs) (hl : lv_has ls 3 [(0, .ref v0), (1, .int v1)]) (hp : owp (f_X10_outlook_J47 v0 v1 N) P) : W p l e rm_X10_outlook s m args below meth c H locs 0 0 Q (F0 m 47 ls []) := by
  have hx := X.1.1
  have hb := X.1.2.1
  unfold f_X10_outlook_J47 at hp
  refine lv_aload_n hx hb dX10_outlook_47 rfl (lv_at hl 0 rfl) ?_
  refine lv_iload_n hx hb dX10_outlook_48 rfl (lv_at hl 1 rfl) ?_
  refine lv_iconst (v := (3)) hx hb dX10_outlook_49 (by decide) ?_
  obtain ⟨x12, N11, e_N11, hp⟩ := owp_ob2 hp
  refine iv_X10_of (rest := []) mw_X10_52 X hR hS e_N11 hl.1 (Nat.le_of_ble_eq_true rfl) ⟨Nat.le_of_ble_eq_true rfl, Nat.le_of_ble_eq_true rfl⟩ ⟨Nat.le_of_ble_eq_true rfl, Nat.le_of_ble_eq_true rfl⟩ dX10_outlook_50 (fun H locs hR hS => ?_)
  refine lv_istore_n (lv' := [(2, .int x12), (0, .ref v0), (1, .int v1)]) hx hb dX10_outlook_53 rfl hl (by decide) rfl (fun ls hl => ?_)
  refine lv_aload_n hx hb dX10_outlook_54 rfl (lv_at hl 1 rfl) ?_
  refine lv_sipush (v := (8274)) hx hb dX10_outlook_55 (by decide) ?_
  refine lv_iconst (v := (0)) hx hb dX10_outlook_58 (by decide) ?_
  obtain ⟨_, N13, e_N13, hp⟩ := owp_ob2 hp
  refine iv_X10_copies (rest := []) mw_X10_48 X hR hS e_N13 hl.1 (Nat.le_of_ble_eq_true rfl) ⟨Nat.le_of_ble_eq_true rfl, Nat.le_of_ble_eq_true rfl⟩ ⟨Nat.le_of_ble_eq_true rfl, Nat.le_of_ble_eq_true rfl⟩ dX10_outlook_59 (fun H locs hR hS => ?_)
  refine lv_iload_n hx hb dX10_outlook_62 rfl (lv_at hl 0 rfl) ?_
  exact hr _ _ _ _ _ _ hR hS dX10_outlook_63 hp
def f_X10_outlook (v0 : Nat) (v1 : Int32) (N : AH) : Option (Int32 × AH) := ob (iO N v0 10) (fun _ => ob2 (f_X10_isGroup v0 v1 N) (fun x2 N1 => if ¬ x2 = 0 then ob2 (f_X10_copies v0 (0 : Int32) (8274 : Int32) N1) (fun _ N4 => f_X10_outlook_L21 v0 v1 (fun N10 => f_X10_outlook_J47 v0 v1 N10) FU (0 : Int32) N4) else some ((-2 : Int32), N1)))
set_option maxHeartbeats 4000000 in
set_option maxRecDepth 100000 in
theorem wk_X10_outlook {P : Int32 × AH → Prop} (X : CX cX10_outlook RX10 3 G aC t b0 p s m args c) (hr : RtI p l e rm_X10_outlook s m args below meth c 0 0 Q cX10_outlook G aC b0 P) (v0 : Nat) (v1 : Int32) (N : AH) (H : Heap) (locs : List Loc) (ls : Array Slot) (hR : Rp G aC b0 N H) (hS : va_S (fun q => b0 ≤ q) s.heap H locs) (hl : lv_has ls 3 [(0, .ref v0), (1, .int v1)]) (hp : owp (f_X10_outlook v0 v1 N) P) : W p l e rm_X10_outlook s m args below meth c H locs 0 0 Q (F0 m 0 ls []) := by
  have hx := X.1.1
  have hb := X.1.2.1
  unfold f_X10_outlook at hp
  obtain ⟨_, _, hp⟩ := owp_ob hp
  refine lv_aload_n hx hb dX10_outlook_0 rfl (lv_at hl 0 rfl) ?_
  refine lv_iload_n hx hb dX10_outlook_1 rfl (lv_at hl 1 rfl) ?_
  obtain ⟨x2, N1, e_N1, hp⟩ := owp_ob2 hp
  refine iv_X10_isGroup (rest := []) mw_X10_231 X hR hS e_N1 hl.1 (Nat.le_of_ble_eq_true rfl) ⟨Nat.le_of_ble_eq_true rfl, Nat.le_of_ble_eq_true rfl⟩ ⟨Nat.le_of_ble_eq_true rfl, Nat.le_of_ble_eq_true rfl⟩ dX10_outlook_2 (fun H locs hR hS => ?_)
  refine lv_if_ne (tgt := 11) hx hb dX10_outlook_5 (by decide) (fun k3 => ?_) (fun k3 => ?_)
  · have hp := owp_t k3 hp
    refine lv_aload_n hx hb dX10_outlook_11 rfl (lv_at hl 0 rfl) ?_
    refine lv_iconst (v := (0)) hx hb dX10_outlook_12 (by decide) ?_
    refine lv_sipush (v := (8274)) hx hb dX10_outlook_13 (by decide) ?_
    obtain ⟨_, N4, e_N4, hp⟩ := owp_ob2 hp
    refine iv_X10_copies (rest := []) mw_X10_48 X hR hS e_N4 hl.1 (Nat.le_of_ble_eq_true rfl) ⟨Nat.le_of_ble_eq_true rfl, Nat.le_of_ble_eq_true rfl⟩ ⟨Nat.le_of_ble_eq_true rfl, Nat.le_of_ble_eq_true rfl⟩ dX10_outlook_16 (fun H locs hR hS => ?_)
    refine lv_iconst (v := (0)) hx hb dX10_outlook_19 (by decide) ?_
    refine lv_istore_n (lv' := [(2, .int (0 : Int32)), (0, .ref v0), (1, .int v1)]) hx hb dX10_outlook_20 rfl hl (by decide) rfl (fun ls hl => ?_)
    refine w_X10_outlook_L21 X hr _ _ (fun N10 H locs ls hR hS hl hp => ?_) _ _ _ _ _ _ hR hS (lv_sub hl [1, 2, 0] rfl) hp
    exact w_X10_outlook_J47 X hr _ _ _ _ _ _ hR hS hl hp
  · have hp := owp_f (fun q => q k3) hp
    refine lv_bipush (v := (-2)) hx hb dX10_outlook_8 (by decide) ?_
    exact hr _ _ _ _ _ _ hR hS dX10_outlook_10 hp
end
theorem ct_X10_outlook {v0 : Nat} {v1 : Int32} {N N1 : AH} {r : Int32} (h : f_X10_outlook v0 v1 N = some (r, N1)) : Ct yX10_outlook cX10_outlook 3 (some .int) rm_X10_outlook [.ref v0, .int v1] N (some (.int r)) N1 :=
  ab_met (own := RX10) (by decide +kernel) rfl (Nat.le_of_ble_eq_true rfl) (fun l G aC t b0 p e s m below meth c ls X hr hlk hnm hR hS hl => wk_X10_outlook X (RtI_met X.1.1 X.1.2.1 hr hlk) _ _ _ _ _ _ hR hS hl (owp_of h))
theorem cw_X10_outlook : Cond.code yX10_outlook cX10_outlook 3 (some .int) ∈ WT := WT_of 1294 (by decide +kernel) (by decide +kernel)
theorem iv_X10_outlook {p : Program} {l : Launch} {e : Env} {R : Room} {s : State} {m : MethodId} {args : Array Value} {below : List Frame} {meth : Method} {c : Code} {H : Heap} {locs : List Loc} {cells slots : Nat} {Q : State → Prop} {cc : ByteArray} {own : String} {nL : Nat} {G : va_G} {aC : Nat → ClassId} {t b0 : Nat} {N N1 : AH} {pc index : Nat} {ls : Array Slot} {rest : List Value} {v0 : Nat} {v1 : Int32} {r : Int32} (w1 : Cond.methodLink own index yX10_outlook ∈ WT) (X : CX cc own nL G aC t b0 p s m args c) (hR : Rp G aC b0 N H) (hS : va_S (fun q => b0 ≤ q) s.heap H locs) (h : f_X10_outlook v0 v1 N = some (r, N1)) (hls : ls.size = nL) (hW : (rest.map fun v => v.category).sum ≤ 8) (hR1 : 10 ≤ R.frames ∧ 225 ≤ R.locals) (hcs : cells + 0 ≤ R.cells ∧ slots + 0 ≤ R.slots) (hdg : decode cc pc = .ok (.invokevirtual index, 3)) (kk : ∀ (H1 : Heap) (locs1 : List Loc), Rp G aC b0 N1 H1 → va_S (fun q => b0 ≤ q) s.heap H1 locs1 → W p l e R s m args below meth c H1 locs1 cells slots Q (F0 m (pc + 3) ls (.int r :: rest))) : W p l e R s m args below meth c H locs cells slots Q (F0 m pc ls (.int v1 :: .ref v0 :: rest)) :=
  ab_callV (n := 1) (As := [.int v1]) X hR hS (ct_X10_outlook h) (ob_rc (c := 10) (N := N) (a := v0) h) (T := TX10) (k := 20) (C := RX10) rfl w1 (WT_of 1292 (by decide +kernel) (by decide +kernel)) (WT_of 1293 (by decide +kernel) (by decide +kernel)) (WT_of 92 (by decide +kernel) (by decide +kernel)) cw_X10_outlook ⟨rfl, by decide +kernel, by decide +kernel, by decide +kernel⟩ rfl hls hW hR1 hcs rfl hdg kk
-- X10_totalOf
theorem mw_X10_239 : Cond.methodLink RX10 239 yX10_left ∈ WT := WT_of 1307 (by decide +kernel) (by decide +kernel)
theorem dX10_totalOf_0 : decode cX10_totalOf 0 = .ok (.iconst 0, 1) := by decide +kernel
theorem dX10_totalOf_1 : decode cX10_totalOf 1 = .ok (.istore_n 1, 1) := by decide +kernel
theorem dX10_totalOf_2 : decode cX10_totalOf 2 = .ok (.iload_n 1, 1) := by decide +kernel
theorem dX10_totalOf_3 : decode cX10_totalOf 3 = .ok (.sipush 300, 3) := by decide +kernel
theorem dX10_totalOf_6 : decode cX10_totalOf 6 = .ok (.if_icmp .gt 27, 3) := by decide +kernel
theorem dX10_totalOf_9 : decode cX10_totalOf 9 = .ok (.aload_n 0, 1) := by decide +kernel
theorem dX10_totalOf_10 : decode cX10_totalOf 10 = .ok (.invokevirtual 239, 3) := by decide +kernel
theorem dX10_totalOf_13 : decode cX10_totalOf 13 = .ok (.ifCond .le 20, 3) := by decide +kernel
theorem dX10_totalOf_16 : decode cX10_totalOf 16 = .ok (.iload_n 1, 1) := by decide +kernel
theorem dX10_totalOf_17 : decode cX10_totalOf 17 = .ok (.sipush 300, 3) := by decide +kernel
theorem dX10_totalOf_20 : decode cX10_totalOf 20 = .ok (.if_icmp .ge 7, 3) := by decide +kernel
theorem dX10_totalOf_23 : decode cX10_totalOf 23 = .ok (.aload_n 0, 1) := by decide +kernel
theorem dX10_totalOf_24 : decode cX10_totalOf 24 = .ok (.invokevirtual 228, 3) := by decide +kernel
theorem dX10_totalOf_27 : decode cX10_totalOf 27 = .ok (.iinc 1 1, 3) := by decide +kernel
theorem dX10_totalOf_30 : decode cX10_totalOf 30 = .ok (.goto (-28), 3) := by decide +kernel
theorem dX10_totalOf_33 : decode cX10_totalOf 33 = .ok (.iconst 0, 1) := by decide +kernel
theorem dX10_totalOf_34 : decode cX10_totalOf 34 = .ok (.istore_n 2, 1) := by decide +kernel
theorem dX10_totalOf_35 : decode cX10_totalOf 35 = .ok (.iconst 0, 1) := by decide +kernel
theorem dX10_totalOf_36 : decode cX10_totalOf 36 = .ok (.istore_n 3, 1) := by decide +kernel
theorem dX10_totalOf_37 : decode cX10_totalOf 37 = .ok (.iload_n 3, 1) := by decide +kernel
theorem dX10_totalOf_38 : decode cX10_totalOf 38 = .ok (.aload_n 0, 1) := by decide +kernel
theorem dX10_totalOf_39 : decode cX10_totalOf 39 = .ok (.getfield 7, 3) := by decide +kernel
theorem dX10_totalOf_42 : decode cX10_totalOf 42 = .ok (.bipush 6, 2) := by decide +kernel
theorem dX10_totalOf_44 : decode cX10_totalOf 44 = .ok (.iaload, 1) := by decide +kernel
theorem dX10_totalOf_45 : decode cX10_totalOf 45 = .ok (.if_icmp .ge 39, 3) := by decide +kernel
theorem dX10_totalOf_48 : decode cX10_totalOf 48 = .ok (.iload_n 2, 1) := by decide +kernel
theorem dX10_totalOf_49 : decode cX10_totalOf 49 = .ok (.aload_n 0, 1) := by decide +kernel
theorem dX10_totalOf_50 : decode cX10_totalOf 50 = .ok (.iload_n 3, 1) := by decide +kernel
theorem dX10_totalOf_51 : decode cX10_totalOf 51 = .ok (.iconst 3, 1) := by decide +kernel
theorem dX10_totalOf_52 : decode cX10_totalOf 52 = .ok (.invokevirtual 52, 3) := by decide +kernel
theorem dX10_totalOf_55 : decode cX10_totalOf 55 = .ok (.iconst (-1), 1) := by decide +kernel
theorem dX10_totalOf_56 : decode cX10_totalOf 56 = .ok (.if_icmp .ne 7, 3) := by decide +kernel
theorem dX10_totalOf_59 : decode cX10_totalOf 59 = .ok (.iconst 0, 1) := by decide +kernel
theorem dX10_totalOf_60 : decode cX10_totalOf 60 = .ok (.goto 16, 3) := by decide +kernel
theorem dX10_totalOf_63 : decode cX10_totalOf 63 = .ok (.aload_n 0, 1) := by decide +kernel
theorem dX10_totalOf_64 : decode cX10_totalOf 64 = .ok (.iload_n 3, 1) := by decide +kernel
theorem dX10_totalOf_65 : decode cX10_totalOf 65 = .ok (.iconst 3, 1) := by decide +kernel
theorem dX10_totalOf_66 : decode cX10_totalOf 66 = .ok (.invokevirtual 52, 3) := by decide +kernel
theorem dX10_totalOf_69 : decode cX10_totalOf 69 = .ok (.aload_n 0, 1) := by decide +kernel
theorem dX10_totalOf_70 : decode cX10_totalOf 70 = .ok (.iload_n 3, 1) := by decide +kernel
theorem dX10_totalOf_71 : decode cX10_totalOf 71 = .ok (.iconst 0, 1) := by decide +kernel
theorem dX10_totalOf_72 : decode cX10_totalOf 72 = .ok (.invokevirtual 52, 3) := by decide +kernel
theorem dX10_totalOf_75 : decode cX10_totalOf 75 = .ok (.isub, 1) := by decide +kernel
theorem dX10_totalOf_76 : decode cX10_totalOf 76 = .ok (.iadd, 1) := by decide +kernel
theorem dX10_totalOf_77 : decode cX10_totalOf 77 = .ok (.istore_n 2, 1) := by decide +kernel
theorem dX10_totalOf_78 : decode cX10_totalOf 78 = .ok (.iinc 3 1, 3) := by decide +kernel
theorem dX10_totalOf_81 : decode cX10_totalOf 81 = .ok (.goto (-44), 3) := by decide +kernel
theorem dX10_totalOf_84 : decode cX10_totalOf 84 = .ok (.iload_n 1, 1) := by decide +kernel
theorem dX10_totalOf_85 : decode cX10_totalOf 85 = .ok (.sipush 300, 3) := by decide +kernel
theorem dX10_totalOf_88 : decode cX10_totalOf 88 = .ok (.if_icmp .le 7, 3) := by decide +kernel
theorem dX10_totalOf_91 : decode cX10_totalOf 91 = .ok (.iconst (-1), 1) := by decide +kernel
theorem dX10_totalOf_92 : decode cX10_totalOf 92 = .ok (.goto 4, 3) := by decide +kernel
theorem dX10_totalOf_95 : decode cX10_totalOf 95 = .ok (.iload_n 2, 1) := by decide +kernel
theorem dX10_totalOf_96 : decode cX10_totalOf 96 = .ok (.ireturn, 1) := by decide +kernel
def rm_X10_totalOf : Room := { frames := 9, cells := 0, slots := 0, locals := 203 }
section
variable {p : Program} {l : Launch} {e : Env} {s : State} {m : MethodId} {args : Array Value} {below : List Frame} {meth : Method} {c : Code} {Q : State → Prop} {G : va_G} {aC : Nat → ClassId} {t b0 : Nat}
def f_X10_totalOf_L2 (v0 : Nat) (k33 : Int32 → AH → Option (Int32 × AH)) : Nat → Int32 → AH → Option (Int32 × AH)
  | 0, _, _ => none
  | n + 1, v1, N => if (300 : Int32) < v1 then k33 v1 N else ob2 (f_X10_left v0 N) (fun x3 N2 => if x3 ≤ 0 then k33 v1 N2 else if (300 : Int32) ≤ v1 then f_X10_totalOf_L2 v0 k33 n (v1 + 1) N2 else ob2 (f_X10_ticks v0 N2) (fun _ N6 => f_X10_totalOf_L2 v0 k33 n (v1 + 1) N6))
set_option maxHeartbeats 4000000 in
set_option maxRecDepth 100000 in
theorem w_X10_totalOf_L2 {P : Int32 × AH → Prop} (X : CX cX10_totalOf RX10 4 G aC t b0 p s m args c) (hr : RtI p l e rm_X10_totalOf s m args below meth c 0 0 Q cX10_totalOf G aC b0 P) (v0 : Nat) {k33 : Int32 → AH → Option (Int32 × AH)}
    (hk33 : ∀ (v1 : Int32) (N : AH) (H : Heap) (locs : List Loc) (ls : Array Slot), Rp G aC b0 N H → va_S (fun q => b0 ≤ q) s.heap H locs → lv_has ls 4 [(0, .ref v0), (1, .int v1)] → owp (k33 v1 N) P → W p l e rm_X10_totalOf s m args below meth c H locs 0 0 Q (F0 m 33 ls [])) :
    ∀ (n : Nat) (v1 : Int32) (N : AH) (H : Heap) (locs : List Loc) (ls : Array Slot), Rp G aC b0 N H → va_S (fun q => b0 ≤ q) s.heap H locs → lv_has ls 4 [(0, .ref v0), (1, .int v1)] → owp (f_X10_totalOf_L2 v0 k33 n v1 N) P → W p l e rm_X10_totalOf s m args below meth c H locs 0 0 Q (F0 m 2 ls []) := by
  have hx := X.1.1
  have hb := X.1.2.1
  intro n
  induction n with
  | zero =>
    intro v1 N H locs ls hR hS hl hp
    exact (show False from hp).elim
  | succ n ih =>
    intro v1 N H locs ls hR hS hl hp
    rw [f_X10_totalOf_L2] at hp
    refine lv_iload_n hx hb dX10_totalOf_2 rfl (lv_at hl 1 rfl) ?_
    refine lv_sipush (v := (300)) hx hb dX10_totalOf_3 (by decide) ?_
    refine lv_icmp_gt (tgt := 33) hx hb dX10_totalOf_6 (by decide) (fun k1 => ?_) (fun k1 => ?_)
    · have hp := owp_t k1 hp
      exact hk33 _ _ _ _ _ hR hS hl hp
    · have hp := owp_f k1 hp
      refine lv_aload_n hx hb dX10_totalOf_9 rfl (lv_at hl 0 rfl) ?_
      obtain ⟨x3, N2, e_N2, hp⟩ := owp_ob2 hp
      refine iv_X10_left (rest := []) mw_X10_239 X hR hS e_N2 hl.1 (Nat.le_of_ble_eq_true rfl) ⟨Nat.le_of_ble_eq_true rfl, Nat.le_of_ble_eq_true rfl⟩ ⟨Nat.le_of_ble_eq_true rfl, Nat.le_of_ble_eq_true rfl⟩ dX10_totalOf_10 (fun H locs hR hS => ?_)
      refine lv_if_le (tgt := 33) hx hb dX10_totalOf_13 (by decide) (fun k4 => ?_) (fun k4 => ?_)
      · have hp := owp_t k4 hp
        exact hk33 _ _ _ _ _ hR hS hl hp
      · have hp := owp_f k4 hp
        refine lv_iload_n hx hb dX10_totalOf_16 rfl (lv_at hl 1 rfl) ?_
        refine lv_sipush (v := (300)) hx hb dX10_totalOf_17 (by decide) ?_
        refine lv_icmp_ge (tgt := 27) hx hb dX10_totalOf_20 (by decide) (fun k5 => ?_) (fun k5 => ?_)
        · have hp := owp_t k5 hp
          refine lv_iinc (v := v1 + 1) (lv' := [(1, .int (v1 + 1)), (0, .ref v0)]) hx hb dX10_totalOf_27 hl (k := 1) rfl rfl (by decide) rfl (fun ls hl => ?_)
          refine lv_goto (tgt := 2) hx hb dX10_totalOf_30 (by decide) ?_
          exact ih _ _ _ _ _ hR hS (lv_sub hl [1, 0] rfl) hp
        · have hp := owp_f k5 hp
          refine lv_aload_n hx hb dX10_totalOf_23 rfl (lv_at hl 0 rfl) ?_
          obtain ⟨_, N6, e_N6, hp⟩ := owp_ob2 hp
          refine iv_X10_ticks (rest := []) mw_X10_228 X hR hS e_N6 hl.1 (Nat.le_of_ble_eq_true rfl) ⟨Nat.le_of_ble_eq_true rfl, Nat.le_of_ble_eq_true rfl⟩ ⟨Nat.le_of_ble_eq_true rfl, Nat.le_of_ble_eq_true rfl⟩ dX10_totalOf_24 (fun H locs hR hS => ?_)
          refine lv_iinc (v := v1 + 1) (lv' := [(1, .int (v1 + 1)), (0, .ref v0)]) hx hb dX10_totalOf_27 hl (k := 1) rfl rfl (by decide) rfl (fun ls hl => ?_)
          refine lv_goto (tgt := 2) hx hb dX10_totalOf_30 (by decide) ?_
          exact ih _ _ _ _ _ hR hS (lv_sub hl [1, 0] rfl) hp
def f_X10_totalOf_L37 (v0 : Nat) (v1 : Int32) (k84 : Int32 → AH → Option (Int32 × AH)) : Nat → Int32 → Int32 → AH → Option (Int32 × AH)
  | 0, _, _, _ => none
  | n + 1, v2, v3, N => ob (hR N v0 10 0) (fun x9 => ob (aI N x9 (6 : Int32)) (fun x10 => if x10 ≤ v3 then k84 v2 N else ob2 (f_X10_of v0 v3 (3 : Int32) N) (fun x13 N12 => if ¬ x13 = (-1 : Int32) then ob2 (f_X10_of v0 v3 (3 : Int32) N12) (fun x16 N15 => ob2 (f_X10_of v0 v3 (0 : Int32) N15) (fun x18 N17 => f_X10_totalOf_L37 v0 v1 k84 n (v2 + (x16 - x18)) (v3 + 1) N17)) else f_X10_totalOf_L37 v0 v1 k84 n (v2 + (0 : Int32)) (v3 + 1) N12)))
set_option maxHeartbeats 4000000 in
set_option maxRecDepth 100000 in
theorem w_X10_totalOf_L37 {P : Int32 × AH → Prop} (X : CX cX10_totalOf RX10 4 G aC t b0 p s m args c) (hr : RtI p l e rm_X10_totalOf s m args below meth c 0 0 Q cX10_totalOf G aC b0 P) (v0 : Nat) (v1 : Int32) {k84 : Int32 → AH → Option (Int32 × AH)}
    (hk84 : ∀ (v2 : Int32) (N : AH) (H : Heap) (locs : List Loc) (ls : Array Slot), Rp G aC b0 N H → va_S (fun q => b0 ≤ q) s.heap H locs → lv_has ls 4 [(1, .int v1), (2, .int v2)] → owp (k84 v2 N) P → W p l e rm_X10_totalOf s m args below meth c H locs 0 0 Q (F0 m 84 ls [])) :
    ∀ (n : Nat) (v2 : Int32) (v3 : Int32) (N : AH) (H : Heap) (locs : List Loc) (ls : Array Slot), Rp G aC b0 N H → va_S (fun q => b0 ≤ q) s.heap H locs → lv_has ls 4 [(0, .ref v0), (1, .int v1), (2, .int v2), (3, .int v3)] → owp (f_X10_totalOf_L37 v0 v1 k84 n v2 v3 N) P → W p l e rm_X10_totalOf s m args below meth c H locs 0 0 Q (F0 m 37 ls []) := by
  have hx := X.1.1
  have hb := X.1.2.1
  intro n
  induction n with
  | zero =>
    intro v2 v3 N H locs ls hR hS hl hp
    exact (show False from hp).elim
  | succ n ih =>
    intro v2 v3 N H locs ls hR hS hl hp
    rw [f_X10_totalOf_L37] at hp
    refine lv_iload_n hx hb dX10_totalOf_37 rfl (lv_at hl 3 rfl) ?_
    refine lv_aload_n hx hb dX10_totalOf_38 rfl (lv_at hl 0 rfl) ?_
    obtain ⟨x9, e_x9, hp⟩ := owp_ob hp
    refine gf_X10_7 X hR e_x9 dX10_totalOf_39 ?_
    refine lv_bipush (v := (6)) hx hb dX10_totalOf_42 (by decide) ?_
    obtain ⟨x10, e_x10, hp⟩ := owp_ob hp
    refine ab_iald X hR e_x10 dX10_totalOf_44 ?_
    refine lv_icmp_ge (tgt := 84) hx hb dX10_totalOf_45 (by decide) (fun k11 => ?_) (fun k11 => ?_)
    · have hp := owp_t k11 hp
      exact hk84 _ _ _ _ _ hR hS (lv_sub hl [1, 2] rfl) hp
    · have hp := owp_f k11 hp
      refine lv_iload_n hx hb dX10_totalOf_48 rfl (lv_at hl 2 rfl) ?_
      refine lv_aload_n hx hb dX10_totalOf_49 rfl (lv_at hl 0 rfl) ?_
      refine lv_iload_n hx hb dX10_totalOf_50 rfl (lv_at hl 3 rfl) ?_
      refine lv_iconst (v := (3)) hx hb dX10_totalOf_51 (by decide) ?_
      obtain ⟨x13, N12, e_N12, hp⟩ := owp_ob2 hp
      refine iv_X10_of (rest := [.int v2]) mw_X10_52 X hR hS e_N12 hl.1 (Nat.le_of_ble_eq_true rfl) ⟨Nat.le_of_ble_eq_true rfl, Nat.le_of_ble_eq_true rfl⟩ ⟨Nat.le_of_ble_eq_true rfl, Nat.le_of_ble_eq_true rfl⟩ dX10_totalOf_52 (fun H locs hR hS => ?_)
      refine lv_iconst (v := (-1)) hx hb dX10_totalOf_55 (by decide) ?_
      refine lv_icmp_ne (tgt := 63) hx hb dX10_totalOf_56 (by decide) (fun k14 => ?_) (fun k14 => ?_)
      · have hp := owp_t k14 hp
        refine lv_aload_n hx hb dX10_totalOf_63 rfl (lv_at hl 0 rfl) ?_
        refine lv_iload_n hx hb dX10_totalOf_64 rfl (lv_at hl 3 rfl) ?_
        refine lv_iconst (v := (3)) hx hb dX10_totalOf_65 (by decide) ?_
        obtain ⟨x16, N15, e_N15, hp⟩ := owp_ob2 hp
        refine iv_X10_of (rest := [.int v2]) mw_X10_52 X hR hS e_N15 hl.1 (Nat.le_of_ble_eq_true rfl) ⟨Nat.le_of_ble_eq_true rfl, Nat.le_of_ble_eq_true rfl⟩ ⟨Nat.le_of_ble_eq_true rfl, Nat.le_of_ble_eq_true rfl⟩ dX10_totalOf_66 (fun H locs hR hS => ?_)
        refine lv_aload_n hx hb dX10_totalOf_69 rfl (lv_at hl 0 rfl) ?_
        refine lv_iload_n hx hb dX10_totalOf_70 rfl (lv_at hl 3 rfl) ?_
        refine lv_iconst (v := (0)) hx hb dX10_totalOf_71 (by decide) ?_
        obtain ⟨x18, N17, e_N17, hp⟩ := owp_ob2 hp
        refine iv_X10_of (rest := [.int x16, .int v2]) mw_X10_52 X hR hS e_N17 hl.1 (Nat.le_of_ble_eq_true rfl) ⟨Nat.le_of_ble_eq_true rfl, Nat.le_of_ble_eq_true rfl⟩ ⟨Nat.le_of_ble_eq_true rfl, Nat.le_of_ble_eq_true rfl⟩ dX10_totalOf_72 (fun H locs hR hS => ?_)
        refine lv_isub hx hb dX10_totalOf_75 ?_
        refine lv_iadd hx hb dX10_totalOf_76 ?_
        refine lv_istore_n (lv' := [(2, .int (v2 + (x16 - x18))), (0, .ref v0), (1, .int v1), (3, .int v3)]) hx hb dX10_totalOf_77 rfl hl (by decide) rfl (fun ls hl => ?_)
        refine lv_iinc (v := v3 + 1) (lv' := [(3, .int (v3 + 1)), (2, .int (v2 + (x16 - x18))), (0, .ref v0), (1, .int v1)]) hx hb dX10_totalOf_78 hl (k := 3) rfl rfl (by decide) rfl (fun ls hl => ?_)
        refine lv_goto (tgt := 37) hx hb dX10_totalOf_81 (by decide) ?_
        exact ih _ _ _ _ _ _ hR hS (lv_sub hl [2, 3, 1, 0] rfl) hp
      · have hp := owp_f (fun q => q k14) hp
        refine lv_iconst (v := (0)) hx hb dX10_totalOf_59 (by decide) ?_
        refine lv_goto (tgt := 76) hx hb dX10_totalOf_60 (by decide) ?_
        refine lv_iadd hx hb dX10_totalOf_76 ?_
        refine lv_istore_n (lv' := [(2, .int (v2 + (0 : Int32))), (0, .ref v0), (1, .int v1), (3, .int v3)]) hx hb dX10_totalOf_77 rfl hl (by decide) rfl (fun ls hl => ?_)
        refine lv_iinc (v := v3 + 1) (lv' := [(3, .int (v3 + 1)), (2, .int (v2 + (0 : Int32))), (0, .ref v0), (1, .int v1)]) hx hb dX10_totalOf_78 hl (k := 3) rfl rfl (by decide) rfl (fun ls hl => ?_)
        refine lv_goto (tgt := 37) hx hb dX10_totalOf_81 (by decide) ?_
        exact ih _ _ _ _ _ _ hR hS (lv_sub hl [2, 3, 1, 0] rfl) hp
def f_X10_totalOf (v0 : Nat) (N : AH) : Option (Int32 × AH) := ob (iO N v0 10) (fun _ => f_X10_totalOf_L2 v0 (fun v7 N8 => f_X10_totalOf_L37 v0 v7 (fun v19 N20 => if v7 ≤ (300 : Int32) then some (v19, N20) else some ((-1 : Int32), N20)) FU (0 : Int32) (0 : Int32) N8) FU (0 : Int32) N)
set_option maxHeartbeats 4000000 in
set_option maxRecDepth 100000 in
theorem wk_X10_totalOf {P : Int32 × AH → Prop} (X : CX cX10_totalOf RX10 4 G aC t b0 p s m args c) (hr : RtI p l e rm_X10_totalOf s m args below meth c 0 0 Q cX10_totalOf G aC b0 P) (v0 : Nat) (N : AH) (H : Heap) (locs : List Loc) (ls : Array Slot) (hR : Rp G aC b0 N H) (hS : va_S (fun q => b0 ≤ q) s.heap H locs) (hl : lv_has ls 4 [(0, .ref v0)]) (hp : owp (f_X10_totalOf v0 N) P) : W p l e rm_X10_totalOf s m args below meth c H locs 0 0 Q (F0 m 0 ls []) := by
  have hx := X.1.1
  have hb := X.1.2.1
  unfold f_X10_totalOf at hp
  obtain ⟨_, _, hp⟩ := owp_ob hp
  refine lv_iconst (v := (0)) hx hb dX10_totalOf_0 (by decide) ?_
  refine lv_istore_n (lv' := [(1, .int (0 : Int32)), (0, .ref v0)]) hx hb dX10_totalOf_1 rfl hl (by decide) rfl (fun ls hl => ?_)
  refine w_X10_totalOf_L2 X hr _ (fun v7 N8 H locs ls hR hS hl hp => ?_) _ _ _ _ _ _ hR hS (lv_sub hl [1, 0] rfl) hp
  refine lv_iconst (v := (0)) hx hb dX10_totalOf_33 (by decide) ?_
  refine lv_istore_n (lv' := [(2, .int (0 : Int32)), (0, .ref v0), (1, .int v7)]) hx hb dX10_totalOf_34 rfl hl (by decide) rfl (fun ls hl => ?_)
  refine lv_iconst (v := (0)) hx hb dX10_totalOf_35 (by decide) ?_
  refine lv_istore_n (lv' := [(3, .int (0 : Int32)), (2, .int (0 : Int32)), (0, .ref v0), (1, .int v7)]) hx hb dX10_totalOf_36 rfl hl (by decide) rfl (fun ls hl => ?_)
  refine w_X10_totalOf_L37 X hr _ _ (fun v19 N20 H locs ls hR hS hl hp => ?_) _ _ _ _ _ _ _ hR hS (lv_sub hl [2, 3, 1, 0] rfl) hp
  refine lv_iload_n hx hb dX10_totalOf_84 rfl (lv_at hl 0 rfl) ?_
  refine lv_sipush (v := (300)) hx hb dX10_totalOf_85 (by decide) ?_
  refine lv_icmp_le (tgt := 95) hx hb dX10_totalOf_88 (by decide) (fun k21 => ?_) (fun k21 => ?_)
  · have hp := owp_t k21 hp
    refine lv_iload_n hx hb dX10_totalOf_95 rfl (lv_at hl 1 rfl) ?_
    exact hr _ _ _ _ _ _ hR hS dX10_totalOf_96 hp
  · have hp := owp_f k21 hp
    refine lv_iconst (v := (-1)) hx hb dX10_totalOf_91 (by decide) ?_
    refine lv_goto (tgt := 96) hx hb dX10_totalOf_92 (by decide) ?_
    exact hr _ _ _ _ _ _ hR hS dX10_totalOf_96 hp
end
theorem ct_X10_totalOf {v0 : Nat} {N N1 : AH} {r : Int32} (h : f_X10_totalOf v0 N = some (r, N1)) : Ct yX10_totalOf cX10_totalOf 4 (some .int) rm_X10_totalOf [.ref v0] N (some (.int r)) N1 :=
  ab_met (own := RX10) (by decide +kernel) rfl (Nat.le_of_ble_eq_true rfl) (fun l G aC t b0 p e s m below meth c ls X hr hlk hnm hR hS hl => wk_X10_totalOf X (RtI_met X.1.1 X.1.2.1 hr hlk) _ _ _ _ _ hR hS hl (owp_of h))
theorem cw_X10_totalOf : Cond.code yX10_totalOf cX10_totalOf 4 (some .int) ∈ WT := WT_of 1306 (by decide +kernel) (by decide +kernel)
theorem iv_X10_totalOf {p : Program} {l : Launch} {e : Env} {R : Room} {s : State} {m : MethodId} {args : Array Value} {below : List Frame} {meth : Method} {c : Code} {H : Heap} {locs : List Loc} {cells slots : Nat} {Q : State → Prop} {cc : ByteArray} {own : String} {nL : Nat} {G : va_G} {aC : Nat → ClassId} {t b0 : Nat} {N N1 : AH} {pc index : Nat} {ls : Array Slot} {rest : List Value} {v0 : Nat} {r : Int32} (w1 : Cond.methodLink own index yX10_totalOf ∈ WT) (X : CX cc own nL G aC t b0 p s m args c) (hR : Rp G aC b0 N H) (hS : va_S (fun q => b0 ≤ q) s.heap H locs) (h : f_X10_totalOf v0 N = some (r, N1)) (hls : ls.size = nL) (hW : (rest.map fun v => v.category).sum ≤ 8) (hR1 : 10 ≤ R.frames ∧ 226 ≤ R.locals) (hcs : cells + 0 ≤ R.cells ∧ slots + 0 ≤ R.slots) (hdg : decode cc pc = .ok (.invokevirtual index, 3)) (kk : ∀ (H1 : Heap) (locs1 : List Loc), Rp G aC b0 N1 H1 → va_S (fun q => b0 ≤ q) s.heap H1 locs1 → W p l e R s m args below meth c H1 locs1 cells slots Q (F0 m (pc + 3) ls (.int r :: rest))) : W p l e R s m args below meth c H locs cells slots Q (F0 m pc ls (.ref v0 :: rest)) :=
  ab_callV (n := 0) (As := []) X hR hS (ct_X10_totalOf h) (ob_rc (c := 10) (N := N) (a := v0) h) (T := TX10) (k := 20) (C := RX10) rfl w1 (WT_of 1305 (by decide +kernel) (by decide +kernel)) (WT_of 73 (by decide +kernel) (by decide +kernel)) (WT_of 92 (by decide +kernel) (by decide +kernel)) cw_X10_totalOf ⟨rfl, by decide +kernel, by decide +kernel, by decide +kernel⟩ rfl hls hW hR1 hcs rfl hdg kk
-- X10_totalBy
theorem mw_X10_242 : Cond.methodLink RX10 242 yX10_totalOf ∈ WT := WT_of 1303 (by decide +kernel) (by decide +kernel)
theorem dX10_totalBy_0 : decode cX10_totalBy 0 = .ok (.aload_n 0, 1) := by decide +kernel
theorem dX10_totalBy_1 : decode cX10_totalBy 1 = .ok (.iconst 0, 1) := by decide +kernel
theorem dX10_totalBy_2 : decode cX10_totalBy 2 = .ok (.sipush 8274, 3) := by decide +kernel
theorem dX10_totalBy_5 : decode cX10_totalBy 5 = .ok (.invokevirtual 48, 3) := by decide +kernel
theorem dX10_totalBy_8 : decode cX10_totalBy 8 = .ok (.aload_n 0, 1) := by decide +kernel
theorem dX10_totalBy_9 : decode cX10_totalBy 9 = .ok (.getfield 7, 3) := by decide +kernel
theorem dX10_totalBy_12 : decode cX10_totalBy 12 = .ok (.iconst 1, 1) := by decide +kernel
theorem dX10_totalBy_13 : decode cX10_totalBy 13 = .ok (.iload_n 1, 1) := by decide +kernel
theorem dX10_totalBy_14 : decode cX10_totalBy 14 = .ok (.iastore, 1) := by decide +kernel
theorem dX10_totalBy_15 : decode cX10_totalBy 15 = .ok (.aload_n 0, 1) := by decide +kernel
theorem dX10_totalBy_16 : decode cX10_totalBy 16 = .ok (.invokevirtual 242, 3) := by decide +kernel
theorem dX10_totalBy_19 : decode cX10_totalBy 19 = .ok (.istore_n 2, 1) := by decide +kernel
theorem dX10_totalBy_20 : decode cX10_totalBy 20 = .ok (.aload_n 0, 1) := by decide +kernel
theorem dX10_totalBy_21 : decode cX10_totalBy 21 = .ok (.sipush 8274, 3) := by decide +kernel
theorem dX10_totalBy_24 : decode cX10_totalBy 24 = .ok (.iconst 0, 1) := by decide +kernel
theorem dX10_totalBy_25 : decode cX10_totalBy 25 = .ok (.invokevirtual 48, 3) := by decide +kernel
theorem dX10_totalBy_28 : decode cX10_totalBy 28 = .ok (.iload_n 2, 1) := by decide +kernel
theorem dX10_totalBy_29 : decode cX10_totalBy 29 = .ok (.ireturn, 1) := by decide +kernel
def rm_X10_totalBy : Room := { frames := 10, cells := 0, slots := 0, locals := 226 }
section
variable {p : Program} {l : Launch} {e : Env} {s : State} {m : MethodId} {args : Array Value} {below : List Frame} {meth : Method} {c : Code} {Q : State → Prop} {G : va_G} {aC : Nat → ClassId} {t b0 : Nat}
def f_X10_totalBy (v0 : Nat) (v1 : Int32) (N : AH) : Option (Int32 × AH) := ob (iO N v0 10) (fun _ => ob2 (f_X10_copies v0 (0 : Int32) (8274 : Int32) N) (fun _ N1 => ob (hR N1 v0 10 0) (fun x2 => ob (sI N1 x2 (1 : Int32) v1) (fun N3 => ob2 (f_X10_totalOf v0 N3) (fun x5 N4 => ob2 (f_X10_copies v0 (8274 : Int32) (0 : Int32) N4) (fun _ N6 => some (x5, N6)))))))
set_option maxHeartbeats 4000000 in
set_option maxRecDepth 100000 in
theorem wk_X10_totalBy {P : Int32 × AH → Prop} (X : CX cX10_totalBy RX10 3 G aC t b0 p s m args c) (hr : RtI p l e rm_X10_totalBy s m args below meth c 0 0 Q cX10_totalBy G aC b0 P) (v0 : Nat) (v1 : Int32) (N : AH) (H : Heap) (locs : List Loc) (ls : Array Slot) (hR : Rp G aC b0 N H) (hS : va_S (fun q => b0 ≤ q) s.heap H locs) (hl : lv_has ls 3 [(0, .ref v0), (1, .int v1)]) (hp : owp (f_X10_totalBy v0 v1 N) P) : W p l e rm_X10_totalBy s m args below meth c H locs 0 0 Q (F0 m 0 ls []) := by
  have hx := X.1.1
  have hb := X.1.2.1
  unfold f_X10_totalBy at hp
  obtain ⟨_, _, hp⟩ := owp_ob hp
  refine lv_aload_n hx hb dX10_totalBy_0 rfl (lv_at hl 0 rfl) ?_
  refine lv_iconst (v := (0)) hx hb dX10_totalBy_1 (by decide) ?_
  refine lv_sipush (v := (8274)) hx hb dX10_totalBy_2 (by decide) ?_
  obtain ⟨_, N1, e_N1, hp⟩ := owp_ob2 hp
  refine iv_X10_copies (rest := []) mw_X10_48 X hR hS e_N1 hl.1 (Nat.le_of_ble_eq_true rfl) ⟨Nat.le_of_ble_eq_true rfl, Nat.le_of_ble_eq_true rfl⟩ ⟨Nat.le_of_ble_eq_true rfl, Nat.le_of_ble_eq_true rfl⟩ dX10_totalBy_5 (fun H locs hR hS => ?_)
  refine lv_aload_n hx hb dX10_totalBy_8 rfl (lv_at hl 0 rfl) ?_
  obtain ⟨x2, e_x2, hp⟩ := owp_ob hp
  refine gf_X10_7 X hR e_x2 dX10_totalBy_9 ?_
  refine lv_iconst (v := (1)) hx hb dX10_totalBy_12 (by decide) ?_
  refine lv_iload_n hx hb dX10_totalBy_13 rfl (lv_at hl 1 rfl) ?_
  obtain ⟨N3, e_N3, hp⟩ := owp_ob hp
  refine ab_iast X hR hS e_N3 dX10_totalBy_14 (fun H locs hR hS => ?_)
  refine lv_aload_n hx hb dX10_totalBy_15 rfl (lv_at hl 0 rfl) ?_
  obtain ⟨x5, N4, e_N4, hp⟩ := owp_ob2 hp
  refine iv_X10_totalOf (rest := []) mw_X10_242 X hR hS e_N4 hl.1 (Nat.le_of_ble_eq_true rfl) ⟨Nat.le_of_ble_eq_true rfl, Nat.le_of_ble_eq_true rfl⟩ ⟨Nat.le_of_ble_eq_true rfl, Nat.le_of_ble_eq_true rfl⟩ dX10_totalBy_16 (fun H locs hR hS => ?_)
  refine lv_istore_n (lv' := [(2, .int x5), (0, .ref v0), (1, .int v1)]) hx hb dX10_totalBy_19 rfl hl (by decide) rfl (fun ls hl => ?_)
  refine lv_aload_n hx hb dX10_totalBy_20 rfl (lv_at hl 1 rfl) ?_
  refine lv_sipush (v := (8274)) hx hb dX10_totalBy_21 (by decide) ?_
  refine lv_iconst (v := (0)) hx hb dX10_totalBy_24 (by decide) ?_
  obtain ⟨_, N6, e_N6, hp⟩ := owp_ob2 hp
  refine iv_X10_copies (rest := []) mw_X10_48 X hR hS e_N6 hl.1 (Nat.le_of_ble_eq_true rfl) ⟨Nat.le_of_ble_eq_true rfl, Nat.le_of_ble_eq_true rfl⟩ ⟨Nat.le_of_ble_eq_true rfl, Nat.le_of_ble_eq_true rfl⟩ dX10_totalBy_25 (fun H locs hR hS => ?_)
  refine lv_iload_n hx hb dX10_totalBy_28 rfl (lv_at hl 0 rfl) ?_
  exact hr _ _ _ _ _ _ hR hS dX10_totalBy_29 hp
end
theorem ct_X10_totalBy {v0 : Nat} {v1 : Int32} {N N1 : AH} {r : Int32} (h : f_X10_totalBy v0 v1 N = some (r, N1)) : Ct yX10_totalBy cX10_totalBy 3 (some .int) rm_X10_totalBy [.ref v0, .int v1] N (some (.int r)) N1 :=
  ab_met (own := RX10) (by decide +kernel) rfl (Nat.le_of_ble_eq_true rfl) (fun l G aC t b0 p e s m below meth c ls X hr hlk hnm hR hS hl => wk_X10_totalBy X (RtI_met X.1.1 X.1.2.1 hr hlk) _ _ _ _ _ _ hR hS hl (owp_of h))
theorem cw_X10_totalBy : Cond.code yX10_totalBy cX10_totalBy 3 (some .int) ∈ WT := WT_of 1302 (by decide +kernel) (by decide +kernel)
theorem iv_X10_totalBy {p : Program} {l : Launch} {e : Env} {R : Room} {s : State} {m : MethodId} {args : Array Value} {below : List Frame} {meth : Method} {c : Code} {H : Heap} {locs : List Loc} {cells slots : Nat} {Q : State → Prop} {cc : ByteArray} {own : String} {nL : Nat} {G : va_G} {aC : Nat → ClassId} {t b0 : Nat} {N N1 : AH} {pc index : Nat} {ls : Array Slot} {rest : List Value} {v0 : Nat} {v1 : Int32} {r : Int32} (w1 : Cond.methodLink own index yX10_totalBy ∈ WT) (X : CX cc own nL G aC t b0 p s m args c) (hR : Rp G aC b0 N H) (hS : va_S (fun q => b0 ≤ q) s.heap H locs) (h : f_X10_totalBy v0 v1 N = some (r, N1)) (hls : ls.size = nL) (hW : (rest.map fun v => v.category).sum ≤ 8) (hR1 : 11 ≤ R.frames ∧ 248 ≤ R.locals) (hcs : cells + 0 ≤ R.cells ∧ slots + 0 ≤ R.slots) (hdg : decode cc pc = .ok (.invokevirtual index, 3)) (kk : ∀ (H1 : Heap) (locs1 : List Loc), Rp G aC b0 N1 H1 → va_S (fun q => b0 ≤ q) s.heap H1 locs1 → W p l e R s m args below meth c H1 locs1 cells slots Q (F0 m (pc + 3) ls (.int r :: rest))) : W p l e R s m args below meth c H locs cells slots Q (F0 m pc ls (.int v1 :: .ref v0 :: rest)) :=
  ab_callV (n := 1) (As := [.int v1]) X hR hS (ct_X10_totalBy h) (ob_rc (c := 10) (N := N) (a := v0) h) (T := TX10) (k := 20) (C := RX10) rfl w1 (WT_of 1301 (by decide +kernel) (by decide +kernel)) (WT_of 72 (by decide +kernel) (by decide +kernel)) (WT_of 92 (by decide +kernel) (by decide +kernel)) cw_X10_totalBy ⟨rfl, by decide +kernel, by decide +kernel, by decide +kernel⟩ rfl hls hW hR1 hcs rfl hdg kk
-- X10_total
theorem mw_X10_245 : Cond.methodLink RX10 245 yX10_totalBy ∈ WT := WT_of 1299 (by decide +kernel) (by decide +kernel)
theorem dX10_total_0 : decode cX10_total 0 = .ok (.iload_n 1, 1) := by decide +kernel
theorem dX10_total_1 : decode cX10_total 1 = .ok (.i2l, 1) := by decide +kernel
theorem dX10_total_2 : decode cX10_total 2 = .ok (.lconst 0, 1) := by decide +kernel
theorem dX10_total_3 : decode cX10_total 3 = .ok (.ldc2_w 224, 3) := by decide +kernel
theorem dX10_total_6 : decode cX10_total 6 = .ok (.invokestatic 60, 3) := by decide +kernel
theorem dX10_total_9 : decode cX10_total 9 = .ok (.ifCond .eq 11, 3) := by decide +kernel
theorem dX10_total_12 : decode cX10_total 12 = .ok (.aload_n 0, 1) := by decide +kernel
theorem dX10_total_13 : decode cX10_total 13 = .ok (.iload_n 1, 1) := by decide +kernel
theorem dX10_total_14 : decode cX10_total 14 = .ok (.invokevirtual 245, 3) := by decide +kernel
theorem dX10_total_17 : decode cX10_total 17 = .ok (.goto 5, 3) := by decide +kernel
theorem dX10_total_20 : decode cX10_total 20 = .ok (.bipush (-3), 2) := by decide +kernel
theorem dX10_total_22 : decode cX10_total 22 = .ok (.ireturn, 1) := by decide +kernel
def rm_X10_total : Room := { frames := 11, cells := 0, slots := 0, locals := 248 }
section
variable {p : Program} {l : Launch} {e : Env} {s : State} {m : MethodId} {args : Array Value} {below : List Frame} {meth : Method} {c : Code} {Q : State → Prop} {G : va_G} {aC : Nat → ClassId} {t b0 : Nat}
def f_X10_total (v0 : Nat) (v1 : Int32) (N : AH) : Option (Int32 × AH) := ob (iO N v0 10) (fun _ => ob2 (f_X10_in (Int32.toInt64 v1) (0 : Int64) (5 : Int64) N) (fun x2 N1 => if x2 = 0 then some ((-3 : Int32), N1) else ob2 (f_X10_totalBy v0 v1 N1) (fun x5 N4 => some (x5, N4))))
set_option maxHeartbeats 4000000 in
set_option maxRecDepth 100000 in
theorem wk_X10_total {P : Int32 × AH → Prop} (X : CX cX10_total RX10 2 G aC t b0 p s m args c) (hr : RtI p l e rm_X10_total s m args below meth c 0 0 Q cX10_total G aC b0 P) (v0 : Nat) (v1 : Int32) (N : AH) (H : Heap) (locs : List Loc) (ls : Array Slot) (hR : Rp G aC b0 N H) (hS : va_S (fun q => b0 ≤ q) s.heap H locs) (hl : lv_has ls 2 [(0, .ref v0), (1, .int v1)]) (hp : owp (f_X10_total v0 v1 N) P) : W p l e rm_X10_total s m args below meth c H locs 0 0 Q (F0 m 0 ls []) := by
  have hx := X.1.1
  have hb := X.1.2.1
  unfold f_X10_total at hp
  obtain ⟨_, _, hp⟩ := owp_ob hp
  refine lv_iload_n hx hb dX10_total_0 rfl (lv_at hl 1 rfl) ?_
  refine lv_i2l (v := Int32.toInt64 v1) hx hb dX10_total_1 rfl ?_
  refine lv_lconst (v := 0) hx hb dX10_total_2 (by decide) ?_
  refine lv_ldc2 (own := RX10) (v := 5) hx hb X.1.2.2.2.1 (X.1.2.2.2.2 _ (WT_of 1138 (by decide +kernel) (by decide +kernel))) dX10_total_3 ?_
  obtain ⟨x2, N1, e_N1, hp⟩ := owp_ob2 hp
  refine iv_X10_in (rest := []) mw_X10_60 X hR hS e_N1 hl.1 (Nat.le_of_ble_eq_true rfl) ⟨Nat.le_of_ble_eq_true rfl, Nat.le_of_ble_eq_true rfl⟩ ⟨Nat.le_of_ble_eq_true rfl, Nat.le_of_ble_eq_true rfl⟩ dX10_total_6 (fun H locs hR hS => ?_)
  refine lv_if_eq (tgt := 20) hx hb dX10_total_9 (by decide) (fun k3 => ?_) (fun k3 => ?_)
  · have hp := owp_t k3 hp
    refine lv_bipush (v := (-3)) hx hb dX10_total_20 (by decide) ?_
    exact hr _ _ _ _ _ _ hR hS dX10_total_22 hp
  · have hp := owp_f k3 hp
    refine lv_aload_n hx hb dX10_total_12 rfl (lv_at hl 0 rfl) ?_
    refine lv_iload_n hx hb dX10_total_13 rfl (lv_at hl 1 rfl) ?_
    obtain ⟨x5, N4, e_N4, hp⟩ := owp_ob2 hp
    refine iv_X10_totalBy (rest := []) mw_X10_245 X hR hS e_N4 hl.1 (Nat.le_of_ble_eq_true rfl) ⟨Nat.le_of_ble_eq_true rfl, Nat.le_of_ble_eq_true rfl⟩ ⟨Nat.le_of_ble_eq_true rfl, Nat.le_of_ble_eq_true rfl⟩ dX10_total_14 (fun H locs hR hS => ?_)
    refine lv_goto (tgt := 22) hx hb dX10_total_17 (by decide) ?_
    exact hr _ _ _ _ _ _ hR hS dX10_total_22 hp
end
theorem ct_X10_total {v0 : Nat} {v1 : Int32} {N N1 : AH} {r : Int32} (h : f_X10_total v0 v1 N = some (r, N1)) : Ct yX10_total cX10_total 2 (some .int) rm_X10_total [.ref v0, .int v1] N (some (.int r)) N1 :=
  ab_met (own := RX10) (by decide +kernel) rfl (Nat.le_of_ble_eq_true rfl) (fun l G aC t b0 p e s m below meth c ls X hr hlk hnm hR hS hl => wk_X10_total X (RtI_met X.1.1 X.1.2.1 hr hlk) _ _ _ _ _ _ hR hS hl (owp_of h))
theorem cw_X10_total : Cond.code yX10_total cX10_total 2 (some .int) ∈ WT := WT_of 1298 (by decide +kernel) (by decide +kernel)
theorem iv_X10_total {p : Program} {l : Launch} {e : Env} {R : Room} {s : State} {m : MethodId} {args : Array Value} {below : List Frame} {meth : Method} {c : Code} {H : Heap} {locs : List Loc} {cells slots : Nat} {Q : State → Prop} {cc : ByteArray} {own : String} {nL : Nat} {G : va_G} {aC : Nat → ClassId} {t b0 : Nat} {N N1 : AH} {pc index : Nat} {ls : Array Slot} {rest : List Value} {v0 : Nat} {v1 : Int32} {r : Int32} (w1 : Cond.methodLink own index yX10_total ∈ WT) (X : CX cc own nL G aC t b0 p s m args c) (hR : Rp G aC b0 N H) (hS : va_S (fun q => b0 ≤ q) s.heap H locs) (h : f_X10_total v0 v1 N = some (r, N1)) (hls : ls.size = nL) (hW : (rest.map fun v => v.category).sum ≤ 8) (hR1 : 12 ≤ R.frames ∧ 269 ≤ R.locals) (hcs : cells + 0 ≤ R.cells ∧ slots + 0 ≤ R.slots) (hdg : decode cc pc = .ok (.invokevirtual index, 3)) (kk : ∀ (H1 : Heap) (locs1 : List Loc), Rp G aC b0 N1 H1 → va_S (fun q => b0 ≤ q) s.heap H1 locs1 → W p l e R s m args below meth c H1 locs1 cells slots Q (F0 m (pc + 3) ls (.int r :: rest))) : W p l e R s m args below meth c H locs cells slots Q (F0 m pc ls (.int v1 :: .ref v0 :: rest)) :=
  ab_callV (n := 1) (As := [.int v1]) X hR hS (ct_X10_total h) (ob_rc (c := 10) (N := N) (a := v0) h) (T := TX10) (k := 20) (C := RX10) rfl w1 (WT_of 1296 (by decide +kernel) (by decide +kernel)) (WT_of 1297 (by decide +kernel) (by decide +kernel)) (WT_of 92 (by decide +kernel) (by decide +kernel)) cw_X10_total ⟨rfl, by decide +kernel, by decide +kernel, by decide +kernel⟩ rfl hls hW hR1 hcs rfl hdg kk
-- X10_bestPolicy
theorem dX10_bestPolicy_0 : decode cX10_bestPolicy 0 = .ok (.iconst (-1), 1) := by decide +kernel
theorem dX10_bestPolicy_1 : decode cX10_bestPolicy 1 = .ok (.istore_n 1, 1) := by decide +kernel
theorem dX10_bestPolicy_2 : decode cX10_bestPolicy 2 = .ok (.iconst (-1), 1) := by decide +kernel
theorem dX10_bestPolicy_3 : decode cX10_bestPolicy 3 = .ok (.istore_n 2, 1) := by decide +kernel
theorem dX10_bestPolicy_4 : decode cX10_bestPolicy 4 = .ok (.iconst 0, 1) := by decide +kernel
theorem dX10_bestPolicy_5 : decode cX10_bestPolicy 5 = .ok (.istore_n 3, 1) := by decide +kernel
theorem dX10_bestPolicy_6 : decode cX10_bestPolicy 6 = .ok (.iload_n 3, 1) := by decide +kernel
theorem dX10_bestPolicy_7 : decode cX10_bestPolicy 7 = .ok (.bipush 6, 2) := by decide +kernel
theorem dX10_bestPolicy_9 : decode cX10_bestPolicy 9 = .ok (.if_icmp .ge 63, 3) := by decide +kernel
theorem dX10_bestPolicy_12 : decode cX10_bestPolicy 12 = .ok (.aload_n 0, 1) := by decide +kernel
theorem dX10_bestPolicy_13 : decode cX10_bestPolicy 13 = .ok (.iload_n 3, 1) := by decide +kernel
theorem dX10_bestPolicy_14 : decode cX10_bestPolicy 14 = .ok (.invokevirtual 245, 3) := by decide +kernel
theorem dX10_bestPolicy_17 : decode cX10_bestPolicy 17 = .ok (.istore 4, 2) := by decide +kernel
theorem dX10_bestPolicy_19 : decode cX10_bestPolicy 19 = .ok (.iload 4, 2) := by decide +kernel
theorem dX10_bestPolicy_21 : decode cX10_bestPolicy 21 = .ok (.iconst (-1), 1) := by decide +kernel
theorem dX10_bestPolicy_22 : decode cX10_bestPolicy 22 = .ok (.if_icmp .eq 18, 3) := by decide +kernel
theorem dX10_bestPolicy_25 : decode cX10_bestPolicy 25 = .ok (.iload_n 1, 1) := by decide +kernel
theorem dX10_bestPolicy_26 : decode cX10_bestPolicy 26 = .ok (.iconst (-1), 1) := by decide +kernel
theorem dX10_bestPolicy_27 : decode cX10_bestPolicy 27 = .ok (.if_icmp .eq 9, 3) := by decide +kernel
theorem dX10_bestPolicy_30 : decode cX10_bestPolicy 30 = .ok (.iload 4, 2) := by decide +kernel
theorem dX10_bestPolicy_32 : decode cX10_bestPolicy 32 = .ok (.iload_n 2, 1) := by decide +kernel
theorem dX10_bestPolicy_33 : decode cX10_bestPolicy 33 = .ok (.if_icmp .ge 7, 3) := by decide +kernel
theorem dX10_bestPolicy_36 : decode cX10_bestPolicy 36 = .ok (.iconst 1, 1) := by decide +kernel
theorem dX10_bestPolicy_37 : decode cX10_bestPolicy 37 = .ok (.goto 4, 3) := by decide +kernel
theorem dX10_bestPolicy_40 : decode cX10_bestPolicy 40 = .ok (.iconst 0, 1) := by decide +kernel
theorem dX10_bestPolicy_41 : decode cX10_bestPolicy 41 = .ok (.istore 5, 2) := by decide +kernel
theorem dX10_bestPolicy_43 : decode cX10_bestPolicy 43 = .ok (.iload 5, 2) := by decide +kernel
theorem dX10_bestPolicy_45 : decode cX10_bestPolicy 45 = .ok (.ifCond .eq 7, 3) := by decide +kernel
theorem dX10_bestPolicy_48 : decode cX10_bestPolicy 48 = .ok (.iload_n 3, 1) := by decide +kernel
theorem dX10_bestPolicy_49 : decode cX10_bestPolicy 49 = .ok (.goto 4, 3) := by decide +kernel
theorem dX10_bestPolicy_52 : decode cX10_bestPolicy 52 = .ok (.iload_n 1, 1) := by decide +kernel
theorem dX10_bestPolicy_53 : decode cX10_bestPolicy 53 = .ok (.istore_n 1, 1) := by decide +kernel
theorem dX10_bestPolicy_54 : decode cX10_bestPolicy 54 = .ok (.iload 5, 2) := by decide +kernel
theorem dX10_bestPolicy_56 : decode cX10_bestPolicy 56 = .ok (.ifCond .eq 8, 3) := by decide +kernel
theorem dX10_bestPolicy_59 : decode cX10_bestPolicy 59 = .ok (.iload 4, 2) := by decide +kernel
theorem dX10_bestPolicy_61 : decode cX10_bestPolicy 61 = .ok (.goto 4, 3) := by decide +kernel
theorem dX10_bestPolicy_64 : decode cX10_bestPolicy 64 = .ok (.iload_n 2, 1) := by decide +kernel
theorem dX10_bestPolicy_65 : decode cX10_bestPolicy 65 = .ok (.istore_n 2, 1) := by decide +kernel
theorem dX10_bestPolicy_66 : decode cX10_bestPolicy 66 = .ok (.iinc 3 1, 3) := by decide +kernel
theorem dX10_bestPolicy_69 : decode cX10_bestPolicy 69 = .ok (.goto (-63), 3) := by decide +kernel
theorem dX10_bestPolicy_72 : decode cX10_bestPolicy 72 = .ok (.iload_n 1, 1) := by decide +kernel
theorem dX10_bestPolicy_73 : decode cX10_bestPolicy 73 = .ok (.ireturn, 1) := by decide +kernel
def rm_X10_bestPolicy : Room := { frames := 11, cells := 0, slots := 0, locals := 248 }
section
variable {p : Program} {l : Launch} {e : Env} {s : State} {m : MethodId} {args : Array Value} {below : List Frame} {meth : Method} {c : Code} {Q : State → Prop} {G : va_G} {aC : Nat → ClassId} {t b0 : Nat}
def f_X10_bestPolicy_J53 (k6 : Int32 → Int32 → Int32 → AH → Option (Int32 × AH)) (v0 : Nat) (v2 : Int32) (v3 : Int32) (v4 : Int32) (v5 : Int32) (w0 : Int32) (N : AH) : Option (Int32 × AH) := if v5 = 0 then k6 w0 v2 (v3 + 1) N else k6 w0 v4 (v3 + 1) N
set_option maxHeartbeats 4000000 in
set_option maxRecDepth 100000 in
theorem w_X10_bestPolicy_J53 {P : Int32 × AH → Prop} (X : CX cX10_bestPolicy RX10 6 G aC t b0 p s m args c) (hr : RtI p l e rm_X10_bestPolicy s m args below meth c 0 0 Q cX10_bestPolicy G aC b0 P) (v0 : Nat) (v2 : Int32) (v3 : Int32) (v4 : Int32) (v5 : Int32) (w0 : Int32) {k6 : Int32 → Int32 → Int32 → AH → Option (Int32 × AH)}
    (hk6 : ∀ (v1 : Int32) (v2 : Int32) (v3 : Int32) (N : AH) (H : Heap) (locs : List Loc) (ls : Array Slot), Rp G aC b0 N H → va_S (fun q => b0 ≤ q) s.heap H locs → lv_has ls 6 [(0, .ref v0), (1, .int v1), (2, .int v2), (3, .int v3)] → owp (k6 v1 v2 v3 N) P → W p l e rm_X10_bestPolicy s m args below meth c H locs 0 0 Q (F0 m 6 ls [])) (N : AH) (H : Heap) (locs : List Loc) (ls : Array Slot) (hR : Rp G aC b0 N H) (hS : va_S (fun q => b0 ≤ q) s.heap H locs) (hl : lv_has ls 6 [(0, .ref v0), (2, .int v2), (3, .int v3), (4, .int v4), (5, .int v5)]) (hp : owp (f_X10_bestPolicy_J53 k6 v0 v2 v3 v4 v5 w0 N) P) : W p l e rm_X10_bestPolicy s m args below meth c H locs 0 0 Q (F0 m 53 ls [.int w0]) := by
  have hx := X.1.1
  have hb := X.1.2.1
  unfold f_X10_bestPolicy_J53 at hp
  refine lv_istore_n (lv' := [(1, .int w0), (0, .ref v0), (2, .int v2), (3, .int v3), (4, .int v4), (5, .int v5)]) hx hb dX10_bestPolicy_53 rfl hl (by decide) rfl (fun ls hl => ?_)
  refine lv_iload hx hb dX10_bestPolicy_54 (lv_at hl 5 rfl) ?_
  refine lv_if_eq (tgt := 64) hx hb dX10_bestPolicy_56 (by decide) (fun k6 => ?_) (fun k6 => ?_)
  · have hp := owp_t k6 hp
    refine lv_iload_n hx hb dX10_bestPolicy_64 rfl (lv_at hl 2 rfl) ?_
    refine lv_istore_n (lv' := [(2, .int v2), (1, .int w0), (0, .ref v0), (3, .int v3), (4, .int v4), (5, .int v5)]) hx hb dX10_bestPolicy_65 rfl hl (by decide) rfl (fun ls hl => ?_)
    refine lv_iinc (v := v3 + 1) (lv' := [(3, .int (v3 + 1)), (2, .int v2), (1, .int w0), (0, .ref v0), (4, .int v4), (5, .int v5)]) hx hb dX10_bestPolicy_66 hl (k := 3) rfl rfl (by decide) rfl (fun ls hl => ?_)
    refine lv_goto (tgt := 6) hx hb dX10_bestPolicy_69 (by decide) ?_
    exact hk6 _ _ _ _ _ _ _ hR hS (lv_sub hl [3, 2, 1, 0] rfl) hp
  · have hp := owp_f k6 hp
    refine lv_iload hx hb dX10_bestPolicy_59 (lv_at hl 4 rfl) ?_
    refine lv_goto (tgt := 65) hx hb dX10_bestPolicy_61 (by decide) ?_
    refine lv_istore_n (lv' := [(2, .int v4), (1, .int w0), (0, .ref v0), (3, .int v3), (4, .int v4), (5, .int v5)]) hx hb dX10_bestPolicy_65 rfl hl (by decide) rfl (fun ls hl => ?_)
    refine lv_iinc (v := v3 + 1) (lv' := [(3, .int (v3 + 1)), (2, .int v4), (1, .int w0), (0, .ref v0), (4, .int v4), (5, .int v5)]) hx hb dX10_bestPolicy_66 hl (k := 3) rfl rfl (by decide) rfl (fun ls hl => ?_)
    refine lv_goto (tgt := 6) hx hb dX10_bestPolicy_69 (by decide) ?_
    exact hk6 _ _ _ _ _ _ _ hR hS (lv_sub hl [3, 2, 1, 0] rfl) hp
def f_X10_bestPolicy_J41 (k6 : Int32 → Int32 → Int32 → AH → Option (Int32 × AH)) (v0 : Nat) (v1 : Int32) (v2 : Int32) (v3 : Int32) (v4 : Int32) (w0 : Int32) (N : AH) : Option (Int32 × AH) := if w0 = 0 then f_X10_bestPolicy_J53 k6 v0 v2 v3 v4 w0 v1 N else f_X10_bestPolicy_J53 k6 v0 v2 v3 v4 w0 v3 N
set_option maxHeartbeats 4000000 in
set_option maxRecDepth 100000 in
theorem w_X10_bestPolicy_J41 {P : Int32 × AH → Prop} (X : CX cX10_bestPolicy RX10 6 G aC t b0 p s m args c) (hr : RtI p l e rm_X10_bestPolicy s m args below meth c 0 0 Q cX10_bestPolicy G aC b0 P) (v0 : Nat) (v1 : Int32) (v2 : Int32) (v3 : Int32) (v4 : Int32) (w0 : Int32) {k6 : Int32 → Int32 → Int32 → AH → Option (Int32 × AH)}
    (hk6 : ∀ (v1 : Int32) (v2 : Int32) (v3 : Int32) (N : AH) (H : Heap) (locs : List Loc) (ls : Array Slot), Rp G aC b0 N H → va_S (fun q => b0 ≤ q) s.heap H locs → lv_has ls 6 [(0, .ref v0), (1, .int v1), (2, .int v2), (3, .int v3)] → owp (k6 v1 v2 v3 N) P → W p l e rm_X10_bestPolicy s m args below meth c H locs 0 0 Q (F0 m 6 ls [])) (N : AH) (H : Heap) (locs : List Loc) (ls : Array Slot) (hR : Rp G aC b0 N H) (hS : va_S (fun q => b0 ≤ q) s.heap H locs) (hl : lv_has ls 6 [(0, .ref v0), (1, .int v1), (2, .int v2), (3, .int v3), (4, .int v4)]) (hp : owp (f_X10_bestPolicy_J41 k6 v0 v1 v2 v3 v4 w0 N) P) : W p l e rm_X10_bestPolicy s m args below meth c H locs 0 0 Q (F0 m 41 ls [.int w0]) := by
  have hx := X.1.1
  have hb := X.1.2.1
  unfold f_X10_bestPolicy_J41 at hp
  refine lv_istore (lv' := [(5, .int w0), (0, .ref v0), (1, .int v1), (2, .int v2), (3, .int v3), (4, .int v4)]) hx hb dX10_bestPolicy_41 hl (by decide) rfl (fun ls hl => ?_)
  refine lv_iload hx hb dX10_bestPolicy_43 (lv_at hl 0 rfl) ?_
  refine lv_if_eq (tgt := 52) hx hb dX10_bestPolicy_45 (by decide) (fun k5 => ?_) (fun k5 => ?_)
  · have hp := owp_t k5 hp
    refine lv_iload_n hx hb dX10_bestPolicy_52 rfl (lv_at hl 2 rfl) ?_
    exact w_X10_bestPolicy_J53 X hr _ _ _ _ _ _ hk6 _ _ _ _ hR hS (lv_sub hl [1, 3, 4, 5, 0] rfl) hp
  · have hp := owp_f k5 hp
    refine lv_iload_n hx hb dX10_bestPolicy_48 rfl (lv_at hl 4 rfl) ?_
    refine lv_goto (tgt := 53) hx hb dX10_bestPolicy_49 (by decide) ?_
    exact w_X10_bestPolicy_J53 X hr _ _ _ _ _ _ hk6 _ _ _ _ hR hS (lv_sub hl [1, 3, 4, 5, 0] rfl) hp
def f_X10_bestPolicy_J40 (k6 : Int32 → Int32 → Int32 → AH → Option (Int32 × AH)) (v0 : Nat) (v1 : Int32) (v2 : Int32) (v3 : Int32) (v4 : Int32) (N : AH) : Option (Int32 × AH) := f_X10_bestPolicy_J41 k6 v0 v1 v2 v3 v4 (0 : Int32) N
set_option maxHeartbeats 4000000 in
set_option maxRecDepth 100000 in
theorem w_X10_bestPolicy_J40 {P : Int32 × AH → Prop} (X : CX cX10_bestPolicy RX10 6 G aC t b0 p s m args c) (hr : RtI p l e rm_X10_bestPolicy s m args below meth c 0 0 Q cX10_bestPolicy G aC b0 P) (v0 : Nat) (v1 : Int32) (v2 : Int32) (v3 : Int32) (v4 : Int32) {k6 : Int32 → Int32 → Int32 → AH → Option (Int32 × AH)}
    (hk6 : ∀ (v1 : Int32) (v2 : Int32) (v3 : Int32) (N : AH) (H : Heap) (locs : List Loc) (ls : Array Slot), Rp G aC b0 N H → va_S (fun q => b0 ≤ q) s.heap H locs → lv_has ls 6 [(0, .ref v0), (1, .int v1), (2, .int v2), (3, .int v3)] → owp (k6 v1 v2 v3 N) P → W p l e rm_X10_bestPolicy s m args below meth c H locs 0 0 Q (F0 m 6 ls [])) (N : AH) (H : Heap) (locs : List Loc) (ls : Array Slot) (hR : Rp G aC b0 N H) (hS : va_S (fun q => b0 ≤ q) s.heap H locs) (hl : lv_has ls 6 [(0, .ref v0), (1, .int v1), (2, .int v2), (3, .int v3), (4, .int v4)]) (hp : owp (f_X10_bestPolicy_J40 k6 v0 v1 v2 v3 v4 N) P) : W p l e rm_X10_bestPolicy s m args below meth c H locs 0 0 Q (F0 m 40 ls []) := by
  have hx := X.1.1
  have hb := X.1.2.1
  unfold f_X10_bestPolicy_J40 at hp
  refine lv_iconst (v := (0)) hx hb dX10_bestPolicy_40 (by decide) ?_
  exact w_X10_bestPolicy_J41 X hr _ _ _ _ _ _ hk6 _ _ _ _ hR hS hl hp
def f_X10_bestPolicy_J36 (k6 : Int32 → Int32 → Int32 → AH → Option (Int32 × AH)) (v0 : Nat) (v1 : Int32) (v2 : Int32) (v3 : Int32) (v4 : Int32) (N : AH) : Option (Int32 × AH) := f_X10_bestPolicy_J41 k6 v0 v1 v2 v3 v4 (1 : Int32) N
set_option maxHeartbeats 4000000 in
set_option maxRecDepth 100000 in
theorem w_X10_bestPolicy_J36 {P : Int32 × AH → Prop} (X : CX cX10_bestPolicy RX10 6 G aC t b0 p s m args c) (hr : RtI p l e rm_X10_bestPolicy s m args below meth c 0 0 Q cX10_bestPolicy G aC b0 P) (v0 : Nat) (v1 : Int32) (v2 : Int32) (v3 : Int32) (v4 : Int32) {k6 : Int32 → Int32 → Int32 → AH → Option (Int32 × AH)}
    (hk6 : ∀ (v1 : Int32) (v2 : Int32) (v3 : Int32) (N : AH) (H : Heap) (locs : List Loc) (ls : Array Slot), Rp G aC b0 N H → va_S (fun q => b0 ≤ q) s.heap H locs → lv_has ls 6 [(0, .ref v0), (1, .int v1), (2, .int v2), (3, .int v3)] → owp (k6 v1 v2 v3 N) P → W p l e rm_X10_bestPolicy s m args below meth c H locs 0 0 Q (F0 m 6 ls [])) (N : AH) (H : Heap) (locs : List Loc) (ls : Array Slot) (hR : Rp G aC b0 N H) (hS : va_S (fun q => b0 ≤ q) s.heap H locs) (hl : lv_has ls 6 [(0, .ref v0), (1, .int v1), (2, .int v2), (3, .int v3), (4, .int v4)]) (hp : owp (f_X10_bestPolicy_J36 k6 v0 v1 v2 v3 v4 N) P) : W p l e rm_X10_bestPolicy s m args below meth c H locs 0 0 Q (F0 m 36 ls []) := by
  have hx := X.1.1
  have hb := X.1.2.1
  unfold f_X10_bestPolicy_J36 at hp
  refine lv_iconst (v := (1)) hx hb dX10_bestPolicy_36 (by decide) ?_
  refine lv_goto (tgt := 41) hx hb dX10_bestPolicy_37 (by decide) ?_
  exact w_X10_bestPolicy_J41 X hr _ _ _ _ _ _ hk6 _ _ _ _ hR hS hl hp
def f_X10_bestPolicy_L6 (v0 : Nat) (k72 : Int32 → AH → Option (Int32 × AH)) : Nat → Int32 → Int32 → Int32 → AH → Option (Int32 × AH)
  | 0, _, _, _, _ => none
  | n + 1, v1, v2, v3, N => if (6 : Int32) ≤ v3 then k72 v1 N else ob2 (f_X10_totalBy v0 v3 N) (fun x3 N2 => if x3 = (-1 : Int32) then f_X10_bestPolicy_J40 (f_X10_bestPolicy_L6 v0 k72 n) v0 v1 v2 v3 x3 N2 else if v1 = (-1 : Int32) then f_X10_bestPolicy_J36 (f_X10_bestPolicy_L6 v0 k72 n) v0 v1 v2 v3 x3 N2 else if v2 ≤ x3 then f_X10_bestPolicy_J40 (f_X10_bestPolicy_L6 v0 k72 n) v0 v1 v2 v3 x3 N2 else f_X10_bestPolicy_J36 (f_X10_bestPolicy_L6 v0 k72 n) v0 v1 v2 v3 x3 N2)
set_option maxHeartbeats 4000000 in
set_option maxRecDepth 100000 in
theorem w_X10_bestPolicy_L6 {P : Int32 × AH → Prop} (X : CX cX10_bestPolicy RX10 6 G aC t b0 p s m args c) (hr : RtI p l e rm_X10_bestPolicy s m args below meth c 0 0 Q cX10_bestPolicy G aC b0 P) (v0 : Nat) {k72 : Int32 → AH → Option (Int32 × AH)}
    (hk72 : ∀ (v1 : Int32) (N : AH) (H : Heap) (locs : List Loc) (ls : Array Slot), Rp G aC b0 N H → va_S (fun q => b0 ≤ q) s.heap H locs → lv_has ls 6 [(1, .int v1)] → owp (k72 v1 N) P → W p l e rm_X10_bestPolicy s m args below meth c H locs 0 0 Q (F0 m 72 ls [])) :
    ∀ (n : Nat) (v1 : Int32) (v2 : Int32) (v3 : Int32) (N : AH) (H : Heap) (locs : List Loc) (ls : Array Slot), Rp G aC b0 N H → va_S (fun q => b0 ≤ q) s.heap H locs → lv_has ls 6 [(0, .ref v0), (1, .int v1), (2, .int v2), (3, .int v3)] → owp (f_X10_bestPolicy_L6 v0 k72 n v1 v2 v3 N) P → W p l e rm_X10_bestPolicy s m args below meth c H locs 0 0 Q (F0 m 6 ls []) := by
  have hx := X.1.1
  have hb := X.1.2.1
  intro n
  induction n with
  | zero =>
    intro v1 v2 v3 N H locs ls hR hS hl hp
    exact (show False from hp).elim
  | succ n ih =>
    intro v1 v2 v3 N H locs ls hR hS hl hp
    rw [f_X10_bestPolicy_L6] at hp
    refine lv_iload_n hx hb dX10_bestPolicy_6 rfl (lv_at hl 3 rfl) ?_
    refine lv_bipush (v := (6)) hx hb dX10_bestPolicy_7 (by decide) ?_
    refine lv_icmp_ge (tgt := 72) hx hb dX10_bestPolicy_9 (by decide) (fun k1 => ?_) (fun k1 => ?_)
    · have hp := owp_t k1 hp
      exact hk72 _ _ _ _ _ hR hS (lv_sub hl [1] rfl) hp
    · have hp := owp_f k1 hp
      refine lv_aload_n hx hb dX10_bestPolicy_12 rfl (lv_at hl 0 rfl) ?_
      refine lv_iload_n hx hb dX10_bestPolicy_13 rfl (lv_at hl 3 rfl) ?_
      obtain ⟨x3, N2, e_N2, hp⟩ := owp_ob2 hp
      refine iv_X10_totalBy (rest := []) mw_X10_245 X hR hS e_N2 hl.1 (Nat.le_of_ble_eq_true rfl) ⟨Nat.le_of_ble_eq_true rfl, Nat.le_of_ble_eq_true rfl⟩ ⟨Nat.le_of_ble_eq_true rfl, Nat.le_of_ble_eq_true rfl⟩ dX10_bestPolicy_14 (fun H locs hR hS => ?_)
      refine lv_istore (lv' := [(4, .int x3), (0, .ref v0), (1, .int v1), (2, .int v2), (3, .int v3)]) hx hb dX10_bestPolicy_17 hl (by decide) rfl (fun ls hl => ?_)
      refine lv_iload hx hb dX10_bestPolicy_19 (lv_at hl 0 rfl) ?_
      refine lv_iconst (v := (-1)) hx hb dX10_bestPolicy_21 (by decide) ?_
      refine lv_icmp_eq (tgt := 40) hx hb dX10_bestPolicy_22 (by decide) (fun k4 => ?_) (fun k4 => ?_)
      · have hp := owp_t k4 hp
        exact w_X10_bestPolicy_J40 X hr _ _ _ _ _ ih _ _ _ _ hR hS (lv_sub hl [1, 2, 3, 4, 0] rfl) hp
      · have hp := owp_f k4 hp
        refine lv_iload_n hx hb dX10_bestPolicy_25 rfl (lv_at hl 2 rfl) ?_
        refine lv_iconst (v := (-1)) hx hb dX10_bestPolicy_26 (by decide) ?_
        refine lv_icmp_eq (tgt := 36) hx hb dX10_bestPolicy_27 (by decide) (fun k7 => ?_) (fun k7 => ?_)
        · have hp := owp_t k7 hp
          exact w_X10_bestPolicy_J36 X hr _ _ _ _ _ ih _ _ _ _ hR hS (lv_sub hl [1, 2, 3, 4, 0] rfl) hp
        · have hp := owp_f k7 hp
          refine lv_iload hx hb dX10_bestPolicy_30 (lv_at hl 0 rfl) ?_
          refine lv_iload_n hx hb dX10_bestPolicy_32 rfl (lv_at hl 3 rfl) ?_
          refine lv_icmp_ge (tgt := 40) hx hb dX10_bestPolicy_33 (by decide) (fun k8 => ?_) (fun k8 => ?_)
          · have hp := owp_t k8 hp
            exact w_X10_bestPolicy_J40 X hr _ _ _ _ _ ih _ _ _ _ hR hS (lv_sub hl [1, 2, 3, 4, 0] rfl) hp
          · have hp := owp_f k8 hp
            exact w_X10_bestPolicy_J36 X hr _ _ _ _ _ ih _ _ _ _ hR hS (lv_sub hl [1, 2, 3, 4, 0] rfl) hp
def f_X10_bestPolicy (v0 : Nat) (N : AH) : Option (Int32 × AH) := ob (iO N v0 10) (fun _ => f_X10_bestPolicy_L6 v0 (fun v9 N10 => some (v9, N10)) FU (-1 : Int32) (-1 : Int32) (0 : Int32) N)
set_option maxHeartbeats 4000000 in
set_option maxRecDepth 100000 in
theorem wk_X10_bestPolicy {P : Int32 × AH → Prop} (X : CX cX10_bestPolicy RX10 6 G aC t b0 p s m args c) (hr : RtI p l e rm_X10_bestPolicy s m args below meth c 0 0 Q cX10_bestPolicy G aC b0 P) (v0 : Nat) (N : AH) (H : Heap) (locs : List Loc) (ls : Array Slot) (hR : Rp G aC b0 N H) (hS : va_S (fun q => b0 ≤ q) s.heap H locs) (hl : lv_has ls 6 [(0, .ref v0)]) (hp : owp (f_X10_bestPolicy v0 N) P) : W p l e rm_X10_bestPolicy s m args below meth c H locs 0 0 Q (F0 m 0 ls []) := by
  have hx := X.1.1
  have hb := X.1.2.1
  unfold f_X10_bestPolicy at hp
  obtain ⟨_, _, hp⟩ := owp_ob hp
  refine lv_iconst (v := (-1)) hx hb dX10_bestPolicy_0 (by decide) ?_
  refine lv_istore_n (lv' := [(1, .int (-1 : Int32)), (0, .ref v0)]) hx hb dX10_bestPolicy_1 rfl hl (by decide) rfl (fun ls hl => ?_)
  refine lv_iconst (v := (-1)) hx hb dX10_bestPolicy_2 (by decide) ?_
  refine lv_istore_n (lv' := [(2, .int (-1 : Int32)), (1, .int (-1 : Int32)), (0, .ref v0)]) hx hb dX10_bestPolicy_3 rfl hl (by decide) rfl (fun ls hl => ?_)
  refine lv_iconst (v := (0)) hx hb dX10_bestPolicy_4 (by decide) ?_
  refine lv_istore_n (lv' := [(3, .int (0 : Int32)), (2, .int (-1 : Int32)), (1, .int (-1 : Int32)), (0, .ref v0)]) hx hb dX10_bestPolicy_5 rfl hl (by decide) rfl (fun ls hl => ?_)
  refine w_X10_bestPolicy_L6 X hr _ (fun v9 N10 H locs ls hR hS hl hp => ?_) _ _ _ _ _ _ _ _ hR hS (lv_sub hl [3, 2, 1, 0] rfl) hp
  refine lv_iload_n hx hb dX10_bestPolicy_72 rfl (lv_at hl 0 rfl) ?_
  exact hr _ _ _ _ _ _ hR hS dX10_bestPolicy_73 hp
end
theorem ct_X10_bestPolicy {v0 : Nat} {N N1 : AH} {r : Int32} (h : f_X10_bestPolicy v0 N = some (r, N1)) : Ct yX10_bestPolicy cX10_bestPolicy 6 (some .int) rm_X10_bestPolicy [.ref v0] N (some (.int r)) N1 :=
  ab_met (own := RX10) (by decide +kernel) rfl (Nat.le_of_ble_eq_true rfl) (fun l G aC t b0 p e s m below meth c ls X hr hlk hnm hR hS hl => wk_X10_bestPolicy X (RtI_met X.1.1 X.1.2.1 hr hlk) _ _ _ _ _ hR hS hl (owp_of h))
theorem cw_X10_bestPolicy : Cond.code yX10_bestPolicy cX10_bestPolicy 6 (some .int) ∈ WT := WT_of 1314 (by decide +kernel) (by decide +kernel)
theorem iv_X10_bestPolicy {p : Program} {l : Launch} {e : Env} {R : Room} {s : State} {m : MethodId} {args : Array Value} {below : List Frame} {meth : Method} {c : Code} {H : Heap} {locs : List Loc} {cells slots : Nat} {Q : State → Prop} {cc : ByteArray} {own : String} {nL : Nat} {G : va_G} {aC : Nat → ClassId} {t b0 : Nat} {N N1 : AH} {pc index : Nat} {ls : Array Slot} {rest : List Value} {v0 : Nat} {r : Int32} (w1 : Cond.methodLink own index yX10_bestPolicy ∈ WT) (X : CX cc own nL G aC t b0 p s m args c) (hR : Rp G aC b0 N H) (hS : va_S (fun q => b0 ≤ q) s.heap H locs) (h : f_X10_bestPolicy v0 N = some (r, N1)) (hls : ls.size = nL) (hW : (rest.map fun v => v.category).sum ≤ 8) (hR1 : 12 ≤ R.frames ∧ 273 ≤ R.locals) (hcs : cells + 0 ≤ R.cells ∧ slots + 0 ≤ R.slots) (hdg : decode cc pc = .ok (.invokevirtual index, 3)) (kk : ∀ (H1 : Heap) (locs1 : List Loc), Rp G aC b0 N1 H1 → va_S (fun q => b0 ≤ q) s.heap H1 locs1 → W p l e R s m args below meth c H1 locs1 cells slots Q (F0 m (pc + 3) ls (.int r :: rest))) : W p l e R s m args below meth c H locs cells slots Q (F0 m pc ls (.ref v0 :: rest)) :=
  ab_callV (n := 0) (As := []) X hR hS (ct_X10_bestPolicy h) (ob_rc (c := 10) (N := N) (a := v0) h) (T := TX10) (k := 20) (C := RX10) rfl w1 (WT_of 1312 (by decide +kernel) (by decide +kernel)) (WT_of 1313 (by decide +kernel) (by decide +kernel)) (WT_of 92 (by decide +kernel) (by decide +kernel)) cw_X10_bestPolicy ⟨rfl, by decide +kernel, by decide +kernel, by decide +kernel⟩ rfl hls hW hR1 hcs rfl hdg kk
-- X10_swaps
theorem dX10_swaps_0 : decode cX10_swaps 0 = .ok (.aload_n 0, 1) := by decide +kernel
theorem dX10_swaps_1 : decode cX10_swaps 1 = .ok (.getfield 25, 3) := by decide +kernel
theorem dX10_swaps_4 : decode cX10_swaps 4 = .ok (.iload_n 1, 1) := by decide +kernel
theorem dX10_swaps_5 : decode cX10_swaps 5 = .ok (.iaload, 1) := by decide +kernel
theorem dX10_swaps_6 : decode cX10_swaps 6 = .ok (.istore_n 3, 1) := by decide +kernel
theorem dX10_swaps_7 : decode cX10_swaps 7 = .ok (.aload_n 0, 1) := by decide +kernel
theorem dX10_swaps_8 : decode cX10_swaps 8 = .ok (.getfield 25, 3) := by decide +kernel
theorem dX10_swaps_11 : decode cX10_swaps 11 = .ok (.iload_n 1, 1) := by decide +kernel
theorem dX10_swaps_12 : decode cX10_swaps 12 = .ok (.aload_n 0, 1) := by decide +kernel
theorem dX10_swaps_13 : decode cX10_swaps 13 = .ok (.getfield 25, 3) := by decide +kernel
theorem dX10_swaps_16 : decode cX10_swaps 16 = .ok (.iload_n 2, 1) := by decide +kernel
theorem dX10_swaps_17 : decode cX10_swaps 17 = .ok (.iaload, 1) := by decide +kernel
theorem dX10_swaps_18 : decode cX10_swaps 18 = .ok (.iastore, 1) := by decide +kernel
theorem dX10_swaps_19 : decode cX10_swaps 19 = .ok (.aload_n 0, 1) := by decide +kernel
theorem dX10_swaps_20 : decode cX10_swaps 20 = .ok (.getfield 25, 3) := by decide +kernel
theorem dX10_swaps_23 : decode cX10_swaps 23 = .ok (.iload_n 2, 1) := by decide +kernel
theorem dX10_swaps_24 : decode cX10_swaps 24 = .ok (.iload_n 3, 1) := by decide +kernel
theorem dX10_swaps_25 : decode cX10_swaps 25 = .ok (.iastore, 1) := by decide +kernel
theorem dX10_swaps_26 : decode cX10_swaps 26 = .ok (.return_, 1) := by decide +kernel
def rm_X10_swaps : Room := { frames := 0, cells := 0, slots := 0, locals := 0 }
section
variable {p : Program} {l : Launch} {e : Env} {s : State} {m : MethodId} {args : Array Value} {below : List Frame} {meth : Method} {c : Code} {Q : State → Prop} {G : va_G} {aC : Nat → ClassId} {t b0 : Nat}
def f_X10_swaps (v0 : Nat) (v1 : Int32) (v2 : Int32) (N : AH) : Option (Unit × AH) := ob (iO N v0 10) (fun _ => ob (hR N v0 10 9) (fun x1 => ob (aI N x1 v1) (fun x2 => ob (hR N v0 10 9) (fun x3 => ob (hR N v0 10 9) (fun x4 => ob (aI N x4 v2) (fun x5 => ob (sI N x3 v1 x5) (fun N6 => ob (hR N6 v0 10 9) (fun x7 => ob (sI N6 x7 v2 x2) (fun N8 => some ((), N8))))))))))
set_option maxHeartbeats 4000000 in
set_option maxRecDepth 100000 in
theorem wk_X10_swaps {P : Unit × AH → Prop} (X : CX cX10_swaps RX10 4 G aC t b0 p s m args c) (hr : RtV p l e rm_X10_swaps s m args below meth c 0 0 Q cX10_swaps G aC b0 P) (v0 : Nat) (v1 : Int32) (v2 : Int32) (N : AH) (H : Heap) (locs : List Loc) (ls : Array Slot) (hR : Rp G aC b0 N H) (hS : va_S (fun q => b0 ≤ q) s.heap H locs) (hl : lv_has ls 4 [(0, .ref v0), (1, .int v1), (2, .int v2)]) (hp : owp (f_X10_swaps v0 v1 v2 N) P) : W p l e rm_X10_swaps s m args below meth c H locs 0 0 Q (F0 m 0 ls []) := by
  have hx := X.1.1
  have hb := X.1.2.1
  unfold f_X10_swaps at hp
  obtain ⟨_, _, hp⟩ := owp_ob hp
  refine lv_aload_n hx hb dX10_swaps_0 rfl (lv_at hl 0 rfl) ?_
  obtain ⟨x1, e_x1, hp⟩ := owp_ob hp
  refine gf_X10_25 X hR e_x1 dX10_swaps_1 ?_
  refine lv_iload_n hx hb dX10_swaps_4 rfl (lv_at hl 1 rfl) ?_
  obtain ⟨x2, e_x2, hp⟩ := owp_ob hp
  refine ab_iald X hR e_x2 dX10_swaps_5 ?_
  refine lv_istore_n (lv' := [(3, .int x2), (0, .ref v0), (1, .int v1), (2, .int v2)]) hx hb dX10_swaps_6 rfl hl (by decide) rfl (fun ls hl => ?_)
  refine lv_aload_n hx hb dX10_swaps_7 rfl (lv_at hl 1 rfl) ?_
  obtain ⟨x3, e_x3, hp⟩ := owp_ob hp
  refine gf_X10_25 X hR e_x3 dX10_swaps_8 ?_
  refine lv_iload_n hx hb dX10_swaps_11 rfl (lv_at hl 2 rfl) ?_
  refine lv_aload_n hx hb dX10_swaps_12 rfl (lv_at hl 1 rfl) ?_
  obtain ⟨x4, e_x4, hp⟩ := owp_ob hp
  refine gf_X10_25 X hR e_x4 dX10_swaps_13 ?_
  refine lv_iload_n hx hb dX10_swaps_16 rfl (lv_at hl 3 rfl) ?_
  obtain ⟨x5, e_x5, hp⟩ := owp_ob hp
  refine ab_iald X hR e_x5 dX10_swaps_17 ?_
  obtain ⟨N6, e_N6, hp⟩ := owp_ob hp
  refine ab_iast X hR hS e_N6 dX10_swaps_18 (fun H locs hR hS => ?_)
  refine lv_aload_n hx hb dX10_swaps_19 rfl (lv_at hl 1 rfl) ?_
  obtain ⟨x7, e_x7, hp⟩ := owp_ob hp
  refine gf_X10_25 X hR e_x7 dX10_swaps_20 ?_
  refine lv_iload_n hx hb dX10_swaps_23 rfl (lv_at hl 3 rfl) ?_
  refine lv_iload_n hx hb dX10_swaps_24 rfl (lv_at hl 0 rfl) ?_
  obtain ⟨N8, e_N8, hp⟩ := owp_ob hp
  refine ab_iast X hR hS e_N8 dX10_swaps_25 (fun H locs hR hS => ?_)
  exact hr _ _ _ _ _ hR hS dX10_swaps_26 hp
end
theorem ct_X10_swaps {v0 : Nat} {v1 : Int32} {v2 : Int32} {N N1 : AH} {r : Unit} (h : f_X10_swaps v0 v1 v2 N = some (r, N1)) : Ct yX10_swaps cX10_swaps 4 none rm_X10_swaps [.ref v0, .int v1, .int v2] N none N1 :=
  ab_met (own := RX10) (by decide +kernel) rfl (Nat.le_of_ble_eq_true rfl) (fun l G aC t b0 p e s m below meth c ls X hr hlk hnm hR hS hl => wk_X10_swaps X (RtV_met X.1.1 X.1.2.1 hr hlk) _ _ _ _ _ _ _ hR hS hl (owp_of h))
theorem cw_X10_swaps : Cond.code yX10_swaps cX10_swaps 4 none ∈ WT := WT_of 1330 (by decide +kernel) (by decide +kernel)
theorem iv_X10_swaps {p : Program} {l : Launch} {e : Env} {R : Room} {s : State} {m : MethodId} {args : Array Value} {below : List Frame} {meth : Method} {c : Code} {H : Heap} {locs : List Loc} {cells slots : Nat} {Q : State → Prop} {cc : ByteArray} {own : String} {nL : Nat} {G : va_G} {aC : Nat → ClassId} {t b0 : Nat} {N N1 : AH} {pc index : Nat} {ls : Array Slot} {rest : List Value} {v0 : Nat} {v1 : Int32} {v2 : Int32} {r : Unit} (w1 : Cond.methodLink own index yX10_swaps ∈ WT) (X : CX cc own nL G aC t b0 p s m args c) (hR : Rp G aC b0 N H) (hS : va_S (fun q => b0 ≤ q) s.heap H locs) (h : f_X10_swaps v0 v1 v2 N = some (r, N1)) (hls : ls.size = nL) (hW : (rest.map fun v => v.category).sum ≤ 8) (hR1 : 1 ≤ R.frames ∧ 23 ≤ R.locals) (hcs : cells + 0 ≤ R.cells ∧ slots + 0 ≤ R.slots) (hdg : decode cc pc = .ok (.invokevirtual index, 3)) (kk : ∀ (H1 : Heap) (locs1 : List Loc), Rp G aC b0 N1 H1 → va_S (fun q => b0 ≤ q) s.heap H1 locs1 → W p l e R s m args below meth c H1 locs1 cells slots Q (F0 m (pc + 3) ls rest)) : W p l e R s m args below meth c H locs cells slots Q (F0 m pc ls (.int v2 :: .int v1 :: .ref v0 :: rest)) :=
  ab_callV (n := 2) (As := [.int v1, .int v2]) X hR hS (ct_X10_swaps h) (ob_rc (c := 10) (N := N) (a := v0) h) (T := TX10) (k := 20) (C := RX10) rfl w1 (WT_of 1329 (by decide +kernel) (by decide +kernel)) (WT_of 77 (by decide +kernel) (by decide +kernel)) (WT_of 92 (by decide +kernel) (by decide +kernel)) cw_X10_swaps ⟨rfl, by decide +kernel, by decide +kernel, by decide +kernel⟩ rfl hls hW hR1 hcs rfl hdg kk
-- X10_next
theorem mw_X10_248 : Cond.methodLink RX10 248 yX10_swaps ∈ WT := WT_of 1327 (by decide +kernel) (by decide +kernel)
theorem dX10_next_0 : decode cX10_next 0 = .ok (.aload_n 0, 1) := by decide +kernel
theorem dX10_next_1 : decode cX10_next 1 = .ok (.getfield 104, 3) := by decide +kernel
theorem dX10_next_4 : decode cX10_next 4 = .ok (.iconst 2, 1) := by decide +kernel
theorem dX10_next_5 : decode cX10_next 5 = .ok (.isub, 1) := by decide +kernel
theorem dX10_next_6 : decode cX10_next 6 = .ok (.istore_n 1, 1) := by decide +kernel
theorem dX10_next_7 : decode cX10_next 7 = .ok (.iload_n 1, 1) := by decide +kernel
theorem dX10_next_8 : decode cX10_next 8 = .ok (.ifCond .lt 26, 3) := by decide +kernel
theorem dX10_next_11 : decode cX10_next 11 = .ok (.aload_n 0, 1) := by decide +kernel
theorem dX10_next_12 : decode cX10_next 12 = .ok (.getfield 25, 3) := by decide +kernel
theorem dX10_next_15 : decode cX10_next 15 = .ok (.iload_n 1, 1) := by decide +kernel
theorem dX10_next_16 : decode cX10_next 16 = .ok (.iaload, 1) := by decide +kernel
theorem dX10_next_17 : decode cX10_next 17 = .ok (.aload_n 0, 1) := by decide +kernel
theorem dX10_next_18 : decode cX10_next 18 = .ok (.getfield 25, 3) := by decide +kernel
theorem dX10_next_21 : decode cX10_next 21 = .ok (.iload_n 1, 1) := by decide +kernel
theorem dX10_next_22 : decode cX10_next 22 = .ok (.iconst 1, 1) := by decide +kernel
theorem dX10_next_23 : decode cX10_next 23 = .ok (.iadd, 1) := by decide +kernel
theorem dX10_next_24 : decode cX10_next 24 = .ok (.iaload, 1) := by decide +kernel
theorem dX10_next_25 : decode cX10_next 25 = .ok (.if_icmp .le 9, 3) := by decide +kernel
theorem dX10_next_28 : decode cX10_next 28 = .ok (.iinc 1 (-1), 3) := by decide +kernel
theorem dX10_next_31 : decode cX10_next 31 = .ok (.goto (-24), 3) := by decide +kernel
theorem dX10_next_34 : decode cX10_next 34 = .ok (.iload_n 1, 1) := by decide +kernel
theorem dX10_next_35 : decode cX10_next 35 = .ok (.ifCond .ge 5, 3) := by decide +kernel
theorem dX10_next_38 : decode cX10_next 38 = .ok (.iconst 0, 1) := by decide +kernel
theorem dX10_next_39 : decode cX10_next 39 = .ok (.ireturn, 1) := by decide +kernel
theorem dX10_next_40 : decode cX10_next 40 = .ok (.aload_n 0, 1) := by decide +kernel
theorem dX10_next_41 : decode cX10_next 41 = .ok (.getfield 104, 3) := by decide +kernel
theorem dX10_next_44 : decode cX10_next 44 = .ok (.iconst 1, 1) := by decide +kernel
theorem dX10_next_45 : decode cX10_next 45 = .ok (.isub, 1) := by decide +kernel
theorem dX10_next_46 : decode cX10_next 46 = .ok (.istore_n 2, 1) := by decide +kernel
theorem dX10_next_47 : decode cX10_next 47 = .ok (.aload_n 0, 1) := by decide +kernel
theorem dX10_next_48 : decode cX10_next 48 = .ok (.getfield 25, 3) := by decide +kernel
theorem dX10_next_51 : decode cX10_next 51 = .ok (.iload_n 2, 1) := by decide +kernel
theorem dX10_next_52 : decode cX10_next 52 = .ok (.iaload, 1) := by decide +kernel
theorem dX10_next_53 : decode cX10_next 53 = .ok (.aload_n 0, 1) := by decide +kernel
theorem dX10_next_54 : decode cX10_next 54 = .ok (.getfield 25, 3) := by decide +kernel
theorem dX10_next_57 : decode cX10_next 57 = .ok (.iload_n 1, 1) := by decide +kernel
theorem dX10_next_58 : decode cX10_next 58 = .ok (.iaload, 1) := by decide +kernel
theorem dX10_next_59 : decode cX10_next 59 = .ok (.if_icmp .ge 9, 3) := by decide +kernel
theorem dX10_next_62 : decode cX10_next 62 = .ok (.iinc 2 (-1), 3) := by decide +kernel
theorem dX10_next_65 : decode cX10_next 65 = .ok (.goto (-18), 3) := by decide +kernel
theorem dX10_next_68 : decode cX10_next 68 = .ok (.aload_n 0, 1) := by decide +kernel
theorem dX10_next_69 : decode cX10_next 69 = .ok (.iload_n 1, 1) := by decide +kernel
theorem dX10_next_70 : decode cX10_next 70 = .ok (.iload_n 2, 1) := by decide +kernel
theorem dX10_next_71 : decode cX10_next 71 = .ok (.invokevirtual 248, 3) := by decide +kernel
theorem dX10_next_74 : decode cX10_next 74 = .ok (.iload_n 1, 1) := by decide +kernel
theorem dX10_next_75 : decode cX10_next 75 = .ok (.iconst 1, 1) := by decide +kernel
theorem dX10_next_76 : decode cX10_next 76 = .ok (.iadd, 1) := by decide +kernel
theorem dX10_next_77 : decode cX10_next 77 = .ok (.istore_n 3, 1) := by decide +kernel
theorem dX10_next_78 : decode cX10_next 78 = .ok (.aload_n 0, 1) := by decide +kernel
theorem dX10_next_79 : decode cX10_next 79 = .ok (.getfield 104, 3) := by decide +kernel
theorem dX10_next_82 : decode cX10_next 82 = .ok (.iconst 1, 1) := by decide +kernel
theorem dX10_next_83 : decode cX10_next 83 = .ok (.isub, 1) := by decide +kernel
theorem dX10_next_84 : decode cX10_next 84 = .ok (.istore 4, 2) := by decide +kernel
theorem dX10_next_86 : decode cX10_next 86 = .ok (.iload_n 3, 1) := by decide +kernel
theorem dX10_next_87 : decode cX10_next 87 = .ok (.iload 4, 2) := by decide +kernel
theorem dX10_next_89 : decode cX10_next 89 = .ok (.if_icmp .ge 19, 3) := by decide +kernel
theorem dX10_next_92 : decode cX10_next 92 = .ok (.aload_n 0, 1) := by decide +kernel
theorem dX10_next_93 : decode cX10_next 93 = .ok (.iload_n 3, 1) := by decide +kernel
theorem dX10_next_94 : decode cX10_next 94 = .ok (.iload 4, 2) := by decide +kernel
theorem dX10_next_96 : decode cX10_next 96 = .ok (.invokevirtual 248, 3) := by decide +kernel
theorem dX10_next_99 : decode cX10_next 99 = .ok (.iinc 3 1, 3) := by decide +kernel
theorem dX10_next_102 : decode cX10_next 102 = .ok (.iinc 4 (-1), 3) := by decide +kernel
theorem dX10_next_105 : decode cX10_next 105 = .ok (.goto (-19), 3) := by decide +kernel
theorem dX10_next_108 : decode cX10_next 108 = .ok (.iconst 1, 1) := by decide +kernel
theorem dX10_next_109 : decode cX10_next 109 = .ok (.ireturn, 1) := by decide +kernel
def rm_X10_next : Room := { frames := 1, cells := 0, slots := 0, locals := 23 }
section
variable {p : Program} {l : Launch} {e : Env} {s : State} {m : MethodId} {args : Array Value} {below : List Frame} {meth : Method} {c : Code} {Q : State → Prop} {G : va_G} {aC : Nat → ClassId} {t b0 : Nat}
def f_X10_next_L7 (v0 : Nat) (k34 : Int32 → AH → Option (Int32 × AH)) : Nat → Int32 → AH → Option (Int32 × AH)
  | 0, _, _ => none
  | n + 1, v1, N => if v1 < 0 then k34 v1 N else ob (hR N v0 10 9) (fun x3 => ob (aI N x3 v1) (fun x4 => ob (hR N v0 10 9) (fun x5 => ob (aI N x5 (v1 + (1 : Int32))) (fun x6 => if x4 ≤ x6 then k34 v1 N else f_X10_next_L7 v0 k34 n (v1 + (-1 : Int32)) N))))
set_option maxHeartbeats 4000000 in
set_option maxRecDepth 100000 in
theorem w_X10_next_L7 {P : Int32 × AH → Prop} (X : CX cX10_next RX10 5 G aC t b0 p s m args c) (hr : RtZ p l e rm_X10_next s m args below meth c 0 0 Q cX10_next G aC b0 P) (v0 : Nat) {k34 : Int32 → AH → Option (Int32 × AH)}
    (hk34 : ∀ (v1 : Int32) (N : AH) (H : Heap) (locs : List Loc) (ls : Array Slot), Rp G aC b0 N H → va_S (fun q => b0 ≤ q) s.heap H locs → lv_has ls 5 [(0, .ref v0), (1, .int v1)] → owp (k34 v1 N) P → W p l e rm_X10_next s m args below meth c H locs 0 0 Q (F0 m 34 ls [])) :
    ∀ (n : Nat) (v1 : Int32) (N : AH) (H : Heap) (locs : List Loc) (ls : Array Slot), Rp G aC b0 N H → va_S (fun q => b0 ≤ q) s.heap H locs → lv_has ls 5 [(0, .ref v0), (1, .int v1)] → owp (f_X10_next_L7 v0 k34 n v1 N) P → W p l e rm_X10_next s m args below meth c H locs 0 0 Q (F0 m 7 ls []) := by
  have hx := X.1.1
  have hb := X.1.2.1
  intro n
  induction n with
  | zero =>
    intro v1 N H locs ls hR hS hl hp
    exact (show False from hp).elim
  | succ n ih =>
    intro v1 N H locs ls hR hS hl hp
    rw [f_X10_next_L7] at hp
    refine lv_iload_n hx hb dX10_next_7 rfl (lv_at hl 1 rfl) ?_
    refine lv_if_lt (tgt := 34) hx hb dX10_next_8 (by decide) (fun k2 => ?_) (fun k2 => ?_)
    · have hp := owp_t k2 hp
      exact hk34 _ _ _ _ _ hR hS hl hp
    · have hp := owp_f k2 hp
      refine lv_aload_n hx hb dX10_next_11 rfl (lv_at hl 0 rfl) ?_
      obtain ⟨x3, e_x3, hp⟩ := owp_ob hp
      refine gf_X10_25 X hR e_x3 dX10_next_12 ?_
      refine lv_iload_n hx hb dX10_next_15 rfl (lv_at hl 1 rfl) ?_
      obtain ⟨x4, e_x4, hp⟩ := owp_ob hp
      refine ab_iald X hR e_x4 dX10_next_16 ?_
      refine lv_aload_n hx hb dX10_next_17 rfl (lv_at hl 0 rfl) ?_
      obtain ⟨x5, e_x5, hp⟩ := owp_ob hp
      refine gf_X10_25 X hR e_x5 dX10_next_18 ?_
      refine lv_iload_n hx hb dX10_next_21 rfl (lv_at hl 1 rfl) ?_
      refine lv_iconst (v := (1)) hx hb dX10_next_22 (by decide) ?_
      refine lv_iadd hx hb dX10_next_23 ?_
      obtain ⟨x6, e_x6, hp⟩ := owp_ob hp
      refine ab_iald X hR e_x6 dX10_next_24 ?_
      refine lv_icmp_le (tgt := 34) hx hb dX10_next_25 (by decide) (fun k7 => ?_) (fun k7 => ?_)
      · have hp := owp_t k7 hp
        exact hk34 _ _ _ _ _ hR hS hl hp
      · have hp := owp_f k7 hp
        refine lv_iinc (v := v1 + (-1 : Int32)) (lv' := [(1, .int (v1 + (-1 : Int32))), (0, .ref v0)]) hx hb dX10_next_28 hl (k := 1) rfl rfl (by decide) rfl (fun ls hl => ?_)
        refine lv_goto (tgt := 7) hx hb dX10_next_31 (by decide) ?_
        exact ih _ _ _ _ _ hR hS (lv_sub hl [1, 0] rfl) hp
def f_X10_next_L47 (v0 : Nat) (v1 : Int32) (k68 : Int32 → AH → Option (Int32 × AH)) : Nat → Int32 → AH → Option (Int32 × AH)
  | 0, _, _ => none
  | n + 1, v2, N => ob (hR N v0 10 9) (fun x12 => ob (aI N x12 v2) (fun x13 => ob (hR N v0 10 9) (fun x14 => ob (aI N x14 v1) (fun x15 => if x15 ≤ x13 then k68 v2 N else f_X10_next_L47 v0 v1 k68 n (v2 + (-1 : Int32)) N))))
set_option maxHeartbeats 4000000 in
set_option maxRecDepth 100000 in
theorem w_X10_next_L47 {P : Int32 × AH → Prop} (X : CX cX10_next RX10 5 G aC t b0 p s m args c) (hr : RtZ p l e rm_X10_next s m args below meth c 0 0 Q cX10_next G aC b0 P) (v0 : Nat) (v1 : Int32) {k68 : Int32 → AH → Option (Int32 × AH)}
    (hk68 : ∀ (v2 : Int32) (N : AH) (H : Heap) (locs : List Loc) (ls : Array Slot), Rp G aC b0 N H → va_S (fun q => b0 ≤ q) s.heap H locs → lv_has ls 5 [(0, .ref v0), (1, .int v1), (2, .int v2)] → owp (k68 v2 N) P → W p l e rm_X10_next s m args below meth c H locs 0 0 Q (F0 m 68 ls [])) :
    ∀ (n : Nat) (v2 : Int32) (N : AH) (H : Heap) (locs : List Loc) (ls : Array Slot), Rp G aC b0 N H → va_S (fun q => b0 ≤ q) s.heap H locs → lv_has ls 5 [(0, .ref v0), (1, .int v1), (2, .int v2)] → owp (f_X10_next_L47 v0 v1 k68 n v2 N) P → W p l e rm_X10_next s m args below meth c H locs 0 0 Q (F0 m 47 ls []) := by
  have hx := X.1.1
  have hb := X.1.2.1
  intro n
  induction n with
  | zero =>
    intro v2 N H locs ls hR hS hl hp
    exact (show False from hp).elim
  | succ n ih =>
    intro v2 N H locs ls hR hS hl hp
    rw [f_X10_next_L47] at hp
    refine lv_aload_n hx hb dX10_next_47 rfl (lv_at hl 0 rfl) ?_
    obtain ⟨x12, e_x12, hp⟩ := owp_ob hp
    refine gf_X10_25 X hR e_x12 dX10_next_48 ?_
    refine lv_iload_n hx hb dX10_next_51 rfl (lv_at hl 2 rfl) ?_
    obtain ⟨x13, e_x13, hp⟩ := owp_ob hp
    refine ab_iald X hR e_x13 dX10_next_52 ?_
    refine lv_aload_n hx hb dX10_next_53 rfl (lv_at hl 0 rfl) ?_
    obtain ⟨x14, e_x14, hp⟩ := owp_ob hp
    refine gf_X10_25 X hR e_x14 dX10_next_54 ?_
    refine lv_iload_n hx hb dX10_next_57 rfl (lv_at hl 1 rfl) ?_
    obtain ⟨x15, e_x15, hp⟩ := owp_ob hp
    refine ab_iald X hR e_x15 dX10_next_58 ?_
    refine lv_icmp_ge (tgt := 68) hx hb dX10_next_59 (by decide) (fun k16 => ?_) (fun k16 => ?_)
    · have hp := owp_t k16 hp
      exact hk68 _ _ _ _ _ hR hS hl hp
    · have hp := owp_f k16 hp
      refine lv_iinc (v := v2 + (-1 : Int32)) (lv' := [(2, .int (v2 + (-1 : Int32))), (0, .ref v0), (1, .int v1)]) hx hb dX10_next_62 hl (k := 2) rfl rfl (by decide) rfl (fun ls hl => ?_)
      refine lv_goto (tgt := 47) hx hb dX10_next_65 (by decide) ?_
      exact ih _ _ _ _ _ hR hS (lv_sub hl [1, 2, 0] rfl) hp
def f_X10_next_L86 (v0 : Nat) (k108 : AH → Option (Int32 × AH)) : Nat → Int32 → Int32 → AH → Option (Int32 × AH)
  | 0, _, _, _ => none
  | n + 1, v3, v4, N => if v4 ≤ v3 then k108 N else ob2 (f_X10_swaps v0 v3 v4 N) (fun _ N22 => f_X10_next_L86 v0 k108 n (v3 + 1) (v4 + (-1 : Int32)) N22)
set_option maxHeartbeats 4000000 in
set_option maxRecDepth 100000 in
theorem w_X10_next_L86 {P : Int32 × AH → Prop} (X : CX cX10_next RX10 5 G aC t b0 p s m args c) (hr : RtZ p l e rm_X10_next s m args below meth c 0 0 Q cX10_next G aC b0 P) (v0 : Nat) {k108 : AH → Option (Int32 × AH)}
    (hk108 : ∀ (N : AH) (H : Heap) (locs : List Loc) (ls : Array Slot), Rp G aC b0 N H → va_S (fun q => b0 ≤ q) s.heap H locs → lv_has ls 5 [] → owp (k108 N) P → W p l e rm_X10_next s m args below meth c H locs 0 0 Q (F0 m 108 ls [])) :
    ∀ (n : Nat) (v3 : Int32) (v4 : Int32) (N : AH) (H : Heap) (locs : List Loc) (ls : Array Slot), Rp G aC b0 N H → va_S (fun q => b0 ≤ q) s.heap H locs → lv_has ls 5 [(0, .ref v0), (3, .int v3), (4, .int v4)] → owp (f_X10_next_L86 v0 k108 n v3 v4 N) P → W p l e rm_X10_next s m args below meth c H locs 0 0 Q (F0 m 86 ls []) := by
  have hx := X.1.1
  have hb := X.1.2.1
  intro n
  induction n with
  | zero =>
    intro v3 v4 N H locs ls hR hS hl hp
    exact (show False from hp).elim
  | succ n ih =>
    intro v3 v4 N H locs ls hR hS hl hp
    rw [f_X10_next_L86] at hp
    refine lv_iload_n hx hb dX10_next_86 rfl (lv_at hl 1 rfl) ?_
    refine lv_iload hx hb dX10_next_87 (lv_at hl 2 rfl) ?_
    refine lv_icmp_ge (tgt := 108) hx hb dX10_next_89 (by decide) (fun k21 => ?_) (fun k21 => ?_)
    · have hp := owp_t k21 hp
      exact hk108 _ _ _ _ hR hS (lv_sub hl [] rfl) hp
    · have hp := owp_f k21 hp
      refine lv_aload_n hx hb dX10_next_92 rfl (lv_at hl 0 rfl) ?_
      refine lv_iload_n hx hb dX10_next_93 rfl (lv_at hl 1 rfl) ?_
      refine lv_iload hx hb dX10_next_94 (lv_at hl 2 rfl) ?_
      obtain ⟨_, N22, e_N22, hp⟩ := owp_ob2 hp
      refine iv_X10_swaps (rest := []) mw_X10_248 X hR hS e_N22 hl.1 (Nat.le_of_ble_eq_true rfl) ⟨Nat.le_of_ble_eq_true rfl, Nat.le_of_ble_eq_true rfl⟩ ⟨Nat.le_of_ble_eq_true rfl, Nat.le_of_ble_eq_true rfl⟩ dX10_next_96 (fun H locs hR hS => ?_)
      refine lv_iinc (v := v3 + 1) (lv' := [(3, .int (v3 + 1)), (0, .ref v0), (4, .int v4)]) hx hb dX10_next_99 hl (k := 1) rfl rfl (by decide) rfl (fun ls hl => ?_)
      refine lv_iinc (v := v4 + (-1 : Int32)) (lv' := [(4, .int (v4 + (-1 : Int32))), (3, .int (v3 + 1)), (0, .ref v0)]) hx hb dX10_next_102 hl (k := 2) rfl rfl (by decide) rfl (fun ls hl => ?_)
      refine lv_goto (tgt := 86) hx hb dX10_next_105 (by decide) ?_
      exact ih _ _ _ _ _ _ hR hS (lv_sub hl [2, 1, 0] rfl) hp
def f_X10_next_J34 (v0 : Nat) (v1 : Int32) (N : AH) : Option (Int32 × AH) := if 0 ≤ v1 then ob (hI N v0 10 10) (fun x11 => f_X10_next_L47 v0 v1 (fun v17 N18 => ob2 (f_X10_swaps v0 v1 v17 N18) (fun _ N19 => ob (hI N19 v0 10 10) (fun x20 => f_X10_next_L86 v0 (fun N23 => some ((1 : Int32), N23)) FU (v1 + (1 : Int32)) (x20 - (1 : Int32)) N19))) FU (x11 - (1 : Int32)) N) else some ((0 : Int32), N)
set_option maxHeartbeats 4000000 in
set_option maxRecDepth 100000 in
theorem w_X10_next_J34 {P : Int32 × AH → Prop} (X : CX cX10_next RX10 5 G aC t b0 p s m args c) (hr : RtZ p l e rm_X10_next s m args below meth c 0 0 Q cX10_next G aC b0 P) (v0 : Nat) (v1 : Int32) (N : AH) (H : Heap) (locs : List Loc) (ls : Array Slot) (hR : Rp G aC b0 N H) (hS : va_S (fun q => b0 ≤ q) s.heap H locs) (hl : lv_has ls 5 [(0, .ref v0), (1, .int v1)]) (hp : owp (f_X10_next_J34 v0 v1 N) P) : W p l e rm_X10_next s m args below meth c H locs 0 0 Q (F0 m 34 ls []) := by
  have hx := X.1.1
  have hb := X.1.2.1
  unfold f_X10_next_J34 at hp
  refine lv_iload_n hx hb dX10_next_34 rfl (lv_at hl 1 rfl) ?_
  refine lv_if_ge (tgt := 40) hx hb dX10_next_35 (by decide) (fun k10 => ?_) (fun k10 => ?_)
  · have hp := owp_t k10 hp
    refine lv_aload_n hx hb dX10_next_40 rfl (lv_at hl 0 rfl) ?_
    obtain ⟨x11, e_x11, hp⟩ := owp_ob hp
    refine gf_X10_104 X hR e_x11 dX10_next_41 ?_
    refine lv_iconst (v := (1)) hx hb dX10_next_44 (by decide) ?_
    refine lv_isub hx hb dX10_next_45 ?_
    refine lv_istore_n (lv' := [(2, .int (x11 - (1 : Int32))), (0, .ref v0), (1, .int v1)]) hx hb dX10_next_46 rfl hl (by decide) rfl (fun ls hl => ?_)
    refine w_X10_next_L47 X hr _ _ (fun v17 N18 H locs ls hR hS hl hp => ?_) _ _ _ _ _ _ hR hS (lv_sub hl [1, 2, 0] rfl) hp
    refine lv_aload_n hx hb dX10_next_68 rfl (lv_at hl 0 rfl) ?_
    refine lv_iload_n hx hb dX10_next_69 rfl (lv_at hl 1 rfl) ?_
    refine lv_iload_n hx hb dX10_next_70 rfl (lv_at hl 2 rfl) ?_
    obtain ⟨_, N19, e_N19, hp⟩ := owp_ob2 hp
    refine iv_X10_swaps (rest := []) mw_X10_248 X hR hS e_N19 hl.1 (Nat.le_of_ble_eq_true rfl) ⟨Nat.le_of_ble_eq_true rfl, Nat.le_of_ble_eq_true rfl⟩ ⟨Nat.le_of_ble_eq_true rfl, Nat.le_of_ble_eq_true rfl⟩ dX10_next_71 (fun H locs hR hS => ?_)
    refine lv_iload_n hx hb dX10_next_74 rfl (lv_at hl 1 rfl) ?_
    refine lv_iconst (v := (1)) hx hb dX10_next_75 (by decide) ?_
    refine lv_iadd hx hb dX10_next_76 ?_
    refine lv_istore_n (lv' := [(3, .int (v1 + (1 : Int32))), (0, .ref v0), (1, .int v1), (2, .int v17)]) hx hb dX10_next_77 rfl hl (by decide) rfl (fun ls hl => ?_)
    refine lv_aload_n hx hb dX10_next_78 rfl (lv_at hl 1 rfl) ?_
    obtain ⟨x20, e_x20, hp⟩ := owp_ob hp
    refine gf_X10_104 X hR e_x20 dX10_next_79 ?_
    refine lv_iconst (v := (1)) hx hb dX10_next_82 (by decide) ?_
    refine lv_isub hx hb dX10_next_83 ?_
    refine lv_istore (lv' := [(4, .int (x20 - (1 : Int32))), (3, .int (v1 + (1 : Int32))), (0, .ref v0), (1, .int v1), (2, .int v17)]) hx hb dX10_next_84 hl (by decide) rfl (fun ls hl => ?_)
    refine w_X10_next_L86 X hr _ (fun N23 H locs ls hR hS hl hp => ?_) _ _ _ _ _ _ _ hR hS (lv_sub hl [2, 1, 0] rfl) hp
    refine lv_iconst (v := (1)) hx hb dX10_next_108 (by decide) ?_
    exact hr _ _ _ _ _ _ hR hS dX10_next_109 (rZ_1 hp)
  · have hp := owp_f k10 hp
    refine lv_iconst (v := (0)) hx hb dX10_next_38 (by decide) ?_
    exact hr _ _ _ _ _ _ hR hS dX10_next_39 (rZ_0 hp)
def f_X10_next (v0 : Nat) (N : AH) : Option (Int32 × AH) := ob (iO N v0 10) (fun _ => ob (hI N v0 10 10) (fun x1 => f_X10_next_L7 v0 (fun v8 N9 => f_X10_next_J34 v0 v8 N9) FU (x1 - (2 : Int32)) N))
set_option maxHeartbeats 4000000 in
set_option maxRecDepth 100000 in
theorem wk_X10_next {P : Int32 × AH → Prop} (X : CX cX10_next RX10 5 G aC t b0 p s m args c) (hr : RtZ p l e rm_X10_next s m args below meth c 0 0 Q cX10_next G aC b0 P) (v0 : Nat) (N : AH) (H : Heap) (locs : List Loc) (ls : Array Slot) (hR : Rp G aC b0 N H) (hS : va_S (fun q => b0 ≤ q) s.heap H locs) (hl : lv_has ls 5 [(0, .ref v0)]) (hp : owp (f_X10_next v0 N) P) : W p l e rm_X10_next s m args below meth c H locs 0 0 Q (F0 m 0 ls []) := by
  have hx := X.1.1
  have hb := X.1.2.1
  unfold f_X10_next at hp
  obtain ⟨_, _, hp⟩ := owp_ob hp
  refine lv_aload_n hx hb dX10_next_0 rfl (lv_at hl 0 rfl) ?_
  obtain ⟨x1, e_x1, hp⟩ := owp_ob hp
  refine gf_X10_104 X hR e_x1 dX10_next_1 ?_
  refine lv_iconst (v := (2)) hx hb dX10_next_4 (by decide) ?_
  refine lv_isub hx hb dX10_next_5 ?_
  refine lv_istore_n (lv' := [(1, .int (x1 - (2 : Int32))), (0, .ref v0)]) hx hb dX10_next_6 rfl hl (by decide) rfl (fun ls hl => ?_)
  refine w_X10_next_L7 X hr _ (fun v8 N9 H locs ls hR hS hl hp => ?_) _ _ _ _ _ _ hR hS (lv_sub hl [1, 0] rfl) hp
  exact w_X10_next_J34 X hr _ _ _ _ _ _ hR hS hl hp
end
theorem ct_X10_next {v0 : Nat} {N N1 : AH} {r : Int32} (h : f_X10_next v0 N = some (r, N1)) : Ct yX10_next cX10_next 5 (some .boolean) rm_X10_next [.ref v0] N (some (.int r)) N1 :=
  ab_met (own := RX10) (by decide +kernel) rfl (Nat.le_of_ble_eq_true rfl) (fun l G aC t b0 p e s m below meth c ls X hr hlk hnm hR hS hl => wk_X10_next X (RtZ_met X.1.1 X.1.2.1 hr hlk) _ _ _ _ _ hR hS hl (owp_of h))
theorem cw_X10_next : Cond.code yX10_next cX10_next 5 (some .boolean) ∈ WT := WT_of 1326 (by decide +kernel) (by decide +kernel)
theorem iv_X10_next {p : Program} {l : Launch} {e : Env} {R : Room} {s : State} {m : MethodId} {args : Array Value} {below : List Frame} {meth : Method} {c : Code} {H : Heap} {locs : List Loc} {cells slots : Nat} {Q : State → Prop} {cc : ByteArray} {own : String} {nL : Nat} {G : va_G} {aC : Nat → ClassId} {t b0 : Nat} {N N1 : AH} {pc index : Nat} {ls : Array Slot} {rest : List Value} {v0 : Nat} {r : Int32} (w1 : Cond.methodLink own index yX10_next ∈ WT) (X : CX cc own nL G aC t b0 p s m args c) (hR : Rp G aC b0 N H) (hS : va_S (fun q => b0 ≤ q) s.heap H locs) (h : f_X10_next v0 N = some (r, N1)) (hls : ls.size = nL) (hW : (rest.map fun v => v.category).sum ≤ 8) (hR1 : 2 ≤ R.frames ∧ 47 ≤ R.locals) (hcs : cells + 0 ≤ R.cells ∧ slots + 0 ≤ R.slots) (hdg : decode cc pc = .ok (.invokevirtual index, 3)) (kk : ∀ (H1 : Heap) (locs1 : List Loc), Rp G aC b0 N1 H1 → va_S (fun q => b0 ≤ q) s.heap H1 locs1 → W p l e R s m args below meth c H1 locs1 cells slots Q (F0 m (pc + 3) ls (.int r :: rest))) : W p l e R s m args below meth c H locs cells slots Q (F0 m pc ls (.ref v0 :: rest)) :=
  ab_callV (n := 0) (As := []) X hR hS (ct_X10_next h) (ob_rc (c := 10) (N := N) (a := v0) h) (T := TX10) (k := 20) (C := RX10) rfl w1 (WT_of 1325 (by decide +kernel) (by decide +kernel)) (WT_of 76 (by decide +kernel) (by decide +kernel)) (WT_of 92 (by decide +kernel) (by decide +kernel)) cw_X10_next ⟨rfl, by decide +kernel, by decide +kernel, by decide +kernel⟩ rfl hls hW hR1 hcs rfl hdg kk
-- X10_findsBestOrder
theorem gf_X10_41 {p : Program} {l : Launch} {e : Env} {R : Room} {s : State} {m : MethodId} {args : Array Value} {below : List Frame} {meth : Method} {c : Code} {H : Heap} {locs : List Loc} {cells slots : Nat} {Q : State → Prop} {cc : ByteArray} {nL : Nat} {G : va_G} {aC : Nat → ClassId} {t b0 : Nat} {N : AH} {pc : Nat} {ls : Array Slot} {rest : List Value} {a : Nat} {v : Nat} (X : CX cc RX10 nL G aC t b0 p s m args c) (hR0 : Rp G aC b0 N H) (hv : hR N a 10 18 = some v) (hdg : decode cc pc = .ok (.getfield 41, 3)) (kk : W p l e R s m args below meth c H locs cells slots Q (F0 m (pc + 3) ls (.ref v :: rest))) : W p l e R s m args below meth c H locs cells slots Q (F0 m pc ls (.ref a :: rest)) := by
  obtain ⟨fs, h1, h2⟩ := hR_ok hv
  exact ab_get (C := RX10) (T := TX10) (n := 20) X hR0 h1 h2 rfl inX10 (by decide) (WT_of 966 (by decide +kernel) (by decide +kernel)) hdg kk
theorem mw_X10_251 : Cond.methodLink RX10 251 yX10_next ∈ WT := WT_of 1323 (by decide +kernel) (by decide +kernel)
theorem pf_X10_104 {p : Program} {l : Launch} {e : Env} {R : Room} {s : State} {m : MethodId} {args : Array Value} {below : List Frame} {meth : Method} {c : Code} {H : Heap} {locs : List Loc} {cells slots : Nat} {Q : State → Prop} {cc : ByteArray} {nL : Nat} {G : va_G} {aC : Nat → ClassId} {t b0 : Nat} {N : AH} {pc : Nat} {ls : Array Slot} {rest : List Value} {N1 : AH} {a : Nat} {v : Int32} (X : CX cc RX10 nL G aC t b0 p s m args c) (hR0 : Rp G aC b0 N H) (hS : va_S (fun q => b0 ≤ q) s.heap H locs) (hv : pI N a 10 10 v = some N1) (hdg : decode cc pc = .ok (.putfield 104, 3)) (kk : ∀ (H1 : Heap) (locs1 : List Loc), Rp G aC b0 N1 H1 → va_S (fun q => b0 ≤ q) s.heap H1 locs1 → W p l e R s m args below meth c H1 locs1 cells slots Q (F0 m (pc + 3) ls rest)) : W p l e R s m args below meth c H locs cells slots Q (F0 m pc ls (.int v :: .ref a :: rest)) := by
  obtain ⟨fs, h1, h2, h3⟩ := pV_ok hv
  subst h3
  exact ab_put (C := RX10) (T := TX10) (n := 20) X hR0 hS h1 h2 rfl inX10 tyX10 tyX10_ok nmX10 (by decide) (WT_of 958 (by decide +kernel) (by decide +kernel)) rfl rfl rfl hdg kk
theorem pf_X10_110 {p : Program} {l : Launch} {e : Env} {R : Room} {s : State} {m : MethodId} {args : Array Value} {below : List Frame} {meth : Method} {c : Code} {H : Heap} {locs : List Loc} {cells slots : Nat} {Q : State → Prop} {cc : ByteArray} {nL : Nat} {G : va_G} {aC : Nat → ClassId} {t b0 : Nat} {N : AH} {pc : Nat} {ls : Array Slot} {rest : List Value} {N1 : AH} {a : Nat} {v : Int32} (X : CX cc RX10 nL G aC t b0 p s m args c) (hR0 : Rp G aC b0 N H) (hS : va_S (fun q => b0 ≤ q) s.heap H locs) (hv : pZ N a 10 8 v = some N1) (hdg : decode cc pc = .ok (.putfield 110, 3)) (kk : ∀ (H1 : Heap) (locs1 : List Loc), Rp G aC b0 N1 H1 → va_S (fun q => b0 ≤ q) s.heap H1 locs1 → W p l e R s m args below meth c H1 locs1 cells slots Q (F0 m (pc + 3) ls rest)) : W p l e R s m args below meth c H locs cells slots Q (F0 m pc ls (.int v :: .ref a :: rest)) := by
  unfold pZ at hv
  split at hv
  case isFalse => cases hv
  rename_i h01
  obtain ⟨fs, h1, h2, h3⟩ := pV_ok hv
  subst h3
  exact ab_put (C := RX10) (T := TX10) (n := 20) X hR0 hS h1 h2 rfl inX10 tyX10 tyX10_ok nmX10 (by decide) (WT_of 956 (by decide +kernel) (by decide +kernel)) rfl (by rcases h01 with rfl | rfl <;> rfl) (by rcases h01 with rfl | rfl <;> rfl) hdg kk
theorem dX10_findsBestOrder_0 : decode cX10_findsBestOrder 0 = .ok (.aload_n 0, 1) := by decide +kernel
theorem dX10_findsBestOrder_1 : decode cX10_findsBestOrder 1 = .ok (.iconst 0, 1) := by decide +kernel
theorem dX10_findsBestOrder_2 : decode cX10_findsBestOrder 2 = .ok (.putfield 104, 3) := by decide +kernel
theorem dX10_findsBestOrder_5 : decode cX10_findsBestOrder 5 = .ok (.iconst 0, 1) := by decide +kernel
theorem dX10_findsBestOrder_6 : decode cX10_findsBestOrder 6 = .ok (.istore_n 1, 1) := by decide +kernel
theorem dX10_findsBestOrder_7 : decode cX10_findsBestOrder 7 = .ok (.iload_n 1, 1) := by decide +kernel
theorem dX10_findsBestOrder_8 : decode cX10_findsBestOrder 8 = .ok (.aload_n 0, 1) := by decide +kernel
theorem dX10_findsBestOrder_9 : decode cX10_findsBestOrder 9 = .ok (.getfield 7, 3) := by decide +kernel
theorem dX10_findsBestOrder_12 : decode cX10_findsBestOrder 12 = .ok (.bipush 6, 2) := by decide +kernel
theorem dX10_findsBestOrder_14 : decode cX10_findsBestOrder 14 = .ok (.iaload, 1) := by decide +kernel
theorem dX10_findsBestOrder_15 : decode cX10_findsBestOrder 15 = .ok (.if_icmp .ge 38, 3) := by decide +kernel
theorem dX10_findsBestOrder_18 : decode cX10_findsBestOrder 18 = .ok (.aload_n 0, 1) := by decide +kernel
theorem dX10_findsBestOrder_19 : decode cX10_findsBestOrder 19 = .ok (.iload_n 1, 1) := by decide +kernel
theorem dX10_findsBestOrder_20 : decode cX10_findsBestOrder 20 = .ok (.invokevirtual 107, 3) := by decide +kernel
theorem dX10_findsBestOrder_23 : decode cX10_findsBestOrder 23 = .ok (.iconst 2, 1) := by decide +kernel
theorem dX10_findsBestOrder_24 : decode cX10_findsBestOrder 24 = .ok (.if_icmp .ge 23, 3) := by decide +kernel
theorem dX10_findsBestOrder_27 : decode cX10_findsBestOrder 27 = .ok (.aload_n 0, 1) := by decide +kernel
theorem dX10_findsBestOrder_28 : decode cX10_findsBestOrder 28 = .ok (.getfield 25, 3) := by decide +kernel
theorem dX10_findsBestOrder_31 : decode cX10_findsBestOrder 31 = .ok (.aload_n 0, 1) := by decide +kernel
theorem dX10_findsBestOrder_32 : decode cX10_findsBestOrder 32 = .ok (.getfield 104, 3) := by decide +kernel
theorem dX10_findsBestOrder_35 : decode cX10_findsBestOrder 35 = .ok (.iload_n 1, 1) := by decide +kernel
theorem dX10_findsBestOrder_36 : decode cX10_findsBestOrder 36 = .ok (.iastore, 1) := by decide +kernel
theorem dX10_findsBestOrder_37 : decode cX10_findsBestOrder 37 = .ok (.aload_n 0, 1) := by decide +kernel
theorem dX10_findsBestOrder_38 : decode cX10_findsBestOrder 38 = .ok (.dup, 1) := by decide +kernel
theorem dX10_findsBestOrder_39 : decode cX10_findsBestOrder 39 = .ok (.getfield 104, 3) := by decide +kernel
theorem dX10_findsBestOrder_42 : decode cX10_findsBestOrder 42 = .ok (.iconst 1, 1) := by decide +kernel
theorem dX10_findsBestOrder_43 : decode cX10_findsBestOrder 43 = .ok (.iadd, 1) := by decide +kernel
theorem dX10_findsBestOrder_44 : decode cX10_findsBestOrder 44 = .ok (.putfield 104, 3) := by decide +kernel
theorem dX10_findsBestOrder_47 : decode cX10_findsBestOrder 47 = .ok (.iinc 1 1, 3) := by decide +kernel
theorem dX10_findsBestOrder_50 : decode cX10_findsBestOrder 50 = .ok (.goto (-43), 3) := by decide +kernel
theorem dX10_findsBestOrder_53 : decode cX10_findsBestOrder 53 = .ok (.aload_n 0, 1) := by decide +kernel
theorem dX10_findsBestOrder_54 : decode cX10_findsBestOrder 54 = .ok (.iconst 1, 1) := by decide +kernel
theorem dX10_findsBestOrder_55 : decode cX10_findsBestOrder 55 = .ok (.putfield 110, 3) := by decide +kernel
theorem dX10_findsBestOrder_58 : decode cX10_findsBestOrder 58 = .ok (.iconst (-1), 1) := by decide +kernel
theorem dX10_findsBestOrder_59 : decode cX10_findsBestOrder 59 = .ok (.istore_n 1, 1) := by decide +kernel
theorem dX10_findsBestOrder_60 : decode cX10_findsBestOrder 60 = .ok (.iconst 1, 1) := by decide +kernel
theorem dX10_findsBestOrder_61 : decode cX10_findsBestOrder 61 = .ok (.istore_n 2, 1) := by decide +kernel
theorem dX10_findsBestOrder_62 : decode cX10_findsBestOrder 62 = .ok (.iconst 0, 1) := by decide +kernel
theorem dX10_findsBestOrder_63 : decode cX10_findsBestOrder 63 = .ok (.istore_n 3, 1) := by decide +kernel
theorem dX10_findsBestOrder_64 : decode cX10_findsBestOrder 64 = .ok (.iload_n 3, 1) := by decide +kernel
theorem dX10_findsBestOrder_65 : decode cX10_findsBestOrder 65 = .ok (.aload_n 0, 1) := by decide +kernel
theorem dX10_findsBestOrder_66 : decode cX10_findsBestOrder 66 = .ok (.getfield 104, 3) := by decide +kernel
theorem dX10_findsBestOrder_69 : decode cX10_findsBestOrder 69 = .ok (.if_icmp .ge 21, 3) := by decide +kernel
theorem dX10_findsBestOrder_72 : decode cX10_findsBestOrder 72 = .ok (.aload_n 0, 1) := by decide +kernel
theorem dX10_findsBestOrder_73 : decode cX10_findsBestOrder 73 = .ok (.getfield 41, 3) := by decide +kernel
theorem dX10_findsBestOrder_76 : decode cX10_findsBestOrder 76 = .ok (.iload_n 3, 1) := by decide +kernel
theorem dX10_findsBestOrder_77 : decode cX10_findsBestOrder 77 = .ok (.aload_n 0, 1) := by decide +kernel
theorem dX10_findsBestOrder_78 : decode cX10_findsBestOrder 78 = .ok (.getfield 25, 3) := by decide +kernel
theorem dX10_findsBestOrder_81 : decode cX10_findsBestOrder 81 = .ok (.iload_n 3, 1) := by decide +kernel
theorem dX10_findsBestOrder_82 : decode cX10_findsBestOrder 82 = .ok (.iaload, 1) := by decide +kernel
theorem dX10_findsBestOrder_83 : decode cX10_findsBestOrder 83 = .ok (.iastore, 1) := by decide +kernel
theorem dX10_findsBestOrder_84 : decode cX10_findsBestOrder 84 = .ok (.iinc 3 1, 3) := by decide +kernel
theorem dX10_findsBestOrder_87 : decode cX10_findsBestOrder 87 = .ok (.goto (-23), 3) := by decide +kernel
theorem dX10_findsBestOrder_90 : decode cX10_findsBestOrder 90 = .ok (.iload_n 2, 1) := by decide +kernel
theorem dX10_findsBestOrder_91 : decode cX10_findsBestOrder 91 = .ok (.ifCond .eq 81, 3) := by decide +kernel
theorem dX10_findsBestOrder_94 : decode cX10_findsBestOrder 94 = .ok (.aload_n 0, 1) := by decide +kernel
theorem dX10_findsBestOrder_95 : decode cX10_findsBestOrder 95 = .ok (.iconst 0, 1) := by decide +kernel
theorem dX10_findsBestOrder_96 : decode cX10_findsBestOrder 96 = .ok (.sipush 8274, 3) := by decide +kernel
theorem dX10_findsBestOrder_99 : decode cX10_findsBestOrder 99 = .ok (.invokevirtual 48, 3) := by decide +kernel
theorem dX10_findsBestOrder_102 : decode cX10_findsBestOrder 102 = .ok (.aload_n 0, 1) := by decide +kernel
theorem dX10_findsBestOrder_103 : decode cX10_findsBestOrder 103 = .ok (.invokevirtual 242, 3) := by decide +kernel
theorem dX10_findsBestOrder_106 : decode cX10_findsBestOrder 106 = .ok (.istore_n 3, 1) := by decide +kernel
theorem dX10_findsBestOrder_107 : decode cX10_findsBestOrder 107 = .ok (.aload_n 0, 1) := by decide +kernel
theorem dX10_findsBestOrder_108 : decode cX10_findsBestOrder 108 = .ok (.sipush 8274, 3) := by decide +kernel
theorem dX10_findsBestOrder_111 : decode cX10_findsBestOrder 111 = .ok (.iconst 0, 1) := by decide +kernel
theorem dX10_findsBestOrder_112 : decode cX10_findsBestOrder 112 = .ok (.invokevirtual 48, 3) := by decide +kernel
theorem dX10_findsBestOrder_115 : decode cX10_findsBestOrder 115 = .ok (.iload_n 3, 1) := by decide +kernel
theorem dX10_findsBestOrder_116 : decode cX10_findsBestOrder 116 = .ok (.iconst (-1), 1) := by decide +kernel
theorem dX10_findsBestOrder_117 : decode cX10_findsBestOrder 117 = .ok (.if_icmp .eq 47, 3) := by decide +kernel
theorem dX10_findsBestOrder_120 : decode cX10_findsBestOrder 120 = .ok (.iload_n 1, 1) := by decide +kernel
theorem dX10_findsBestOrder_121 : decode cX10_findsBestOrder 121 = .ok (.iconst (-1), 1) := by decide +kernel
theorem dX10_findsBestOrder_122 : decode cX10_findsBestOrder 122 = .ok (.if_icmp .eq 8, 3) := by decide +kernel
theorem dX10_findsBestOrder_125 : decode cX10_findsBestOrder 125 = .ok (.iload_n 3, 1) := by decide +kernel
theorem dX10_findsBestOrder_126 : decode cX10_findsBestOrder 126 = .ok (.iload_n 1, 1) := by decide +kernel
theorem dX10_findsBestOrder_127 : decode cX10_findsBestOrder 127 = .ok (.if_icmp .ge 37, 3) := by decide +kernel
theorem dX10_findsBestOrder_130 : decode cX10_findsBestOrder 130 = .ok (.iload_n 3, 1) := by decide +kernel
theorem dX10_findsBestOrder_131 : decode cX10_findsBestOrder 131 = .ok (.istore_n 1, 1) := by decide +kernel
theorem dX10_findsBestOrder_132 : decode cX10_findsBestOrder 132 = .ok (.iconst 0, 1) := by decide +kernel
theorem dX10_findsBestOrder_133 : decode cX10_findsBestOrder 133 = .ok (.istore 4, 2) := by decide +kernel
theorem dX10_findsBestOrder_135 : decode cX10_findsBestOrder 135 = .ok (.iload 4, 2) := by decide +kernel
theorem dX10_findsBestOrder_137 : decode cX10_findsBestOrder 137 = .ok (.aload_n 0, 1) := by decide +kernel
theorem dX10_findsBestOrder_138 : decode cX10_findsBestOrder 138 = .ok (.getfield 104, 3) := by decide +kernel
theorem dX10_findsBestOrder_141 : decode cX10_findsBestOrder 141 = .ok (.if_icmp .ge 23, 3) := by decide +kernel
theorem dX10_findsBestOrder_144 : decode cX10_findsBestOrder 144 = .ok (.aload_n 0, 1) := by decide +kernel
theorem dX10_findsBestOrder_145 : decode cX10_findsBestOrder 145 = .ok (.getfield 41, 3) := by decide +kernel
theorem dX10_findsBestOrder_148 : decode cX10_findsBestOrder 148 = .ok (.iload 4, 2) := by decide +kernel
theorem dX10_findsBestOrder_150 : decode cX10_findsBestOrder 150 = .ok (.aload_n 0, 1) := by decide +kernel
theorem dX10_findsBestOrder_151 : decode cX10_findsBestOrder 151 = .ok (.getfield 25, 3) := by decide +kernel
theorem dX10_findsBestOrder_154 : decode cX10_findsBestOrder 154 = .ok (.iload 4, 2) := by decide +kernel
theorem dX10_findsBestOrder_156 : decode cX10_findsBestOrder 156 = .ok (.iaload, 1) := by decide +kernel
theorem dX10_findsBestOrder_157 : decode cX10_findsBestOrder 157 = .ok (.iastore, 1) := by decide +kernel
theorem dX10_findsBestOrder_158 : decode cX10_findsBestOrder 158 = .ok (.iinc 4 1, 3) := by decide +kernel
theorem dX10_findsBestOrder_161 : decode cX10_findsBestOrder 161 = .ok (.goto (-26), 3) := by decide +kernel
theorem dX10_findsBestOrder_164 : decode cX10_findsBestOrder 164 = .ok (.aload_n 0, 1) := by decide +kernel
theorem dX10_findsBestOrder_165 : decode cX10_findsBestOrder 165 = .ok (.invokevirtual 251, 3) := by decide +kernel
theorem dX10_findsBestOrder_168 : decode cX10_findsBestOrder 168 = .ok (.istore_n 2, 1) := by decide +kernel
theorem dX10_findsBestOrder_169 : decode cX10_findsBestOrder 169 = .ok (.goto (-79), 3) := by decide +kernel
theorem dX10_findsBestOrder_172 : decode cX10_findsBestOrder 172 = .ok (.aload_n 0, 1) := by decide +kernel
theorem dX10_findsBestOrder_173 : decode cX10_findsBestOrder 173 = .ok (.iconst 0, 1) := by decide +kernel
theorem dX10_findsBestOrder_174 : decode cX10_findsBestOrder 174 = .ok (.putfield 110, 3) := by decide +kernel
theorem dX10_findsBestOrder_177 : decode cX10_findsBestOrder 177 = .ok (.iload_n 1, 1) := by decide +kernel
theorem dX10_findsBestOrder_178 : decode cX10_findsBestOrder 178 = .ok (.ireturn, 1) := by decide +kernel
def rm_X10_findsBestOrder : Room := { frames := 10, cells := 0, slots := 0, locals := 226 }
section
variable {p : Program} {l : Launch} {e : Env} {s : State} {m : MethodId} {args : Array Value} {below : List Frame} {meth : Method} {c : Code} {Q : State → Prop} {G : va_G} {aC : Nat → ClassId} {t b0 : Nat}
def f_X10_findsBestOrder_L7 (v0 : Nat) (k53 : AH → Option (Int32 × AH)) : Nat → Int32 → AH → Option (Int32 × AH)
  | 0, _, _ => none
  | n + 1, v1, N => ob (hR N v0 10 0) (fun x2 => ob (aI N x2 (6 : Int32)) (fun x3 => if x3 ≤ v1 then k53 N else ob2 (f_X10_stateOf v0 v1 N) (fun x6 N5 => if (2 : Int32) ≤ x6 then f_X10_findsBestOrder_L7 v0 k53 n (v1 + 1) N5 else ob (hR N5 v0 10 9) (fun x8 => ob (hI N5 v0 10 10) (fun x9 => ob (sI N5 x8 x9 v1) (fun N10 => ob (hI N10 v0 10 10) (fun x11 => ob (pI N10 v0 10 10 (x11 + (1 : Int32))) (fun N12 => f_X10_findsBestOrder_L7 v0 k53 n (v1 + 1) N12))))))))
set_option maxHeartbeats 4000000 in
set_option maxRecDepth 100000 in
theorem w_X10_findsBestOrder_L7 {P : Int32 × AH → Prop} (X : CX cX10_findsBestOrder RX10 5 G aC t b0 p s m args c) (hr : RtI p l e rm_X10_findsBestOrder s m args below meth c 0 0 Q cX10_findsBestOrder G aC b0 P) (v0 : Nat) {k53 : AH → Option (Int32 × AH)}
    (hk53 : ∀ (N : AH) (H : Heap) (locs : List Loc) (ls : Array Slot), Rp G aC b0 N H → va_S (fun q => b0 ≤ q) s.heap H locs → lv_has ls 5 [(0, .ref v0)] → owp (k53 N) P → W p l e rm_X10_findsBestOrder s m args below meth c H locs 0 0 Q (F0 m 53 ls [])) :
    ∀ (n : Nat) (v1 : Int32) (N : AH) (H : Heap) (locs : List Loc) (ls : Array Slot), Rp G aC b0 N H → va_S (fun q => b0 ≤ q) s.heap H locs → lv_has ls 5 [(0, .ref v0), (1, .int v1)] → owp (f_X10_findsBestOrder_L7 v0 k53 n v1 N) P → W p l e rm_X10_findsBestOrder s m args below meth c H locs 0 0 Q (F0 m 7 ls []) := by
  have hx := X.1.1
  have hb := X.1.2.1
  intro n
  induction n with
  | zero =>
    intro v1 N H locs ls hR hS hl hp
    exact (show False from hp).elim
  | succ n ih =>
    intro v1 N H locs ls hR hS hl hp
    rw [f_X10_findsBestOrder_L7] at hp
    refine lv_iload_n hx hb dX10_findsBestOrder_7 rfl (lv_at hl 1 rfl) ?_
    refine lv_aload_n hx hb dX10_findsBestOrder_8 rfl (lv_at hl 0 rfl) ?_
    obtain ⟨x2, e_x2, hp⟩ := owp_ob hp
    refine gf_X10_7 X hR e_x2 dX10_findsBestOrder_9 ?_
    refine lv_bipush (v := (6)) hx hb dX10_findsBestOrder_12 (by decide) ?_
    obtain ⟨x3, e_x3, hp⟩ := owp_ob hp
    refine ab_iald X hR e_x3 dX10_findsBestOrder_14 ?_
    refine lv_icmp_ge (tgt := 53) hx hb dX10_findsBestOrder_15 (by decide) (fun k4 => ?_) (fun k4 => ?_)
    · have hp := owp_t k4 hp
      exact hk53 _ _ _ _ hR hS (lv_sub hl [0] rfl) hp
    · have hp := owp_f k4 hp
      refine lv_aload_n hx hb dX10_findsBestOrder_18 rfl (lv_at hl 0 rfl) ?_
      refine lv_iload_n hx hb dX10_findsBestOrder_19 rfl (lv_at hl 1 rfl) ?_
      obtain ⟨x6, N5, e_N5, hp⟩ := owp_ob2 hp
      refine iv_X10_stateOf (rest := []) mw_X10_107 X hR hS e_N5 hl.1 (Nat.le_of_ble_eq_true rfl) ⟨Nat.le_of_ble_eq_true rfl, Nat.le_of_ble_eq_true rfl⟩ ⟨Nat.le_of_ble_eq_true rfl, Nat.le_of_ble_eq_true rfl⟩ dX10_findsBestOrder_20 (fun H locs hR hS => ?_)
      refine lv_iconst (v := (2)) hx hb dX10_findsBestOrder_23 (by decide) ?_
      refine lv_icmp_ge (tgt := 47) hx hb dX10_findsBestOrder_24 (by decide) (fun k7 => ?_) (fun k7 => ?_)
      · have hp := owp_t k7 hp
        refine lv_iinc (v := v1 + 1) (lv' := [(1, .int (v1 + 1)), (0, .ref v0)]) hx hb dX10_findsBestOrder_47 hl (k := 1) rfl rfl (by decide) rfl (fun ls hl => ?_)
        refine lv_goto (tgt := 7) hx hb dX10_findsBestOrder_50 (by decide) ?_
        exact ih _ _ _ _ _ hR hS (lv_sub hl [1, 0] rfl) hp
      · have hp := owp_f k7 hp
        refine lv_aload_n hx hb dX10_findsBestOrder_27 rfl (lv_at hl 0 rfl) ?_
        obtain ⟨x8, e_x8, hp⟩ := owp_ob hp
        refine gf_X10_25 X hR e_x8 dX10_findsBestOrder_28 ?_
        refine lv_aload_n hx hb dX10_findsBestOrder_31 rfl (lv_at hl 0 rfl) ?_
        obtain ⟨x9, e_x9, hp⟩ := owp_ob hp
        refine gf_X10_104 X hR e_x9 dX10_findsBestOrder_32 ?_
        refine lv_iload_n hx hb dX10_findsBestOrder_35 rfl (lv_at hl 1 rfl) ?_
        obtain ⟨N10, e_N10, hp⟩ := owp_ob hp
        refine ab_iast X hR hS e_N10 dX10_findsBestOrder_36 (fun H locs hR hS => ?_)
        refine lv_aload_n hx hb dX10_findsBestOrder_37 rfl (lv_at hl 0 rfl) ?_
        refine lv_dup hx hb dX10_findsBestOrder_38 rfl ?_
        obtain ⟨x11, e_x11, hp⟩ := owp_ob hp
        refine gf_X10_104 X hR e_x11 dX10_findsBestOrder_39 ?_
        refine lv_iconst (v := (1)) hx hb dX10_findsBestOrder_42 (by decide) ?_
        refine lv_iadd hx hb dX10_findsBestOrder_43 ?_
        obtain ⟨N12, e_N12, hp⟩ := owp_ob hp
        refine pf_X10_104 X hR hS e_N12 dX10_findsBestOrder_44 (fun H locs hR hS => ?_)
        refine lv_iinc (v := v1 + 1) (lv' := [(1, .int (v1 + 1)), (0, .ref v0)]) hx hb dX10_findsBestOrder_47 hl (k := 1) rfl rfl (by decide) rfl (fun ls hl => ?_)
        refine lv_goto (tgt := 7) hx hb dX10_findsBestOrder_50 (by decide) ?_
        exact ih _ _ _ _ _ hR hS (lv_sub hl [1, 0] rfl) hp
def f_X10_findsBestOrder_L64 (v0 : Nat) (v1 : Int32) (v2 : Int32) (k90 : AH → Option (Int32 × AH)) : Nat → Int32 → AH → Option (Int32 × AH)
  | 0, _, _ => none
  | n + 1, v3, N => ob (hI N v0 10 10) (fun x15 => if x15 ≤ v3 then k90 N else ob (hR N v0 10 18) (fun x17 => ob (hR N v0 10 9) (fun x18 => ob (aI N x18 v3) (fun x19 => ob (sI N x17 v3 x19) (fun N20 => f_X10_findsBestOrder_L64 v0 v1 v2 k90 n (v3 + 1) N20)))))
set_option maxHeartbeats 4000000 in
set_option maxRecDepth 100000 in
theorem w_X10_findsBestOrder_L64 {P : Int32 × AH → Prop} (X : CX cX10_findsBestOrder RX10 5 G aC t b0 p s m args c) (hr : RtI p l e rm_X10_findsBestOrder s m args below meth c 0 0 Q cX10_findsBestOrder G aC b0 P) (v0 : Nat) (v1 : Int32) (v2 : Int32) {k90 : AH → Option (Int32 × AH)}
    (hk90 : ∀ (N : AH) (H : Heap) (locs : List Loc) (ls : Array Slot), Rp G aC b0 N H → va_S (fun q => b0 ≤ q) s.heap H locs → lv_has ls 5 [(0, .ref v0), (1, .int v1), (2, .int v2)] → owp (k90 N) P → W p l e rm_X10_findsBestOrder s m args below meth c H locs 0 0 Q (F0 m 90 ls [])) :
    ∀ (n : Nat) (v3 : Int32) (N : AH) (H : Heap) (locs : List Loc) (ls : Array Slot), Rp G aC b0 N H → va_S (fun q => b0 ≤ q) s.heap H locs → lv_has ls 5 [(0, .ref v0), (1, .int v1), (2, .int v2), (3, .int v3)] → owp (f_X10_findsBestOrder_L64 v0 v1 v2 k90 n v3 N) P → W p l e rm_X10_findsBestOrder s m args below meth c H locs 0 0 Q (F0 m 64 ls []) := by
  have hx := X.1.1
  have hb := X.1.2.1
  intro n
  induction n with
  | zero =>
    intro v3 N H locs ls hR hS hl hp
    exact (show False from hp).elim
  | succ n ih =>
    intro v3 N H locs ls hR hS hl hp
    rw [f_X10_findsBestOrder_L64] at hp
    refine lv_iload_n hx hb dX10_findsBestOrder_64 rfl (lv_at hl 3 rfl) ?_
    refine lv_aload_n hx hb dX10_findsBestOrder_65 rfl (lv_at hl 0 rfl) ?_
    obtain ⟨x15, e_x15, hp⟩ := owp_ob hp
    refine gf_X10_104 X hR e_x15 dX10_findsBestOrder_66 ?_
    refine lv_icmp_ge (tgt := 90) hx hb dX10_findsBestOrder_69 (by decide) (fun k16 => ?_) (fun k16 => ?_)
    · have hp := owp_t k16 hp
      exact hk90 _ _ _ _ hR hS (lv_sub hl [0, 1, 2] rfl) hp
    · have hp := owp_f k16 hp
      refine lv_aload_n hx hb dX10_findsBestOrder_72 rfl (lv_at hl 0 rfl) ?_
      obtain ⟨x17, e_x17, hp⟩ := owp_ob hp
      refine gf_X10_41 X hR e_x17 dX10_findsBestOrder_73 ?_
      refine lv_iload_n hx hb dX10_findsBestOrder_76 rfl (lv_at hl 3 rfl) ?_
      refine lv_aload_n hx hb dX10_findsBestOrder_77 rfl (lv_at hl 0 rfl) ?_
      obtain ⟨x18, e_x18, hp⟩ := owp_ob hp
      refine gf_X10_25 X hR e_x18 dX10_findsBestOrder_78 ?_
      refine lv_iload_n hx hb dX10_findsBestOrder_81 rfl (lv_at hl 3 rfl) ?_
      obtain ⟨x19, e_x19, hp⟩ := owp_ob hp
      refine ab_iald X hR e_x19 dX10_findsBestOrder_82 ?_
      obtain ⟨N20, e_N20, hp⟩ := owp_ob hp
      refine ab_iast X hR hS e_N20 dX10_findsBestOrder_83 (fun H locs hR hS => ?_)
      refine lv_iinc (v := v3 + 1) (lv' := [(3, .int (v3 + 1)), (0, .ref v0), (1, .int v1), (2, .int v2)]) hx hb dX10_findsBestOrder_84 hl (k := 3) rfl rfl (by decide) rfl (fun ls hl => ?_)
      refine lv_goto (tgt := 64) hx hb dX10_findsBestOrder_87 (by decide) ?_
      exact ih _ _ _ _ _ hR hS (lv_sub hl [1, 2, 3, 0] rfl) hp
def f_X10_findsBestOrder_L135 (v0 : Nat) (v1 : Int32) (k164 : AH → Option (Int32 × AH)) : Nat → Int32 → AH → Option (Int32 × AH)
  | 0, _, _ => none
  | n + 1, v4, N => ob (hI N v0 10 10) (fun x31 => if x31 ≤ v4 then k164 N else ob (hR N v0 10 18) (fun x33 => ob (hR N v0 10 9) (fun x34 => ob (aI N x34 v4) (fun x35 => ob (sI N x33 v4 x35) (fun N36 => f_X10_findsBestOrder_L135 v0 v1 k164 n (v4 + 1) N36)))))
set_option maxHeartbeats 4000000 in
set_option maxRecDepth 100000 in
theorem w_X10_findsBestOrder_L135 {P : Int32 × AH → Prop} (X : CX cX10_findsBestOrder RX10 5 G aC t b0 p s m args c) (hr : RtI p l e rm_X10_findsBestOrder s m args below meth c 0 0 Q cX10_findsBestOrder G aC b0 P) (v0 : Nat) (v1 : Int32) {k164 : AH → Option (Int32 × AH)}
    (hk164 : ∀ (N : AH) (H : Heap) (locs : List Loc) (ls : Array Slot), Rp G aC b0 N H → va_S (fun q => b0 ≤ q) s.heap H locs → lv_has ls 5 [(0, .ref v0), (1, .int v1)] → owp (k164 N) P → W p l e rm_X10_findsBestOrder s m args below meth c H locs 0 0 Q (F0 m 164 ls [])) :
    ∀ (n : Nat) (v4 : Int32) (N : AH) (H : Heap) (locs : List Loc) (ls : Array Slot), Rp G aC b0 N H → va_S (fun q => b0 ≤ q) s.heap H locs → lv_has ls 5 [(0, .ref v0), (1, .int v1), (4, .int v4)] → owp (f_X10_findsBestOrder_L135 v0 v1 k164 n v4 N) P → W p l e rm_X10_findsBestOrder s m args below meth c H locs 0 0 Q (F0 m 135 ls []) := by
  have hx := X.1.1
  have hb := X.1.2.1
  intro n
  induction n with
  | zero =>
    intro v4 N H locs ls hR hS hl hp
    exact (show False from hp).elim
  | succ n ih =>
    intro v4 N H locs ls hR hS hl hp
    rw [f_X10_findsBestOrder_L135] at hp
    refine lv_iload hx hb dX10_findsBestOrder_135 (lv_at hl 2 rfl) ?_
    refine lv_aload_n hx hb dX10_findsBestOrder_137 rfl (lv_at hl 0 rfl) ?_
    obtain ⟨x31, e_x31, hp⟩ := owp_ob hp
    refine gf_X10_104 X hR e_x31 dX10_findsBestOrder_138 ?_
    refine lv_icmp_ge (tgt := 164) hx hb dX10_findsBestOrder_141 (by decide) (fun k32 => ?_) (fun k32 => ?_)
    · have hp := owp_t k32 hp
      exact hk164 _ _ _ _ hR hS (lv_sub hl [0, 1] rfl) hp
    · have hp := owp_f k32 hp
      refine lv_aload_n hx hb dX10_findsBestOrder_144 rfl (lv_at hl 0 rfl) ?_
      obtain ⟨x33, e_x33, hp⟩ := owp_ob hp
      refine gf_X10_41 X hR e_x33 dX10_findsBestOrder_145 ?_
      refine lv_iload hx hb dX10_findsBestOrder_148 (lv_at hl 2 rfl) ?_
      refine lv_aload_n hx hb dX10_findsBestOrder_150 rfl (lv_at hl 0 rfl) ?_
      obtain ⟨x34, e_x34, hp⟩ := owp_ob hp
      refine gf_X10_25 X hR e_x34 dX10_findsBestOrder_151 ?_
      refine lv_iload hx hb dX10_findsBestOrder_154 (lv_at hl 2 rfl) ?_
      obtain ⟨x35, e_x35, hp⟩ := owp_ob hp
      refine ab_iald X hR e_x35 dX10_findsBestOrder_156 ?_
      obtain ⟨N36, e_N36, hp⟩ := owp_ob hp
      refine ab_iast X hR hS e_N36 dX10_findsBestOrder_157 (fun H locs hR hS => ?_)
      refine lv_iinc (v := v4 + 1) (lv' := [(4, .int (v4 + 1)), (0, .ref v0), (1, .int v1)]) hx hb dX10_findsBestOrder_158 hl (k := 2) rfl rfl (by decide) rfl (fun ls hl => ?_)
      refine lv_goto (tgt := 135) hx hb dX10_findsBestOrder_161 (by decide) ?_
      exact ih _ _ _ _ _ hR hS (lv_sub hl [1, 2, 0] rfl) hp
def f_X10_findsBestOrder_L90 (v0 : Nat) (k172 : Int32 → AH → Option (Int32 × AH)) : Nat → Int32 → Int32 → AH → Option (Int32 × AH)
  | 0, _, _, _ => none
  | n + 1, v1, v2, N => if v2 = 0 then k172 v1 N else ob2 (f_X10_copies v0 (0 : Int32) (8274 : Int32) N) (fun _ N23 => ob2 (f_X10_totalOf v0 N23) (fun x25 N24 => ob2 (f_X10_copies v0 (8274 : Int32) (0 : Int32) N24) (fun _ N26 => if x25 = (-1 : Int32) then ob2 (f_X10_next v0 N26) (fun x29 N28 => f_X10_findsBestOrder_L90 v0 k172 n v1 x29 N28) else if v1 = (-1 : Int32) then f_X10_findsBestOrder_L135 v0 x25 (fun N37 => ob2 (f_X10_next v0 N37) (fun x39 N38 => f_X10_findsBestOrder_L90 v0 k172 n x25 x39 N38)) FU (0 : Int32) N26 else if v1 ≤ x25 then ob2 (f_X10_next v0 N26) (fun x42 N41 => f_X10_findsBestOrder_L90 v0 k172 n v1 x42 N41) else f_X10_findsBestOrder_L135 v0 x25 (fun N43 => ob2 (f_X10_next v0 N43) (fun x45 N44 => f_X10_findsBestOrder_L90 v0 k172 n x25 x45 N44)) FU (0 : Int32) N26)))
set_option maxHeartbeats 4000000 in
set_option maxRecDepth 100000 in
theorem w_X10_findsBestOrder_L90 {P : Int32 × AH → Prop} (X : CX cX10_findsBestOrder RX10 5 G aC t b0 p s m args c) (hr : RtI p l e rm_X10_findsBestOrder s m args below meth c 0 0 Q cX10_findsBestOrder G aC b0 P) (v0 : Nat) {k172 : Int32 → AH → Option (Int32 × AH)}
    (hk172 : ∀ (v1 : Int32) (N : AH) (H : Heap) (locs : List Loc) (ls : Array Slot), Rp G aC b0 N H → va_S (fun q => b0 ≤ q) s.heap H locs → lv_has ls 5 [(0, .ref v0), (1, .int v1)] → owp (k172 v1 N) P → W p l e rm_X10_findsBestOrder s m args below meth c H locs 0 0 Q (F0 m 172 ls [])) :
    ∀ (n : Nat) (v1 : Int32) (v2 : Int32) (N : AH) (H : Heap) (locs : List Loc) (ls : Array Slot), Rp G aC b0 N H → va_S (fun q => b0 ≤ q) s.heap H locs → lv_has ls 5 [(0, .ref v0), (1, .int v1), (2, .int v2)] → owp (f_X10_findsBestOrder_L90 v0 k172 n v1 v2 N) P → W p l e rm_X10_findsBestOrder s m args below meth c H locs 0 0 Q (F0 m 90 ls []) := by
  have hx := X.1.1
  have hb := X.1.2.1
  intro n
  induction n with
  | zero =>
    intro v1 v2 N H locs ls hR hS hl hp
    exact (show False from hp).elim
  | succ n ih =>
    intro v1 v2 N H locs ls hR hS hl hp
    rw [f_X10_findsBestOrder_L90] at hp
    refine lv_iload_n hx hb dX10_findsBestOrder_90 rfl (lv_at hl 2 rfl) ?_
    refine lv_if_eq (tgt := 172) hx hb dX10_findsBestOrder_91 (by decide) (fun k22 => ?_) (fun k22 => ?_)
    · have hp := owp_t k22 hp
      exact hk172 _ _ _ _ _ hR hS (lv_sub hl [0, 1] rfl) hp
    · have hp := owp_f k22 hp
      refine lv_aload_n hx hb dX10_findsBestOrder_94 rfl (lv_at hl 0 rfl) ?_
      refine lv_iconst (v := (0)) hx hb dX10_findsBestOrder_95 (by decide) ?_
      refine lv_sipush (v := (8274)) hx hb dX10_findsBestOrder_96 (by decide) ?_
      obtain ⟨_, N23, e_N23, hp⟩ := owp_ob2 hp
      refine iv_X10_copies (rest := []) mw_X10_48 X hR hS e_N23 hl.1 (Nat.le_of_ble_eq_true rfl) ⟨Nat.le_of_ble_eq_true rfl, Nat.le_of_ble_eq_true rfl⟩ ⟨Nat.le_of_ble_eq_true rfl, Nat.le_of_ble_eq_true rfl⟩ dX10_findsBestOrder_99 (fun H locs hR hS => ?_)
      refine lv_aload_n hx hb dX10_findsBestOrder_102 rfl (lv_at hl 0 rfl) ?_
      obtain ⟨x25, N24, e_N24, hp⟩ := owp_ob2 hp
      refine iv_X10_totalOf (rest := []) mw_X10_242 X hR hS e_N24 hl.1 (Nat.le_of_ble_eq_true rfl) ⟨Nat.le_of_ble_eq_true rfl, Nat.le_of_ble_eq_true rfl⟩ ⟨Nat.le_of_ble_eq_true rfl, Nat.le_of_ble_eq_true rfl⟩ dX10_findsBestOrder_103 (fun H locs hR hS => ?_)
      refine lv_istore_n (lv' := [(3, .int x25), (0, .ref v0), (1, .int v1), (2, .int v2)]) hx hb dX10_findsBestOrder_106 rfl hl (by decide) rfl (fun ls hl => ?_)
      refine lv_aload_n hx hb dX10_findsBestOrder_107 rfl (lv_at hl 1 rfl) ?_
      refine lv_sipush (v := (8274)) hx hb dX10_findsBestOrder_108 (by decide) ?_
      refine lv_iconst (v := (0)) hx hb dX10_findsBestOrder_111 (by decide) ?_
      obtain ⟨_, N26, e_N26, hp⟩ := owp_ob2 hp
      refine iv_X10_copies (rest := []) mw_X10_48 X hR hS e_N26 hl.1 (Nat.le_of_ble_eq_true rfl) ⟨Nat.le_of_ble_eq_true rfl, Nat.le_of_ble_eq_true rfl⟩ ⟨Nat.le_of_ble_eq_true rfl, Nat.le_of_ble_eq_true rfl⟩ dX10_findsBestOrder_112 (fun H locs hR hS => ?_)
      refine lv_iload_n hx hb dX10_findsBestOrder_115 rfl (lv_at hl 0 rfl) ?_
      refine lv_iconst (v := (-1)) hx hb dX10_findsBestOrder_116 (by decide) ?_
      refine lv_icmp_eq (tgt := 164) hx hb dX10_findsBestOrder_117 (by decide) (fun k27 => ?_) (fun k27 => ?_)
      · have hp := owp_t k27 hp
        refine lv_aload_n hx hb dX10_findsBestOrder_164 rfl (lv_at hl 1 rfl) ?_
        obtain ⟨x29, N28, e_N28, hp⟩ := owp_ob2 hp
        refine iv_X10_next (rest := []) mw_X10_251 X hR hS e_N28 hl.1 (Nat.le_of_ble_eq_true rfl) ⟨Nat.le_of_ble_eq_true rfl, Nat.le_of_ble_eq_true rfl⟩ ⟨Nat.le_of_ble_eq_true rfl, Nat.le_of_ble_eq_true rfl⟩ dX10_findsBestOrder_165 (fun H locs hR hS => ?_)
        refine lv_istore_n (lv' := [(2, .int x29), (3, .int x25), (0, .ref v0), (1, .int v1)]) hx hb dX10_findsBestOrder_168 rfl hl (by decide) rfl (fun ls hl => ?_)
        refine lv_goto (tgt := 90) hx hb dX10_findsBestOrder_169 (by decide) ?_
        exact ih _ _ _ _ _ _ hR hS (lv_sub hl [2, 3, 0] rfl) hp
      · have hp := owp_f k27 hp
        refine lv_iload_n hx hb dX10_findsBestOrder_120 rfl (lv_at hl 2 rfl) ?_
        refine lv_iconst (v := (-1)) hx hb dX10_findsBestOrder_121 (by decide) ?_
        refine lv_icmp_eq (tgt := 130) hx hb dX10_findsBestOrder_122 (by decide) (fun k30 => ?_) (fun k30 => ?_)
        · have hp := owp_t k30 hp
          refine lv_iload_n hx hb dX10_findsBestOrder_130 rfl (lv_at hl 0 rfl) ?_
          refine lv_istore_n (lv' := [(1, .int x25), (3, .int x25), (0, .ref v0), (2, .int v2)]) hx hb dX10_findsBestOrder_131 rfl hl (by decide) rfl (fun ls hl => ?_)
          refine lv_iconst (v := (0)) hx hb dX10_findsBestOrder_132 (by decide) ?_
          refine lv_istore (lv' := [(4, .int (0 : Int32)), (1, .int x25), (3, .int x25), (0, .ref v0), (2, .int v2)]) hx hb dX10_findsBestOrder_133 hl (by decide) rfl (fun ls hl => ?_)
          refine w_X10_findsBestOrder_L135 X hr _ _ (fun N37 H locs ls hR hS hl hp => ?_) _ _ _ _ _ _ hR hS (lv_sub hl [3, 1, 0] rfl) hp
          refine lv_aload_n hx hb dX10_findsBestOrder_164 rfl (lv_at hl 0 rfl) ?_
          obtain ⟨x39, N38, e_N38, hp⟩ := owp_ob2 hp
          refine iv_X10_next (rest := []) mw_X10_251 X hR hS e_N38 hl.1 (Nat.le_of_ble_eq_true rfl) ⟨Nat.le_of_ble_eq_true rfl, Nat.le_of_ble_eq_true rfl⟩ ⟨Nat.le_of_ble_eq_true rfl, Nat.le_of_ble_eq_true rfl⟩ dX10_findsBestOrder_165 (fun H locs hR hS => ?_)
          refine lv_istore_n (lv' := [(2, .int x39), (0, .ref v0), (1, .int x25)]) hx hb dX10_findsBestOrder_168 rfl hl (by decide) rfl (fun ls hl => ?_)
          refine lv_goto (tgt := 90) hx hb dX10_findsBestOrder_169 (by decide) ?_
          exact ih _ _ _ _ _ _ hR hS (lv_sub hl [1, 2, 0] rfl) hp
        · have hp := owp_f k30 hp
          refine lv_iload_n hx hb dX10_findsBestOrder_125 rfl (lv_at hl 0 rfl) ?_
          refine lv_iload_n hx hb dX10_findsBestOrder_126 rfl (lv_at hl 2 rfl) ?_
          refine lv_icmp_ge (tgt := 164) hx hb dX10_findsBestOrder_127 (by decide) (fun k40 => ?_) (fun k40 => ?_)
          · have hp := owp_t k40 hp
            refine lv_aload_n hx hb dX10_findsBestOrder_164 rfl (lv_at hl 1 rfl) ?_
            obtain ⟨x42, N41, e_N41, hp⟩ := owp_ob2 hp
            refine iv_X10_next (rest := []) mw_X10_251 X hR hS e_N41 hl.1 (Nat.le_of_ble_eq_true rfl) ⟨Nat.le_of_ble_eq_true rfl, Nat.le_of_ble_eq_true rfl⟩ ⟨Nat.le_of_ble_eq_true rfl, Nat.le_of_ble_eq_true rfl⟩ dX10_findsBestOrder_165 (fun H locs hR hS => ?_)
            refine lv_istore_n (lv' := [(2, .int x42), (3, .int x25), (0, .ref v0), (1, .int v1)]) hx hb dX10_findsBestOrder_168 rfl hl (by decide) rfl (fun ls hl => ?_)
            refine lv_goto (tgt := 90) hx hb dX10_findsBestOrder_169 (by decide) ?_
            exact ih _ _ _ _ _ _ hR hS (lv_sub hl [2, 3, 0] rfl) hp
          · have hp := owp_f k40 hp
            refine lv_iload_n hx hb dX10_findsBestOrder_130 rfl (lv_at hl 0 rfl) ?_
            refine lv_istore_n (lv' := [(1, .int x25), (3, .int x25), (0, .ref v0), (2, .int v2)]) hx hb dX10_findsBestOrder_131 rfl hl (by decide) rfl (fun ls hl => ?_)
            refine lv_iconst (v := (0)) hx hb dX10_findsBestOrder_132 (by decide) ?_
            refine lv_istore (lv' := [(4, .int (0 : Int32)), (1, .int x25), (3, .int x25), (0, .ref v0), (2, .int v2)]) hx hb dX10_findsBestOrder_133 hl (by decide) rfl (fun ls hl => ?_)
            refine w_X10_findsBestOrder_L135 X hr _ _ (fun N43 H locs ls hR hS hl hp => ?_) _ _ _ _ _ _ hR hS (lv_sub hl [3, 1, 0] rfl) hp
            refine lv_aload_n hx hb dX10_findsBestOrder_164 rfl (lv_at hl 0 rfl) ?_
            obtain ⟨x45, N44, e_N44, hp⟩ := owp_ob2 hp
            refine iv_X10_next (rest := []) mw_X10_251 X hR hS e_N44 hl.1 (Nat.le_of_ble_eq_true rfl) ⟨Nat.le_of_ble_eq_true rfl, Nat.le_of_ble_eq_true rfl⟩ ⟨Nat.le_of_ble_eq_true rfl, Nat.le_of_ble_eq_true rfl⟩ dX10_findsBestOrder_165 (fun H locs hR hS => ?_)
            refine lv_istore_n (lv' := [(2, .int x45), (0, .ref v0), (1, .int x25)]) hx hb dX10_findsBestOrder_168 rfl hl (by decide) rfl (fun ls hl => ?_)
            refine lv_goto (tgt := 90) hx hb dX10_findsBestOrder_169 (by decide) ?_
            exact ih _ _ _ _ _ _ hR hS (lv_sub hl [1, 2, 0] rfl) hp
def f_X10_findsBestOrder (v0 : Nat) (N : AH) : Option (Int32 × AH) := ob (iO N v0 10) (fun _ => ob (pI N v0 10 10 (0 : Int32)) (fun N1 => f_X10_findsBestOrder_L7 v0 (fun N13 => ob (pZ N13 v0 10 8 (1 : Int32)) (fun N14 => f_X10_findsBestOrder_L64 v0 (-1 : Int32) (1 : Int32) (fun N21 => f_X10_findsBestOrder_L90 v0 (fun v46 N47 => ob (pZ N47 v0 10 8 (0 : Int32)) (fun N48 => some (v46, N48))) FU (-1 : Int32) (1 : Int32) N21) FU (0 : Int32) N14)) FU (0 : Int32) N1))
set_option maxHeartbeats 4000000 in
set_option maxRecDepth 100000 in
theorem wk_X10_findsBestOrder {P : Int32 × AH → Prop} (X : CX cX10_findsBestOrder RX10 5 G aC t b0 p s m args c) (hr : RtI p l e rm_X10_findsBestOrder s m args below meth c 0 0 Q cX10_findsBestOrder G aC b0 P) (v0 : Nat) (N : AH) (H : Heap) (locs : List Loc) (ls : Array Slot) (hR : Rp G aC b0 N H) (hS : va_S (fun q => b0 ≤ q) s.heap H locs) (hl : lv_has ls 5 [(0, .ref v0)]) (hp : owp (f_X10_findsBestOrder v0 N) P) : W p l e rm_X10_findsBestOrder s m args below meth c H locs 0 0 Q (F0 m 0 ls []) := by
  have hx := X.1.1
  have hb := X.1.2.1
  unfold f_X10_findsBestOrder at hp
  obtain ⟨_, _, hp⟩ := owp_ob hp
  refine lv_aload_n hx hb dX10_findsBestOrder_0 rfl (lv_at hl 0 rfl) ?_
  refine lv_iconst (v := (0)) hx hb dX10_findsBestOrder_1 (by decide) ?_
  obtain ⟨N1, e_N1, hp⟩ := owp_ob hp
  refine pf_X10_104 X hR hS e_N1 dX10_findsBestOrder_2 (fun H locs hR hS => ?_)
  refine lv_iconst (v := (0)) hx hb dX10_findsBestOrder_5 (by decide) ?_
  refine lv_istore_n (lv' := [(1, .int (0 : Int32)), (0, .ref v0)]) hx hb dX10_findsBestOrder_6 rfl hl (by decide) rfl (fun ls hl => ?_)
  refine w_X10_findsBestOrder_L7 X hr _ (fun N13 H locs ls hR hS hl hp => ?_) _ _ _ _ _ _ hR hS (lv_sub hl [1, 0] rfl) hp
  refine lv_aload_n hx hb dX10_findsBestOrder_53 rfl (lv_at hl 0 rfl) ?_
  refine lv_iconst (v := (1)) hx hb dX10_findsBestOrder_54 (by decide) ?_
  obtain ⟨N14, e_N14, hp⟩ := owp_ob hp
  refine pf_X10_110 X hR hS e_N14 dX10_findsBestOrder_55 (fun H locs hR hS => ?_)
  refine lv_iconst (v := (-1)) hx hb dX10_findsBestOrder_58 (by decide) ?_
  refine lv_istore_n (lv' := [(1, .int (-1 : Int32)), (0, .ref v0)]) hx hb dX10_findsBestOrder_59 rfl hl (by decide) rfl (fun ls hl => ?_)
  refine lv_iconst (v := (1)) hx hb dX10_findsBestOrder_60 (by decide) ?_
  refine lv_istore_n (lv' := [(2, .int (1 : Int32)), (1, .int (-1 : Int32)), (0, .ref v0)]) hx hb dX10_findsBestOrder_61 rfl hl (by decide) rfl (fun ls hl => ?_)
  refine lv_iconst (v := (0)) hx hb dX10_findsBestOrder_62 (by decide) ?_
  refine lv_istore_n (lv' := [(3, .int (0 : Int32)), (2, .int (1 : Int32)), (1, .int (-1 : Int32)), (0, .ref v0)]) hx hb dX10_findsBestOrder_63 rfl hl (by decide) rfl (fun ls hl => ?_)
  refine w_X10_findsBestOrder_L64 X hr _ _ _ (fun N21 H locs ls hR hS hl hp => ?_) _ _ _ _ _ _ hR hS (lv_sub hl [3, 2, 1, 0] rfl) hp
  refine w_X10_findsBestOrder_L90 X hr _ (fun v46 N47 H locs ls hR hS hl hp => ?_) _ _ _ _ _ _ _ hR hS hl hp
  refine lv_aload_n hx hb dX10_findsBestOrder_172 rfl (lv_at hl 0 rfl) ?_
  refine lv_iconst (v := (0)) hx hb dX10_findsBestOrder_173 (by decide) ?_
  obtain ⟨N48, e_N48, hp⟩ := owp_ob hp
  refine pf_X10_110 X hR hS e_N48 dX10_findsBestOrder_174 (fun H locs hR hS => ?_)
  refine lv_iload_n hx hb dX10_findsBestOrder_177 rfl (lv_at hl 1 rfl) ?_
  exact hr _ _ _ _ _ _ hR hS dX10_findsBestOrder_178 hp
end
theorem ct_X10_findsBestOrder {v0 : Nat} {N N1 : AH} {r : Int32} (h : f_X10_findsBestOrder v0 N = some (r, N1)) : Ct yX10_findsBestOrder cX10_findsBestOrder 5 (some .int) rm_X10_findsBestOrder [.ref v0] N (some (.int r)) N1 :=
  ab_met (own := RX10) (by decide +kernel) rfl (Nat.le_of_ble_eq_true rfl) (fun l G aC t b0 p e s m below meth c ls X hr hlk hnm hR hS hl => wk_X10_findsBestOrder X (RtI_met X.1.1 X.1.2.1 hr hlk) _ _ _ _ _ hR hS hl (owp_of h))
theorem cw_X10_findsBestOrder : Cond.code yX10_findsBestOrder cX10_findsBestOrder 5 (some .int) ∈ WT := WT_of 1322 (by decide +kernel) (by decide +kernel)
theorem iv_X10_findsBestOrder {p : Program} {l : Launch} {e : Env} {R : Room} {s : State} {m : MethodId} {args : Array Value} {below : List Frame} {meth : Method} {c : Code} {H : Heap} {locs : List Loc} {cells slots : Nat} {Q : State → Prop} {cc : ByteArray} {own : String} {nL : Nat} {G : va_G} {aC : Nat → ClassId} {t b0 : Nat} {N N1 : AH} {pc index : Nat} {ls : Array Slot} {rest : List Value} {v0 : Nat} {r : Int32} (w1 : Cond.methodLink own index yX10_findsBestOrder ∈ WT) (X : CX cc own nL G aC t b0 p s m args c) (hR : Rp G aC b0 N H) (hS : va_S (fun q => b0 ≤ q) s.heap H locs) (h : f_X10_findsBestOrder v0 N = some (r, N1)) (hls : ls.size = nL) (hW : (rest.map fun v => v.category).sum ≤ 8) (hR1 : 11 ≤ R.frames ∧ 250 ≤ R.locals) (hcs : cells + 0 ≤ R.cells ∧ slots + 0 ≤ R.slots) (hdg : decode cc pc = .ok (.invokevirtual index, 3)) (kk : ∀ (H1 : Heap) (locs1 : List Loc), Rp G aC b0 N1 H1 → va_S (fun q => b0 ≤ q) s.heap H1 locs1 → W p l e R s m args below meth c H1 locs1 cells slots Q (F0 m (pc + 3) ls (.int r :: rest))) : W p l e R s m args below meth c H locs cells slots Q (F0 m pc ls (.ref v0 :: rest)) :=
  ab_callV (n := 0) (As := []) X hR hS (ct_X10_findsBestOrder h) (ob_rc (c := 10) (N := N) (a := v0) h) (T := TX10) (k := 20) (C := RX10) rfl w1 (WT_of 1321 (by decide +kernel) (by decide +kernel)) (WT_of 75 (by decide +kernel) (by decide +kernel)) (WT_of 92 (by decide +kernel) (by decide +kernel)) cw_X10_findsBestOrder ⟨rfl, by decide +kernel, by decide +kernel, by decide +kernel⟩ rfl hls hW hR1 hcs rfl hdg kk
-- X10_bestOrder
theorem mw_X10_254 : Cond.methodLink RX10 254 yX10_findsBestOrder ∈ WT := WT_of 1319 (by decide +kernel) (by decide +kernel)
theorem dX10_bestOrder_0 : decode cX10_bestOrder 0 = .ok (.aload_n 0, 1) := by decide +kernel
theorem dX10_bestOrder_1 : decode cX10_bestOrder 1 = .ok (.invokevirtual 239, 3) := by decide +kernel
theorem dX10_bestOrder_4 : decode cX10_bestOrder 4 = .ok (.i2l, 1) := by decide +kernel
theorem dX10_bestOrder_5 : decode cX10_bestOrder 5 = .ok (.lconst 1, 1) := by decide +kernel
theorem dX10_bestOrder_6 : decode cX10_bestOrder 6 = .ok (.ldc2_w 237, 3) := by decide +kernel
theorem dX10_bestOrder_9 : decode cX10_bestOrder 9 = .ok (.invokestatic 60, 3) := by decide +kernel
theorem dX10_bestOrder_12 : decode cX10_bestOrder 12 = .ok (.ifCond .eq 10, 3) := by decide +kernel
theorem dX10_bestOrder_15 : decode cX10_bestOrder 15 = .ok (.aload_n 0, 1) := by decide +kernel
theorem dX10_bestOrder_16 : decode cX10_bestOrder 16 = .ok (.invokevirtual 254, 3) := by decide +kernel
theorem dX10_bestOrder_19 : decode cX10_bestOrder 19 = .ok (.goto 5, 3) := by decide +kernel
theorem dX10_bestOrder_22 : decode cX10_bestOrder 22 = .ok (.bipush (-4), 2) := by decide +kernel
theorem dX10_bestOrder_24 : decode cX10_bestOrder 24 = .ok (.ireturn, 1) := by decide +kernel
def rm_X10_bestOrder : Room := { frames := 11, cells := 0, slots := 0, locals := 250 }
section
variable {p : Program} {l : Launch} {e : Env} {s : State} {m : MethodId} {args : Array Value} {below : List Frame} {meth : Method} {c : Code} {Q : State → Prop} {G : va_G} {aC : Nat → ClassId} {t b0 : Nat}
def f_X10_bestOrder (v0 : Nat) (N : AH) : Option (Int32 × AH) := ob (iO N v0 10) (fun _ => ob2 (f_X10_left v0 N) (fun x2 N1 => ob2 (f_X10_in (Int32.toInt64 x2) (1 : Int64) (4 : Int64) N1) (fun x4 N3 => if x4 = 0 then some ((-4 : Int32), N3) else ob2 (f_X10_findsBestOrder v0 N3) (fun x7 N6 => some (x7, N6)))))
set_option maxHeartbeats 4000000 in
set_option maxRecDepth 100000 in
theorem wk_X10_bestOrder {P : Int32 × AH → Prop} (X : CX cX10_bestOrder RX10 1 G aC t b0 p s m args c) (hr : RtI p l e rm_X10_bestOrder s m args below meth c 0 0 Q cX10_bestOrder G aC b0 P) (v0 : Nat) (N : AH) (H : Heap) (locs : List Loc) (ls : Array Slot) (hR : Rp G aC b0 N H) (hS : va_S (fun q => b0 ≤ q) s.heap H locs) (hl : lv_has ls 1 [(0, .ref v0)]) (hp : owp (f_X10_bestOrder v0 N) P) : W p l e rm_X10_bestOrder s m args below meth c H locs 0 0 Q (F0 m 0 ls []) := by
  have hx := X.1.1
  have hb := X.1.2.1
  unfold f_X10_bestOrder at hp
  obtain ⟨_, _, hp⟩ := owp_ob hp
  refine lv_aload_n hx hb dX10_bestOrder_0 rfl (lv_at hl 0 rfl) ?_
  obtain ⟨x2, N1, e_N1, hp⟩ := owp_ob2 hp
  refine iv_X10_left (rest := []) mw_X10_239 X hR hS e_N1 hl.1 (Nat.le_of_ble_eq_true rfl) ⟨Nat.le_of_ble_eq_true rfl, Nat.le_of_ble_eq_true rfl⟩ ⟨Nat.le_of_ble_eq_true rfl, Nat.le_of_ble_eq_true rfl⟩ dX10_bestOrder_1 (fun H locs hR hS => ?_)
  refine lv_i2l (v := Int32.toInt64 x2) hx hb dX10_bestOrder_4 rfl ?_
  refine lv_lconst (v := 1) hx hb dX10_bestOrder_5 (by decide) ?_
  refine lv_ldc2 (own := RX10) (v := 4) hx hb X.1.2.2.2.1 (X.1.2.2.2.2 _ (WT_of 1262 (by decide +kernel) (by decide +kernel))) dX10_bestOrder_6 ?_
  obtain ⟨x4, N3, e_N3, hp⟩ := owp_ob2 hp
  refine iv_X10_in (rest := []) mw_X10_60 X hR hS e_N3 hl.1 (Nat.le_of_ble_eq_true rfl) ⟨Nat.le_of_ble_eq_true rfl, Nat.le_of_ble_eq_true rfl⟩ ⟨Nat.le_of_ble_eq_true rfl, Nat.le_of_ble_eq_true rfl⟩ dX10_bestOrder_9 (fun H locs hR hS => ?_)
  refine lv_if_eq (tgt := 22) hx hb dX10_bestOrder_12 (by decide) (fun k5 => ?_) (fun k5 => ?_)
  · have hp := owp_t k5 hp
    refine lv_bipush (v := (-4)) hx hb dX10_bestOrder_22 (by decide) ?_
    exact hr _ _ _ _ _ _ hR hS dX10_bestOrder_24 hp
  · have hp := owp_f k5 hp
    refine lv_aload_n hx hb dX10_bestOrder_15 rfl (lv_at hl 0 rfl) ?_
    obtain ⟨x7, N6, e_N6, hp⟩ := owp_ob2 hp
    refine iv_X10_findsBestOrder (rest := []) mw_X10_254 X hR hS e_N6 hl.1 (Nat.le_of_ble_eq_true rfl) ⟨Nat.le_of_ble_eq_true rfl, Nat.le_of_ble_eq_true rfl⟩ ⟨Nat.le_of_ble_eq_true rfl, Nat.le_of_ble_eq_true rfl⟩ dX10_bestOrder_16 (fun H locs hR hS => ?_)
    refine lv_goto (tgt := 24) hx hb dX10_bestOrder_19 (by decide) ?_
    exact hr _ _ _ _ _ _ hR hS dX10_bestOrder_24 hp
end
theorem ct_X10_bestOrder {v0 : Nat} {N N1 : AH} {r : Int32} (h : f_X10_bestOrder v0 N = some (r, N1)) : Ct yX10_bestOrder cX10_bestOrder 1 (some .int) rm_X10_bestOrder [.ref v0] N (some (.int r)) N1 :=
  ab_met (own := RX10) (by decide +kernel) rfl (Nat.le_of_ble_eq_true rfl) (fun l G aC t b0 p e s m below meth c ls X hr hlk hnm hR hS hl => wk_X10_bestOrder X (RtI_met X.1.1 X.1.2.1 hr hlk) _ _ _ _ _ hR hS hl (owp_of h))
theorem cw_X10_bestOrder : Cond.code yX10_bestOrder cX10_bestOrder 1 (some .int) ∈ WT := WT_of 1318 (by decide +kernel) (by decide +kernel)
theorem iv_X10_bestOrder {p : Program} {l : Launch} {e : Env} {R : Room} {s : State} {m : MethodId} {args : Array Value} {below : List Frame} {meth : Method} {c : Code} {H : Heap} {locs : List Loc} {cells slots : Nat} {Q : State → Prop} {cc : ByteArray} {own : String} {nL : Nat} {G : va_G} {aC : Nat → ClassId} {t b0 : Nat} {N N1 : AH} {pc index : Nat} {ls : Array Slot} {rest : List Value} {v0 : Nat} {r : Int32} (w1 : Cond.methodLink own index yX10_bestOrder ∈ WT) (X : CX cc own nL G aC t b0 p s m args c) (hR : Rp G aC b0 N H) (hS : va_S (fun q => b0 ≤ q) s.heap H locs) (h : f_X10_bestOrder v0 N = some (r, N1)) (hls : ls.size = nL) (hW : (rest.map fun v => v.category).sum ≤ 8) (hR1 : 12 ≤ R.frames ∧ 270 ≤ R.locals) (hcs : cells + 0 ≤ R.cells ∧ slots + 0 ≤ R.slots) (hdg : decode cc pc = .ok (.invokevirtual index, 3)) (kk : ∀ (H1 : Heap) (locs1 : List Loc), Rp G aC b0 N1 H1 → va_S (fun q => b0 ≤ q) s.heap H1 locs1 → W p l e R s m args below meth c H1 locs1 cells slots Q (F0 m (pc + 3) ls (.int r :: rest))) : W p l e R s m args below meth c H locs cells slots Q (F0 m pc ls (.ref v0 :: rest)) :=
  ab_callV (n := 0) (As := []) X hR hS (ct_X10_bestOrder h) (ob_rc (c := 10) (N := N) (a := v0) h) (T := TX10) (k := 20) (C := RX10) rfl w1 (WT_of 1316 (by decide +kernel) (by decide +kernel)) (WT_of 1317 (by decide +kernel) (by decide +kernel)) (WT_of 92 (by decide +kernel) (by decide +kernel)) cw_X10_bestOrder ⟨rfl, by decide +kernel, by decide +kernel, by decide +kernel⟩ rfl hls hW hR1 hcs rfl hdg kk
-- X10_bestOrderAt
theorem dX10_bestOrderAt_0 : decode cX10_bestOrderAt 0 = .ok (.iload_n 1, 1) := by decide +kernel
theorem dX10_bestOrderAt_1 : decode cX10_bestOrderAt 1 = .ok (.i2l, 1) := by decide +kernel
theorem dX10_bestOrderAt_2 : decode cX10_bestOrderAt 2 = .ok (.lconst 0, 1) := by decide +kernel
theorem dX10_bestOrderAt_3 : decode cX10_bestOrderAt 3 = .ok (.aload_n 0, 1) := by decide +kernel
theorem dX10_bestOrderAt_4 : decode cX10_bestOrderAt 4 = .ok (.invokevirtual 239, 3) := by decide +kernel
theorem dX10_bestOrderAt_7 : decode cX10_bestOrderAt 7 = .ok (.iconst 1, 1) := by decide +kernel
theorem dX10_bestOrderAt_8 : decode cX10_bestOrderAt 8 = .ok (.isub, 1) := by decide +kernel
theorem dX10_bestOrderAt_9 : decode cX10_bestOrderAt 9 = .ok (.i2l, 1) := by decide +kernel
theorem dX10_bestOrderAt_10 : decode cX10_bestOrderAt 10 = .ok (.invokestatic 60, 3) := by decide +kernel
theorem dX10_bestOrderAt_13 : decode cX10_bestOrderAt 13 = .ok (.ifCond .ne 6, 3) := by decide +kernel
theorem dX10_bestOrderAt_16 : decode cX10_bestOrderAt 16 = .ok (.bipush (-2), 2) := by decide +kernel
theorem dX10_bestOrderAt_18 : decode cX10_bestOrderAt 18 = .ok (.ireturn, 1) := by decide +kernel
theorem dX10_bestOrderAt_19 : decode cX10_bestOrderAt 19 = .ok (.aload_n 0, 1) := by decide +kernel
theorem dX10_bestOrderAt_20 : decode cX10_bestOrderAt 20 = .ok (.invokevirtual 239, 3) := by decide +kernel
theorem dX10_bestOrderAt_23 : decode cX10_bestOrderAt 23 = .ok (.iconst 4, 1) := by decide +kernel
theorem dX10_bestOrderAt_24 : decode cX10_bestOrderAt 24 = .ok (.if_icmp .le 6, 3) := by decide +kernel
theorem dX10_bestOrderAt_27 : decode cX10_bestOrderAt 27 = .ok (.bipush (-4), 2) := by decide +kernel
theorem dX10_bestOrderAt_29 : decode cX10_bestOrderAt 29 = .ok (.ireturn, 1) := by decide +kernel
theorem dX10_bestOrderAt_30 : decode cX10_bestOrderAt 30 = .ok (.aload_n 0, 1) := by decide +kernel
theorem dX10_bestOrderAt_31 : decode cX10_bestOrderAt 31 = .ok (.invokevirtual 254, 3) := by decide +kernel
theorem dX10_bestOrderAt_34 : decode cX10_bestOrderAt 34 = .ok (.pop, 1) := by decide +kernel
theorem dX10_bestOrderAt_35 : decode cX10_bestOrderAt 35 = .ok (.aload_n 0, 1) := by decide +kernel
theorem dX10_bestOrderAt_36 : decode cX10_bestOrderAt 36 = .ok (.getfield 41, 3) := by decide +kernel
theorem dX10_bestOrderAt_39 : decode cX10_bestOrderAt 39 = .ok (.iload_n 1, 1) := by decide +kernel
theorem dX10_bestOrderAt_40 : decode cX10_bestOrderAt 40 = .ok (.iaload, 1) := by decide +kernel
theorem dX10_bestOrderAt_41 : decode cX10_bestOrderAt 41 = .ok (.ireturn, 1) := by decide +kernel
def rm_X10_bestOrderAt : Room := { frames := 11, cells := 0, slots := 0, locals := 250 }
section
variable {p : Program} {l : Launch} {e : Env} {s : State} {m : MethodId} {args : Array Value} {below : List Frame} {meth : Method} {c : Code} {Q : State → Prop} {G : va_G} {aC : Nat → ClassId} {t b0 : Nat}
def f_X10_bestOrderAt (v0 : Nat) (v1 : Int32) (N : AH) : Option (Int32 × AH) := ob (iO N v0 10) (fun _ => ob2 (f_X10_left v0 N) (fun x2 N1 => ob2 (f_X10_in (Int32.toInt64 v1) (0 : Int64) (Int32.toInt64 (x2 - (1 : Int32))) N1) (fun x4 N3 => if ¬ x4 = 0 then ob2 (f_X10_left v0 N3) (fun x7 N6 => if x7 ≤ (4 : Int32) then ob2 (f_X10_findsBestOrder v0 N6) (fun x10 N9 => ob (hR N9 v0 10 18) (fun x11 => ob (aI N9 x11 v1) (fun x12 => some (x12, N9)))) else some ((-4 : Int32), N6)) else some ((-2 : Int32), N3))))
set_option maxHeartbeats 4000000 in
set_option maxRecDepth 100000 in
theorem wk_X10_bestOrderAt {P : Int32 × AH → Prop} (X : CX cX10_bestOrderAt RX10 2 G aC t b0 p s m args c) (hr : RtI p l e rm_X10_bestOrderAt s m args below meth c 0 0 Q cX10_bestOrderAt G aC b0 P) (v0 : Nat) (v1 : Int32) (N : AH) (H : Heap) (locs : List Loc) (ls : Array Slot) (hR : Rp G aC b0 N H) (hS : va_S (fun q => b0 ≤ q) s.heap H locs) (hl : lv_has ls 2 [(0, .ref v0), (1, .int v1)]) (hp : owp (f_X10_bestOrderAt v0 v1 N) P) : W p l e rm_X10_bestOrderAt s m args below meth c H locs 0 0 Q (F0 m 0 ls []) := by
  have hx := X.1.1
  have hb := X.1.2.1
  unfold f_X10_bestOrderAt at hp
  obtain ⟨_, _, hp⟩ := owp_ob hp
  refine lv_iload_n hx hb dX10_bestOrderAt_0 rfl (lv_at hl 1 rfl) ?_
  refine lv_i2l (v := Int32.toInt64 v1) hx hb dX10_bestOrderAt_1 rfl ?_
  refine lv_lconst (v := 0) hx hb dX10_bestOrderAt_2 (by decide) ?_
  refine lv_aload_n hx hb dX10_bestOrderAt_3 rfl (lv_at hl 0 rfl) ?_
  obtain ⟨x2, N1, e_N1, hp⟩ := owp_ob2 hp
  refine iv_X10_left (rest := [.long (0 : Int64), .long (Int32.toInt64 v1)]) mw_X10_239 X hR hS e_N1 hl.1 (Nat.le_of_ble_eq_true rfl) ⟨Nat.le_of_ble_eq_true rfl, Nat.le_of_ble_eq_true rfl⟩ ⟨Nat.le_of_ble_eq_true rfl, Nat.le_of_ble_eq_true rfl⟩ dX10_bestOrderAt_4 (fun H locs hR hS => ?_)
  refine lv_iconst (v := (1)) hx hb dX10_bestOrderAt_7 (by decide) ?_
  refine lv_isub hx hb dX10_bestOrderAt_8 ?_
  refine lv_i2l (v := Int32.toInt64 (x2 - (1 : Int32))) hx hb dX10_bestOrderAt_9 rfl ?_
  obtain ⟨x4, N3, e_N3, hp⟩ := owp_ob2 hp
  refine iv_X10_in (rest := []) mw_X10_60 X hR hS e_N3 hl.1 (Nat.le_of_ble_eq_true rfl) ⟨Nat.le_of_ble_eq_true rfl, Nat.le_of_ble_eq_true rfl⟩ ⟨Nat.le_of_ble_eq_true rfl, Nat.le_of_ble_eq_true rfl⟩ dX10_bestOrderAt_10 (fun H locs hR hS => ?_)
  refine lv_if_ne (tgt := 19) hx hb dX10_bestOrderAt_13 (by decide) (fun k5 => ?_) (fun k5 => ?_)
  · have hp := owp_t k5 hp
    refine lv_aload_n hx hb dX10_bestOrderAt_19 rfl (lv_at hl 0 rfl) ?_
    obtain ⟨x7, N6, e_N6, hp⟩ := owp_ob2 hp
    refine iv_X10_left (rest := []) mw_X10_239 X hR hS e_N6 hl.1 (Nat.le_of_ble_eq_true rfl) ⟨Nat.le_of_ble_eq_true rfl, Nat.le_of_ble_eq_true rfl⟩ ⟨Nat.le_of_ble_eq_true rfl, Nat.le_of_ble_eq_true rfl⟩ dX10_bestOrderAt_20 (fun H locs hR hS => ?_)
    refine lv_iconst (v := (4)) hx hb dX10_bestOrderAt_23 (by decide) ?_
    refine lv_icmp_le (tgt := 30) hx hb dX10_bestOrderAt_24 (by decide) (fun k8 => ?_) (fun k8 => ?_)
    · have hp := owp_t k8 hp
      refine lv_aload_n hx hb dX10_bestOrderAt_30 rfl (lv_at hl 0 rfl) ?_
      obtain ⟨x10, N9, e_N9, hp⟩ := owp_ob2 hp
      refine iv_X10_findsBestOrder (rest := []) mw_X10_254 X hR hS e_N9 hl.1 (Nat.le_of_ble_eq_true rfl) ⟨Nat.le_of_ble_eq_true rfl, Nat.le_of_ble_eq_true rfl⟩ ⟨Nat.le_of_ble_eq_true rfl, Nat.le_of_ble_eq_true rfl⟩ dX10_bestOrderAt_31 (fun H locs hR hS => ?_)
      refine lv_pop hx hb dX10_bestOrderAt_34 rfl ?_
      refine lv_aload_n hx hb dX10_bestOrderAt_35 rfl (lv_at hl 0 rfl) ?_
      obtain ⟨x11, e_x11, hp⟩ := owp_ob hp
      refine gf_X10_41 X hR e_x11 dX10_bestOrderAt_36 ?_
      refine lv_iload_n hx hb dX10_bestOrderAt_39 rfl (lv_at hl 1 rfl) ?_
      obtain ⟨x12, e_x12, hp⟩ := owp_ob hp
      refine ab_iald X hR e_x12 dX10_bestOrderAt_40 ?_
      exact hr _ _ _ _ _ _ hR hS dX10_bestOrderAt_41 hp
    · have hp := owp_f k8 hp
      refine lv_bipush (v := (-4)) hx hb dX10_bestOrderAt_27 (by decide) ?_
      exact hr _ _ _ _ _ _ hR hS dX10_bestOrderAt_29 hp
  · have hp := owp_f (fun q => q k5) hp
    refine lv_bipush (v := (-2)) hx hb dX10_bestOrderAt_16 (by decide) ?_
    exact hr _ _ _ _ _ _ hR hS dX10_bestOrderAt_18 hp
end
theorem ct_X10_bestOrderAt {v0 : Nat} {v1 : Int32} {N N1 : AH} {r : Int32} (h : f_X10_bestOrderAt v0 v1 N = some (r, N1)) : Ct yX10_bestOrderAt cX10_bestOrderAt 2 (some .int) rm_X10_bestOrderAt [.ref v0, .int v1] N (some (.int r)) N1 :=
  ab_met (own := RX10) (by decide +kernel) rfl (Nat.le_of_ble_eq_true rfl) (fun l G aC t b0 p e s m below meth c ls X hr hlk hnm hR hS hl => wk_X10_bestOrderAt X (RtI_met X.1.1 X.1.2.1 hr hlk) _ _ _ _ _ _ hR hS hl (owp_of h))
theorem cw_X10_bestOrderAt : Cond.code yX10_bestOrderAt cX10_bestOrderAt 2 (some .int) ∈ WT := WT_of 1334 (by decide +kernel) (by decide +kernel)
theorem iv_X10_bestOrderAt {p : Program} {l : Launch} {e : Env} {R : Room} {s : State} {m : MethodId} {args : Array Value} {below : List Frame} {meth : Method} {c : Code} {H : Heap} {locs : List Loc} {cells slots : Nat} {Q : State → Prop} {cc : ByteArray} {own : String} {nL : Nat} {G : va_G} {aC : Nat → ClassId} {t b0 : Nat} {N N1 : AH} {pc index : Nat} {ls : Array Slot} {rest : List Value} {v0 : Nat} {v1 : Int32} {r : Int32} (w1 : Cond.methodLink own index yX10_bestOrderAt ∈ WT) (X : CX cc own nL G aC t b0 p s m args c) (hR : Rp G aC b0 N H) (hS : va_S (fun q => b0 ≤ q) s.heap H locs) (h : f_X10_bestOrderAt v0 v1 N = some (r, N1)) (hls : ls.size = nL) (hW : (rest.map fun v => v.category).sum ≤ 8) (hR1 : 12 ≤ R.frames ∧ 271 ≤ R.locals) (hcs : cells + 0 ≤ R.cells ∧ slots + 0 ≤ R.slots) (hdg : decode cc pc = .ok (.invokevirtual index, 3)) (kk : ∀ (H1 : Heap) (locs1 : List Loc), Rp G aC b0 N1 H1 → va_S (fun q => b0 ≤ q) s.heap H1 locs1 → W p l e R s m args below meth c H1 locs1 cells slots Q (F0 m (pc + 3) ls (.int r :: rest))) : W p l e R s m args below meth c H locs cells slots Q (F0 m pc ls (.int v1 :: .ref v0 :: rest)) :=
  ab_callV (n := 1) (As := [.int v1]) X hR hS (ct_X10_bestOrderAt h) (ob_rc (c := 10) (N := N) (a := v0) h) (T := TX10) (k := 20) (C := RX10) rfl w1 (WT_of 1332 (by decide +kernel) (by decide +kernel)) (WT_of 1333 (by decide +kernel) (by decide +kernel)) (WT_of 92 (by decide +kernel) (by decide +kernel)) cw_X10_bestOrderAt ⟨rfl, by decide +kernel, by decide +kernel, by decide +kernel⟩ rfl hls hW hR1 hcs rfl hdg kk
