-- X10_ordersFixed
theorem gf_X10_22 {p : Program} {l : Launch} {e : Env} {R : Room} {s : State} {m : MethodId} {args : Array Value} {below : List Frame} {meth : Method} {c : Code} {H : Heap} {locs : List Loc} {cells slots : Nat} {Q : State → Prop} {cc : ByteArray} {nL : Nat} {G : va_G} {aC : Nat → ClassId} {t b0 : Nat} {N : AH} {pc : Nat} {ls : Array Slot} {rest : List Value} {a : Nat} {v : Nat} (X : CX cc RX10 nL G aC t b0 p s m args c) (hR0 : Rp G aC b0 N H) (hv : hR N a 10 6 = some v) (hdg : decode cc pc = .ok (.getfield 22, 3)) (kk : W p l e R s m args below meth c H locs cells slots Q (F0 m (pc + 3) ls (.ref v :: rest))) : W p l e R s m args below meth c H locs cells slots Q (F0 m pc ls (.ref a :: rest)) := by
  obtain ⟨fs, h1, h2⟩ := hR_ok hv
  exact ab_get (C := RX10) (T := TX10) (n := 20) X hR0 h1 h2 rfl inX10 (by decide) (WT_of 954 (by decide +kernel) (by decide +kernel)) hdg kk
theorem gf_X10_25 {p : Program} {l : Launch} {e : Env} {R : Room} {s : State} {m : MethodId} {args : Array Value} {below : List Frame} {meth : Method} {c : Code} {H : Heap} {locs : List Loc} {cells slots : Nat} {Q : State → Prop} {cc : ByteArray} {nL : Nat} {G : va_G} {aC : Nat → ClassId} {t b0 : Nat} {N : AH} {pc : Nat} {ls : Array Slot} {rest : List Value} {a : Nat} {v : Nat} (X : CX cc RX10 nL G aC t b0 p s m args c) (hR0 : Rp G aC b0 N H) (hv : hR N a 10 9 = some v) (hdg : decode cc pc = .ok (.getfield 25, 3)) (kk : W p l e R s m args below meth c H locs cells slots Q (F0 m (pc + 3) ls (.ref v :: rest))) : W p l e R s m args below meth c H locs cells slots Q (F0 m pc ls (.ref a :: rest)) := by
  obtain ⟨fs, h1, h2⟩ := hR_ok hv
  exact ab_get (C := RX10) (T := TX10) (n := 20) X hR0 h1 h2 rfl inX10 (by decide) (WT_of 957 (by decide +kernel) (by decide +kernel)) hdg kk
theorem gf_X10_101 {p : Program} {l : Launch} {e : Env} {R : Room} {s : State} {m : MethodId} {args : Array Value} {below : List Frame} {meth : Method} {c : Code} {H : Heap} {locs : List Loc} {cells slots : Nat} {Q : State → Prop} {cc : ByteArray} {nL : Nat} {G : va_G} {aC : Nat → ClassId} {t b0 : Nat} {N : AH} {pc : Nat} {ls : Array Slot} {rest : List Value} {a : Nat} {v : Int32} (X : CX cc RX10 nL G aC t b0 p s m args c) (hR0 : Rp G aC b0 N H) (hv : hI N a 10 7 = some v) (hdg : decode cc pc = .ok (.getfield 101, 3)) (kk : W p l e R s m args below meth c H locs cells slots Q (F0 m (pc + 3) ls (.int v :: rest))) : W p l e R s m args below meth c H locs cells slots Q (F0 m pc ls (.ref a :: rest)) := by
  obtain ⟨fs, h1, h2⟩ := hI_ok hv
  exact ab_get (C := RX10) (T := TX10) (n := 20) X hR0 h1 h2 rfl inX10 (by decide) (WT_of 955 (by decide +kernel) (by decide +kernel)) hdg kk
theorem gf_X10_104 {p : Program} {l : Launch} {e : Env} {R : Room} {s : State} {m : MethodId} {args : Array Value} {below : List Frame} {meth : Method} {c : Code} {H : Heap} {locs : List Loc} {cells slots : Nat} {Q : State → Prop} {cc : ByteArray} {nL : Nat} {G : va_G} {aC : Nat → ClassId} {t b0 : Nat} {N : AH} {pc : Nat} {ls : Array Slot} {rest : List Value} {a : Nat} {v : Int32} (X : CX cc RX10 nL G aC t b0 p s m args c) (hR0 : Rp G aC b0 N H) (hv : hI N a 10 10 = some v) (hdg : decode cc pc = .ok (.getfield 104, 3)) (kk : W p l e R s m args below meth c H locs cells slots Q (F0 m (pc + 3) ls (.int v :: rest))) : W p l e R s m args below meth c H locs cells slots Q (F0 m pc ls (.ref a :: rest)) := by
  obtain ⟨fs, h1, h2⟩ := hI_ok hv
  exact ab_get (C := RX10) (T := TX10) (n := 20) X hR0 h1 h2 rfl inX10 (by decide) (WT_of 958 (by decide +kernel) (by decide +kernel)) hdg kk
theorem mw_X10_107 : Cond.methodLink RX10 107 yX10_stateOf ∈ WT := WT_of 1106 (by decide +kernel) (by decide +kernel)
theorem pf_X10_101 {p : Program} {l : Launch} {e : Env} {R : Room} {s : State} {m : MethodId} {args : Array Value} {below : List Frame} {meth : Method} {c : Code} {H : Heap} {locs : List Loc} {cells slots : Nat} {Q : State → Prop} {cc : ByteArray} {nL : Nat} {G : va_G} {aC : Nat → ClassId} {t b0 : Nat} {N : AH} {pc : Nat} {ls : Array Slot} {rest : List Value} {N1 : AH} {a : Nat} {v : Int32} (X : CX cc RX10 nL G aC t b0 p s m args c) (hR0 : Rp G aC b0 N H) (hS : va_S (fun q => b0 ≤ q) s.heap H locs) (hv : pI N a 10 7 v = some N1) (hdg : decode cc pc = .ok (.putfield 101, 3)) (kk : ∀ (H1 : Heap) (locs1 : List Loc), Rp G aC b0 N1 H1 → va_S (fun q => b0 ≤ q) s.heap H1 locs1 → W p l e R s m args below meth c H1 locs1 cells slots Q (F0 m (pc + 3) ls rest)) : W p l e R s m args below meth c H locs cells slots Q (F0 m pc ls (.int v :: .ref a :: rest)) := by
  obtain ⟨fs, h1, h2, h3⟩ := pV_ok hv
  subst h3
  exact ab_put (C := RX10) (T := TX10) (n := 20) X hR0 hS h1 h2 rfl inX10 tyX10 tyX10_ok nmX10 (by decide) (WT_of 955 (by decide +kernel) (by decide +kernel)) rfl rfl rfl hdg kk
theorem dX10_ordersFixed_0 : decode cX10_ordersFixed 0 = .ok (.aload_n 0, 1) := by decide +kernel
theorem dX10_ordersFixed_1 : decode cX10_ordersFixed 1 = .ok (.iconst 0, 1) := by decide +kernel
theorem dX10_ordersFixed_2 : decode cX10_ordersFixed 2 = .ok (.putfield 101, 3) := by decide +kernel
theorem dX10_ordersFixed_5 : decode cX10_ordersFixed 5 = .ok (.iconst 0, 1) := by decide +kernel
theorem dX10_ordersFixed_6 : decode cX10_ordersFixed 6 = .ok (.istore_n 1, 1) := by decide +kernel
theorem dX10_ordersFixed_7 : decode cX10_ordersFixed 7 = .ok (.iload_n 1, 1) := by decide +kernel
theorem dX10_ordersFixed_8 : decode cX10_ordersFixed 8 = .ok (.aload_n 0, 1) := by decide +kernel
theorem dX10_ordersFixed_9 : decode cX10_ordersFixed 9 = .ok (.getfield 104, 3) := by decide +kernel
theorem dX10_ordersFixed_12 : decode cX10_ordersFixed 12 = .ok (.if_icmp .ge 48, 3) := by decide +kernel
theorem dX10_ordersFixed_15 : decode cX10_ordersFixed 15 = .ok (.aload_n 0, 1) := by decide +kernel
theorem dX10_ordersFixed_16 : decode cX10_ordersFixed 16 = .ok (.aload_n 0, 1) := by decide +kernel
theorem dX10_ordersFixed_17 : decode cX10_ordersFixed 17 = .ok (.getfield 25, 3) := by decide +kernel
theorem dX10_ordersFixed_20 : decode cX10_ordersFixed 20 = .ok (.iload_n 1, 1) := by decide +kernel
theorem dX10_ordersFixed_21 : decode cX10_ordersFixed 21 = .ok (.iaload, 1) := by decide +kernel
theorem dX10_ordersFixed_22 : decode cX10_ordersFixed 22 = .ok (.invokevirtual 107, 3) := by decide +kernel
theorem dX10_ordersFixed_25 : decode cX10_ordersFixed 25 = .ok (.iconst 1, 1) := by decide +kernel
theorem dX10_ordersFixed_26 : decode cX10_ordersFixed 26 = .ok (.if_icmp .ne 28, 3) := by decide +kernel
theorem dX10_ordersFixed_29 : decode cX10_ordersFixed 29 = .ok (.aload_n 0, 1) := by decide +kernel
theorem dX10_ordersFixed_30 : decode cX10_ordersFixed 30 = .ok (.getfield 22, 3) := by decide +kernel
theorem dX10_ordersFixed_33 : decode cX10_ordersFixed 33 = .ok (.aload_n 0, 1) := by decide +kernel
theorem dX10_ordersFixed_34 : decode cX10_ordersFixed 34 = .ok (.getfield 101, 3) := by decide +kernel
theorem dX10_ordersFixed_37 : decode cX10_ordersFixed 37 = .ok (.aload_n 0, 1) := by decide +kernel
theorem dX10_ordersFixed_38 : decode cX10_ordersFixed 38 = .ok (.getfield 25, 3) := by decide +kernel
theorem dX10_ordersFixed_41 : decode cX10_ordersFixed 41 = .ok (.iload_n 1, 1) := by decide +kernel
theorem dX10_ordersFixed_42 : decode cX10_ordersFixed 42 = .ok (.iaload, 1) := by decide +kernel
theorem dX10_ordersFixed_43 : decode cX10_ordersFixed 43 = .ok (.iastore, 1) := by decide +kernel
theorem dX10_ordersFixed_44 : decode cX10_ordersFixed 44 = .ok (.aload_n 0, 1) := by decide +kernel
theorem dX10_ordersFixed_45 : decode cX10_ordersFixed 45 = .ok (.dup, 1) := by decide +kernel
theorem dX10_ordersFixed_46 : decode cX10_ordersFixed 46 = .ok (.getfield 101, 3) := by decide +kernel
theorem dX10_ordersFixed_49 : decode cX10_ordersFixed 49 = .ok (.iconst 1, 1) := by decide +kernel
theorem dX10_ordersFixed_50 : decode cX10_ordersFixed 50 = .ok (.iadd, 1) := by decide +kernel
theorem dX10_ordersFixed_51 : decode cX10_ordersFixed 51 = .ok (.putfield 101, 3) := by decide +kernel
theorem dX10_ordersFixed_54 : decode cX10_ordersFixed 54 = .ok (.iinc 1 1, 3) := by decide +kernel
theorem dX10_ordersFixed_57 : decode cX10_ordersFixed 57 = .ok (.goto (-50), 3) := by decide +kernel
theorem dX10_ordersFixed_60 : decode cX10_ordersFixed 60 = .ok (.return_, 1) := by decide +kernel
def rm_X10_ordersFixed : Room := { frames := 2, cells := 0, slots := 0, locals := 43 }
section
variable {p : Program} {l : Launch} {e : Env} {s : State} {m : MethodId} {args : Array Value} {below : List Frame} {meth : Method} {c : Code} {Q : State → Prop} {G : va_G} {aC : Nat → ClassId} {t b0 : Nat}
def f_X10_ordersFixed_L7 (v0 : Nat) (k60 : AH → Option (Unit × AH)) : Nat → Int32 → AH → Option (Unit × AH)
  | 0, _, _ => none
  | n + 1, v1, N => ob (hI N v0 10 10) (fun x2 => if x2 ≤ v1 then k60 N else ob (hR N v0 10 9) (fun x4 => ob (aI N x4 v1) (fun x5 => ob2 (f_X10_stateOf v0 x5 N) (fun x7 N6 => if ¬ x7 = (1 : Int32) then f_X10_ordersFixed_L7 v0 k60 n (v1 + 1) N6 else ob (hR N6 v0 10 6) (fun x9 => ob (hI N6 v0 10 7) (fun x10 => ob (hR N6 v0 10 9) (fun x11 => ob (aI N6 x11 v1) (fun x12 => ob (sI N6 x9 x10 x12) (fun N13 => ob (hI N13 v0 10 7) (fun x14 => ob (pI N13 v0 10 7 (x14 + (1 : Int32))) (fun N15 => f_X10_ordersFixed_L7 v0 k60 n (v1 + 1) N15)))))))))))
set_option maxHeartbeats 4000000 in
set_option maxRecDepth 100000 in
theorem w_X10_ordersFixed_L7 {P : Unit × AH → Prop} (X : CX cX10_ordersFixed RX10 2 G aC t b0 p s m args c) (hr : RtV p l e rm_X10_ordersFixed s m args below meth c 0 0 Q cX10_ordersFixed G aC b0 P) (v0 : Nat) {k60 : AH → Option (Unit × AH)}
    (hk60 : ∀ (N : AH) (H : Heap) (locs : List Loc) (ls : Array Slot), Rp G aC b0 N H → va_S (fun q => b0 ≤ q) s.heap H locs → lv_has ls 2 [] → owp (k60 N) P → W p l e rm_X10_ordersFixed s m args below meth c H locs 0 0 Q (F0 m 60 ls [])) :
    ∀ (n : Nat) (v1 : Int32) (N : AH) (H : Heap) (locs : List Loc) (ls : Array Slot), Rp G aC b0 N H → va_S (fun q => b0 ≤ q) s.heap H locs → lv_has ls 2 [(0, .ref v0), (1, .int v1)] → owp (f_X10_ordersFixed_L7 v0 k60 n v1 N) P → W p l e rm_X10_ordersFixed s m args below meth c H locs 0 0 Q (F0 m 7 ls []) := by
  have hx := X.1.1
  have hb := X.1.2.1
  intro n
  induction n with
  | zero =>
    intro v1 N H locs ls hR hS hl hp
    exact (show False from hp).elim
  | succ n ih =>
    intro v1 N H locs ls hR hS hl hp
    rw [f_X10_ordersFixed_L7] at hp
    refine lv_iload_n hx hb dX10_ordersFixed_7 rfl (lv_at hl 1 rfl) ?_
    refine lv_aload_n hx hb dX10_ordersFixed_8 rfl (lv_at hl 0 rfl) ?_
    obtain ⟨x2, e_x2, hp⟩ := owp_ob hp
    refine gf_X10_104 X hR e_x2 dX10_ordersFixed_9 ?_
    refine lv_icmp_ge (tgt := 60) hx hb dX10_ordersFixed_12 (by decide) (fun k3 => ?_) (fun k3 => ?_)
    · have hp := owp_t k3 hp
      exact hk60 _ _ _ _ hR hS (lv_sub hl [] rfl) hp
    · have hp := owp_f k3 hp
      refine lv_aload_n hx hb dX10_ordersFixed_15 rfl (lv_at hl 0 rfl) ?_
      refine lv_aload_n hx hb dX10_ordersFixed_16 rfl (lv_at hl 0 rfl) ?_
      obtain ⟨x4, e_x4, hp⟩ := owp_ob hp
      refine gf_X10_25 X hR e_x4 dX10_ordersFixed_17 ?_
      refine lv_iload_n hx hb dX10_ordersFixed_20 rfl (lv_at hl 1 rfl) ?_
      obtain ⟨x5, e_x5, hp⟩ := owp_ob hp
      refine ab_iald X hR e_x5 dX10_ordersFixed_21 ?_
      obtain ⟨x7, N6, e_N6, hp⟩ := owp_ob2 hp
      refine iv_X10_stateOf (rest := []) mw_X10_107 X hR hS e_N6 hl.1 (Nat.le_of_ble_eq_true rfl) ⟨Nat.le_of_ble_eq_true rfl, Nat.le_of_ble_eq_true rfl⟩ ⟨Nat.le_of_ble_eq_true rfl, Nat.le_of_ble_eq_true rfl⟩ dX10_ordersFixed_22 (fun H locs hR hS => ?_)
      refine lv_iconst (v := (1)) hx hb dX10_ordersFixed_25 (by decide) ?_
      refine lv_icmp_ne (tgt := 54) hx hb dX10_ordersFixed_26 (by decide) (fun k8 => ?_) (fun k8 => ?_)
      · have hp := owp_t k8 hp
        refine lv_iinc (v := v1 + 1) (lv' := [(1, .int (v1 + 1)), (0, .ref v0)]) hx hb dX10_ordersFixed_54 hl (k := 1) rfl rfl (by decide) rfl (fun ls hl => ?_)
        refine lv_goto (tgt := 7) hx hb dX10_ordersFixed_57 (by decide) ?_
        exact ih _ _ _ _ _ hR hS (lv_sub hl [1, 0] rfl) hp
      · have hp := owp_f (fun q => q k8) hp
        refine lv_aload_n hx hb dX10_ordersFixed_29 rfl (lv_at hl 0 rfl) ?_
        obtain ⟨x9, e_x9, hp⟩ := owp_ob hp
        refine gf_X10_22 X hR e_x9 dX10_ordersFixed_30 ?_
        refine lv_aload_n hx hb dX10_ordersFixed_33 rfl (lv_at hl 0 rfl) ?_
        obtain ⟨x10, e_x10, hp⟩ := owp_ob hp
        refine gf_X10_101 X hR e_x10 dX10_ordersFixed_34 ?_
        refine lv_aload_n hx hb dX10_ordersFixed_37 rfl (lv_at hl 0 rfl) ?_
        obtain ⟨x11, e_x11, hp⟩ := owp_ob hp
        refine gf_X10_25 X hR e_x11 dX10_ordersFixed_38 ?_
        refine lv_iload_n hx hb dX10_ordersFixed_41 rfl (lv_at hl 1 rfl) ?_
        obtain ⟨x12, e_x12, hp⟩ := owp_ob hp
        refine ab_iald X hR e_x12 dX10_ordersFixed_42 ?_
        obtain ⟨N13, e_N13, hp⟩ := owp_ob hp
        refine ab_iast X hR hS e_N13 dX10_ordersFixed_43 (fun H locs hR hS => ?_)
        refine lv_aload_n hx hb dX10_ordersFixed_44 rfl (lv_at hl 0 rfl) ?_
        refine lv_dup hx hb dX10_ordersFixed_45 rfl ?_
        obtain ⟨x14, e_x14, hp⟩ := owp_ob hp
        refine gf_X10_101 X hR e_x14 dX10_ordersFixed_46 ?_
        refine lv_iconst (v := (1)) hx hb dX10_ordersFixed_49 (by decide) ?_
        refine lv_iadd hx hb dX10_ordersFixed_50 ?_
        obtain ⟨N15, e_N15, hp⟩ := owp_ob hp
        refine pf_X10_101 X hR hS e_N15 dX10_ordersFixed_51 (fun H locs hR hS => ?_)
        refine lv_iinc (v := v1 + 1) (lv' := [(1, .int (v1 + 1)), (0, .ref v0)]) hx hb dX10_ordersFixed_54 hl (k := 1) rfl rfl (by decide) rfl (fun ls hl => ?_)
        refine lv_goto (tgt := 7) hx hb dX10_ordersFixed_57 (by decide) ?_
        exact ih _ _ _ _ _ hR hS (lv_sub hl [1, 0] rfl) hp
def f_X10_ordersFixed (v0 : Nat) (N : AH) : Option (Unit × AH) := ob (iO N v0 10) (fun _ => ob (pI N v0 10 7 (0 : Int32)) (fun N1 => f_X10_ordersFixed_L7 v0 (fun N16 => some ((), N16)) FU (0 : Int32) N1))
set_option maxHeartbeats 4000000 in
set_option maxRecDepth 100000 in
theorem wk_X10_ordersFixed {P : Unit × AH → Prop} (X : CX cX10_ordersFixed RX10 2 G aC t b0 p s m args c) (hr : RtV p l e rm_X10_ordersFixed s m args below meth c 0 0 Q cX10_ordersFixed G aC b0 P) (v0 : Nat) (N : AH) (H : Heap) (locs : List Loc) (ls : Array Slot) (hR : Rp G aC b0 N H) (hS : va_S (fun q => b0 ≤ q) s.heap H locs) (hl : lv_has ls 2 [(0, .ref v0)]) (hp : owp (f_X10_ordersFixed v0 N) P) : W p l e rm_X10_ordersFixed s m args below meth c H locs 0 0 Q (F0 m 0 ls []) := by
  have hx := X.1.1
  have hb := X.1.2.1
  unfold f_X10_ordersFixed at hp
  obtain ⟨_, _, hp⟩ := owp_ob hp
  refine lv_aload_n hx hb dX10_ordersFixed_0 rfl (lv_at hl 0 rfl) ?_
  refine lv_iconst (v := (0)) hx hb dX10_ordersFixed_1 (by decide) ?_
  obtain ⟨N1, e_N1, hp⟩ := owp_ob hp
  refine pf_X10_101 X hR hS e_N1 dX10_ordersFixed_2 (fun H locs hR hS => ?_)
  refine lv_iconst (v := (0)) hx hb dX10_ordersFixed_5 (by decide) ?_
  refine lv_istore_n (lv' := [(1, .int (0 : Int32)), (0, .ref v0)]) hx hb dX10_ordersFixed_6 rfl hl (by decide) rfl (fun ls hl => ?_)
  refine w_X10_ordersFixed_L7 X hr _ (fun N16 H locs ls hR hS hl hp => ?_) _ _ _ _ _ _ hR hS (lv_sub hl [1, 0] rfl) hp
  exact hr _ _ _ _ _ hR hS dX10_ordersFixed_60 hp
end
theorem ct_X10_ordersFixed {v0 : Nat} {N N1 : AH} {r : Unit} (h : f_X10_ordersFixed v0 N = some (r, N1)) : Ct yX10_ordersFixed cX10_ordersFixed 2 none rm_X10_ordersFixed [.ref v0] N none N1 :=
  ab_met (own := RX10) (by decide +kernel) rfl (Nat.le_of_ble_eq_true rfl) (fun l G aC t b0 p e s m below meth c ls X hr hlk hnm hR hS hl => wk_X10_ordersFixed X (RtV_met X.1.1 X.1.2.1 hr hlk) _ _ _ _ _ hR hS hl (owp_of h))
theorem cw_X10_ordersFixed : Cond.code yX10_ordersFixed cX10_ordersFixed 2 none ∈ WT := WT_of 1163 (by decide +kernel) (by decide +kernel)
theorem iv_X10_ordersFixed {p : Program} {l : Launch} {e : Env} {R : Room} {s : State} {m : MethodId} {args : Array Value} {below : List Frame} {meth : Method} {c : Code} {H : Heap} {locs : List Loc} {cells slots : Nat} {Q : State → Prop} {cc : ByteArray} {own : String} {nL : Nat} {G : va_G} {aC : Nat → ClassId} {t b0 : Nat} {N N1 : AH} {pc index : Nat} {ls : Array Slot} {rest : List Value} {v0 : Nat} {r : Unit} (w1 : Cond.methodLink own index yX10_ordersFixed ∈ WT) (X : CX cc own nL G aC t b0 p s m args c) (hR : Rp G aC b0 N H) (hS : va_S (fun q => b0 ≤ q) s.heap H locs) (h : f_X10_ordersFixed v0 N = some (r, N1)) (hls : ls.size = nL) (hW : (rest.map fun v => v.category).sum ≤ 8) (hR1 : 3 ≤ R.frames ∧ 64 ≤ R.locals) (hcs : cells + 0 ≤ R.cells ∧ slots + 0 ≤ R.slots) (hdg : decode cc pc = .ok (.invokevirtual index, 3)) (kk : ∀ (H1 : Heap) (locs1 : List Loc), Rp G aC b0 N1 H1 → va_S (fun q => b0 ≤ q) s.heap H1 locs1 → W p l e R s m args below meth c H1 locs1 cells slots Q (F0 m (pc + 3) ls rest)) : W p l e R s m args below meth c H locs cells slots Q (F0 m pc ls (.ref v0 :: rest)) :=
  ab_callV (n := 0) (As := []) X hR hS (ct_X10_ordersFixed h) (ob_rc (c := 10) (N := N) (a := v0) h) (T := TX10) (k := 20) (C := RX10) rfl w1 (WT_of 1162 (by decide +kernel) (by decide +kernel)) (WT_of 55 (by decide +kernel) (by decide +kernel)) (WT_of 92 (by decide +kernel) (by decide +kernel)) cw_X10_ordersFixed ⟨rfl, by decide +kernel, by decide +kernel, by decide +kernel⟩ rfl hls hW hR1 hcs rfl hdg kk
-- X10_orders
theorem gf_X10_110 {p : Program} {l : Launch} {e : Env} {R : Room} {s : State} {m : MethodId} {args : Array Value} {below : List Frame} {meth : Method} {c : Code} {H : Heap} {locs : List Loc} {cells slots : Nat} {Q : State → Prop} {cc : ByteArray} {nL : Nat} {G : va_G} {aC : Nat → ClassId} {t b0 : Nat} {N : AH} {pc : Nat} {ls : Array Slot} {rest : List Value} {a : Nat} {v : Int32} (X : CX cc RX10 nL G aC t b0 p s m args c) (hR0 : Rp G aC b0 N H) (hv : hI N a 10 8 = some v) (hdg : decode cc pc = .ok (.getfield 110, 3)) (kk : W p l e R s m args below meth c H locs cells slots Q (F0 m (pc + 3) ls (.int v :: rest))) : W p l e R s m args below meth c H locs cells slots Q (F0 m pc ls (.ref a :: rest)) := by
  obtain ⟨fs, h1, h2⟩ := hI_ok hv
  exact ab_get (C := RX10) (T := TX10) (n := 20) X hR0 h1 h2 rfl inX10 (by decide) (WT_of 956 (by decide +kernel) (by decide +kernel)) hdg kk
theorem mw_X10_114 : Cond.methodLink RX10 114 yX10_ordersFixed ∈ WT := WT_of 1160 (by decide +kernel) (by decide +kernel)
theorem mw_X10_117 : Cond.methodLink RX10 117 yX10_keyOf ∈ WT := WT_of 1164 (by decide +kernel) (by decide +kernel)
theorem mw_X10_121 : Cond.methodLink RX10 121 yX10_isBefore ∈ WT := WT_of 1198 (by decide +kernel) (by decide +kernel)
theorem dX10_orders_0 : decode cX10_orders 0 = .ok (.aload_n 0, 1) := by decide +kernel
theorem dX10_orders_1 : decode cX10_orders 1 = .ok (.getfield 110, 3) := by decide +kernel
theorem dX10_orders_4 : decode cX10_orders 4 = .ok (.ifCond .eq 8, 3) := by decide +kernel
theorem dX10_orders_7 : decode cX10_orders 7 = .ok (.aload_n 0, 1) := by decide +kernel
theorem dX10_orders_8 : decode cX10_orders 8 = .ok (.invokevirtual 114, 3) := by decide +kernel
theorem dX10_orders_11 : decode cX10_orders 11 = .ok (.return_, 1) := by decide +kernel
theorem dX10_orders_12 : decode cX10_orders 12 = .ok (.aload_n 0, 1) := by decide +kernel
theorem dX10_orders_13 : decode cX10_orders 13 = .ok (.iconst 0, 1) := by decide +kernel
theorem dX10_orders_14 : decode cX10_orders 14 = .ok (.putfield 101, 3) := by decide +kernel
theorem dX10_orders_17 : decode cX10_orders 17 = .ok (.iconst 0, 1) := by decide +kernel
theorem dX10_orders_18 : decode cX10_orders 18 = .ok (.istore_n 1, 1) := by decide +kernel
theorem dX10_orders_19 : decode cX10_orders 19 = .ok (.iload_n 1, 1) := by decide +kernel
theorem dX10_orders_20 : decode cX10_orders 20 = .ok (.aload_n 0, 1) := by decide +kernel
theorem dX10_orders_21 : decode cX10_orders 21 = .ok (.getfield 7, 3) := by decide +kernel
theorem dX10_orders_24 : decode cX10_orders 24 = .ok (.bipush 6, 2) := by decide +kernel
theorem dX10_orders_26 : decode cX10_orders 26 = .ok (.iaload, 1) := by decide +kernel
theorem dX10_orders_27 : decode cX10_orders 27 = .ok (.if_icmp .ge 118, 3) := by decide +kernel
theorem dX10_orders_30 : decode cX10_orders 30 = .ok (.aload_n 0, 1) := by decide +kernel
theorem dX10_orders_31 : decode cX10_orders 31 = .ok (.iload_n 1, 1) := by decide +kernel
theorem dX10_orders_32 : decode cX10_orders 32 = .ok (.invokevirtual 107, 3) := by decide +kernel
theorem dX10_orders_35 : decode cX10_orders 35 = .ok (.iconst 1, 1) := by decide +kernel
theorem dX10_orders_36 : decode cX10_orders 36 = .ok (.if_icmp .ne 103, 3) := by decide +kernel
theorem dX10_orders_39 : decode cX10_orders 39 = .ok (.aload_n 0, 1) := by decide +kernel
theorem dX10_orders_40 : decode cX10_orders 40 = .ok (.getfield 28, 3) := by decide +kernel
theorem dX10_orders_43 : decode cX10_orders 43 = .ok (.iload_n 1, 1) := by decide +kernel
theorem dX10_orders_44 : decode cX10_orders 44 = .ok (.aload_n 0, 1) := by decide +kernel
theorem dX10_orders_45 : decode cX10_orders 45 = .ok (.iload_n 1, 1) := by decide +kernel
theorem dX10_orders_46 : decode cX10_orders 46 = .ok (.invokevirtual 117, 3) := by decide +kernel
theorem dX10_orders_49 : decode cX10_orders 49 = .ok (.lastore, 1) := by decide +kernel
theorem dX10_orders_50 : decode cX10_orders 50 = .ok (.aload_n 0, 1) := by decide +kernel
theorem dX10_orders_51 : decode cX10_orders 51 = .ok (.getfield 32, 3) := by decide +kernel
theorem dX10_orders_54 : decode cX10_orders 54 = .ok (.iload_n 1, 1) := by decide +kernel
theorem dX10_orders_55 : decode cX10_orders 55 = .ok (.aload_n 0, 1) := by decide +kernel
theorem dX10_orders_56 : decode cX10_orders 56 = .ok (.getfield 7, 3) := by decide +kernel
theorem dX10_orders_59 : decode cX10_orders 59 = .ok (.iconst 1, 1) := by decide +kernel
theorem dX10_orders_60 : decode cX10_orders 60 = .ok (.iaload, 1) := by decide +kernel
theorem dX10_orders_61 : decode cX10_orders 61 = .ok (.iconst 4, 1) := by decide +kernel
theorem dX10_orders_62 : decode cX10_orders 62 = .ok (.if_icmp .ne 13, 3) := by decide +kernel
theorem dX10_orders_65 : decode cX10_orders 65 = .ok (.aload_n 0, 1) := by decide +kernel
theorem dX10_orders_66 : decode cX10_orders 66 = .ok (.iload_n 1, 1) := by decide +kernel
theorem dX10_orders_67 : decode cX10_orders 67 = .ok (.iconst 0, 1) := by decide +kernel
theorem dX10_orders_68 : decode cX10_orders 68 = .ok (.invokevirtual 52, 3) := by decide +kernel
theorem dX10_orders_71 : decode cX10_orders 71 = .ok (.i2l, 1) := by decide +kernel
theorem dX10_orders_72 : decode cX10_orders 72 = .ok (.goto 4, 3) := by decide +kernel
theorem dX10_orders_75 : decode cX10_orders 75 = .ok (.lconst 0, 1) := by decide +kernel
theorem dX10_orders_76 : decode cX10_orders 76 = .ok (.lastore, 1) := by decide +kernel
theorem dX10_orders_77 : decode cX10_orders 77 = .ok (.aload_n 0, 1) := by decide +kernel
theorem dX10_orders_78 : decode cX10_orders 78 = .ok (.getfield 101, 3) := by decide +kernel
theorem dX10_orders_81 : decode cX10_orders 81 = .ok (.istore_n 2, 1) := by decide +kernel
theorem dX10_orders_82 : decode cX10_orders 82 = .ok (.iload_n 2, 1) := by decide +kernel
theorem dX10_orders_83 : decode cX10_orders 83 = .ok (.ifCond .le 39, 3) := by decide +kernel
theorem dX10_orders_86 : decode cX10_orders 86 = .ok (.aload_n 0, 1) := by decide +kernel
theorem dX10_orders_87 : decode cX10_orders 87 = .ok (.aload_n 0, 1) := by decide +kernel
theorem dX10_orders_88 : decode cX10_orders 88 = .ok (.getfield 22, 3) := by decide +kernel
theorem dX10_orders_91 : decode cX10_orders 91 = .ok (.iload_n 2, 1) := by decide +kernel
theorem dX10_orders_92 : decode cX10_orders 92 = .ok (.iconst 1, 1) := by decide +kernel
theorem dX10_orders_93 : decode cX10_orders 93 = .ok (.isub, 1) := by decide +kernel
theorem dX10_orders_94 : decode cX10_orders 94 = .ok (.iaload, 1) := by decide +kernel
theorem dX10_orders_95 : decode cX10_orders 95 = .ok (.iload_n 1, 1) := by decide +kernel
theorem dX10_orders_96 : decode cX10_orders 96 = .ok (.invokevirtual 121, 3) := by decide +kernel
theorem dX10_orders_99 : decode cX10_orders 99 = .ok (.ifCond .ne 23, 3) := by decide +kernel
theorem dX10_orders_102 : decode cX10_orders 102 = .ok (.aload_n 0, 1) := by decide +kernel
theorem dX10_orders_103 : decode cX10_orders 103 = .ok (.getfield 22, 3) := by decide +kernel
theorem dX10_orders_106 : decode cX10_orders 106 = .ok (.iload_n 2, 1) := by decide +kernel
theorem dX10_orders_107 : decode cX10_orders 107 = .ok (.aload_n 0, 1) := by decide +kernel
theorem dX10_orders_108 : decode cX10_orders 108 = .ok (.getfield 22, 3) := by decide +kernel
theorem dX10_orders_111 : decode cX10_orders 111 = .ok (.iload_n 2, 1) := by decide +kernel
theorem dX10_orders_112 : decode cX10_orders 112 = .ok (.iconst 1, 1) := by decide +kernel
theorem dX10_orders_113 : decode cX10_orders 113 = .ok (.isub, 1) := by decide +kernel
theorem dX10_orders_114 : decode cX10_orders 114 = .ok (.iaload, 1) := by decide +kernel
theorem dX10_orders_115 : decode cX10_orders 115 = .ok (.iastore, 1) := by decide +kernel
theorem dX10_orders_116 : decode cX10_orders 116 = .ok (.iinc 2 (-1), 3) := by decide +kernel
theorem dX10_orders_119 : decode cX10_orders 119 = .ok (.goto (-37), 3) := by decide +kernel
theorem dX10_orders_122 : decode cX10_orders 122 = .ok (.aload_n 0, 1) := by decide +kernel
theorem dX10_orders_123 : decode cX10_orders 123 = .ok (.getfield 22, 3) := by decide +kernel
theorem dX10_orders_126 : decode cX10_orders 126 = .ok (.iload_n 2, 1) := by decide +kernel
theorem dX10_orders_127 : decode cX10_orders 127 = .ok (.iload_n 1, 1) := by decide +kernel
theorem dX10_orders_128 : decode cX10_orders 128 = .ok (.iastore, 1) := by decide +kernel
theorem dX10_orders_129 : decode cX10_orders 129 = .ok (.aload_n 0, 1) := by decide +kernel
theorem dX10_orders_130 : decode cX10_orders 130 = .ok (.dup, 1) := by decide +kernel
theorem dX10_orders_131 : decode cX10_orders 131 = .ok (.getfield 101, 3) := by decide +kernel
theorem dX10_orders_134 : decode cX10_orders 134 = .ok (.iconst 1, 1) := by decide +kernel
theorem dX10_orders_135 : decode cX10_orders 135 = .ok (.iadd, 1) := by decide +kernel
theorem dX10_orders_136 : decode cX10_orders 136 = .ok (.putfield 101, 3) := by decide +kernel
theorem dX10_orders_139 : decode cX10_orders 139 = .ok (.iinc 1 1, 3) := by decide +kernel
theorem dX10_orders_142 : decode cX10_orders 142 = .ok (.goto (-123), 3) := by decide +kernel
theorem dX10_orders_145 : decode cX10_orders 145 = .ok (.return_, 1) := by decide +kernel
def rm_X10_orders : Room := { frames := 6, cells := 0, slots := 0, locals := 137 }
section
variable {p : Program} {l : Launch} {e : Env} {s : State} {m : MethodId} {args : Array Value} {below : List Frame} {meth : Method} {c : Code} {Q : State → Prop} {G : va_G} {aC : Nat → ClassId} {t b0 : Nat}
def f_X10_orders_L82 (v0 : Nat) (v1 : Int32) (k122 : Int32 → AH → Option (Unit × AH)) : Nat → Int32 → AH → Option (Unit × AH)
  | 0, _, _ => none
  | n + 1, v2, N => if v2 ≤ 0 then k122 v2 N else ob (hR N v0 10 6) (fun x21 => ob (aI N x21 (v2 - (1 : Int32))) (fun x22 => ob2 (f_X10_isBefore v0 x22 v1 N) (fun x24 N23 => if ¬ x24 = 0 then k122 v2 N23 else ob (hR N23 v0 10 6) (fun x26 => ob (hR N23 v0 10 6) (fun x27 => ob (aI N23 x27 (v2 - (1 : Int32))) (fun x28 => ob (sI N23 x26 v2 x28) (fun N29 => f_X10_orders_L82 v0 v1 k122 n (v2 + (-1 : Int32)) N29)))))))
set_option maxHeartbeats 4000000 in
set_option maxRecDepth 100000 in
theorem w_X10_orders_L82 {P : Unit × AH → Prop} (X : CX cX10_orders RX10 3 G aC t b0 p s m args c) (hr : RtV p l e rm_X10_orders s m args below meth c 0 0 Q cX10_orders G aC b0 P) (v0 : Nat) (v1 : Int32) {k122 : Int32 → AH → Option (Unit × AH)}
    (hk122 : ∀ (v2 : Int32) (N : AH) (H : Heap) (locs : List Loc) (ls : Array Slot), Rp G aC b0 N H → va_S (fun q => b0 ≤ q) s.heap H locs → lv_has ls 3 [(0, .ref v0), (1, .int v1), (2, .int v2)] → owp (k122 v2 N) P → W p l e rm_X10_orders s m args below meth c H locs 0 0 Q (F0 m 122 ls [])) :
    ∀ (n : Nat) (v2 : Int32) (N : AH) (H : Heap) (locs : List Loc) (ls : Array Slot), Rp G aC b0 N H → va_S (fun q => b0 ≤ q) s.heap H locs → lv_has ls 3 [(0, .ref v0), (1, .int v1), (2, .int v2)] → owp (f_X10_orders_L82 v0 v1 k122 n v2 N) P → W p l e rm_X10_orders s m args below meth c H locs 0 0 Q (F0 m 82 ls []) := by
  have hx := X.1.1
  have hb := X.1.2.1
  intro n
  induction n with
  | zero =>
    intro v2 N H locs ls hR hS hl hp
    exact (show False from hp).elim
  | succ n ih =>
    intro v2 N H locs ls hR hS hl hp
    rw [f_X10_orders_L82] at hp
    refine lv_iload_n hx hb dX10_orders_82 rfl (lv_at hl 2 rfl) ?_
    refine lv_if_le (tgt := 122) hx hb dX10_orders_83 (by decide) (fun k20 => ?_) (fun k20 => ?_)
    · have hp := owp_t k20 hp
      exact hk122 _ _ _ _ _ hR hS hl hp
    · have hp := owp_f k20 hp
      refine lv_aload_n hx hb dX10_orders_86 rfl (lv_at hl 0 rfl) ?_
      refine lv_aload_n hx hb dX10_orders_87 rfl (lv_at hl 0 rfl) ?_
      obtain ⟨x21, e_x21, hp⟩ := owp_ob hp
      refine gf_X10_22 X hR e_x21 dX10_orders_88 ?_
      refine lv_iload_n hx hb dX10_orders_91 rfl (lv_at hl 2 rfl) ?_
      refine lv_iconst (v := (1)) hx hb dX10_orders_92 (by decide) ?_
      refine lv_isub hx hb dX10_orders_93 ?_
      obtain ⟨x22, e_x22, hp⟩ := owp_ob hp
      refine ab_iald X hR e_x22 dX10_orders_94 ?_
      refine lv_iload_n hx hb dX10_orders_95 rfl (lv_at hl 1 rfl) ?_
      obtain ⟨x24, N23, e_N23, hp⟩ := owp_ob2 hp
      refine iv_X10_isBefore (rest := []) mw_X10_121 X hR hS e_N23 hl.1 (Nat.le_of_ble_eq_true rfl) ⟨Nat.le_of_ble_eq_true rfl, Nat.le_of_ble_eq_true rfl⟩ ⟨Nat.le_of_ble_eq_true rfl, Nat.le_of_ble_eq_true rfl⟩ dX10_orders_96 (fun H locs hR hS => ?_)
      refine lv_if_ne (tgt := 122) hx hb dX10_orders_99 (by decide) (fun k25 => ?_) (fun k25 => ?_)
      · have hp := owp_t k25 hp
        exact hk122 _ _ _ _ _ hR hS hl hp
      · have hp := owp_f (fun q => q k25) hp
        refine lv_aload_n hx hb dX10_orders_102 rfl (lv_at hl 0 rfl) ?_
        obtain ⟨x26, e_x26, hp⟩ := owp_ob hp
        refine gf_X10_22 X hR e_x26 dX10_orders_103 ?_
        refine lv_iload_n hx hb dX10_orders_106 rfl (lv_at hl 2 rfl) ?_
        refine lv_aload_n hx hb dX10_orders_107 rfl (lv_at hl 0 rfl) ?_
        obtain ⟨x27, e_x27, hp⟩ := owp_ob hp
        refine gf_X10_22 X hR e_x27 dX10_orders_108 ?_
        refine lv_iload_n hx hb dX10_orders_111 rfl (lv_at hl 2 rfl) ?_
        refine lv_iconst (v := (1)) hx hb dX10_orders_112 (by decide) ?_
        refine lv_isub hx hb dX10_orders_113 ?_
        obtain ⟨x28, e_x28, hp⟩ := owp_ob hp
        refine ab_iald X hR e_x28 dX10_orders_114 ?_
        obtain ⟨N29, e_N29, hp⟩ := owp_ob hp
        refine ab_iast X hR hS e_N29 dX10_orders_115 (fun H locs hR hS => ?_)
        refine lv_iinc (v := v2 + (-1 : Int32)) (lv' := [(2, .int (v2 + (-1 : Int32))), (0, .ref v0), (1, .int v1)]) hx hb dX10_orders_116 hl (k := 2) rfl rfl (by decide) rfl (fun ls hl => ?_)
        refine lv_goto (tgt := 82) hx hb dX10_orders_119 (by decide) ?_
        exact ih _ _ _ _ _ hR hS (lv_sub hl [1, 2, 0] rfl) hp
def f_X10_orders_J122 (k19 : Int32 → AH → Option (Unit × AH)) (v0 : Nat) (v1 : Int32) (v2 : Int32) (N : AH) : Option (Unit × AH) := ob (hR N v0 10 6) (fun x32 => ob (sI N x32 v2 v1) (fun N33 => ob (hI N33 v0 10 7) (fun x34 => ob (pI N33 v0 10 7 (x34 + (1 : Int32))) (fun N35 => k19 (v1 + 1) N35))))
set_option maxHeartbeats 4000000 in
set_option maxRecDepth 100000 in
theorem w_X10_orders_J122 {P : Unit × AH → Prop} (X : CX cX10_orders RX10 3 G aC t b0 p s m args c) (hr : RtV p l e rm_X10_orders s m args below meth c 0 0 Q cX10_orders G aC b0 P) (v0 : Nat) (v1 : Int32) (v2 : Int32) {k19 : Int32 → AH → Option (Unit × AH)}
    (hk19 : ∀ (v1 : Int32) (N : AH) (H : Heap) (locs : List Loc) (ls : Array Slot), Rp G aC b0 N H → va_S (fun q => b0 ≤ q) s.heap H locs → lv_has ls 3 [(0, .ref v0), (1, .int v1)] → owp (k19 v1 N) P → W p l e rm_X10_orders s m args below meth c H locs 0 0 Q (F0 m 19 ls [])) (N : AH) (H : Heap) (locs : List Loc) (ls : Array Slot) (hR : Rp G aC b0 N H) (hS : va_S (fun q => b0 ≤ q) s.heap H locs) (hl : lv_has ls 3 [(0, .ref v0), (1, .int v1), (2, .int v2)]) (hp : owp (f_X10_orders_J122 k19 v0 v1 v2 N) P) : W p l e rm_X10_orders s m args below meth c H locs 0 0 Q (F0 m 122 ls []) := by
  have hx := X.1.1
  have hb := X.1.2.1
  unfold f_X10_orders_J122 at hp
  refine lv_aload_n hx hb dX10_orders_122 rfl (lv_at hl 0 rfl) ?_
  obtain ⟨x32, e_x32, hp⟩ := owp_ob hp
  refine gf_X10_22 X hR e_x32 dX10_orders_123 ?_
  refine lv_iload_n hx hb dX10_orders_126 rfl (lv_at hl 2 rfl) ?_
  refine lv_iload_n hx hb dX10_orders_127 rfl (lv_at hl 1 rfl) ?_
  obtain ⟨N33, e_N33, hp⟩ := owp_ob hp
  refine ab_iast X hR hS e_N33 dX10_orders_128 (fun H locs hR hS => ?_)
  refine lv_aload_n hx hb dX10_orders_129 rfl (lv_at hl 0 rfl) ?_
  refine lv_dup hx hb dX10_orders_130 rfl ?_
  obtain ⟨x34, e_x34, hp⟩ := owp_ob hp
  refine gf_X10_101 X hR e_x34 dX10_orders_131 ?_
  refine lv_iconst (v := (1)) hx hb dX10_orders_134 (by decide) ?_
  refine lv_iadd hx hb dX10_orders_135 ?_
  obtain ⟨N35, e_N35, hp⟩ := owp_ob hp
  refine pf_X10_101 X hR hS e_N35 dX10_orders_136 (fun H locs hR hS => ?_)
  refine lv_iinc (v := v1 + 1) (lv' := [(1, .int (v1 + 1)), (0, .ref v0), (2, .int v2)]) hx hb dX10_orders_139 hl (k := 1) rfl rfl (by decide) rfl (fun ls hl => ?_)
  refine lv_goto (tgt := 19) hx hb dX10_orders_142 (by decide) ?_
  exact hk19 _ _ _ _ _ hR hS (lv_sub hl [1, 0] rfl) hp
def f_X10_orders_L19 (v0 : Nat) (k145 : AH → Option (Unit × AH)) : Nat → Int32 → AH → Option (Unit × AH)
  | 0, _, _ => none
  | n + 1, v1, N => ob (hR N v0 10 0) (fun x4 => ob (aI N x4 (6 : Int32)) (fun x5 => if x5 ≤ v1 then k145 N else ob2 (f_X10_stateOf v0 v1 N) (fun x8 N7 => if ¬ x8 = (1 : Int32) then f_X10_orders_L19 v0 k145 n (v1 + 1) N7 else ob (hR N7 v0 10 11) (fun x10 => ob2 (f_X10_keyOf v0 v1 N7) (fun x12 N11 => ob (sJ N11 x10 v1 x12) (fun N13 => ob (hR N13 v0 10 12) (fun x14 => ob (hR N13 v0 10 0) (fun x15 => ob (aI N13 x15 (1 : Int32)) (fun x16 => if ¬ x16 = (4 : Int32) then ob (sJ N13 x14 v1 (0 : Int64)) (fun N18 => ob (hI N18 v0 10 7) (fun x19 => f_X10_orders_L82 v0 v1 (fun v30 N31 => f_X10_orders_J122 (f_X10_orders_L19 v0 k145 n) v0 v1 v30 N31) FU x19 N18)) else ob2 (f_X10_of v0 v1 (0 : Int32) N13) (fun x37 N36 => ob (sJ N36 x14 v1 (Int32.toInt64 x37)) (fun N38 => ob (hI N38 v0 10 7) (fun x39 => f_X10_orders_L82 v0 v1 (fun v40 N41 => f_X10_orders_J122 (f_X10_orders_L19 v0 k145 n) v0 v1 v40 N41) FU x39 N38))))))))))))
set_option maxHeartbeats 4000000 in
set_option maxRecDepth 100000 in
theorem w_X10_orders_L19 {P : Unit × AH → Prop} (X : CX cX10_orders RX10 3 G aC t b0 p s m args c) (hr : RtV p l e rm_X10_orders s m args below meth c 0 0 Q cX10_orders G aC b0 P) (v0 : Nat) {k145 : AH → Option (Unit × AH)}
    (hk145 : ∀ (N : AH) (H : Heap) (locs : List Loc) (ls : Array Slot), Rp G aC b0 N H → va_S (fun q => b0 ≤ q) s.heap H locs → lv_has ls 3 [] → owp (k145 N) P → W p l e rm_X10_orders s m args below meth c H locs 0 0 Q (F0 m 145 ls [])) :
    ∀ (n : Nat) (v1 : Int32) (N : AH) (H : Heap) (locs : List Loc) (ls : Array Slot), Rp G aC b0 N H → va_S (fun q => b0 ≤ q) s.heap H locs → lv_has ls 3 [(0, .ref v0), (1, .int v1)] → owp (f_X10_orders_L19 v0 k145 n v1 N) P → W p l e rm_X10_orders s m args below meth c H locs 0 0 Q (F0 m 19 ls []) := by
  have hx := X.1.1
  have hb := X.1.2.1
  intro n
  induction n with
  | zero =>
    intro v1 N H locs ls hR hS hl hp
    exact (show False from hp).elim
  | succ n ih =>
    intro v1 N H locs ls hR hS hl hp
    rw [f_X10_orders_L19] at hp
    refine lv_iload_n hx hb dX10_orders_19 rfl (lv_at hl 1 rfl) ?_
    refine lv_aload_n hx hb dX10_orders_20 rfl (lv_at hl 0 rfl) ?_
    obtain ⟨x4, e_x4, hp⟩ := owp_ob hp
    refine gf_X10_7 X hR e_x4 dX10_orders_21 ?_
    refine lv_bipush (v := (6)) hx hb dX10_orders_24 (by decide) ?_
    obtain ⟨x5, e_x5, hp⟩ := owp_ob hp
    refine ab_iald X hR e_x5 dX10_orders_26 ?_
    refine lv_icmp_ge (tgt := 145) hx hb dX10_orders_27 (by decide) (fun k6 => ?_) (fun k6 => ?_)
    · have hp := owp_t k6 hp
      exact hk145 _ _ _ _ hR hS (lv_sub hl [] rfl) hp
    · have hp := owp_f k6 hp
      refine lv_aload_n hx hb dX10_orders_30 rfl (lv_at hl 0 rfl) ?_
      refine lv_iload_n hx hb dX10_orders_31 rfl (lv_at hl 1 rfl) ?_
      obtain ⟨x8, N7, e_N7, hp⟩ := owp_ob2 hp
      refine iv_X10_stateOf (rest := []) mw_X10_107 X hR hS e_N7 hl.1 (Nat.le_of_ble_eq_true rfl) ⟨Nat.le_of_ble_eq_true rfl, Nat.le_of_ble_eq_true rfl⟩ ⟨Nat.le_of_ble_eq_true rfl, Nat.le_of_ble_eq_true rfl⟩ dX10_orders_32 (fun H locs hR hS => ?_)
      refine lv_iconst (v := (1)) hx hb dX10_orders_35 (by decide) ?_
      refine lv_icmp_ne (tgt := 139) hx hb dX10_orders_36 (by decide) (fun k9 => ?_) (fun k9 => ?_)
      · have hp := owp_t k9 hp
        refine lv_iinc (v := v1 + 1) (lv' := [(1, .int (v1 + 1)), (0, .ref v0)]) hx hb dX10_orders_139 hl (k := 1) rfl rfl (by decide) rfl (fun ls hl => ?_)
        refine lv_goto (tgt := 19) hx hb dX10_orders_142 (by decide) ?_
        exact ih _ _ _ _ _ hR hS (lv_sub hl [1, 0] rfl) hp
      · have hp := owp_f (fun q => q k9) hp
        refine lv_aload_n hx hb dX10_orders_39 rfl (lv_at hl 0 rfl) ?_
        obtain ⟨x10, e_x10, hp⟩ := owp_ob hp
        refine gf_X10_28 X hR e_x10 dX10_orders_40 ?_
        refine lv_iload_n hx hb dX10_orders_43 rfl (lv_at hl 1 rfl) ?_
        refine lv_aload_n hx hb dX10_orders_44 rfl (lv_at hl 0 rfl) ?_
        refine lv_iload_n hx hb dX10_orders_45 rfl (lv_at hl 1 rfl) ?_
        obtain ⟨x12, N11, e_N11, hp⟩ := owp_ob2 hp
        refine iv_X10_keyOf (rest := [.int v1, .ref x10]) mw_X10_117 X hR hS e_N11 hl.1 (Nat.le_of_ble_eq_true rfl) ⟨Nat.le_of_ble_eq_true rfl, Nat.le_of_ble_eq_true rfl⟩ ⟨Nat.le_of_ble_eq_true rfl, Nat.le_of_ble_eq_true rfl⟩ dX10_orders_46 (fun H locs hR hS => ?_)
        obtain ⟨N13, e_N13, hp⟩ := owp_ob hp
        refine ab_last X hR hS e_N13 dX10_orders_49 (fun H locs hR hS => ?_)
        refine lv_aload_n hx hb dX10_orders_50 rfl (lv_at hl 0 rfl) ?_
        obtain ⟨x14, e_x14, hp⟩ := owp_ob hp
        refine gf_X10_32 X hR e_x14 dX10_orders_51 ?_
        refine lv_iload_n hx hb dX10_orders_54 rfl (lv_at hl 1 rfl) ?_
        refine lv_aload_n hx hb dX10_orders_55 rfl (lv_at hl 0 rfl) ?_
        obtain ⟨x15, e_x15, hp⟩ := owp_ob hp
        refine gf_X10_7 X hR e_x15 dX10_orders_56 ?_
        refine lv_iconst (v := (1)) hx hb dX10_orders_59 (by decide) ?_
        obtain ⟨x16, e_x16, hp⟩ := owp_ob hp
        refine ab_iald X hR e_x16 dX10_orders_60 ?_
        refine lv_iconst (v := (4)) hx hb dX10_orders_61 (by decide) ?_
        refine lv_icmp_ne (tgt := 75) hx hb dX10_orders_62 (by decide) (fun k17 => ?_) (fun k17 => ?_)
        · have hp := owp_t k17 hp
          refine lv_lconst (v := 0) hx hb dX10_orders_75 (by decide) ?_
          obtain ⟨N18, e_N18, hp⟩ := owp_ob hp
          refine ab_last X hR hS e_N18 dX10_orders_76 (fun H locs hR hS => ?_)
          refine lv_aload_n hx hb dX10_orders_77 rfl (lv_at hl 0 rfl) ?_
          obtain ⟨x19, e_x19, hp⟩ := owp_ob hp
          refine gf_X10_101 X hR e_x19 dX10_orders_78 ?_
          refine lv_istore_n (lv' := [(2, .int x19), (0, .ref v0), (1, .int v1)]) hx hb dX10_orders_81 rfl hl (by decide) rfl (fun ls hl => ?_)
          refine w_X10_orders_L82 X hr _ _ (fun v30 N31 H locs ls hR hS hl hp => ?_) _ _ _ _ _ _ hR hS (lv_sub hl [1, 2, 0] rfl) hp
          exact w_X10_orders_J122 X hr _ _ _ ih _ _ _ _ hR hS hl hp
        · have hp := owp_f (fun q => q k17) hp
          refine lv_aload_n hx hb dX10_orders_65 rfl (lv_at hl 0 rfl) ?_
          refine lv_iload_n hx hb dX10_orders_66 rfl (lv_at hl 1 rfl) ?_
          refine lv_iconst (v := (0)) hx hb dX10_orders_67 (by decide) ?_
          obtain ⟨x37, N36, e_N36, hp⟩ := owp_ob2 hp
          refine iv_X10_of (rest := [.int v1, .ref x14]) mw_X10_52 X hR hS e_N36 hl.1 (Nat.le_of_ble_eq_true rfl) ⟨Nat.le_of_ble_eq_true rfl, Nat.le_of_ble_eq_true rfl⟩ ⟨Nat.le_of_ble_eq_true rfl, Nat.le_of_ble_eq_true rfl⟩ dX10_orders_68 (fun H locs hR hS => ?_)
          refine lv_i2l (v := Int32.toInt64 x37) hx hb dX10_orders_71 rfl ?_
          refine lv_goto (tgt := 76) hx hb dX10_orders_72 (by decide) ?_
          obtain ⟨N38, e_N38, hp⟩ := owp_ob hp
          refine ab_last X hR hS e_N38 dX10_orders_76 (fun H locs hR hS => ?_)
          refine lv_aload_n hx hb dX10_orders_77 rfl (lv_at hl 0 rfl) ?_
          obtain ⟨x39, e_x39, hp⟩ := owp_ob hp
          refine gf_X10_101 X hR e_x39 dX10_orders_78 ?_
          refine lv_istore_n (lv' := [(2, .int x39), (0, .ref v0), (1, .int v1)]) hx hb dX10_orders_81 rfl hl (by decide) rfl (fun ls hl => ?_)
          refine w_X10_orders_L82 X hr _ _ (fun v40 N41 H locs ls hR hS hl hp => ?_) _ _ _ _ _ _ hR hS (lv_sub hl [1, 2, 0] rfl) hp
          exact w_X10_orders_J122 X hr _ _ _ ih _ _ _ _ hR hS hl hp
def f_X10_orders (v0 : Nat) (N : AH) : Option (Unit × AH) := ob (iO N v0 10) (fun _ => ob (hI N v0 10 8) (fun x1 => if x1 = 0 then ob (pI N v0 10 7 (0 : Int32)) (fun N3 => f_X10_orders_L19 v0 (fun N42 => some ((), N42)) FU (0 : Int32) N3) else ob2 (f_X10_ordersFixed v0 N) (fun _ N43 => some ((), N43))))
set_option maxHeartbeats 4000000 in
set_option maxRecDepth 100000 in
theorem wk_X10_orders {P : Unit × AH → Prop} (X : CX cX10_orders RX10 3 G aC t b0 p s m args c) (hr : RtV p l e rm_X10_orders s m args below meth c 0 0 Q cX10_orders G aC b0 P) (v0 : Nat) (N : AH) (H : Heap) (locs : List Loc) (ls : Array Slot) (hR : Rp G aC b0 N H) (hS : va_S (fun q => b0 ≤ q) s.heap H locs) (hl : lv_has ls 3 [(0, .ref v0)]) (hp : owp (f_X10_orders v0 N) P) : W p l e rm_X10_orders s m args below meth c H locs 0 0 Q (F0 m 0 ls []) := by
  have hx := X.1.1
  have hb := X.1.2.1
  unfold f_X10_orders at hp
  obtain ⟨_, _, hp⟩ := owp_ob hp
  refine lv_aload_n hx hb dX10_orders_0 rfl (lv_at hl 0 rfl) ?_
  obtain ⟨x1, e_x1, hp⟩ := owp_ob hp
  refine gf_X10_110 X hR e_x1 dX10_orders_1 ?_
  refine lv_if_eq (tgt := 12) hx hb dX10_orders_4 (by decide) (fun k2 => ?_) (fun k2 => ?_)
  · have hp := owp_t k2 hp
    refine lv_aload_n hx hb dX10_orders_12 rfl (lv_at hl 0 rfl) ?_
    refine lv_iconst (v := (0)) hx hb dX10_orders_13 (by decide) ?_
    obtain ⟨N3, e_N3, hp⟩ := owp_ob hp
    refine pf_X10_101 X hR hS e_N3 dX10_orders_14 (fun H locs hR hS => ?_)
    refine lv_iconst (v := (0)) hx hb dX10_orders_17 (by decide) ?_
    refine lv_istore_n (lv' := [(1, .int (0 : Int32)), (0, .ref v0)]) hx hb dX10_orders_18 rfl hl (by decide) rfl (fun ls hl => ?_)
    refine w_X10_orders_L19 X hr _ (fun N42 H locs ls hR hS hl hp => ?_) _ _ _ _ _ _ hR hS (lv_sub hl [1, 0] rfl) hp
    exact hr _ _ _ _ _ hR hS dX10_orders_145 hp
  · have hp := owp_f k2 hp
    refine lv_aload_n hx hb dX10_orders_7 rfl (lv_at hl 0 rfl) ?_
    obtain ⟨_, N43, e_N43, hp⟩ := owp_ob2 hp
    refine iv_X10_ordersFixed (rest := []) mw_X10_114 X hR hS e_N43 hl.1 (Nat.le_of_ble_eq_true rfl) ⟨Nat.le_of_ble_eq_true rfl, Nat.le_of_ble_eq_true rfl⟩ ⟨Nat.le_of_ble_eq_true rfl, Nat.le_of_ble_eq_true rfl⟩ dX10_orders_8 (fun H locs hR hS => ?_)
    exact hr _ _ _ _ _ hR hS dX10_orders_11 hp
end
theorem ct_X10_orders {v0 : Nat} {N N1 : AH} {r : Unit} (h : f_X10_orders v0 N = some (r, N1)) : Ct yX10_orders cX10_orders 3 none rm_X10_orders [.ref v0] N none N1 :=
  ab_met (own := RX10) (by decide +kernel) rfl (Nat.le_of_ble_eq_true rfl) (fun l G aC t b0 p e s m below meth c ls X hr hlk hnm hR hS hl => wk_X10_orders X (RtV_met X.1.1 X.1.2.1 hr hlk) _ _ _ _ _ hR hS hl (owp_of h))
theorem cw_X10_orders : Cond.code yX10_orders cX10_orders 3 none ∈ WT := WT_of 1159 (by decide +kernel) (by decide +kernel)
theorem iv_X10_orders {p : Program} {l : Launch} {e : Env} {R : Room} {s : State} {m : MethodId} {args : Array Value} {below : List Frame} {meth : Method} {c : Code} {H : Heap} {locs : List Loc} {cells slots : Nat} {Q : State → Prop} {cc : ByteArray} {own : String} {nL : Nat} {G : va_G} {aC : Nat → ClassId} {t b0 : Nat} {N N1 : AH} {pc index : Nat} {ls : Array Slot} {rest : List Value} {v0 : Nat} {r : Unit} (w1 : Cond.methodLink own index yX10_orders ∈ WT) (X : CX cc own nL G aC t b0 p s m args c) (hR : Rp G aC b0 N H) (hS : va_S (fun q => b0 ≤ q) s.heap H locs) (h : f_X10_orders v0 N = some (r, N1)) (hls : ls.size = nL) (hW : (rest.map fun v => v.category).sum ≤ 8) (hR1 : 7 ≤ R.frames ∧ 159 ≤ R.locals) (hcs : cells + 0 ≤ R.cells ∧ slots + 0 ≤ R.slots) (hdg : decode cc pc = .ok (.invokevirtual index, 3)) (kk : ∀ (H1 : Heap) (locs1 : List Loc), Rp G aC b0 N1 H1 → va_S (fun q => b0 ≤ q) s.heap H1 locs1 → W p l e R s m args below meth c H1 locs1 cells slots Q (F0 m (pc + 3) ls rest)) : W p l e R s m args below meth c H locs cells slots Q (F0 m pc ls (.ref v0 :: rest)) :=
  ab_callV (n := 0) (As := []) X hR hS (ct_X10_orders h) (ob_rc (c := 10) (N := N) (a := v0) h) (T := TX10) (k := 20) (C := RX10) rfl w1 (WT_of 1158 (by decide +kernel) (by decide +kernel)) (WT_of 54 (by decide +kernel) (by decide +kernel)) (WT_of 92 (by decide +kernel) (by decide +kernel)) cw_X10_orders ⟨rfl, by decide +kernel, by decide +kernel, by decide +kernel⟩ rfl hls hW hR1 hcs rfl hdg kk
-- X10_gives
theorem gf_X10_35 {p : Program} {l : Launch} {e : Env} {R : Room} {s : State} {m : MethodId} {args : Array Value} {below : List Frame} {meth : Method} {c : Code} {H : Heap} {locs : List Loc} {cells slots : Nat} {Q : State → Prop} {cc : ByteArray} {nL : Nat} {G : va_G} {aC : Nat → ClassId} {t b0 : Nat} {N : AH} {pc : Nat} {ls : Array Slot} {rest : List Value} {a : Nat} {v : Nat} (X : CX cc RX10 nL G aC t b0 p s m args c) (hR0 : Rp G aC b0 N H) (hv : hR N a 10 13 = some v) (hdg : decode cc pc = .ok (.getfield 35, 3)) (kk : W p l e R s m args below meth c H locs cells slots Q (F0 m (pc + 3) ls (.ref v :: rest))) : W p l e R s m args below meth c H locs cells slots Q (F0 m pc ls (.ref a :: rest)) := by
  obtain ⟨fs, h1, h2⟩ := hR_ok hv
  exact ab_get (C := RX10) (T := TX10) (n := 20) X hR0 h1 h2 rfl inX10 (by decide) (WT_of 961 (by decide +kernel) (by decide +kernel)) hdg kk
theorem gf_X10_38 {p : Program} {l : Launch} {e : Env} {R : Room} {s : State} {m : MethodId} {args : Array Value} {below : List Frame} {meth : Method} {c : Code} {H : Heap} {locs : List Loc} {cells slots : Nat} {Q : State → Prop} {cc : ByteArray} {nL : Nat} {G : va_G} {aC : Nat → ClassId} {t b0 : Nat} {N : AH} {pc : Nat} {ls : Array Slot} {rest : List Value} {a : Nat} {v : Nat} (X : CX cc RX10 nL G aC t b0 p s m args c) (hR0 : Rp G aC b0 N H) (hv : hR N a 10 14 = some v) (hdg : decode cc pc = .ok (.getfield 38, 3)) (kk : W p l e R s m args below meth c H locs cells slots Q (F0 m (pc + 3) ls (.ref v :: rest))) : W p l e R s m args below meth c H locs cells slots Q (F0 m pc ls (.ref a :: rest)) := by
  obtain ⟨fs, h1, h2⟩ := hR_ok hv
  exact ab_get (C := RX10) (T := TX10) (n := 20) X hR0 h1 h2 rfl inX10 (by decide) (WT_of 962 (by decide +kernel) (by decide +kernel)) hdg kk
theorem dX10_gives_0 : decode cX10_gives 0 = .ok (.aload_n 0, 1) := by decide +kernel
theorem dX10_gives_1 : decode cX10_gives 1 = .ok (.iload_n 1, 1) := by decide +kernel
theorem dX10_gives_2 : decode cX10_gives 2 = .ok (.invokevirtual 79, 3) := by decide +kernel
theorem dX10_gives_5 : decode cX10_gives 5 = .ok (.istore_n 2, 1) := by decide +kernel
theorem dX10_gives_6 : decode cX10_gives 6 = .ok (.aload_n 0, 1) := by decide +kernel
theorem dX10_gives_7 : decode cX10_gives 7 = .ok (.getfield 35, 3) := by decide +kernel
theorem dX10_gives_10 : decode cX10_gives 10 = .ok (.iload_n 1, 1) := by decide +kernel
theorem dX10_gives_11 : decode cX10_gives 11 = .ok (.iload_n 2, 1) := by decide +kernel
theorem dX10_gives_12 : decode cX10_gives 12 = .ok (.iastore, 1) := by decide +kernel
theorem dX10_gives_13 : decode cX10_gives 13 = .ok (.aload_n 0, 1) := by decide +kernel
theorem dX10_gives_14 : decode cX10_gives 14 = .ok (.iload_n 1, 1) := by decide +kernel
theorem dX10_gives_15 : decode cX10_gives 15 = .ok (.iconst 0, 1) := by decide +kernel
theorem dX10_gives_16 : decode cX10_gives 16 = .ok (.invokevirtual 52, 3) := by decide +kernel
theorem dX10_gives_19 : decode cX10_gives 19 = .ok (.aload_n 0, 1) := by decide +kernel
theorem dX10_gives_20 : decode cX10_gives 20 = .ok (.iload_n 1, 1) := by decide +kernel
theorem dX10_gives_21 : decode cX10_gives 21 = .ok (.iconst 2, 1) := by decide +kernel
theorem dX10_gives_22 : decode cX10_gives 22 = .ok (.invokevirtual 52, 3) := by decide +kernel
theorem dX10_gives_25 : decode cX10_gives 25 = .ok (.iadd, 1) := by decide +kernel
theorem dX10_gives_26 : decode cX10_gives 26 = .ok (.aload_n 0, 1) := by decide +kernel
theorem dX10_gives_27 : decode cX10_gives 27 = .ok (.getfield 7, 3) := by decide +kernel
theorem dX10_gives_30 : decode cX10_gives 30 = .ok (.iconst 0, 1) := by decide +kernel
theorem dX10_gives_31 : decode cX10_gives 31 = .ok (.iaload, 1) := by decide +kernel
theorem dX10_gives_32 : decode cX10_gives 32 = .ok (.isub, 1) := by decide +kernel
theorem dX10_gives_33 : decode cX10_gives 33 = .ok (.istore_n 3, 1) := by decide +kernel
theorem dX10_gives_34 : decode cX10_gives 34 = .ok (.iload_n 2, 1) := by decide +kernel
theorem dX10_gives_35 : decode cX10_gives 35 = .ok (.iconst (-1), 1) := by decide +kernel
theorem dX10_gives_36 : decode cX10_gives 36 = .ok (.if_icmp .eq 27, 3) := by decide +kernel
theorem dX10_gives_39 : decode cX10_gives 39 = .ok (.aload_n 0, 1) := by decide +kernel
theorem dX10_gives_40 : decode cX10_gives 40 = .ok (.getfield 110, 3) := by decide +kernel
theorem dX10_gives_43 : decode cX10_gives 43 = .ok (.ifCond .ne 20, 3) := by decide +kernel
theorem dX10_gives_46 : decode cX10_gives 46 = .ok (.aload_n 0, 1) := by decide +kernel
theorem dX10_gives_47 : decode cX10_gives 47 = .ok (.iload_n 1, 1) := by decide +kernel
theorem dX10_gives_48 : decode cX10_gives 48 = .ok (.invokevirtual 97, 3) := by decide +kernel
theorem dX10_gives_51 : decode cX10_gives 51 = .ok (.ifCond .eq 12, 3) := by decide +kernel
theorem dX10_gives_54 : decode cX10_gives 54 = .ok (.iload_n 3, 1) := by decide +kernel
theorem dX10_gives_55 : decode cX10_gives 55 = .ok (.iload_n 2, 1) := by decide +kernel
theorem dX10_gives_56 : decode cX10_gives 56 = .ok (.if_icmp .le 7, 3) := by decide +kernel
theorem dX10_gives_59 : decode cX10_gives 59 = .ok (.iload_n 3, 1) := by decide +kernel
theorem dX10_gives_60 : decode cX10_gives 60 = .ok (.goto 4, 3) := by decide +kernel
theorem dX10_gives_63 : decode cX10_gives 63 = .ok (.iload_n 2, 1) := by decide +kernel
theorem dX10_gives_64 : decode cX10_gives 64 = .ok (.istore 4, 2) := by decide +kernel
theorem dX10_gives_66 : decode cX10_gives 66 = .ok (.iconst 0, 1) := by decide +kernel
theorem dX10_gives_67 : decode cX10_gives 67 = .ok (.istore 5, 2) := by decide +kernel
theorem dX10_gives_69 : decode cX10_gives 69 = .ok (.iload 5, 2) := by decide +kernel
theorem dX10_gives_71 : decode cX10_gives 71 = .ok (.aload_n 0, 1) := by decide +kernel
theorem dX10_gives_72 : decode cX10_gives 72 = .ok (.iload_n 1, 1) := by decide +kernel
theorem dX10_gives_73 : decode cX10_gives 73 = .ok (.iconst 5, 1) := by decide +kernel
theorem dX10_gives_74 : decode cX10_gives 74 = .ok (.invokevirtual 52, 3) := by decide +kernel
theorem dX10_gives_77 : decode cX10_gives 77 = .ok (.if_icmp .ge 86, 3) := by decide +kernel
theorem dX10_gives_80 : decode cX10_gives 80 = .ok (.iload_n 2, 1) := by decide +kernel
theorem dX10_gives_81 : decode cX10_gives 81 = .ok (.iconst (-1), 1) := by decide +kernel
theorem dX10_gives_82 : decode cX10_gives 82 = .ok (.if_icmp .ne 7, 3) := by decide +kernel
theorem dX10_gives_85 : decode cX10_gives 85 = .ok (.iconst 0, 1) := by decide +kernel
theorem dX10_gives_86 : decode cX10_gives 86 = .ok (.goto 16, 3) := by decide +kernel
theorem dX10_gives_89 : decode cX10_gives 89 = .ok (.aload_n 0, 1) := by decide +kernel
theorem dX10_gives_90 : decode cX10_gives 90 = .ok (.iload_n 1, 1) := by decide +kernel
theorem dX10_gives_91 : decode cX10_gives 91 = .ok (.iload 5, 2) := by decide +kernel
theorem dX10_gives_93 : decode cX10_gives 93 = .ok (.iconst 3, 1) := by decide +kernel
theorem dX10_gives_94 : decode cX10_gives 94 = .ok (.invokevirtual 64, 3) := by decide +kernel
theorem dX10_gives_97 : decode cX10_gives 97 = .ok (.iload 4, 2) := by decide +kernel
theorem dX10_gives_99 : decode cX10_gives 99 = .ok (.invokestatic 68, 3) := by decide +kernel
theorem dX10_gives_102 : decode cX10_gives 102 = .ok (.istore 6, 2) := by decide +kernel
theorem dX10_gives_104 : decode cX10_gives 104 = .ok (.aload_n 0, 1) := by decide +kernel
theorem dX10_gives_105 : decode cX10_gives 105 = .ok (.getfield 38, 3) := by decide +kernel
theorem dX10_gives_108 : decode cX10_gives 108 = .ok (.bipush 16, 2) := by decide +kernel
theorem dX10_gives_110 : decode cX10_gives 110 = .ok (.iload_n 1, 1) := by decide +kernel
theorem dX10_gives_111 : decode cX10_gives 111 = .ok (.imul, 1) := by decide +kernel
theorem dX10_gives_112 : decode cX10_gives 112 = .ok (.iload 5, 2) := by decide +kernel
theorem dX10_gives_114 : decode cX10_gives 114 = .ok (.iadd, 1) := by decide +kernel
theorem dX10_gives_115 : decode cX10_gives 115 = .ok (.iload 6, 2) := by decide +kernel
theorem dX10_gives_117 : decode cX10_gives 117 = .ok (.iastore, 1) := by decide +kernel
theorem dX10_gives_118 : decode cX10_gives 118 = .ok (.aload_n 0, 1) := by decide +kernel
theorem dX10_gives_119 : decode cX10_gives 119 = .ok (.getfield 16, 3) := by decide +kernel
theorem dX10_gives_122 : decode cX10_gives 122 = .ok (.aload_n 0, 1) := by decide +kernel
theorem dX10_gives_123 : decode cX10_gives 123 = .ok (.iload_n 1, 1) := by decide +kernel
theorem dX10_gives_124 : decode cX10_gives 124 = .ok (.iload 5, 2) := by decide +kernel
theorem dX10_gives_126 : decode cX10_gives 126 = .ok (.iconst 0, 1) := by decide +kernel
theorem dX10_gives_127 : decode cX10_gives 127 = .ok (.invokevirtual 64, 3) := by decide +kernel
theorem dX10_gives_130 : decode cX10_gives 130 = .ok (.dup2, 1) := by decide +kernel
theorem dX10_gives_131 : decode cX10_gives 131 = .ok (.iaload, 1) := by decide +kernel
theorem dX10_gives_132 : decode cX10_gives 132 = .ok (.iload 6, 2) := by decide +kernel
theorem dX10_gives_134 : decode cX10_gives 134 = .ok (.isub, 1) := by decide +kernel
theorem dX10_gives_135 : decode cX10_gives 135 = .ok (.iastore, 1) := by decide +kernel
theorem dX10_gives_136 : decode cX10_gives 136 = .ok (.aload_n 0, 1) := by decide +kernel
theorem dX10_gives_137 : decode cX10_gives 137 = .ok (.getfield 16, 3) := by decide +kernel
theorem dX10_gives_140 : decode cX10_gives 140 = .ok (.bipush 8, 2) := by decide +kernel
theorem dX10_gives_142 : decode cX10_gives 142 = .ok (.aload_n 0, 1) := by decide +kernel
theorem dX10_gives_143 : decode cX10_gives 143 = .ok (.iload_n 1, 1) := by decide +kernel
theorem dX10_gives_144 : decode cX10_gives 144 = .ok (.iload 5, 2) := by decide +kernel
theorem dX10_gives_146 : decode cX10_gives 146 = .ok (.iconst 1, 1) := by decide +kernel
theorem dX10_gives_147 : decode cX10_gives 147 = .ok (.invokevirtual 64, 3) := by decide +kernel
theorem dX10_gives_150 : decode cX10_gives 150 = .ok (.iadd, 1) := by decide +kernel
theorem dX10_gives_151 : decode cX10_gives 151 = .ok (.dup2, 1) := by decide +kernel
theorem dX10_gives_152 : decode cX10_gives 152 = .ok (.iaload, 1) := by decide +kernel
theorem dX10_gives_153 : decode cX10_gives 153 = .ok (.iload 6, 2) := by decide +kernel
theorem dX10_gives_155 : decode cX10_gives 155 = .ok (.isub, 1) := by decide +kernel
theorem dX10_gives_156 : decode cX10_gives 156 = .ok (.iastore, 1) := by decide +kernel
theorem dX10_gives_157 : decode cX10_gives 157 = .ok (.iinc 5 1, 3) := by decide +kernel
theorem dX10_gives_160 : decode cX10_gives 160 = .ok (.goto (-91), 3) := by decide +kernel
theorem dX10_gives_163 : decode cX10_gives 163 = .ok (.return_, 1) := by decide +kernel
def rm_X10_gives : Room := { frames := 4, cells := 0, slots := 0, locals := 93 }
section
variable {p : Program} {l : Launch} {e : Env} {s : State} {m : MethodId} {args : Array Value} {below : List Frame} {meth : Method} {c : Code} {Q : State → Prop} {G : va_G} {aC : Nat → ClassId} {t b0 : Nat}
def f_X10_gives_J102 (k69 : Int32 → AH → Option (Unit × AH)) (v0 : Nat) (v1 : Int32) (v2 : Int32) (v4 : Int32) (v5 : Int32) (w0 : Int32) (N : AH) : Option (Unit × AH) := ob (hR N v0 10 14) (fun x20 => ob (sI N x20 (((16 : Int32) * v1) + v5) w0) (fun N21 => ob (hR N21 v0 10 4) (fun x22 => ob2 (f_X10_flowOf v0 v1 v5 (0 : Int32) N21) (fun x24 N23 => ob (aI N23 x22 x24) (fun x25 => ob (sI N23 x22 x24 (x25 - w0)) (fun N26 => ob (hR N26 v0 10 4) (fun x27 => ob2 (f_X10_flowOf v0 v1 v5 (1 : Int32) N26) (fun x29 N28 => ob (aI N28 x27 ((8 : Int32) + x29)) (fun x30 => ob (sI N28 x27 ((8 : Int32) + x29) (x30 - w0)) (fun N31 => k69 (v5 + 1) N31))))))))))
set_option maxHeartbeats 4000000 in
set_option maxRecDepth 100000 in
theorem w_X10_gives_J102 {P : Unit × AH → Prop} (X : CX cX10_gives RX10 7 G aC t b0 p s m args c) (hr : RtV p l e rm_X10_gives s m args below meth c 0 0 Q cX10_gives G aC b0 P) (v0 : Nat) (v1 : Int32) (v2 : Int32) (v4 : Int32) (v5 : Int32) (w0 : Int32) {k69 : Int32 → AH → Option (Unit × AH)}
    (hk69 : ∀ (v5 : Int32) (N : AH) (H : Heap) (locs : List Loc) (ls : Array Slot), Rp G aC b0 N H → va_S (fun q => b0 ≤ q) s.heap H locs → lv_has ls 7 [(0, .ref v0), (1, .int v1), (2, .int v2), (4, .int v4), (5, .int v5)] → owp (k69 v5 N) P → W p l e rm_X10_gives s m args below meth c H locs 0 0 Q (F0 m 69 ls [])) (N : AH) (H : Heap) (locs : List Loc) (ls : Array Slot) (hR : Rp G aC b0 N H) (hS : va_S (fun q => b0 ≤ q) s.heap H locs) (hl : lv_has ls 7 [(0, .ref v0), (1, .int v1), (2, .int v2), (4, .int v4), (5, .int v5)]) (hp : owp (f_X10_gives_J102 k69 v0 v1 v2 v4 v5 w0 N) P) : W p l e rm_X10_gives s m args below meth c H locs 0 0 Q (F0 m 102 ls [.int w0]) := by
  have hx := X.1.1
  have hb := X.1.2.1
  unfold f_X10_gives_J102 at hp
  refine lv_istore (lv' := [(6, .int w0), (0, .ref v0), (1, .int v1), (2, .int v2), (4, .int v4), (5, .int v5)]) hx hb dX10_gives_102 hl (by decide) rfl (fun ls hl => ?_)
  refine lv_aload_n hx hb dX10_gives_104 rfl (lv_at hl 1 rfl) ?_
  obtain ⟨x20, e_x20, hp⟩ := owp_ob hp
  refine gf_X10_38 X hR e_x20 dX10_gives_105 ?_
  refine lv_bipush (v := (16)) hx hb dX10_gives_108 (by decide) ?_
  refine lv_iload_n hx hb dX10_gives_110 rfl (lv_at hl 2 rfl) ?_
  refine lv_imul hx hb dX10_gives_111 ?_
  refine lv_iload hx hb dX10_gives_112 (lv_at hl 5 rfl) ?_
  refine lv_iadd hx hb dX10_gives_114 ?_
  refine lv_iload hx hb dX10_gives_115 (lv_at hl 0 rfl) ?_
  obtain ⟨N21, e_N21, hp⟩ := owp_ob hp
  refine ab_iast X hR hS e_N21 dX10_gives_117 (fun H locs hR hS => ?_)
  refine lv_aload_n hx hb dX10_gives_118 rfl (lv_at hl 1 rfl) ?_
  obtain ⟨x22, e_x22, hp⟩ := owp_ob hp
  refine gf_X10_16 X hR e_x22 dX10_gives_119 ?_
  refine lv_aload_n hx hb dX10_gives_122 rfl (lv_at hl 1 rfl) ?_
  refine lv_iload_n hx hb dX10_gives_123 rfl (lv_at hl 2 rfl) ?_
  refine lv_iload hx hb dX10_gives_124 (lv_at hl 5 rfl) ?_
  refine lv_iconst (v := (0)) hx hb dX10_gives_126 (by decide) ?_
  obtain ⟨x24, N23, e_N23, hp⟩ := owp_ob2 hp
  refine iv_X10_flowOf (rest := [.ref x22]) mw_X10_64 X hR hS e_N23 hl.1 (Nat.le_of_ble_eq_true rfl) ⟨Nat.le_of_ble_eq_true rfl, Nat.le_of_ble_eq_true rfl⟩ ⟨Nat.le_of_ble_eq_true rfl, Nat.le_of_ble_eq_true rfl⟩ dX10_gives_127 (fun H locs hR hS => ?_)
  refine lv_dup2_11 hx hb dX10_gives_130 rfl rfl ?_
  obtain ⟨x25, e_x25, hp⟩ := owp_ob hp
  refine ab_iald X hR e_x25 dX10_gives_131 ?_
  refine lv_iload hx hb dX10_gives_132 (lv_at hl 0 rfl) ?_
  refine lv_isub hx hb dX10_gives_134 ?_
  obtain ⟨N26, e_N26, hp⟩ := owp_ob hp
  refine ab_iast X hR hS e_N26 dX10_gives_135 (fun H locs hR hS => ?_)
  refine lv_aload_n hx hb dX10_gives_136 rfl (lv_at hl 1 rfl) ?_
  obtain ⟨x27, e_x27, hp⟩ := owp_ob hp
  refine gf_X10_16 X hR e_x27 dX10_gives_137 ?_
  refine lv_bipush (v := (8)) hx hb dX10_gives_140 (by decide) ?_
  refine lv_aload_n hx hb dX10_gives_142 rfl (lv_at hl 1 rfl) ?_
  refine lv_iload_n hx hb dX10_gives_143 rfl (lv_at hl 2 rfl) ?_
  refine lv_iload hx hb dX10_gives_144 (lv_at hl 5 rfl) ?_
  refine lv_iconst (v := (1)) hx hb dX10_gives_146 (by decide) ?_
  obtain ⟨x29, N28, e_N28, hp⟩ := owp_ob2 hp
  refine iv_X10_flowOf (rest := [.int (8 : Int32), .ref x27]) mw_X10_64 X hR hS e_N28 hl.1 (Nat.le_of_ble_eq_true rfl) ⟨Nat.le_of_ble_eq_true rfl, Nat.le_of_ble_eq_true rfl⟩ ⟨Nat.le_of_ble_eq_true rfl, Nat.le_of_ble_eq_true rfl⟩ dX10_gives_147 (fun H locs hR hS => ?_)
  refine lv_iadd hx hb dX10_gives_150 ?_
  refine lv_dup2_11 hx hb dX10_gives_151 rfl rfl ?_
  obtain ⟨x30, e_x30, hp⟩ := owp_ob hp
  refine ab_iald X hR e_x30 dX10_gives_152 ?_
  refine lv_iload hx hb dX10_gives_153 (lv_at hl 0 rfl) ?_
  refine lv_isub hx hb dX10_gives_155 ?_
  obtain ⟨N31, e_N31, hp⟩ := owp_ob hp
  refine ab_iast X hR hS e_N31 dX10_gives_156 (fun H locs hR hS => ?_)
  refine lv_iinc (v := v5 + 1) (lv' := [(5, .int (v5 + 1)), (6, .int w0), (0, .ref v0), (1, .int v1), (2, .int v2), (4, .int v4)]) hx hb dX10_gives_157 hl (k := 5) rfl rfl (by decide) rfl (fun ls hl => ?_)
  refine lv_goto (tgt := 69) hx hb dX10_gives_160 (by decide) ?_
  exact hk69 _ _ _ _ _ hR hS (lv_sub hl [2, 3, 4, 5, 0] rfl) hp
def f_X10_gives_L69 (v0 : Nat) (v1 : Int32) (v2 : Int32) (v4 : Int32) (k163 : AH → Option (Unit × AH)) : Nat → Int32 → AH → Option (Unit × AH)
  | 0, _, _ => none
  | n + 1, v5, N => ob2 (f_X10_of v0 v1 (5 : Int32) N) (fun x13 N12 => if x13 ≤ v5 then k163 N12 else if ¬ v2 = (-1 : Int32) then ob2 (f_X10_flowOf v0 v1 v5 (3 : Int32) N12) (fun x17 N16 => ob2 (f_X10_up x17 v4 N16) (fun x19 N18 => f_X10_gives_J102 (f_X10_gives_L69 v0 v1 v2 v4 k163 n) v0 v1 v2 v4 v5 x19 N18)) else f_X10_gives_J102 (f_X10_gives_L69 v0 v1 v2 v4 k163 n) v0 v1 v2 v4 v5 (0 : Int32) N12)
set_option maxHeartbeats 4000000 in
set_option maxRecDepth 100000 in
theorem w_X10_gives_L69 {P : Unit × AH → Prop} (X : CX cX10_gives RX10 7 G aC t b0 p s m args c) (hr : RtV p l e rm_X10_gives s m args below meth c 0 0 Q cX10_gives G aC b0 P) (v0 : Nat) (v1 : Int32) (v2 : Int32) (v4 : Int32) {k163 : AH → Option (Unit × AH)}
    (hk163 : ∀ (N : AH) (H : Heap) (locs : List Loc) (ls : Array Slot), Rp G aC b0 N H → va_S (fun q => b0 ≤ q) s.heap H locs → lv_has ls 7 [] → owp (k163 N) P → W p l e rm_X10_gives s m args below meth c H locs 0 0 Q (F0 m 163 ls [])) :
    ∀ (n : Nat) (v5 : Int32) (N : AH) (H : Heap) (locs : List Loc) (ls : Array Slot), Rp G aC b0 N H → va_S (fun q => b0 ≤ q) s.heap H locs → lv_has ls 7 [(0, .ref v0), (1, .int v1), (2, .int v2), (4, .int v4), (5, .int v5)] → owp (f_X10_gives_L69 v0 v1 v2 v4 k163 n v5 N) P → W p l e rm_X10_gives s m args below meth c H locs 0 0 Q (F0 m 69 ls []) := by
  have hx := X.1.1
  have hb := X.1.2.1
  intro n
  induction n with
  | zero =>
    intro v5 N H locs ls hR hS hl hp
    exact (show False from hp).elim
  | succ n ih =>
    intro v5 N H locs ls hR hS hl hp
    rw [f_X10_gives_L69] at hp
    refine lv_iload hx hb dX10_gives_69 (lv_at hl 4 rfl) ?_
    refine lv_aload_n hx hb dX10_gives_71 rfl (lv_at hl 0 rfl) ?_
    refine lv_iload_n hx hb dX10_gives_72 rfl (lv_at hl 1 rfl) ?_
    refine lv_iconst (v := (5)) hx hb dX10_gives_73 (by decide) ?_
    obtain ⟨x13, N12, e_N12, hp⟩ := owp_ob2 hp
    refine iv_X10_of (rest := [.int v5]) mw_X10_52 X hR hS e_N12 hl.1 (Nat.le_of_ble_eq_true rfl) ⟨Nat.le_of_ble_eq_true rfl, Nat.le_of_ble_eq_true rfl⟩ ⟨Nat.le_of_ble_eq_true rfl, Nat.le_of_ble_eq_true rfl⟩ dX10_gives_74 (fun H locs hR hS => ?_)
    refine lv_icmp_ge (tgt := 163) hx hb dX10_gives_77 (by decide) (fun k14 => ?_) (fun k14 => ?_)
    · have hp := owp_t k14 hp
      exact hk163 _ _ _ _ hR hS (lv_sub hl [] rfl) hp
    · have hp := owp_f k14 hp
      refine lv_iload_n hx hb dX10_gives_80 rfl (lv_at hl 2 rfl) ?_
      refine lv_iconst (v := (-1)) hx hb dX10_gives_81 (by decide) ?_
      refine lv_icmp_ne (tgt := 89) hx hb dX10_gives_82 (by decide) (fun k15 => ?_) (fun k15 => ?_)
      · have hp := owp_t k15 hp
        refine lv_aload_n hx hb dX10_gives_89 rfl (lv_at hl 0 rfl) ?_
        refine lv_iload_n hx hb dX10_gives_90 rfl (lv_at hl 1 rfl) ?_
        refine lv_iload hx hb dX10_gives_91 (lv_at hl 4 rfl) ?_
        refine lv_iconst (v := (3)) hx hb dX10_gives_93 (by decide) ?_
        obtain ⟨x17, N16, e_N16, hp⟩ := owp_ob2 hp
        refine iv_X10_flowOf (rest := []) mw_X10_64 X hR hS e_N16 hl.1 (Nat.le_of_ble_eq_true rfl) ⟨Nat.le_of_ble_eq_true rfl, Nat.le_of_ble_eq_true rfl⟩ ⟨Nat.le_of_ble_eq_true rfl, Nat.le_of_ble_eq_true rfl⟩ dX10_gives_94 (fun H locs hR hS => ?_)
        refine lv_iload hx hb dX10_gives_97 (lv_at hl 3 rfl) ?_
        obtain ⟨x19, N18, e_N18, hp⟩ := owp_ob2 hp
        refine iv_X10_up (rest := []) mw_X10_68 X hR hS e_N18 hl.1 (Nat.le_of_ble_eq_true rfl) ⟨Nat.le_of_ble_eq_true rfl, Nat.le_of_ble_eq_true rfl⟩ ⟨Nat.le_of_ble_eq_true rfl, Nat.le_of_ble_eq_true rfl⟩ dX10_gives_99 (fun H locs hR hS => ?_)
        exact w_X10_gives_J102 X hr _ _ _ _ _ _ ih _ _ _ _ hR hS hl hp
      · have hp := owp_f (fun q => q k15) hp
        refine lv_iconst (v := (0)) hx hb dX10_gives_85 (by decide) ?_
        refine lv_goto (tgt := 102) hx hb dX10_gives_86 (by decide) ?_
        exact w_X10_gives_J102 X hr _ _ _ _ _ _ ih _ _ _ _ hR hS hl hp
def f_X10_gives (v0 : Nat) (v1 : Int32) (N : AH) : Option (Unit × AH) := ob (iO N v0 10) (fun _ => ob2 (f_X10_spanOf v0 v1 N) (fun x2 N1 => ob (hR N1 v0 10 13) (fun x3 => ob (sI N1 x3 v1 x2) (fun N4 => ob2 (f_X10_of v0 v1 (0 : Int32) N4) (fun x6 N5 => ob2 (f_X10_of v0 v1 (2 : Int32) N5) (fun x8 N7 => ob (hR N7 v0 10 0) (fun x9 => ob (aI N7 x9 (0 : Int32)) (fun x10 => if x2 = (-1 : Int32) then f_X10_gives_L69 v0 v1 x2 x2 (fun N32 => some ((), N32)) FU (0 : Int32) N7 else ob (hI N7 v0 10 8) (fun x33 => if ¬ x33 = 0 then f_X10_gives_L69 v0 v1 x2 x2 (fun N35 => some ((), N35)) FU (0 : Int32) N7 else ob2 (f_X10_hasDeadline v0 v1 N7) (fun x37 N36 => if x37 = 0 then f_X10_gives_L69 v0 v1 x2 x2 (fun N39 => some ((), N39)) FU (0 : Int32) N36 else if ((x6 + x8) - x10) ≤ x2 then f_X10_gives_L69 v0 v1 x2 x2 (fun N41 => some ((), N41)) FU (0 : Int32) N36 else f_X10_gives_L69 v0 v1 x2 ((x6 + x8) - x10) (fun N42 => some ((), N42)) FU (0 : Int32) N36))))))))))
set_option maxHeartbeats 4000000 in
set_option maxRecDepth 100000 in
theorem wk_X10_gives {P : Unit × AH → Prop} (X : CX cX10_gives RX10 7 G aC t b0 p s m args c) (hr : RtV p l e rm_X10_gives s m args below meth c 0 0 Q cX10_gives G aC b0 P) (v0 : Nat) (v1 : Int32) (N : AH) (H : Heap) (locs : List Loc) (ls : Array Slot) (hR : Rp G aC b0 N H) (hS : va_S (fun q => b0 ≤ q) s.heap H locs) (hl : lv_has ls 7 [(0, .ref v0), (1, .int v1)]) (hp : owp (f_X10_gives v0 v1 N) P) : W p l e rm_X10_gives s m args below meth c H locs 0 0 Q (F0 m 0 ls []) := by
  have hx := X.1.1
  have hb := X.1.2.1
  unfold f_X10_gives at hp
  obtain ⟨_, _, hp⟩ := owp_ob hp
  refine lv_aload_n hx hb dX10_gives_0 rfl (lv_at hl 0 rfl) ?_
  refine lv_iload_n hx hb dX10_gives_1 rfl (lv_at hl 1 rfl) ?_
  obtain ⟨x2, N1, e_N1, hp⟩ := owp_ob2 hp
  refine iv_X10_spanOf (rest := []) mw_X10_79 X hR hS e_N1 hl.1 (Nat.le_of_ble_eq_true rfl) ⟨Nat.le_of_ble_eq_true rfl, Nat.le_of_ble_eq_true rfl⟩ ⟨Nat.le_of_ble_eq_true rfl, Nat.le_of_ble_eq_true rfl⟩ dX10_gives_2 (fun H locs hR hS => ?_)
  refine lv_istore_n (lv' := [(2, .int x2), (0, .ref v0), (1, .int v1)]) hx hb dX10_gives_5 rfl hl (by decide) rfl (fun ls hl => ?_)
  refine lv_aload_n hx hb dX10_gives_6 rfl (lv_at hl 1 rfl) ?_
  obtain ⟨x3, e_x3, hp⟩ := owp_ob hp
  refine gf_X10_35 X hR e_x3 dX10_gives_7 ?_
  refine lv_iload_n hx hb dX10_gives_10 rfl (lv_at hl 2 rfl) ?_
  refine lv_iload_n hx hb dX10_gives_11 rfl (lv_at hl 0 rfl) ?_
  obtain ⟨N4, e_N4, hp⟩ := owp_ob hp
  refine ab_iast X hR hS e_N4 dX10_gives_12 (fun H locs hR hS => ?_)
  refine lv_aload_n hx hb dX10_gives_13 rfl (lv_at hl 1 rfl) ?_
  refine lv_iload_n hx hb dX10_gives_14 rfl (lv_at hl 2 rfl) ?_
  refine lv_iconst (v := (0)) hx hb dX10_gives_15 (by decide) ?_
  obtain ⟨x6, N5, e_N5, hp⟩ := owp_ob2 hp
  refine iv_X10_of (rest := []) mw_X10_52 X hR hS e_N5 hl.1 (Nat.le_of_ble_eq_true rfl) ⟨Nat.le_of_ble_eq_true rfl, Nat.le_of_ble_eq_true rfl⟩ ⟨Nat.le_of_ble_eq_true rfl, Nat.le_of_ble_eq_true rfl⟩ dX10_gives_16 (fun H locs hR hS => ?_)
  refine lv_aload_n hx hb dX10_gives_19 rfl (lv_at hl 1 rfl) ?_
  refine lv_iload_n hx hb dX10_gives_20 rfl (lv_at hl 2 rfl) ?_
  refine lv_iconst (v := (2)) hx hb dX10_gives_21 (by decide) ?_
  obtain ⟨x8, N7, e_N7, hp⟩ := owp_ob2 hp
  refine iv_X10_of (rest := [.int x6]) mw_X10_52 X hR hS e_N7 hl.1 (Nat.le_of_ble_eq_true rfl) ⟨Nat.le_of_ble_eq_true rfl, Nat.le_of_ble_eq_true rfl⟩ ⟨Nat.le_of_ble_eq_true rfl, Nat.le_of_ble_eq_true rfl⟩ dX10_gives_22 (fun H locs hR hS => ?_)
  refine lv_iadd hx hb dX10_gives_25 ?_
  refine lv_aload_n hx hb dX10_gives_26 rfl (lv_at hl 1 rfl) ?_
  obtain ⟨x9, e_x9, hp⟩ := owp_ob hp
  refine gf_X10_7 X hR e_x9 dX10_gives_27 ?_
  refine lv_iconst (v := (0)) hx hb dX10_gives_30 (by decide) ?_
  obtain ⟨x10, e_x10, hp⟩ := owp_ob hp
  refine ab_iald X hR e_x10 dX10_gives_31 ?_
  refine lv_isub hx hb dX10_gives_32 ?_
  refine lv_istore_n (lv' := [(3, .int ((x6 + x8) - x10)), (2, .int x2), (0, .ref v0), (1, .int v1)]) hx hb dX10_gives_33 rfl hl (by decide) rfl (fun ls hl => ?_)
  refine lv_iload_n hx hb dX10_gives_34 rfl (lv_at hl 1 rfl) ?_
  refine lv_iconst (v := (-1)) hx hb dX10_gives_35 (by decide) ?_
  refine lv_icmp_eq (tgt := 63) hx hb dX10_gives_36 (by decide) (fun k11 => ?_) (fun k11 => ?_)
  · have hp := owp_t k11 hp
    refine lv_iload_n hx hb dX10_gives_63 rfl (lv_at hl 1 rfl) ?_
    refine lv_istore (lv' := [(4, .int x2), (3, .int ((x6 + x8) - x10)), (2, .int x2), (0, .ref v0), (1, .int v1)]) hx hb dX10_gives_64 hl (by decide) rfl (fun ls hl => ?_)
    refine lv_iconst (v := (0)) hx hb dX10_gives_66 (by decide) ?_
    refine lv_istore (lv' := [(5, .int (0 : Int32)), (4, .int x2), (3, .int ((x6 + x8) - x10)), (2, .int x2), (0, .ref v0), (1, .int v1)]) hx hb dX10_gives_67 hl (by decide) rfl (fun ls hl => ?_)
    refine w_X10_gives_L69 X hr _ _ _ _ (fun N32 H locs ls hR hS hl hp => ?_) _ _ _ _ _ _ hR hS (lv_sub hl [4, 5, 3, 1, 0] rfl) hp
    exact hr _ _ _ _ _ hR hS dX10_gives_163 hp
  · have hp := owp_f k11 hp
    refine lv_aload_n hx hb dX10_gives_39 rfl (lv_at hl 2 rfl) ?_
    obtain ⟨x33, e_x33, hp⟩ := owp_ob hp
    refine gf_X10_110 X hR e_x33 dX10_gives_40 ?_
    refine lv_if_ne (tgt := 63) hx hb dX10_gives_43 (by decide) (fun k34 => ?_) (fun k34 => ?_)
    · have hp := owp_t k34 hp
      refine lv_iload_n hx hb dX10_gives_63 rfl (lv_at hl 1 rfl) ?_
      refine lv_istore (lv' := [(4, .int x2), (3, .int ((x6 + x8) - x10)), (2, .int x2), (0, .ref v0), (1, .int v1)]) hx hb dX10_gives_64 hl (by decide) rfl (fun ls hl => ?_)
      refine lv_iconst (v := (0)) hx hb dX10_gives_66 (by decide) ?_
      refine lv_istore (lv' := [(5, .int (0 : Int32)), (4, .int x2), (3, .int ((x6 + x8) - x10)), (2, .int x2), (0, .ref v0), (1, .int v1)]) hx hb dX10_gives_67 hl (by decide) rfl (fun ls hl => ?_)
      refine w_X10_gives_L69 X hr _ _ _ _ (fun N35 H locs ls hR hS hl hp => ?_) _ _ _ _ _ _ hR hS (lv_sub hl [4, 5, 3, 1, 0] rfl) hp
      exact hr _ _ _ _ _ hR hS dX10_gives_163 hp
    · have hp := owp_f (fun q => q k34) hp
      refine lv_aload_n hx hb dX10_gives_46 rfl (lv_at hl 2 rfl) ?_
      refine lv_iload_n hx hb dX10_gives_47 rfl (lv_at hl 3 rfl) ?_
      obtain ⟨x37, N36, e_N36, hp⟩ := owp_ob2 hp
      refine iv_X10_hasDeadline (rest := []) mw_X10_97 X hR hS e_N36 hl.1 (Nat.le_of_ble_eq_true rfl) ⟨Nat.le_of_ble_eq_true rfl, Nat.le_of_ble_eq_true rfl⟩ ⟨Nat.le_of_ble_eq_true rfl, Nat.le_of_ble_eq_true rfl⟩ dX10_gives_48 (fun H locs hR hS => ?_)
      refine lv_if_eq (tgt := 63) hx hb dX10_gives_51 (by decide) (fun k38 => ?_) (fun k38 => ?_)
      · have hp := owp_t k38 hp
        refine lv_iload_n hx hb dX10_gives_63 rfl (lv_at hl 1 rfl) ?_
        refine lv_istore (lv' := [(4, .int x2), (3, .int ((x6 + x8) - x10)), (2, .int x2), (0, .ref v0), (1, .int v1)]) hx hb dX10_gives_64 hl (by decide) rfl (fun ls hl => ?_)
        refine lv_iconst (v := (0)) hx hb dX10_gives_66 (by decide) ?_
        refine lv_istore (lv' := [(5, .int (0 : Int32)), (4, .int x2), (3, .int ((x6 + x8) - x10)), (2, .int x2), (0, .ref v0), (1, .int v1)]) hx hb dX10_gives_67 hl (by decide) rfl (fun ls hl => ?_)
        refine w_X10_gives_L69 X hr _ _ _ _ (fun N39 H locs ls hR hS hl hp => ?_) _ _ _ _ _ _ hR hS (lv_sub hl [4, 5, 3, 1, 0] rfl) hp
        exact hr _ _ _ _ _ hR hS dX10_gives_163 hp
      · have hp := owp_f k38 hp
        refine lv_iload_n hx hb dX10_gives_54 rfl (lv_at hl 0 rfl) ?_
        refine lv_iload_n hx hb dX10_gives_55 rfl (lv_at hl 1 rfl) ?_
        refine lv_icmp_le (tgt := 63) hx hb dX10_gives_56 (by decide) (fun k40 => ?_) (fun k40 => ?_)
        · have hp := owp_t k40 hp
          refine lv_iload_n hx hb dX10_gives_63 rfl (lv_at hl 1 rfl) ?_
          refine lv_istore (lv' := [(4, .int x2), (3, .int ((x6 + x8) - x10)), (2, .int x2), (0, .ref v0), (1, .int v1)]) hx hb dX10_gives_64 hl (by decide) rfl (fun ls hl => ?_)
          refine lv_iconst (v := (0)) hx hb dX10_gives_66 (by decide) ?_
          refine lv_istore (lv' := [(5, .int (0 : Int32)), (4, .int x2), (3, .int ((x6 + x8) - x10)), (2, .int x2), (0, .ref v0), (1, .int v1)]) hx hb dX10_gives_67 hl (by decide) rfl (fun ls hl => ?_)
          refine w_X10_gives_L69 X hr _ _ _ _ (fun N41 H locs ls hR hS hl hp => ?_) _ _ _ _ _ _ hR hS (lv_sub hl [4, 5, 3, 1, 0] rfl) hp
          exact hr _ _ _ _ _ hR hS dX10_gives_163 hp
        · have hp := owp_f k40 hp
          refine lv_iload_n hx hb dX10_gives_59 rfl (lv_at hl 0 rfl) ?_
          refine lv_goto (tgt := 64) hx hb dX10_gives_60 (by decide) ?_
          refine lv_istore (lv' := [(4, .int ((x6 + x8) - x10)), (3, .int ((x6 + x8) - x10)), (2, .int x2), (0, .ref v0), (1, .int v1)]) hx hb dX10_gives_64 hl (by decide) rfl (fun ls hl => ?_)
          refine lv_iconst (v := (0)) hx hb dX10_gives_66 (by decide) ?_
          refine lv_istore (lv' := [(5, .int (0 : Int32)), (4, .int ((x6 + x8) - x10)), (3, .int ((x6 + x8) - x10)), (2, .int x2), (0, .ref v0), (1, .int v1)]) hx hb dX10_gives_67 hl (by decide) rfl (fun ls hl => ?_)
          refine w_X10_gives_L69 X hr _ _ _ _ (fun N42 H locs ls hR hS hl hp => ?_) _ _ _ _ _ _ hR hS (lv_sub hl [4, 5, 3, 1, 0] rfl) hp
          exact hr _ _ _ _ _ hR hS dX10_gives_163 hp
end
theorem ct_X10_gives {v0 : Nat} {v1 : Int32} {N N1 : AH} {r : Unit} (h : f_X10_gives v0 v1 N = some (r, N1)) : Ct yX10_gives cX10_gives 7 none rm_X10_gives [.ref v0, .int v1] N none N1 :=
  ab_met (own := RX10) (by decide +kernel) rfl (Nat.le_of_ble_eq_true rfl) (fun l G aC t b0 p e s m below meth c ls X hr hlk hnm hR hS hl => wk_X10_gives X (RtV_met X.1.1 X.1.2.1 hr hlk) _ _ _ _ _ _ hR hS hl (owp_of h))
theorem cw_X10_gives : Cond.code yX10_gives cX10_gives 7 none ∈ WT := WT_of 1205 (by decide +kernel) (by decide +kernel)
theorem iv_X10_gives {p : Program} {l : Launch} {e : Env} {R : Room} {s : State} {m : MethodId} {args : Array Value} {below : List Frame} {meth : Method} {c : Code} {H : Heap} {locs : List Loc} {cells slots : Nat} {Q : State → Prop} {cc : ByteArray} {own : String} {nL : Nat} {G : va_G} {aC : Nat → ClassId} {t b0 : Nat} {N N1 : AH} {pc index : Nat} {ls : Array Slot} {rest : List Value} {v0 : Nat} {v1 : Int32} {r : Unit} (w1 : Cond.methodLink own index yX10_gives ∈ WT) (X : CX cc own nL G aC t b0 p s m args c) (hR : Rp G aC b0 N H) (hS : va_S (fun q => b0 ≤ q) s.heap H locs) (h : f_X10_gives v0 v1 N = some (r, N1)) (hls : ls.size = nL) (hW : (rest.map fun v => v.category).sum ≤ 8) (hR1 : 5 ≤ R.frames ∧ 119 ≤ R.locals) (hcs : cells + 0 ≤ R.cells ∧ slots + 0 ≤ R.slots) (hdg : decode cc pc = .ok (.invokevirtual index, 3)) (kk : ∀ (H1 : Heap) (locs1 : List Loc), Rp G aC b0 N1 H1 → va_S (fun q => b0 ≤ q) s.heap H1 locs1 → W p l e R s m args below meth c H1 locs1 cells slots Q (F0 m (pc + 3) ls rest)) : W p l e R s m args below meth c H locs cells slots Q (F0 m pc ls (.int v1 :: .ref v0 :: rest)) :=
  ab_callV (n := 1) (As := [.int v1]) X hR hS (ct_X10_gives h) (ob_rc (c := 10) (N := N) (a := v0) h) (T := TX10) (k := 20) (C := RX10) rfl w1 (WT_of 1204 (by decide +kernel) (by decide +kernel)) (WT_of 65 (by decide +kernel) (by decide +kernel)) (WT_of 92 (by decide +kernel) (by decide +kernel)) cw_X10_gives ⟨rfl, by decide +kernel, by decide +kernel, by decide +kernel⟩ rfl hls hW hR1 hcs rfl hdg kk
-- X10_shares
theorem dX10_shares_0 : decode cX10_shares 0 = .ok (.iconst 0, 1) := by decide +kernel
theorem dX10_shares_1 : decode cX10_shares 1 = .ok (.istore_n 2, 1) := by decide +kernel
theorem dX10_shares_2 : decode cX10_shares 2 = .ok (.iload_n 2, 1) := by decide +kernel
theorem dX10_shares_3 : decode cX10_shares 3 = .ok (.aload_n 0, 1) := by decide +kernel
theorem dX10_shares_4 : decode cX10_shares 4 = .ok (.iload_n 1, 1) := by decide +kernel
theorem dX10_shares_5 : decode cX10_shares 5 = .ok (.iconst 5, 1) := by decide +kernel
theorem dX10_shares_6 : decode cX10_shares 6 = .ok (.invokevirtual 52, 3) := by decide +kernel
theorem dX10_shares_9 : decode cX10_shares 9 = .ok (.if_icmp .ge 139, 3) := by decide +kernel
theorem dX10_shares_12 : decode cX10_shares 12 = .ok (.aload_n 0, 1) := by decide +kernel
theorem dX10_shares_13 : decode cX10_shares 13 = .ok (.iload_n 1, 1) := by decide +kernel
theorem dX10_shares_14 : decode cX10_shares 14 = .ok (.iload_n 2, 1) := by decide +kernel
theorem dX10_shares_15 : decode cX10_shares 15 = .ok (.iconst 0, 1) := by decide +kernel
theorem dX10_shares_16 : decode cX10_shares 16 = .ok (.invokevirtual 64, 3) := by decide +kernel
theorem dX10_shares_19 : decode cX10_shares 19 = .ok (.istore_n 3, 1) := by decide +kernel
theorem dX10_shares_20 : decode cX10_shares 20 = .ok (.bipush 8, 2) := by decide +kernel
theorem dX10_shares_22 : decode cX10_shares 22 = .ok (.aload_n 0, 1) := by decide +kernel
theorem dX10_shares_23 : decode cX10_shares 23 = .ok (.iload_n 1, 1) := by decide +kernel
theorem dX10_shares_24 : decode cX10_shares 24 = .ok (.iload_n 2, 1) := by decide +kernel
theorem dX10_shares_25 : decode cX10_shares 25 = .ok (.iconst 1, 1) := by decide +kernel
theorem dX10_shares_26 : decode cX10_shares 26 = .ok (.invokevirtual 64, 3) := by decide +kernel
theorem dX10_shares_29 : decode cX10_shares 29 = .ok (.iadd, 1) := by decide +kernel
theorem dX10_shares_30 : decode cX10_shares 30 = .ok (.istore 4, 2) := by decide +kernel
theorem dX10_shares_32 : decode cX10_shares 32 = .ok (.aload_n 0, 1) := by decide +kernel
theorem dX10_shares_33 : decode cX10_shares 33 = .ok (.iload_n 1, 1) := by decide +kernel
theorem dX10_shares_34 : decode cX10_shares 34 = .ok (.iload_n 2, 1) := by decide +kernel
theorem dX10_shares_35 : decode cX10_shares 35 = .ok (.iconst 3, 1) := by decide +kernel
theorem dX10_shares_36 : decode cX10_shares 36 = .ok (.invokevirtual 64, 3) := by decide +kernel
theorem dX10_shares_39 : decode cX10_shares 39 = .ok (.aload_n 0, 1) := by decide +kernel
theorem dX10_shares_40 : decode cX10_shares 40 = .ok (.getfield 38, 3) := by decide +kernel
theorem dX10_shares_43 : decode cX10_shares 43 = .ok (.bipush 16, 2) := by decide +kernel
theorem dX10_shares_45 : decode cX10_shares 45 = .ok (.iload_n 1, 1) := by decide +kernel
theorem dX10_shares_46 : decode cX10_shares 46 = .ok (.imul, 1) := by decide +kernel
theorem dX10_shares_47 : decode cX10_shares 47 = .ok (.iload_n 2, 1) := by decide +kernel
theorem dX10_shares_48 : decode cX10_shares 48 = .ok (.iadd, 1) := by decide +kernel
theorem dX10_shares_49 : decode cX10_shares 49 = .ok (.iaload, 1) := by decide +kernel
theorem dX10_shares_50 : decode cX10_shares 50 = .ok (.isub, 1) := by decide +kernel
theorem dX10_shares_51 : decode cX10_shares 51 = .ok (.istore 5, 2) := by decide +kernel
theorem dX10_shares_53 : decode cX10_shares 53 = .ok (.aload_n 0, 1) := by decide +kernel
theorem dX10_shares_54 : decode cX10_shares 54 = .ok (.getfield 16, 3) := by decide +kernel
theorem dX10_shares_57 : decode cX10_shares 57 = .ok (.iload_n 3, 1) := by decide +kernel
theorem dX10_shares_58 : decode cX10_shares 58 = .ok (.iaload, 1) := by decide +kernel
theorem dX10_shares_59 : decode cX10_shares 59 = .ok (.iload 5, 2) := by decide +kernel
theorem dX10_shares_61 : decode cX10_shares 61 = .ok (.if_icmp .ge 12, 3) := by decide +kernel
theorem dX10_shares_64 : decode cX10_shares 64 = .ok (.aload_n 0, 1) := by decide +kernel
theorem dX10_shares_65 : decode cX10_shares 65 = .ok (.getfield 16, 3) := by decide +kernel
theorem dX10_shares_68 : decode cX10_shares 68 = .ok (.iload_n 3, 1) := by decide +kernel
theorem dX10_shares_69 : decode cX10_shares 69 = .ok (.iaload, 1) := by decide +kernel
theorem dX10_shares_70 : decode cX10_shares 70 = .ok (.goto 5, 3) := by decide +kernel
theorem dX10_shares_73 : decode cX10_shares 73 = .ok (.iload 5, 2) := by decide +kernel
theorem dX10_shares_75 : decode cX10_shares 75 = .ok (.istore 5, 2) := by decide +kernel
theorem dX10_shares_77 : decode cX10_shares 77 = .ok (.aload_n 0, 1) := by decide +kernel
theorem dX10_shares_78 : decode cX10_shares 78 = .ok (.getfield 16, 3) := by decide +kernel
theorem dX10_shares_81 : decode cX10_shares 81 = .ok (.iload 4, 2) := by decide +kernel
theorem dX10_shares_83 : decode cX10_shares 83 = .ok (.iaload, 1) := by decide +kernel
theorem dX10_shares_84 : decode cX10_shares 84 = .ok (.iload 5, 2) := by decide +kernel
theorem dX10_shares_86 : decode cX10_shares 86 = .ok (.if_icmp .ge 13, 3) := by decide +kernel
theorem dX10_shares_89 : decode cX10_shares 89 = .ok (.aload_n 0, 1) := by decide +kernel
theorem dX10_shares_90 : decode cX10_shares 90 = .ok (.getfield 16, 3) := by decide +kernel
theorem dX10_shares_93 : decode cX10_shares 93 = .ok (.iload 4, 2) := by decide +kernel
theorem dX10_shares_95 : decode cX10_shares 95 = .ok (.iaload, 1) := by decide +kernel
theorem dX10_shares_96 : decode cX10_shares 96 = .ok (.goto 5, 3) := by decide +kernel
theorem dX10_shares_99 : decode cX10_shares 99 = .ok (.iload 5, 2) := by decide +kernel
theorem dX10_shares_101 : decode cX10_shares 101 = .ok (.istore 5, 2) := by decide +kernel
theorem dX10_shares_103 : decode cX10_shares 103 = .ok (.aload_n 0, 1) := by decide +kernel
theorem dX10_shares_104 : decode cX10_shares 104 = .ok (.getfield 38, 3) := by decide +kernel
theorem dX10_shares_107 : decode cX10_shares 107 = .ok (.bipush 16, 2) := by decide +kernel
theorem dX10_shares_109 : decode cX10_shares 109 = .ok (.iload_n 1, 1) := by decide +kernel
theorem dX10_shares_110 : decode cX10_shares 110 = .ok (.imul, 1) := by decide +kernel
theorem dX10_shares_111 : decode cX10_shares 111 = .ok (.iload_n 2, 1) := by decide +kernel
theorem dX10_shares_112 : decode cX10_shares 112 = .ok (.iadd, 1) := by decide +kernel
theorem dX10_shares_113 : decode cX10_shares 113 = .ok (.dup2, 1) := by decide +kernel
theorem dX10_shares_114 : decode cX10_shares 114 = .ok (.iaload, 1) := by decide +kernel
theorem dX10_shares_115 : decode cX10_shares 115 = .ok (.iload 5, 2) := by decide +kernel
theorem dX10_shares_117 : decode cX10_shares 117 = .ok (.iadd, 1) := by decide +kernel
theorem dX10_shares_118 : decode cX10_shares 118 = .ok (.iastore, 1) := by decide +kernel
theorem dX10_shares_119 : decode cX10_shares 119 = .ok (.aload_n 0, 1) := by decide +kernel
theorem dX10_shares_120 : decode cX10_shares 120 = .ok (.getfield 16, 3) := by decide +kernel
theorem dX10_shares_123 : decode cX10_shares 123 = .ok (.iload_n 3, 1) := by decide +kernel
theorem dX10_shares_124 : decode cX10_shares 124 = .ok (.dup2, 1) := by decide +kernel
theorem dX10_shares_125 : decode cX10_shares 125 = .ok (.iaload, 1) := by decide +kernel
theorem dX10_shares_126 : decode cX10_shares 126 = .ok (.iload 5, 2) := by decide +kernel
theorem dX10_shares_128 : decode cX10_shares 128 = .ok (.isub, 1) := by decide +kernel
theorem dX10_shares_129 : decode cX10_shares 129 = .ok (.iastore, 1) := by decide +kernel
theorem dX10_shares_130 : decode cX10_shares 130 = .ok (.aload_n 0, 1) := by decide +kernel
theorem dX10_shares_131 : decode cX10_shares 131 = .ok (.getfield 16, 3) := by decide +kernel
theorem dX10_shares_134 : decode cX10_shares 134 = .ok (.iload 4, 2) := by decide +kernel
theorem dX10_shares_136 : decode cX10_shares 136 = .ok (.dup2, 1) := by decide +kernel
theorem dX10_shares_137 : decode cX10_shares 137 = .ok (.iaload, 1) := by decide +kernel
theorem dX10_shares_138 : decode cX10_shares 138 = .ok (.iload 5, 2) := by decide +kernel
theorem dX10_shares_140 : decode cX10_shares 140 = .ok (.isub, 1) := by decide +kernel
theorem dX10_shares_141 : decode cX10_shares 141 = .ok (.iastore, 1) := by decide +kernel
theorem dX10_shares_142 : decode cX10_shares 142 = .ok (.iinc 2 1, 3) := by decide +kernel
theorem dX10_shares_145 : decode cX10_shares 145 = .ok (.goto (-143), 3) := by decide +kernel
theorem dX10_shares_148 : decode cX10_shares 148 = .ok (.return_, 1) := by decide +kernel
def rm_X10_shares : Room := { frames := 2, cells := 0, slots := 0, locals := 45 }
section
variable {p : Program} {l : Launch} {e : Env} {s : State} {m : MethodId} {args : Array Value} {below : List Frame} {meth : Method} {c : Code} {Q : State → Prop} {G : va_G} {aC : Nat → ClassId} {t b0 : Nat}
def f_X10_shares_J101 (k2 : Int32 → AH → Option (Unit × AH)) (v0 : Nat) (v1 : Int32) (v2 : Int32) (v3 : Int32) (v4 : Int32) (w0 : Int32) (N : AH) : Option (Unit × AH) := ob (hR N v0 10 14) (fun x18 => ob (aI N x18 (((16 : Int32) * v1) + v2)) (fun x19 => ob (sI N x18 (((16 : Int32) * v1) + v2) (x19 + w0)) (fun N20 => ob (hR N20 v0 10 4) (fun x21 => ob (aI N20 x21 v3) (fun x22 => ob (sI N20 x21 v3 (x22 - w0)) (fun N23 => ob (hR N23 v0 10 4) (fun x24 => ob (aI N23 x24 v4) (fun x25 => ob (sI N23 x24 v4 (x25 - w0)) (fun N26 => k2 (v2 + 1) N26)))))))))
set_option maxHeartbeats 4000000 in
set_option maxRecDepth 100000 in
theorem w_X10_shares_J101 {P : Unit × AH → Prop} (X : CX cX10_shares RX10 6 G aC t b0 p s m args c) (hr : RtV p l e rm_X10_shares s m args below meth c 0 0 Q cX10_shares G aC b0 P) (v0 : Nat) (v1 : Int32) (v2 : Int32) (v3 : Int32) (v4 : Int32) (w0 : Int32) {k2 : Int32 → AH → Option (Unit × AH)}
    (hk2 : ∀ (v2 : Int32) (N : AH) (H : Heap) (locs : List Loc) (ls : Array Slot), Rp G aC b0 N H → va_S (fun q => b0 ≤ q) s.heap H locs → lv_has ls 6 [(0, .ref v0), (1, .int v1), (2, .int v2)] → owp (k2 v2 N) P → W p l e rm_X10_shares s m args below meth c H locs 0 0 Q (F0 m 2 ls [])) (N : AH) (H : Heap) (locs : List Loc) (ls : Array Slot) (hR : Rp G aC b0 N H) (hS : va_S (fun q => b0 ≤ q) s.heap H locs) (hl : lv_has ls 6 [(0, .ref v0), (1, .int v1), (2, .int v2), (3, .int v3), (4, .int v4)]) (hp : owp (f_X10_shares_J101 k2 v0 v1 v2 v3 v4 w0 N) P) : W p l e rm_X10_shares s m args below meth c H locs 0 0 Q (F0 m 101 ls [.int w0]) := by
  have hx := X.1.1
  have hb := X.1.2.1
  unfold f_X10_shares_J101 at hp
  refine lv_istore (lv' := [(5, .int w0), (0, .ref v0), (1, .int v1), (2, .int v2), (3, .int v3), (4, .int v4)]) hx hb dX10_shares_101 hl (by decide) rfl (fun ls hl => ?_)
  refine lv_aload_n hx hb dX10_shares_103 rfl (lv_at hl 1 rfl) ?_
  obtain ⟨x18, e_x18, hp⟩ := owp_ob hp
  refine gf_X10_38 X hR e_x18 dX10_shares_104 ?_
  refine lv_bipush (v := (16)) hx hb dX10_shares_107 (by decide) ?_
  refine lv_iload_n hx hb dX10_shares_109 rfl (lv_at hl 2 rfl) ?_
  refine lv_imul hx hb dX10_shares_110 ?_
  refine lv_iload_n hx hb dX10_shares_111 rfl (lv_at hl 3 rfl) ?_
  refine lv_iadd hx hb dX10_shares_112 ?_
  refine lv_dup2_11 hx hb dX10_shares_113 rfl rfl ?_
  obtain ⟨x19, e_x19, hp⟩ := owp_ob hp
  refine ab_iald X hR e_x19 dX10_shares_114 ?_
  refine lv_iload hx hb dX10_shares_115 (lv_at hl 0 rfl) ?_
  refine lv_iadd hx hb dX10_shares_117 ?_
  obtain ⟨N20, e_N20, hp⟩ := owp_ob hp
  refine ab_iast X hR hS e_N20 dX10_shares_118 (fun H locs hR hS => ?_)
  refine lv_aload_n hx hb dX10_shares_119 rfl (lv_at hl 1 rfl) ?_
  obtain ⟨x21, e_x21, hp⟩ := owp_ob hp
  refine gf_X10_16 X hR e_x21 dX10_shares_120 ?_
  refine lv_iload_n hx hb dX10_shares_123 rfl (lv_at hl 4 rfl) ?_
  refine lv_dup2_11 hx hb dX10_shares_124 rfl rfl ?_
  obtain ⟨x22, e_x22, hp⟩ := owp_ob hp
  refine ab_iald X hR e_x22 dX10_shares_125 ?_
  refine lv_iload hx hb dX10_shares_126 (lv_at hl 0 rfl) ?_
  refine lv_isub hx hb dX10_shares_128 ?_
  obtain ⟨N23, e_N23, hp⟩ := owp_ob hp
  refine ab_iast X hR hS e_N23 dX10_shares_129 (fun H locs hR hS => ?_)
  refine lv_aload_n hx hb dX10_shares_130 rfl (lv_at hl 1 rfl) ?_
  obtain ⟨x24, e_x24, hp⟩ := owp_ob hp
  refine gf_X10_16 X hR e_x24 dX10_shares_131 ?_
  refine lv_iload hx hb dX10_shares_134 (lv_at hl 5 rfl) ?_
  refine lv_dup2_11 hx hb dX10_shares_136 rfl rfl ?_
  obtain ⟨x25, e_x25, hp⟩ := owp_ob hp
  refine ab_iald X hR e_x25 dX10_shares_137 ?_
  refine lv_iload hx hb dX10_shares_138 (lv_at hl 0 rfl) ?_
  refine lv_isub hx hb dX10_shares_140 ?_
  obtain ⟨N26, e_N26, hp⟩ := owp_ob hp
  refine ab_iast X hR hS e_N26 dX10_shares_141 (fun H locs hR hS => ?_)
  refine lv_iinc (v := v2 + 1) (lv' := [(2, .int (v2 + 1)), (5, .int w0), (0, .ref v0), (1, .int v1), (3, .int v3), (4, .int v4)]) hx hb dX10_shares_142 hl (k := 3) rfl rfl (by decide) rfl (fun ls hl => ?_)
  refine lv_goto (tgt := 2) hx hb dX10_shares_145 (by decide) ?_
  exact hk2 _ _ _ _ _ hR hS (lv_sub hl [2, 3, 0] rfl) hp
def f_X10_shares_J75 (k2 : Int32 → AH → Option (Unit × AH)) (v0 : Nat) (v1 : Int32) (v2 : Int32) (v3 : Int32) (v4 : Int32) (w0 : Int32) (N : AH) : Option (Unit × AH) := ob (hR N v0 10 4) (fun x15 => ob (aI N x15 v4) (fun x16 => if w0 ≤ x16 then f_X10_shares_J101 k2 v0 v1 v2 v3 v4 w0 N else ob (hR N v0 10 4) (fun x27 => ob (aI N x27 v4) (fun x28 => f_X10_shares_J101 k2 v0 v1 v2 v3 v4 x28 N))))
set_option maxHeartbeats 4000000 in
set_option maxRecDepth 100000 in
theorem w_X10_shares_J75 {P : Unit × AH → Prop} (X : CX cX10_shares RX10 6 G aC t b0 p s m args c) (hr : RtV p l e rm_X10_shares s m args below meth c 0 0 Q cX10_shares G aC b0 P) (v0 : Nat) (v1 : Int32) (v2 : Int32) (v3 : Int32) (v4 : Int32) (w0 : Int32) {k2 : Int32 → AH → Option (Unit × AH)}
    (hk2 : ∀ (v2 : Int32) (N : AH) (H : Heap) (locs : List Loc) (ls : Array Slot), Rp G aC b0 N H → va_S (fun q => b0 ≤ q) s.heap H locs → lv_has ls 6 [(0, .ref v0), (1, .int v1), (2, .int v2)] → owp (k2 v2 N) P → W p l e rm_X10_shares s m args below meth c H locs 0 0 Q (F0 m 2 ls [])) (N : AH) (H : Heap) (locs : List Loc) (ls : Array Slot) (hR : Rp G aC b0 N H) (hS : va_S (fun q => b0 ≤ q) s.heap H locs) (hl : lv_has ls 6 [(0, .ref v0), (1, .int v1), (2, .int v2), (3, .int v3), (4, .int v4)]) (hp : owp (f_X10_shares_J75 k2 v0 v1 v2 v3 v4 w0 N) P) : W p l e rm_X10_shares s m args below meth c H locs 0 0 Q (F0 m 75 ls [.int w0]) := by
  have hx := X.1.1
  have hb := X.1.2.1
  unfold f_X10_shares_J75 at hp
  refine lv_istore (lv' := [(5, .int w0), (0, .ref v0), (1, .int v1), (2, .int v2), (3, .int v3), (4, .int v4)]) hx hb dX10_shares_75 hl (by decide) rfl (fun ls hl => ?_)
  refine lv_aload_n hx hb dX10_shares_77 rfl (lv_at hl 1 rfl) ?_
  obtain ⟨x15, e_x15, hp⟩ := owp_ob hp
  refine gf_X10_16 X hR e_x15 dX10_shares_78 ?_
  refine lv_iload hx hb dX10_shares_81 (lv_at hl 5 rfl) ?_
  obtain ⟨x16, e_x16, hp⟩ := owp_ob hp
  refine ab_iald X hR e_x16 dX10_shares_83 ?_
  refine lv_iload hx hb dX10_shares_84 (lv_at hl 0 rfl) ?_
  refine lv_icmp_ge (tgt := 99) hx hb dX10_shares_86 (by decide) (fun k17 => ?_) (fun k17 => ?_)
  · have hp := owp_t k17 hp
    refine lv_iload hx hb dX10_shares_99 (lv_at hl 0 rfl) ?_
    exact w_X10_shares_J101 X hr _ _ _ _ _ _ hk2 _ _ _ _ hR hS (lv_sub hl [1, 2, 3, 4, 5] rfl) hp
  · have hp := owp_f k17 hp
    refine lv_aload_n hx hb dX10_shares_89 rfl (lv_at hl 1 rfl) ?_
    obtain ⟨x27, e_x27, hp⟩ := owp_ob hp
    refine gf_X10_16 X hR e_x27 dX10_shares_90 ?_
    refine lv_iload hx hb dX10_shares_93 (lv_at hl 5 rfl) ?_
    obtain ⟨x28, e_x28, hp⟩ := owp_ob hp
    refine ab_iald X hR e_x28 dX10_shares_95 ?_
    refine lv_goto (tgt := 101) hx hb dX10_shares_96 (by decide) ?_
    exact w_X10_shares_J101 X hr _ _ _ _ _ _ hk2 _ _ _ _ hR hS (lv_sub hl [1, 2, 3, 4, 5] rfl) hp
def f_X10_shares_L2 (v0 : Nat) (v1 : Int32) (k148 : AH → Option (Unit × AH)) : Nat → Int32 → AH → Option (Unit × AH)
  | 0, _, _ => none
  | n + 1, v2, N => ob2 (f_X10_of v0 v1 (5 : Int32) N) (fun x2 N1 => if x2 ≤ v2 then k148 N1 else ob2 (f_X10_flowOf v0 v1 v2 (0 : Int32) N1) (fun x5 N4 => ob2 (f_X10_flowOf v0 v1 v2 (1 : Int32) N4) (fun x7 N6 => ob2 (f_X10_flowOf v0 v1 v2 (3 : Int32) N6) (fun x9 N8 => ob (hR N8 v0 10 14) (fun x10 => ob (aI N8 x10 (((16 : Int32) * v1) + v2)) (fun x11 => ob (hR N8 v0 10 4) (fun x12 => ob (aI N8 x12 x5) (fun x13 => if (x9 - x11) ≤ x13 then f_X10_shares_J75 (f_X10_shares_L2 v0 v1 k148 n) v0 v1 v2 x5 ((8 : Int32) + x7) (x9 - x11) N8 else ob (hR N8 v0 10 4) (fun x29 => ob (aI N8 x29 x5) (fun x30 => f_X10_shares_J75 (f_X10_shares_L2 v0 v1 k148 n) v0 v1 v2 x5 ((8 : Int32) + x7) x30 N8))))))))))
set_option maxHeartbeats 4000000 in
set_option maxRecDepth 100000 in
theorem w_X10_shares_L2 {P : Unit × AH → Prop} (X : CX cX10_shares RX10 6 G aC t b0 p s m args c) (hr : RtV p l e rm_X10_shares s m args below meth c 0 0 Q cX10_shares G aC b0 P) (v0 : Nat) (v1 : Int32) {k148 : AH → Option (Unit × AH)}
    (hk148 : ∀ (N : AH) (H : Heap) (locs : List Loc) (ls : Array Slot), Rp G aC b0 N H → va_S (fun q => b0 ≤ q) s.heap H locs → lv_has ls 6 [] → owp (k148 N) P → W p l e rm_X10_shares s m args below meth c H locs 0 0 Q (F0 m 148 ls [])) :
    ∀ (n : Nat) (v2 : Int32) (N : AH) (H : Heap) (locs : List Loc) (ls : Array Slot), Rp G aC b0 N H → va_S (fun q => b0 ≤ q) s.heap H locs → lv_has ls 6 [(0, .ref v0), (1, .int v1), (2, .int v2)] → owp (f_X10_shares_L2 v0 v1 k148 n v2 N) P → W p l e rm_X10_shares s m args below meth c H locs 0 0 Q (F0 m 2 ls []) := by
  have hx := X.1.1
  have hb := X.1.2.1
  intro n
  induction n with
  | zero =>
    intro v2 N H locs ls hR hS hl hp
    exact (show False from hp).elim
  | succ n ih =>
    intro v2 N H locs ls hR hS hl hp
    rw [f_X10_shares_L2] at hp
    refine lv_iload_n hx hb dX10_shares_2 rfl (lv_at hl 2 rfl) ?_
    refine lv_aload_n hx hb dX10_shares_3 rfl (lv_at hl 0 rfl) ?_
    refine lv_iload_n hx hb dX10_shares_4 rfl (lv_at hl 1 rfl) ?_
    refine lv_iconst (v := (5)) hx hb dX10_shares_5 (by decide) ?_
    obtain ⟨x2, N1, e_N1, hp⟩ := owp_ob2 hp
    refine iv_X10_of (rest := [.int v2]) mw_X10_52 X hR hS e_N1 hl.1 (Nat.le_of_ble_eq_true rfl) ⟨Nat.le_of_ble_eq_true rfl, Nat.le_of_ble_eq_true rfl⟩ ⟨Nat.le_of_ble_eq_true rfl, Nat.le_of_ble_eq_true rfl⟩ dX10_shares_6 (fun H locs hR hS => ?_)
    refine lv_icmp_ge (tgt := 148) hx hb dX10_shares_9 (by decide) (fun k3 => ?_) (fun k3 => ?_)
    · have hp := owp_t k3 hp
      exact hk148 _ _ _ _ hR hS (lv_sub hl [] rfl) hp
    · have hp := owp_f k3 hp
      refine lv_aload_n hx hb dX10_shares_12 rfl (lv_at hl 0 rfl) ?_
      refine lv_iload_n hx hb dX10_shares_13 rfl (lv_at hl 1 rfl) ?_
      refine lv_iload_n hx hb dX10_shares_14 rfl (lv_at hl 2 rfl) ?_
      refine lv_iconst (v := (0)) hx hb dX10_shares_15 (by decide) ?_
      obtain ⟨x5, N4, e_N4, hp⟩ := owp_ob2 hp
      refine iv_X10_flowOf (rest := []) mw_X10_64 X hR hS e_N4 hl.1 (Nat.le_of_ble_eq_true rfl) ⟨Nat.le_of_ble_eq_true rfl, Nat.le_of_ble_eq_true rfl⟩ ⟨Nat.le_of_ble_eq_true rfl, Nat.le_of_ble_eq_true rfl⟩ dX10_shares_16 (fun H locs hR hS => ?_)
      refine lv_istore_n (lv' := [(3, .int x5), (0, .ref v0), (1, .int v1), (2, .int v2)]) hx hb dX10_shares_19 rfl hl (by decide) rfl (fun ls hl => ?_)
      refine lv_bipush (v := (8)) hx hb dX10_shares_20 (by decide) ?_
      refine lv_aload_n hx hb dX10_shares_22 rfl (lv_at hl 1 rfl) ?_
      refine lv_iload_n hx hb dX10_shares_23 rfl (lv_at hl 2 rfl) ?_
      refine lv_iload_n hx hb dX10_shares_24 rfl (lv_at hl 3 rfl) ?_
      refine lv_iconst (v := (1)) hx hb dX10_shares_25 (by decide) ?_
      obtain ⟨x7, N6, e_N6, hp⟩ := owp_ob2 hp
      refine iv_X10_flowOf (rest := [.int (8 : Int32)]) mw_X10_64 X hR hS e_N6 hl.1 (Nat.le_of_ble_eq_true rfl) ⟨Nat.le_of_ble_eq_true rfl, Nat.le_of_ble_eq_true rfl⟩ ⟨Nat.le_of_ble_eq_true rfl, Nat.le_of_ble_eq_true rfl⟩ dX10_shares_26 (fun H locs hR hS => ?_)
      refine lv_iadd hx hb dX10_shares_29 ?_
      refine lv_istore (lv' := [(4, .int ((8 : Int32) + x7)), (3, .int x5), (0, .ref v0), (1, .int v1), (2, .int v2)]) hx hb dX10_shares_30 hl (by decide) rfl (fun ls hl => ?_)
      refine lv_aload_n hx hb dX10_shares_32 rfl (lv_at hl 2 rfl) ?_
      refine lv_iload_n hx hb dX10_shares_33 rfl (lv_at hl 3 rfl) ?_
      refine lv_iload_n hx hb dX10_shares_34 rfl (lv_at hl 4 rfl) ?_
      refine lv_iconst (v := (3)) hx hb dX10_shares_35 (by decide) ?_
      obtain ⟨x9, N8, e_N8, hp⟩ := owp_ob2 hp
      refine iv_X10_flowOf (rest := []) mw_X10_64 X hR hS e_N8 hl.1 (Nat.le_of_ble_eq_true rfl) ⟨Nat.le_of_ble_eq_true rfl, Nat.le_of_ble_eq_true rfl⟩ ⟨Nat.le_of_ble_eq_true rfl, Nat.le_of_ble_eq_true rfl⟩ dX10_shares_36 (fun H locs hR hS => ?_)
      refine lv_aload_n hx hb dX10_shares_39 rfl (lv_at hl 2 rfl) ?_
      obtain ⟨x10, e_x10, hp⟩ := owp_ob hp
      refine gf_X10_38 X hR e_x10 dX10_shares_40 ?_
      refine lv_bipush (v := (16)) hx hb dX10_shares_43 (by decide) ?_
      refine lv_iload_n hx hb dX10_shares_45 rfl (lv_at hl 3 rfl) ?_
      refine lv_imul hx hb dX10_shares_46 ?_
      refine lv_iload_n hx hb dX10_shares_47 rfl (lv_at hl 4 rfl) ?_
      refine lv_iadd hx hb dX10_shares_48 ?_
      obtain ⟨x11, e_x11, hp⟩ := owp_ob hp
      refine ab_iald X hR e_x11 dX10_shares_49 ?_
      refine lv_isub hx hb dX10_shares_50 ?_
      refine lv_istore (lv' := [(5, .int (x9 - x11)), (4, .int ((8 : Int32) + x7)), (3, .int x5), (0, .ref v0), (1, .int v1), (2, .int v2)]) hx hb dX10_shares_51 hl (by decide) rfl (fun ls hl => ?_)
      refine lv_aload_n hx hb dX10_shares_53 rfl (lv_at hl 3 rfl) ?_
      obtain ⟨x12, e_x12, hp⟩ := owp_ob hp
      refine gf_X10_16 X hR e_x12 dX10_shares_54 ?_
      refine lv_iload_n hx hb dX10_shares_57 rfl (lv_at hl 2 rfl) ?_
      obtain ⟨x13, e_x13, hp⟩ := owp_ob hp
      refine ab_iald X hR e_x13 dX10_shares_58 ?_
      refine lv_iload hx hb dX10_shares_59 (lv_at hl 0 rfl) ?_
      refine lv_icmp_ge (tgt := 73) hx hb dX10_shares_61 (by decide) (fun k14 => ?_) (fun k14 => ?_)
      · have hp := owp_t k14 hp
        refine lv_iload hx hb dX10_shares_73 (lv_at hl 0 rfl) ?_
        exact w_X10_shares_J75 X hr _ _ _ _ _ _ ih _ _ _ _ hR hS (lv_sub hl [3, 4, 5, 2, 1] rfl) hp
      · have hp := owp_f k14 hp
        refine lv_aload_n hx hb dX10_shares_64 rfl (lv_at hl 3 rfl) ?_
        obtain ⟨x29, e_x29, hp⟩ := owp_ob hp
        refine gf_X10_16 X hR e_x29 dX10_shares_65 ?_
        refine lv_iload_n hx hb dX10_shares_68 rfl (lv_at hl 2 rfl) ?_
        obtain ⟨x30, e_x30, hp⟩ := owp_ob hp
        refine ab_iald X hR e_x30 dX10_shares_69 ?_
        refine lv_goto (tgt := 75) hx hb dX10_shares_70 (by decide) ?_
        exact w_X10_shares_J75 X hr _ _ _ _ _ _ ih _ _ _ _ hR hS (lv_sub hl [3, 4, 5, 2, 1] rfl) hp
def f_X10_shares (v0 : Nat) (v1 : Int32) (N : AH) : Option (Unit × AH) := ob (iO N v0 10) (fun _ => f_X10_shares_L2 v0 v1 (fun N31 => some ((), N31)) FU (0 : Int32) N)
set_option maxHeartbeats 4000000 in
set_option maxRecDepth 100000 in
theorem wk_X10_shares {P : Unit × AH → Prop} (X : CX cX10_shares RX10 6 G aC t b0 p s m args c) (hr : RtV p l e rm_X10_shares s m args below meth c 0 0 Q cX10_shares G aC b0 P) (v0 : Nat) (v1 : Int32) (N : AH) (H : Heap) (locs : List Loc) (ls : Array Slot) (hR : Rp G aC b0 N H) (hS : va_S (fun q => b0 ≤ q) s.heap H locs) (hl : lv_has ls 6 [(0, .ref v0), (1, .int v1)]) (hp : owp (f_X10_shares v0 v1 N) P) : W p l e rm_X10_shares s m args below meth c H locs 0 0 Q (F0 m 0 ls []) := by
  have hx := X.1.1
  have hb := X.1.2.1
  unfold f_X10_shares at hp
  obtain ⟨_, _, hp⟩ := owp_ob hp
  refine lv_iconst (v := (0)) hx hb dX10_shares_0 (by decide) ?_
  refine lv_istore_n (lv' := [(2, .int (0 : Int32)), (0, .ref v0), (1, .int v1)]) hx hb dX10_shares_1 rfl hl (by decide) rfl (fun ls hl => ?_)
  refine w_X10_shares_L2 X hr _ _ (fun N31 H locs ls hR hS hl hp => ?_) _ _ _ _ _ _ hR hS (lv_sub hl [1, 2, 0] rfl) hp
  exact hr _ _ _ _ _ hR hS dX10_shares_148 hp
end
theorem ct_X10_shares {v0 : Nat} {v1 : Int32} {N N1 : AH} {r : Unit} (h : f_X10_shares v0 v1 N = some (r, N1)) : Ct yX10_shares cX10_shares 6 none rm_X10_shares [.ref v0, .int v1] N none N1 :=
  ab_met (own := RX10) (by decide +kernel) rfl (Nat.le_of_ble_eq_true rfl) (fun l G aC t b0 p e s m below meth c ls X hr hlk hnm hR hS hl => wk_X10_shares X (RtV_met X.1.1 X.1.2.1 hr hlk) _ _ _ _ _ _ hR hS hl (owp_of h))
theorem cw_X10_shares : Cond.code yX10_shares cX10_shares 6 none ∈ WT := WT_of 1209 (by decide +kernel) (by decide +kernel)
theorem iv_X10_shares {p : Program} {l : Launch} {e : Env} {R : Room} {s : State} {m : MethodId} {args : Array Value} {below : List Frame} {meth : Method} {c : Code} {H : Heap} {locs : List Loc} {cells slots : Nat} {Q : State → Prop} {cc : ByteArray} {own : String} {nL : Nat} {G : va_G} {aC : Nat → ClassId} {t b0 : Nat} {N N1 : AH} {pc index : Nat} {ls : Array Slot} {rest : List Value} {v0 : Nat} {v1 : Int32} {r : Unit} (w1 : Cond.methodLink own index yX10_shares ∈ WT) (X : CX cc own nL G aC t b0 p s m args c) (hR : Rp G aC b0 N H) (hS : va_S (fun q => b0 ≤ q) s.heap H locs) (h : f_X10_shares v0 v1 N = some (r, N1)) (hls : ls.size = nL) (hW : (rest.map fun v => v.category).sum ≤ 8) (hR1 : 3 ≤ R.frames ∧ 70 ≤ R.locals) (hcs : cells + 0 ≤ R.cells ∧ slots + 0 ≤ R.slots) (hdg : decode cc pc = .ok (.invokevirtual index, 3)) (kk : ∀ (H1 : Heap) (locs1 : List Loc), Rp G aC b0 N1 H1 → va_S (fun q => b0 ≤ q) s.heap H1 locs1 → W p l e R s m args below meth c H1 locs1 cells slots Q (F0 m (pc + 3) ls rest)) : W p l e R s m args below meth c H locs cells slots Q (F0 m pc ls (.int v1 :: .ref v0 :: rest)) :=
  ab_callV (n := 1) (As := [.int v1]) X hR hS (ct_X10_shares h) (ob_rc (c := 10) (N := N) (a := v0) h) (T := TX10) (k := 20) (C := RX10) rfl w1 (WT_of 1208 (by decide +kernel) (by decide +kernel)) (WT_of 66 (by decide +kernel) (by decide +kernel)) (WT_of 92 (by decide +kernel) (by decide +kernel)) cw_X10_shares ⟨rfl, by decide +kernel, by decide +kernel, by decide +kernel⟩ rfl hls hW hR1 hcs rfl hdg kk
-- X10_worksOut
theorem mw_X10_124 : Cond.methodLink RX10 124 yX10_orders ∈ WT := WT_of 1156 (by decide +kernel) (by decide +kernel)
theorem mw_X10_127 : Cond.methodLink RX10 127 yX10_gives ∈ WT := WT_of 1202 (by decide +kernel) (by decide +kernel)
theorem mw_X10_131 : Cond.methodLink RX10 131 yX10_shares ∈ WT := WT_of 1206 (by decide +kernel) (by decide +kernel)
theorem dX10_worksOut_0 : decode cX10_worksOut 0 = .ok (.aload_n 0, 1) := by decide +kernel
theorem dX10_worksOut_1 : decode cX10_worksOut 1 = .ok (.invokevirtual 124, 3) := by decide +kernel
theorem dX10_worksOut_4 : decode cX10_worksOut 4 = .ok (.iconst 0, 1) := by decide +kernel
theorem dX10_worksOut_5 : decode cX10_worksOut 5 = .ok (.istore_n 1, 1) := by decide +kernel
theorem dX10_worksOut_6 : decode cX10_worksOut 6 = .ok (.iload_n 1, 1) := by decide +kernel
theorem dX10_worksOut_7 : decode cX10_worksOut 7 = .ok (.sipush 192, 3) := by decide +kernel
theorem dX10_worksOut_10 : decode cX10_worksOut 10 = .ok (.if_icmp .ge 16, 3) := by decide +kernel
theorem dX10_worksOut_13 : decode cX10_worksOut 13 = .ok (.aload_n 0, 1) := by decide +kernel
theorem dX10_worksOut_14 : decode cX10_worksOut 14 = .ok (.getfield 38, 3) := by decide +kernel
theorem dX10_worksOut_17 : decode cX10_worksOut 17 = .ok (.iload_n 1, 1) := by decide +kernel
theorem dX10_worksOut_18 : decode cX10_worksOut 18 = .ok (.iconst 0, 1) := by decide +kernel
theorem dX10_worksOut_19 : decode cX10_worksOut 19 = .ok (.iastore, 1) := by decide +kernel
theorem dX10_worksOut_20 : decode cX10_worksOut 20 = .ok (.iinc 1 1, 3) := by decide +kernel
theorem dX10_worksOut_23 : decode cX10_worksOut 23 = .ok (.goto (-17), 3) := by decide +kernel
theorem dX10_worksOut_26 : decode cX10_worksOut 26 = .ok (.iconst 0, 1) := by decide +kernel
theorem dX10_worksOut_27 : decode cX10_worksOut 27 = .ok (.istore_n 1, 1) := by decide +kernel
theorem dX10_worksOut_28 : decode cX10_worksOut 28 = .ok (.iload_n 1, 1) := by decide +kernel
theorem dX10_worksOut_29 : decode cX10_worksOut 29 = .ok (.bipush 12, 2) := by decide +kernel
theorem dX10_worksOut_31 : decode cX10_worksOut 31 = .ok (.if_icmp .ge 16, 3) := by decide +kernel
theorem dX10_worksOut_34 : decode cX10_worksOut 34 = .ok (.aload_n 0, 1) := by decide +kernel
theorem dX10_worksOut_35 : decode cX10_worksOut 35 = .ok (.getfield 35, 3) := by decide +kernel
theorem dX10_worksOut_38 : decode cX10_worksOut 38 = .ok (.iload_n 1, 1) := by decide +kernel
theorem dX10_worksOut_39 : decode cX10_worksOut 39 = .ok (.iconst (-1), 1) := by decide +kernel
theorem dX10_worksOut_40 : decode cX10_worksOut 40 = .ok (.iastore, 1) := by decide +kernel
theorem dX10_worksOut_41 : decode cX10_worksOut 41 = .ok (.iinc 1 1, 3) := by decide +kernel
theorem dX10_worksOut_44 : decode cX10_worksOut 44 = .ok (.goto (-16), 3) := by decide +kernel
theorem dX10_worksOut_47 : decode cX10_worksOut 47 = .ok (.aload_n 0, 1) := by decide +kernel
theorem dX10_worksOut_48 : decode cX10_worksOut 48 = .ok (.invokevirtual 76, 3) := by decide +kernel
theorem dX10_worksOut_51 : decode cX10_worksOut 51 = .ok (.iconst 0, 1) := by decide +kernel
theorem dX10_worksOut_52 : decode cX10_worksOut 52 = .ok (.istore_n 1, 1) := by decide +kernel
theorem dX10_worksOut_53 : decode cX10_worksOut 53 = .ok (.iload_n 1, 1) := by decide +kernel
theorem dX10_worksOut_54 : decode cX10_worksOut 54 = .ok (.aload_n 0, 1) := by decide +kernel
theorem dX10_worksOut_55 : decode cX10_worksOut 55 = .ok (.getfield 101, 3) := by decide +kernel
theorem dX10_worksOut_58 : decode cX10_worksOut 58 = .ok (.if_icmp .ge 19, 3) := by decide +kernel
theorem dX10_worksOut_61 : decode cX10_worksOut 61 = .ok (.aload_n 0, 1) := by decide +kernel
theorem dX10_worksOut_62 : decode cX10_worksOut 62 = .ok (.aload_n 0, 1) := by decide +kernel
theorem dX10_worksOut_63 : decode cX10_worksOut 63 = .ok (.getfield 22, 3) := by decide +kernel
theorem dX10_worksOut_66 : decode cX10_worksOut 66 = .ok (.iload_n 1, 1) := by decide +kernel
theorem dX10_worksOut_67 : decode cX10_worksOut 67 = .ok (.iaload, 1) := by decide +kernel
theorem dX10_worksOut_68 : decode cX10_worksOut 68 = .ok (.invokevirtual 127, 3) := by decide +kernel
theorem dX10_worksOut_71 : decode cX10_worksOut 71 = .ok (.iinc 1 1, 3) := by decide +kernel
theorem dX10_worksOut_74 : decode cX10_worksOut 74 = .ok (.goto (-21), 3) := by decide +kernel
theorem dX10_worksOut_77 : decode cX10_worksOut 77 = .ok (.iconst 0, 1) := by decide +kernel
theorem dX10_worksOut_78 : decode cX10_worksOut 78 = .ok (.istore_n 1, 1) := by decide +kernel
theorem dX10_worksOut_79 : decode cX10_worksOut 79 = .ok (.iload_n 1, 1) := by decide +kernel
theorem dX10_worksOut_80 : decode cX10_worksOut 80 = .ok (.aload_n 0, 1) := by decide +kernel
theorem dX10_worksOut_81 : decode cX10_worksOut 81 = .ok (.getfield 101, 3) := by decide +kernel
theorem dX10_worksOut_84 : decode cX10_worksOut 84 = .ok (.if_icmp .ge 29, 3) := by decide +kernel
theorem dX10_worksOut_87 : decode cX10_worksOut 87 = .ok (.aload_n 0, 1) := by decide +kernel
theorem dX10_worksOut_88 : decode cX10_worksOut 88 = .ok (.getfield 7, 3) := by decide +kernel
theorem dX10_worksOut_91 : decode cX10_worksOut 91 = .ok (.iconst 2, 1) := by decide +kernel
theorem dX10_worksOut_92 : decode cX10_worksOut 92 = .ok (.iaload, 1) := by decide +kernel
theorem dX10_worksOut_93 : decode cX10_worksOut 93 = .ok (.iconst 1, 1) := by decide +kernel
theorem dX10_worksOut_94 : decode cX10_worksOut 94 = .ok (.if_icmp .ne 19, 3) := by decide +kernel
theorem dX10_worksOut_97 : decode cX10_worksOut 97 = .ok (.aload_n 0, 1) := by decide +kernel
theorem dX10_worksOut_98 : decode cX10_worksOut 98 = .ok (.aload_n 0, 1) := by decide +kernel
theorem dX10_worksOut_99 : decode cX10_worksOut 99 = .ok (.getfield 22, 3) := by decide +kernel
theorem dX10_worksOut_102 : decode cX10_worksOut 102 = .ok (.iload_n 1, 1) := by decide +kernel
theorem dX10_worksOut_103 : decode cX10_worksOut 103 = .ok (.iaload, 1) := by decide +kernel
theorem dX10_worksOut_104 : decode cX10_worksOut 104 = .ok (.invokevirtual 131, 3) := by decide +kernel
theorem dX10_worksOut_107 : decode cX10_worksOut 107 = .ok (.iinc 1 1, 3) := by decide +kernel
theorem dX10_worksOut_110 : decode cX10_worksOut 110 = .ok (.goto (-31), 3) := by decide +kernel
theorem dX10_worksOut_113 : decode cX10_worksOut 113 = .ok (.return_, 1) := by decide +kernel
def rm_X10_worksOut : Room := { frames := 7, cells := 0, slots := 0, locals := 159 }
section
variable {p : Program} {l : Launch} {e : Env} {s : State} {m : MethodId} {args : Array Value} {below : List Frame} {meth : Method} {c : Code} {Q : State → Prop} {G : va_G} {aC : Nat → ClassId} {t b0 : Nat}
def f_X10_worksOut_L6 (v0 : Nat) (k26 : AH → Option (Unit × AH)) : Nat → Int32 → AH → Option (Unit × AH)
  | 0, _, _ => none
  | n + 1, v1, N => if (192 : Int32) ≤ v1 then k26 N else ob (hR N v0 10 14) (fun x3 => ob (sI N x3 v1 (0 : Int32)) (fun N4 => f_X10_worksOut_L6 v0 k26 n (v1 + 1) N4))
set_option maxHeartbeats 4000000 in
set_option maxRecDepth 100000 in
theorem w_X10_worksOut_L6 {P : Unit × AH → Prop} (X : CX cX10_worksOut RX10 2 G aC t b0 p s m args c) (hr : RtV p l e rm_X10_worksOut s m args below meth c 0 0 Q cX10_worksOut G aC b0 P) (v0 : Nat) {k26 : AH → Option (Unit × AH)}
    (hk26 : ∀ (N : AH) (H : Heap) (locs : List Loc) (ls : Array Slot), Rp G aC b0 N H → va_S (fun q => b0 ≤ q) s.heap H locs → lv_has ls 2 [(0, .ref v0)] → owp (k26 N) P → W p l e rm_X10_worksOut s m args below meth c H locs 0 0 Q (F0 m 26 ls [])) :
    ∀ (n : Nat) (v1 : Int32) (N : AH) (H : Heap) (locs : List Loc) (ls : Array Slot), Rp G aC b0 N H → va_S (fun q => b0 ≤ q) s.heap H locs → lv_has ls 2 [(0, .ref v0), (1, .int v1)] → owp (f_X10_worksOut_L6 v0 k26 n v1 N) P → W p l e rm_X10_worksOut s m args below meth c H locs 0 0 Q (F0 m 6 ls []) := by
  have hx := X.1.1
  have hb := X.1.2.1
  intro n
  induction n with
  | zero =>
    intro v1 N H locs ls hR hS hl hp
    exact (show False from hp).elim
  | succ n ih =>
    intro v1 N H locs ls hR hS hl hp
    rw [f_X10_worksOut_L6] at hp
    refine lv_iload_n hx hb dX10_worksOut_6 rfl (lv_at hl 1 rfl) ?_
    refine lv_sipush (v := (192)) hx hb dX10_worksOut_7 (by decide) ?_
    refine lv_icmp_ge (tgt := 26) hx hb dX10_worksOut_10 (by decide) (fun k2 => ?_) (fun k2 => ?_)
    · have hp := owp_t k2 hp
      exact hk26 _ _ _ _ hR hS (lv_sub hl [0] rfl) hp
    · have hp := owp_f k2 hp
      refine lv_aload_n hx hb dX10_worksOut_13 rfl (lv_at hl 0 rfl) ?_
      obtain ⟨x3, e_x3, hp⟩ := owp_ob hp
      refine gf_X10_38 X hR e_x3 dX10_worksOut_14 ?_
      refine lv_iload_n hx hb dX10_worksOut_17 rfl (lv_at hl 1 rfl) ?_
      refine lv_iconst (v := (0)) hx hb dX10_worksOut_18 (by decide) ?_
      obtain ⟨N4, e_N4, hp⟩ := owp_ob hp
      refine ab_iast X hR hS e_N4 dX10_worksOut_19 (fun H locs hR hS => ?_)
      refine lv_iinc (v := v1 + 1) (lv' := [(1, .int (v1 + 1)), (0, .ref v0)]) hx hb dX10_worksOut_20 hl (k := 1) rfl rfl (by decide) rfl (fun ls hl => ?_)
      refine lv_goto (tgt := 6) hx hb dX10_worksOut_23 (by decide) ?_
      exact ih _ _ _ _ _ hR hS (lv_sub hl [1, 0] rfl) hp
def f_X10_worksOut_L28 (v0 : Nat) (k47 : AH → Option (Unit × AH)) : Nat → Int32 → AH → Option (Unit × AH)
  | 0, _, _ => none
  | n + 1, v1, N => if (12 : Int32) ≤ v1 then k47 N else ob (hR N v0 10 13) (fun x7 => ob (sI N x7 v1 (-1 : Int32)) (fun N8 => f_X10_worksOut_L28 v0 k47 n (v1 + 1) N8))
set_option maxHeartbeats 4000000 in
set_option maxRecDepth 100000 in
theorem w_X10_worksOut_L28 {P : Unit × AH → Prop} (X : CX cX10_worksOut RX10 2 G aC t b0 p s m args c) (hr : RtV p l e rm_X10_worksOut s m args below meth c 0 0 Q cX10_worksOut G aC b0 P) (v0 : Nat) {k47 : AH → Option (Unit × AH)}
    (hk47 : ∀ (N : AH) (H : Heap) (locs : List Loc) (ls : Array Slot), Rp G aC b0 N H → va_S (fun q => b0 ≤ q) s.heap H locs → lv_has ls 2 [(0, .ref v0)] → owp (k47 N) P → W p l e rm_X10_worksOut s m args below meth c H locs 0 0 Q (F0 m 47 ls [])) :
    ∀ (n : Nat) (v1 : Int32) (N : AH) (H : Heap) (locs : List Loc) (ls : Array Slot), Rp G aC b0 N H → va_S (fun q => b0 ≤ q) s.heap H locs → lv_has ls 2 [(0, .ref v0), (1, .int v1)] → owp (f_X10_worksOut_L28 v0 k47 n v1 N) P → W p l e rm_X10_worksOut s m args below meth c H locs 0 0 Q (F0 m 28 ls []) := by
  have hx := X.1.1
  have hb := X.1.2.1
  intro n
  induction n with
  | zero =>
    intro v1 N H locs ls hR hS hl hp
    exact (show False from hp).elim
  | succ n ih =>
    intro v1 N H locs ls hR hS hl hp
    rw [f_X10_worksOut_L28] at hp
    refine lv_iload_n hx hb dX10_worksOut_28 rfl (lv_at hl 1 rfl) ?_
    refine lv_bipush (v := (12)) hx hb dX10_worksOut_29 (by decide) ?_
    refine lv_icmp_ge (tgt := 47) hx hb dX10_worksOut_31 (by decide) (fun k6 => ?_) (fun k6 => ?_)
    · have hp := owp_t k6 hp
      exact hk47 _ _ _ _ hR hS (lv_sub hl [0] rfl) hp
    · have hp := owp_f k6 hp
      refine lv_aload_n hx hb dX10_worksOut_34 rfl (lv_at hl 0 rfl) ?_
      obtain ⟨x7, e_x7, hp⟩ := owp_ob hp
      refine gf_X10_35 X hR e_x7 dX10_worksOut_35 ?_
      refine lv_iload_n hx hb dX10_worksOut_38 rfl (lv_at hl 1 rfl) ?_
      refine lv_iconst (v := (-1)) hx hb dX10_worksOut_39 (by decide) ?_
      obtain ⟨N8, e_N8, hp⟩ := owp_ob hp
      refine ab_iast X hR hS e_N8 dX10_worksOut_40 (fun H locs hR hS => ?_)
      refine lv_iinc (v := v1 + 1) (lv' := [(1, .int (v1 + 1)), (0, .ref v0)]) hx hb dX10_worksOut_41 hl (k := 1) rfl rfl (by decide) rfl (fun ls hl => ?_)
      refine lv_goto (tgt := 28) hx hb dX10_worksOut_44 (by decide) ?_
      exact ih _ _ _ _ _ hR hS (lv_sub hl [1, 0] rfl) hp
def f_X10_worksOut_L53 (v0 : Nat) (k77 : AH → Option (Unit × AH)) : Nat → Int32 → AH → Option (Unit × AH)
  | 0, _, _ => none
  | n + 1, v1, N => ob (hI N v0 10 7) (fun x11 => if x11 ≤ v1 then k77 N else ob (hR N v0 10 6) (fun x13 => ob (aI N x13 v1) (fun x14 => ob2 (f_X10_gives v0 x14 N) (fun _ N15 => f_X10_worksOut_L53 v0 k77 n (v1 + 1) N15))))
set_option maxHeartbeats 4000000 in
set_option maxRecDepth 100000 in
theorem w_X10_worksOut_L53 {P : Unit × AH → Prop} (X : CX cX10_worksOut RX10 2 G aC t b0 p s m args c) (hr : RtV p l e rm_X10_worksOut s m args below meth c 0 0 Q cX10_worksOut G aC b0 P) (v0 : Nat) {k77 : AH → Option (Unit × AH)}
    (hk77 : ∀ (N : AH) (H : Heap) (locs : List Loc) (ls : Array Slot), Rp G aC b0 N H → va_S (fun q => b0 ≤ q) s.heap H locs → lv_has ls 2 [(0, .ref v0)] → owp (k77 N) P → W p l e rm_X10_worksOut s m args below meth c H locs 0 0 Q (F0 m 77 ls [])) :
    ∀ (n : Nat) (v1 : Int32) (N : AH) (H : Heap) (locs : List Loc) (ls : Array Slot), Rp G aC b0 N H → va_S (fun q => b0 ≤ q) s.heap H locs → lv_has ls 2 [(0, .ref v0), (1, .int v1)] → owp (f_X10_worksOut_L53 v0 k77 n v1 N) P → W p l e rm_X10_worksOut s m args below meth c H locs 0 0 Q (F0 m 53 ls []) := by
  have hx := X.1.1
  have hb := X.1.2.1
  intro n
  induction n with
  | zero =>
    intro v1 N H locs ls hR hS hl hp
    exact (show False from hp).elim
  | succ n ih =>
    intro v1 N H locs ls hR hS hl hp
    rw [f_X10_worksOut_L53] at hp
    refine lv_iload_n hx hb dX10_worksOut_53 rfl (lv_at hl 1 rfl) ?_
    refine lv_aload_n hx hb dX10_worksOut_54 rfl (lv_at hl 0 rfl) ?_
    obtain ⟨x11, e_x11, hp⟩ := owp_ob hp
    refine gf_X10_101 X hR e_x11 dX10_worksOut_55 ?_
    refine lv_icmp_ge (tgt := 77) hx hb dX10_worksOut_58 (by decide) (fun k12 => ?_) (fun k12 => ?_)
    · have hp := owp_t k12 hp
      exact hk77 _ _ _ _ hR hS (lv_sub hl [0] rfl) hp
    · have hp := owp_f k12 hp
      refine lv_aload_n hx hb dX10_worksOut_61 rfl (lv_at hl 0 rfl) ?_
      refine lv_aload_n hx hb dX10_worksOut_62 rfl (lv_at hl 0 rfl) ?_
      obtain ⟨x13, e_x13, hp⟩ := owp_ob hp
      refine gf_X10_22 X hR e_x13 dX10_worksOut_63 ?_
      refine lv_iload_n hx hb dX10_worksOut_66 rfl (lv_at hl 1 rfl) ?_
      obtain ⟨x14, e_x14, hp⟩ := owp_ob hp
      refine ab_iald X hR e_x14 dX10_worksOut_67 ?_
      obtain ⟨_, N15, e_N15, hp⟩ := owp_ob2 hp
      refine iv_X10_gives (rest := []) mw_X10_127 X hR hS e_N15 hl.1 (Nat.le_of_ble_eq_true rfl) ⟨Nat.le_of_ble_eq_true rfl, Nat.le_of_ble_eq_true rfl⟩ ⟨Nat.le_of_ble_eq_true rfl, Nat.le_of_ble_eq_true rfl⟩ dX10_worksOut_68 (fun H locs hR hS => ?_)
      refine lv_iinc (v := v1 + 1) (lv' := [(1, .int (v1 + 1)), (0, .ref v0)]) hx hb dX10_worksOut_71 hl (k := 1) rfl rfl (by decide) rfl (fun ls hl => ?_)
      refine lv_goto (tgt := 53) hx hb dX10_worksOut_74 (by decide) ?_
      exact ih _ _ _ _ _ hR hS (lv_sub hl [1, 0] rfl) hp
def f_X10_worksOut_L79 (v0 : Nat) (k113 : AH → Option (Unit × AH)) : Nat → Int32 → AH → Option (Unit × AH)
  | 0, _, _ => none
  | n + 1, v1, N => ob (hI N v0 10 7) (fun x17 => if x17 ≤ v1 then k113 N else ob (hR N v0 10 0) (fun x19 => ob (aI N x19 (2 : Int32)) (fun x20 => if ¬ x20 = (1 : Int32) then k113 N else ob (hR N v0 10 6) (fun x22 => ob (aI N x22 v1) (fun x23 => ob2 (f_X10_shares v0 x23 N) (fun _ N24 => f_X10_worksOut_L79 v0 k113 n (v1 + 1) N24))))))
set_option maxHeartbeats 4000000 in
set_option maxRecDepth 100000 in
theorem w_X10_worksOut_L79 {P : Unit × AH → Prop} (X : CX cX10_worksOut RX10 2 G aC t b0 p s m args c) (hr : RtV p l e rm_X10_worksOut s m args below meth c 0 0 Q cX10_worksOut G aC b0 P) (v0 : Nat) {k113 : AH → Option (Unit × AH)}
    (hk113 : ∀ (N : AH) (H : Heap) (locs : List Loc) (ls : Array Slot), Rp G aC b0 N H → va_S (fun q => b0 ≤ q) s.heap H locs → lv_has ls 2 [] → owp (k113 N) P → W p l e rm_X10_worksOut s m args below meth c H locs 0 0 Q (F0 m 113 ls [])) :
    ∀ (n : Nat) (v1 : Int32) (N : AH) (H : Heap) (locs : List Loc) (ls : Array Slot), Rp G aC b0 N H → va_S (fun q => b0 ≤ q) s.heap H locs → lv_has ls 2 [(0, .ref v0), (1, .int v1)] → owp (f_X10_worksOut_L79 v0 k113 n v1 N) P → W p l e rm_X10_worksOut s m args below meth c H locs 0 0 Q (F0 m 79 ls []) := by
  have hx := X.1.1
  have hb := X.1.2.1
  intro n
  induction n with
  | zero =>
    intro v1 N H locs ls hR hS hl hp
    exact (show False from hp).elim
  | succ n ih =>
    intro v1 N H locs ls hR hS hl hp
    rw [f_X10_worksOut_L79] at hp
    refine lv_iload_n hx hb dX10_worksOut_79 rfl (lv_at hl 1 rfl) ?_
    refine lv_aload_n hx hb dX10_worksOut_80 rfl (lv_at hl 0 rfl) ?_
    obtain ⟨x17, e_x17, hp⟩ := owp_ob hp
    refine gf_X10_101 X hR e_x17 dX10_worksOut_81 ?_
    refine lv_icmp_ge (tgt := 113) hx hb dX10_worksOut_84 (by decide) (fun k18 => ?_) (fun k18 => ?_)
    · have hp := owp_t k18 hp
      exact hk113 _ _ _ _ hR hS (lv_sub hl [] rfl) hp
    · have hp := owp_f k18 hp
      refine lv_aload_n hx hb dX10_worksOut_87 rfl (lv_at hl 0 rfl) ?_
      obtain ⟨x19, e_x19, hp⟩ := owp_ob hp
      refine gf_X10_7 X hR e_x19 dX10_worksOut_88 ?_
      refine lv_iconst (v := (2)) hx hb dX10_worksOut_91 (by decide) ?_
      obtain ⟨x20, e_x20, hp⟩ := owp_ob hp
      refine ab_iald X hR e_x20 dX10_worksOut_92 ?_
      refine lv_iconst (v := (1)) hx hb dX10_worksOut_93 (by decide) ?_
      refine lv_icmp_ne (tgt := 113) hx hb dX10_worksOut_94 (by decide) (fun k21 => ?_) (fun k21 => ?_)
      · have hp := owp_t k21 hp
        exact hk113 _ _ _ _ hR hS (lv_sub hl [] rfl) hp
      · have hp := owp_f (fun q => q k21) hp
        refine lv_aload_n hx hb dX10_worksOut_97 rfl (lv_at hl 0 rfl) ?_
        refine lv_aload_n hx hb dX10_worksOut_98 rfl (lv_at hl 0 rfl) ?_
        obtain ⟨x22, e_x22, hp⟩ := owp_ob hp
        refine gf_X10_22 X hR e_x22 dX10_worksOut_99 ?_
        refine lv_iload_n hx hb dX10_worksOut_102 rfl (lv_at hl 1 rfl) ?_
        obtain ⟨x23, e_x23, hp⟩ := owp_ob hp
        refine ab_iald X hR e_x23 dX10_worksOut_103 ?_
        obtain ⟨_, N24, e_N24, hp⟩ := owp_ob2 hp
        refine iv_X10_shares (rest := []) mw_X10_131 X hR hS e_N24 hl.1 (Nat.le_of_ble_eq_true rfl) ⟨Nat.le_of_ble_eq_true rfl, Nat.le_of_ble_eq_true rfl⟩ ⟨Nat.le_of_ble_eq_true rfl, Nat.le_of_ble_eq_true rfl⟩ dX10_worksOut_104 (fun H locs hR hS => ?_)
        refine lv_iinc (v := v1 + 1) (lv' := [(1, .int (v1 + 1)), (0, .ref v0)]) hx hb dX10_worksOut_107 hl (k := 1) rfl rfl (by decide) rfl (fun ls hl => ?_)
        refine lv_goto (tgt := 79) hx hb dX10_worksOut_110 (by decide) ?_
        exact ih _ _ _ _ _ hR hS (lv_sub hl [1, 0] rfl) hp
def f_X10_worksOut (v0 : Nat) (N : AH) : Option (Unit × AH) := ob (iO N v0 10) (fun _ => ob2 (f_X10_orders v0 N) (fun _ N1 => f_X10_worksOut_L6 v0 (fun N5 => f_X10_worksOut_L28 v0 (fun N9 => ob2 (f_X10_allAvailable v0 N9) (fun _ N10 => f_X10_worksOut_L53 v0 (fun N16 => f_X10_worksOut_L79 v0 (fun N25 => some ((), N25)) FU (0 : Int32) N16) FU (0 : Int32) N10)) FU (0 : Int32) N5) FU (0 : Int32) N1))
set_option maxHeartbeats 4000000 in
set_option maxRecDepth 100000 in
theorem wk_X10_worksOut {P : Unit × AH → Prop} (X : CX cX10_worksOut RX10 2 G aC t b0 p s m args c) (hr : RtV p l e rm_X10_worksOut s m args below meth c 0 0 Q cX10_worksOut G aC b0 P) (v0 : Nat) (N : AH) (H : Heap) (locs : List Loc) (ls : Array Slot) (hR : Rp G aC b0 N H) (hS : va_S (fun q => b0 ≤ q) s.heap H locs) (hl : lv_has ls 2 [(0, .ref v0)]) (hp : owp (f_X10_worksOut v0 N) P) : W p l e rm_X10_worksOut s m args below meth c H locs 0 0 Q (F0 m 0 ls []) := by
  have hx := X.1.1
  have hb := X.1.2.1
  unfold f_X10_worksOut at hp
  obtain ⟨_, _, hp⟩ := owp_ob hp
  refine lv_aload_n hx hb dX10_worksOut_0 rfl (lv_at hl 0 rfl) ?_
  obtain ⟨_, N1, e_N1, hp⟩ := owp_ob2 hp
  refine iv_X10_orders (rest := []) mw_X10_124 X hR hS e_N1 hl.1 (Nat.le_of_ble_eq_true rfl) ⟨Nat.le_of_ble_eq_true rfl, Nat.le_of_ble_eq_true rfl⟩ ⟨Nat.le_of_ble_eq_true rfl, Nat.le_of_ble_eq_true rfl⟩ dX10_worksOut_1 (fun H locs hR hS => ?_)
  refine lv_iconst (v := (0)) hx hb dX10_worksOut_4 (by decide) ?_
  refine lv_istore_n (lv' := [(1, .int (0 : Int32)), (0, .ref v0)]) hx hb dX10_worksOut_5 rfl hl (by decide) rfl (fun ls hl => ?_)
  refine w_X10_worksOut_L6 X hr _ (fun N5 H locs ls hR hS hl hp => ?_) _ _ _ _ _ _ hR hS (lv_sub hl [1, 0] rfl) hp
  refine lv_iconst (v := (0)) hx hb dX10_worksOut_26 (by decide) ?_
  refine lv_istore_n (lv' := [(1, .int (0 : Int32)), (0, .ref v0)]) hx hb dX10_worksOut_27 rfl hl (by decide) rfl (fun ls hl => ?_)
  refine w_X10_worksOut_L28 X hr _ (fun N9 H locs ls hR hS hl hp => ?_) _ _ _ _ _ _ hR hS (lv_sub hl [1, 0] rfl) hp
  refine lv_aload_n hx hb dX10_worksOut_47 rfl (lv_at hl 0 rfl) ?_
  obtain ⟨_, N10, e_N10, hp⟩ := owp_ob2 hp
  refine iv_X10_allAvailable (rest := []) mw_X10_76 X hR hS e_N10 hl.1 (Nat.le_of_ble_eq_true rfl) ⟨Nat.le_of_ble_eq_true rfl, Nat.le_of_ble_eq_true rfl⟩ ⟨Nat.le_of_ble_eq_true rfl, Nat.le_of_ble_eq_true rfl⟩ dX10_worksOut_48 (fun H locs hR hS => ?_)
  refine lv_iconst (v := (0)) hx hb dX10_worksOut_51 (by decide) ?_
  refine lv_istore_n (lv' := [(1, .int (0 : Int32)), (0, .ref v0)]) hx hb dX10_worksOut_52 rfl hl (by decide) rfl (fun ls hl => ?_)
  refine w_X10_worksOut_L53 X hr _ (fun N16 H locs ls hR hS hl hp => ?_) _ _ _ _ _ _ hR hS (lv_sub hl [1, 0] rfl) hp
  refine lv_iconst (v := (0)) hx hb dX10_worksOut_77 (by decide) ?_
  refine lv_istore_n (lv' := [(1, .int (0 : Int32)), (0, .ref v0)]) hx hb dX10_worksOut_78 rfl hl (by decide) rfl (fun ls hl => ?_)
  refine w_X10_worksOut_L79 X hr _ (fun N25 H locs ls hR hS hl hp => ?_) _ _ _ _ _ _ hR hS (lv_sub hl [1, 0] rfl) hp
  exact hr _ _ _ _ _ hR hS dX10_worksOut_113 hp
end
theorem ct_X10_worksOut {v0 : Nat} {N N1 : AH} {r : Unit} (h : f_X10_worksOut v0 N = some (r, N1)) : Ct yX10_worksOut cX10_worksOut 2 none rm_X10_worksOut [.ref v0] N none N1 :=
  ab_met (own := RX10) (by decide +kernel) rfl (Nat.le_of_ble_eq_true rfl) (fun l G aC t b0 p e s m below meth c ls X hr hlk hnm hR hS hl => wk_X10_worksOut X (RtV_met X.1.1 X.1.2.1 hr hlk) _ _ _ _ _ hR hS hl (owp_of h))
theorem cw_X10_worksOut : Cond.code yX10_worksOut cX10_worksOut 2 none ∈ WT := WT_of 1155 (by decide +kernel) (by decide +kernel)
theorem iv_X10_worksOut {p : Program} {l : Launch} {e : Env} {R : Room} {s : State} {m : MethodId} {args : Array Value} {below : List Frame} {meth : Method} {c : Code} {H : Heap} {locs : List Loc} {cells slots : Nat} {Q : State → Prop} {cc : ByteArray} {own : String} {nL : Nat} {G : va_G} {aC : Nat → ClassId} {t b0 : Nat} {N N1 : AH} {pc index : Nat} {ls : Array Slot} {rest : List Value} {v0 : Nat} {r : Unit} (w1 : Cond.methodLink own index yX10_worksOut ∈ WT) (X : CX cc own nL G aC t b0 p s m args c) (hR : Rp G aC b0 N H) (hS : va_S (fun q => b0 ≤ q) s.heap H locs) (h : f_X10_worksOut v0 N = some (r, N1)) (hls : ls.size = nL) (hW : (rest.map fun v => v.category).sum ≤ 8) (hR1 : 8 ≤ R.frames ∧ 180 ≤ R.locals) (hcs : cells + 0 ≤ R.cells ∧ slots + 0 ≤ R.slots) (hdg : decode cc pc = .ok (.invokevirtual index, 3)) (kk : ∀ (H1 : Heap) (locs1 : List Loc), Rp G aC b0 N1 H1 → va_S (fun q => b0 ≤ q) s.heap H1 locs1 → W p l e R s m args below meth c H1 locs1 cells slots Q (F0 m (pc + 3) ls rest)) : W p l e R s m args below meth c H locs cells slots Q (F0 m pc ls (.ref v0 :: rest)) :=
  ab_callV (n := 0) (As := []) X hR hS (ct_X10_worksOut h) (ob_rc (c := 10) (N := N) (a := v0) h) (T := TX10) (k := 20) (C := RX10) rfl w1 (WT_of 1154 (by decide +kernel) (by decide +kernel)) (WT_of 53 (by decide +kernel) (by decide +kernel)) (WT_of 92 (by decide +kernel) (by decide +kernel)) cw_X10_worksOut ⟨rfl, by decide +kernel, by decide +kernel, by decide +kernel⟩ rfl hls hW hR1 hcs rfl hdg kk
-- X10_notes
theorem dX10_notes_0 : decode cX10_notes 0 = .ok (.aload_n 0, 1) := by decide +kernel
theorem dX10_notes_1 : decode cX10_notes 1 = .ok (.getfield 7, 3) := by decide +kernel
theorem dX10_notes_4 : decode cX10_notes 4 = .ok (.bipush 8, 2) := by decide +kernel
theorem dX10_notes_6 : decode cX10_notes 6 = .ok (.iaload, 1) := by decide +kernel
theorem dX10_notes_7 : decode cX10_notes 7 = .ok (.bipush 20, 2) := by decide +kernel
theorem dX10_notes_9 : decode cX10_notes 9 = .ok (.if_icmp .ne 54, 3) := by decide +kernel
theorem dX10_notes_12 : decode cX10_notes 12 = .ok (.iconst 0, 1) := by decide +kernel
theorem dX10_notes_13 : decode cX10_notes 13 = .ok (.istore 4, 2) := by decide +kernel
theorem dX10_notes_15 : decode cX10_notes 15 = .ok (.iload 4, 2) := by decide +kernel
theorem dX10_notes_17 : decode cX10_notes 17 = .ok (.bipush 57, 2) := by decide +kernel
theorem dX10_notes_19 : decode cX10_notes 19 = .ok (.if_icmp .ge 33, 3) := by decide +kernel
theorem dX10_notes_22 : decode cX10_notes 22 = .ok (.aload_n 0, 1) := by decide +kernel
theorem dX10_notes_23 : decode cX10_notes 23 = .ok (.getfield 7, 3) := by decide +kernel
theorem dX10_notes_26 : decode cX10_notes 26 = .ok (.sipush 1122, 3) := by decide +kernel
theorem dX10_notes_29 : decode cX10_notes 29 = .ok (.iload 4, 2) := by decide +kernel
theorem dX10_notes_31 : decode cX10_notes 31 = .ok (.iadd, 1) := by decide +kernel
theorem dX10_notes_32 : decode cX10_notes 32 = .ok (.aload_n 0, 1) := by decide +kernel
theorem dX10_notes_33 : decode cX10_notes 33 = .ok (.getfield 7, 3) := by decide +kernel
theorem dX10_notes_36 : decode cX10_notes 36 = .ok (.sipush 1122, 3) := by decide +kernel
theorem dX10_notes_39 : decode cX10_notes 39 = .ok (.iload 4, 2) := by decide +kernel
theorem dX10_notes_41 : decode cX10_notes 41 = .ok (.iadd, 1) := by decide +kernel
theorem dX10_notes_42 : decode cX10_notes 42 = .ok (.iconst 3, 1) := by decide +kernel
theorem dX10_notes_43 : decode cX10_notes 43 = .ok (.iadd, 1) := by decide +kernel
theorem dX10_notes_44 : decode cX10_notes 44 = .ok (.iaload, 1) := by decide +kernel
theorem dX10_notes_45 : decode cX10_notes 45 = .ok (.iastore, 1) := by decide +kernel
theorem dX10_notes_46 : decode cX10_notes 46 = .ok (.iinc 4 1, 3) := by decide +kernel
theorem dX10_notes_49 : decode cX10_notes 49 = .ok (.goto (-34), 3) := by decide +kernel
theorem dX10_notes_52 : decode cX10_notes 52 = .ok (.aload_n 0, 1) := by decide +kernel
theorem dX10_notes_53 : decode cX10_notes 53 = .ok (.getfield 7, 3) := by decide +kernel
theorem dX10_notes_56 : decode cX10_notes 56 = .ok (.bipush 8, 2) := by decide +kernel
theorem dX10_notes_58 : decode cX10_notes 58 = .ok (.dup2, 1) := by decide +kernel
theorem dX10_notes_59 : decode cX10_notes 59 = .ok (.iaload, 1) := by decide +kernel
theorem dX10_notes_60 : decode cX10_notes 60 = .ok (.iconst 1, 1) := by decide +kernel
theorem dX10_notes_61 : decode cX10_notes 61 = .ok (.isub, 1) := by decide +kernel
theorem dX10_notes_62 : decode cX10_notes 62 = .ok (.iastore, 1) := by decide +kernel
theorem dX10_notes_63 : decode cX10_notes 63 = .ok (.sipush 1122, 3) := by decide +kernel
theorem dX10_notes_66 : decode cX10_notes 66 = .ok (.iconst 3, 1) := by decide +kernel
theorem dX10_notes_67 : decode cX10_notes 67 = .ok (.aload_n 0, 1) := by decide +kernel
theorem dX10_notes_68 : decode cX10_notes 68 = .ok (.getfield 7, 3) := by decide +kernel
theorem dX10_notes_71 : decode cX10_notes 71 = .ok (.bipush 8, 2) := by decide +kernel
theorem dX10_notes_73 : decode cX10_notes 73 = .ok (.iaload, 1) := by decide +kernel
theorem dX10_notes_74 : decode cX10_notes 74 = .ok (.imul, 1) := by decide +kernel
theorem dX10_notes_75 : decode cX10_notes 75 = .ok (.iadd, 1) := by decide +kernel
theorem dX10_notes_76 : decode cX10_notes 76 = .ok (.istore 4, 2) := by decide +kernel
theorem dX10_notes_78 : decode cX10_notes 78 = .ok (.aload_n 0, 1) := by decide +kernel
theorem dX10_notes_79 : decode cX10_notes 79 = .ok (.getfield 7, 3) := by decide +kernel
theorem dX10_notes_82 : decode cX10_notes 82 = .ok (.iload 4, 2) := by decide +kernel
theorem dX10_notes_84 : decode cX10_notes 84 = .ok (.iload_n 1, 1) := by decide +kernel
theorem dX10_notes_85 : decode cX10_notes 85 = .ok (.iastore, 1) := by decide +kernel
theorem dX10_notes_86 : decode cX10_notes 86 = .ok (.aload_n 0, 1) := by decide +kernel
theorem dX10_notes_87 : decode cX10_notes 87 = .ok (.getfield 7, 3) := by decide +kernel
theorem dX10_notes_90 : decode cX10_notes 90 = .ok (.iload 4, 2) := by decide +kernel
theorem dX10_notes_92 : decode cX10_notes 92 = .ok (.iconst 1, 1) := by decide +kernel
theorem dX10_notes_93 : decode cX10_notes 93 = .ok (.iadd, 1) := by decide +kernel
theorem dX10_notes_94 : decode cX10_notes 94 = .ok (.iload_n 2, 1) := by decide +kernel
theorem dX10_notes_95 : decode cX10_notes 95 = .ok (.iastore, 1) := by decide +kernel
theorem dX10_notes_96 : decode cX10_notes 96 = .ok (.aload_n 0, 1) := by decide +kernel
theorem dX10_notes_97 : decode cX10_notes 97 = .ok (.getfield 7, 3) := by decide +kernel
theorem dX10_notes_100 : decode cX10_notes 100 = .ok (.iload 4, 2) := by decide +kernel
theorem dX10_notes_102 : decode cX10_notes 102 = .ok (.iconst 2, 1) := by decide +kernel
theorem dX10_notes_103 : decode cX10_notes 103 = .ok (.iadd, 1) := by decide +kernel
theorem dX10_notes_104 : decode cX10_notes 104 = .ok (.iload_n 3, 1) := by decide +kernel
theorem dX10_notes_105 : decode cX10_notes 105 = .ok (.iastore, 1) := by decide +kernel
theorem dX10_notes_106 : decode cX10_notes 106 = .ok (.aload_n 0, 1) := by decide +kernel
theorem dX10_notes_107 : decode cX10_notes 107 = .ok (.getfield 7, 3) := by decide +kernel
theorem dX10_notes_110 : decode cX10_notes 110 = .ok (.bipush 8, 2) := by decide +kernel
theorem dX10_notes_112 : decode cX10_notes 112 = .ok (.dup2, 1) := by decide +kernel
theorem dX10_notes_113 : decode cX10_notes 113 = .ok (.iaload, 1) := by decide +kernel
theorem dX10_notes_114 : decode cX10_notes 114 = .ok (.iconst 1, 1) := by decide +kernel
theorem dX10_notes_115 : decode cX10_notes 115 = .ok (.iadd, 1) := by decide +kernel
theorem dX10_notes_116 : decode cX10_notes 116 = .ok (.iastore, 1) := by decide +kernel
theorem dX10_notes_117 : decode cX10_notes 117 = .ok (.return_, 1) := by decide +kernel
def rm_X10_notes : Room := { frames := 0, cells := 0, slots := 0, locals := 0 }
section
variable {p : Program} {l : Launch} {e : Env} {s : State} {m : MethodId} {args : Array Value} {below : List Frame} {meth : Method} {c : Code} {Q : State → Prop} {G : va_G} {aC : Nat → ClassId} {t b0 : Nat}
def f_X10_notes_J63 (v0 : Nat) (v1 : Int32) (v2 : Int32) (v3 : Int32) (N : AH) : Option (Unit × AH) := ob (hR N v0 10 0) (fun x4 => ob (aI N x4 (8 : Int32)) (fun x5 => ob (hR N v0 10 0) (fun x6 => ob (sI N x6 ((1122 : Int32) + ((3 : Int32) * x5)) v1) (fun N7 => ob (hR N7 v0 10 0) (fun x8 => ob (sI N7 x8 (((1122 : Int32) + ((3 : Int32) * x5)) + (1 : Int32)) v2) (fun N9 => ob (hR N9 v0 10 0) (fun x10 => ob (sI N9 x10 (((1122 : Int32) + ((3 : Int32) * x5)) + (2 : Int32)) v3) (fun N11 => ob (hR N11 v0 10 0) (fun x12 => ob (aI N11 x12 (8 : Int32)) (fun x13 => ob (sI N11 x12 (8 : Int32) (x13 + (1 : Int32))) (fun N14 => some ((), N14))))))))))))
set_option maxHeartbeats 4000000 in
set_option maxRecDepth 100000 in
theorem w_X10_notes_J63 {P : Unit × AH → Prop} (X : CX cX10_notes RX10 5 G aC t b0 p s m args c) (hr : RtV p l e rm_X10_notes s m args below meth c 0 0 Q cX10_notes G aC b0 P) (v0 : Nat) (v1 : Int32) (v2 : Int32) (v3 : Int32) (N : AH) (H : Heap) (locs : List Loc) (ls : Array Slot) (hR : Rp G aC b0 N H) (hS : va_S (fun q => b0 ≤ q) s.heap H locs) (hl : lv_has ls 5 [(0, .ref v0), (1, .int v1), (2, .int v2), (3, .int v3)]) (hp : owp (f_X10_notes_J63 v0 v1 v2 v3 N) P) : W p l e rm_X10_notes s m args below meth c H locs 0 0 Q (F0 m 63 ls []) := by
  have hx := X.1.1
  have hb := X.1.2.1
  unfold f_X10_notes_J63 at hp
  refine lv_sipush (v := (1122)) hx hb dX10_notes_63 (by decide) ?_
  refine lv_iconst (v := (3)) hx hb dX10_notes_66 (by decide) ?_
  refine lv_aload_n hx hb dX10_notes_67 rfl (lv_at hl 0 rfl) ?_
  obtain ⟨x4, e_x4, hp⟩ := owp_ob hp
  refine gf_X10_7 X hR e_x4 dX10_notes_68 ?_
  refine lv_bipush (v := (8)) hx hb dX10_notes_71 (by decide) ?_
  obtain ⟨x5, e_x5, hp⟩ := owp_ob hp
  refine ab_iald X hR e_x5 dX10_notes_73 ?_
  refine lv_imul hx hb dX10_notes_74 ?_
  refine lv_iadd hx hb dX10_notes_75 ?_
  refine lv_istore (lv' := [(4, .int ((1122 : Int32) + ((3 : Int32) * x5))), (0, .ref v0), (1, .int v1), (2, .int v2), (3, .int v3)]) hx hb dX10_notes_76 hl (by decide) rfl (fun ls hl => ?_)
  refine lv_aload_n hx hb dX10_notes_78 rfl (lv_at hl 1 rfl) ?_
  obtain ⟨x6, e_x6, hp⟩ := owp_ob hp
  refine gf_X10_7 X hR e_x6 dX10_notes_79 ?_
  refine lv_iload hx hb dX10_notes_82 (lv_at hl 0 rfl) ?_
  refine lv_iload_n hx hb dX10_notes_84 rfl (lv_at hl 2 rfl) ?_
  obtain ⟨N7, e_N7, hp⟩ := owp_ob hp
  refine ab_iast X hR hS e_N7 dX10_notes_85 (fun H locs hR hS => ?_)
  refine lv_aload_n hx hb dX10_notes_86 rfl (lv_at hl 1 rfl) ?_
  obtain ⟨x8, e_x8, hp⟩ := owp_ob hp
  refine gf_X10_7 X hR e_x8 dX10_notes_87 ?_
  refine lv_iload hx hb dX10_notes_90 (lv_at hl 0 rfl) ?_
  refine lv_iconst (v := (1)) hx hb dX10_notes_92 (by decide) ?_
  refine lv_iadd hx hb dX10_notes_93 ?_
  refine lv_iload_n hx hb dX10_notes_94 rfl (lv_at hl 3 rfl) ?_
  obtain ⟨N9, e_N9, hp⟩ := owp_ob hp
  refine ab_iast X hR hS e_N9 dX10_notes_95 (fun H locs hR hS => ?_)
  refine lv_aload_n hx hb dX10_notes_96 rfl (lv_at hl 1 rfl) ?_
  obtain ⟨x10, e_x10, hp⟩ := owp_ob hp
  refine gf_X10_7 X hR e_x10 dX10_notes_97 ?_
  refine lv_iload hx hb dX10_notes_100 (lv_at hl 0 rfl) ?_
  refine lv_iconst (v := (2)) hx hb dX10_notes_102 (by decide) ?_
  refine lv_iadd hx hb dX10_notes_103 ?_
  refine lv_iload_n hx hb dX10_notes_104 rfl (lv_at hl 4 rfl) ?_
  obtain ⟨N11, e_N11, hp⟩ := owp_ob hp
  refine ab_iast X hR hS e_N11 dX10_notes_105 (fun H locs hR hS => ?_)
  refine lv_aload_n hx hb dX10_notes_106 rfl (lv_at hl 1 rfl) ?_
  obtain ⟨x12, e_x12, hp⟩ := owp_ob hp
  refine gf_X10_7 X hR e_x12 dX10_notes_107 ?_
  refine lv_bipush (v := (8)) hx hb dX10_notes_110 (by decide) ?_
  refine lv_dup2_11 hx hb dX10_notes_112 rfl rfl ?_
  obtain ⟨x13, e_x13, hp⟩ := owp_ob hp
  refine ab_iald X hR e_x13 dX10_notes_113 ?_
  refine lv_iconst (v := (1)) hx hb dX10_notes_114 (by decide) ?_
  refine lv_iadd hx hb dX10_notes_115 ?_
  obtain ⟨N14, e_N14, hp⟩ := owp_ob hp
  refine ab_iast X hR hS e_N14 dX10_notes_116 (fun H locs hR hS => ?_)
  exact hr _ _ _ _ _ hR hS dX10_notes_117 hp
def f_X10_notes_L15 (v0 : Nat) (v1 : Int32) (v2 : Int32) (v3 : Int32) (k52 : AH → Option (Unit × AH)) : Nat → Int32 → AH → Option (Unit × AH)
  | 0, _, _ => none
  | n + 1, v4, N => if (57 : Int32) ≤ v4 then k52 N else ob (hR N v0 10 0) (fun x16 => ob (hR N v0 10 0) (fun x17 => ob (aI N x17 (((1122 : Int32) + v4) + (3 : Int32))) (fun x18 => ob (sI N x16 ((1122 : Int32) + v4) x18) (fun N19 => f_X10_notes_L15 v0 v1 v2 v3 k52 n (v4 + 1) N19))))
set_option maxHeartbeats 4000000 in
set_option maxRecDepth 100000 in
theorem w_X10_notes_L15 {P : Unit × AH → Prop} (X : CX cX10_notes RX10 5 G aC t b0 p s m args c) (hr : RtV p l e rm_X10_notes s m args below meth c 0 0 Q cX10_notes G aC b0 P) (v0 : Nat) (v1 : Int32) (v2 : Int32) (v3 : Int32) {k52 : AH → Option (Unit × AH)}
    (hk52 : ∀ (N : AH) (H : Heap) (locs : List Loc) (ls : Array Slot), Rp G aC b0 N H → va_S (fun q => b0 ≤ q) s.heap H locs → lv_has ls 5 [(0, .ref v0), (1, .int v1), (2, .int v2), (3, .int v3)] → owp (k52 N) P → W p l e rm_X10_notes s m args below meth c H locs 0 0 Q (F0 m 52 ls [])) :
    ∀ (n : Nat) (v4 : Int32) (N : AH) (H : Heap) (locs : List Loc) (ls : Array Slot), Rp G aC b0 N H → va_S (fun q => b0 ≤ q) s.heap H locs → lv_has ls 5 [(0, .ref v0), (1, .int v1), (2, .int v2), (3, .int v3), (4, .int v4)] → owp (f_X10_notes_L15 v0 v1 v2 v3 k52 n v4 N) P → W p l e rm_X10_notes s m args below meth c H locs 0 0 Q (F0 m 15 ls []) := by
  have hx := X.1.1
  have hb := X.1.2.1
  intro n
  induction n with
  | zero =>
    intro v4 N H locs ls hR hS hl hp
    exact (show False from hp).elim
  | succ n ih =>
    intro v4 N H locs ls hR hS hl hp
    rw [f_X10_notes_L15] at hp
    refine lv_iload hx hb dX10_notes_15 (lv_at hl 4 rfl) ?_
    refine lv_bipush (v := (57)) hx hb dX10_notes_17 (by decide) ?_
    refine lv_icmp_ge (tgt := 52) hx hb dX10_notes_19 (by decide) (fun k15 => ?_) (fun k15 => ?_)
    · have hp := owp_t k15 hp
      exact hk52 _ _ _ _ hR hS (lv_sub hl [0, 1, 2, 3] rfl) hp
    · have hp := owp_f k15 hp
      refine lv_aload_n hx hb dX10_notes_22 rfl (lv_at hl 0 rfl) ?_
      obtain ⟨x16, e_x16, hp⟩ := owp_ob hp
      refine gf_X10_7 X hR e_x16 dX10_notes_23 ?_
      refine lv_sipush (v := (1122)) hx hb dX10_notes_26 (by decide) ?_
      refine lv_iload hx hb dX10_notes_29 (lv_at hl 4 rfl) ?_
      refine lv_iadd hx hb dX10_notes_31 ?_
      refine lv_aload_n hx hb dX10_notes_32 rfl (lv_at hl 0 rfl) ?_
      obtain ⟨x17, e_x17, hp⟩ := owp_ob hp
      refine gf_X10_7 X hR e_x17 dX10_notes_33 ?_
      refine lv_sipush (v := (1122)) hx hb dX10_notes_36 (by decide) ?_
      refine lv_iload hx hb dX10_notes_39 (lv_at hl 4 rfl) ?_
      refine lv_iadd hx hb dX10_notes_41 ?_
      refine lv_iconst (v := (3)) hx hb dX10_notes_42 (by decide) ?_
      refine lv_iadd hx hb dX10_notes_43 ?_
      obtain ⟨x18, e_x18, hp⟩ := owp_ob hp
      refine ab_iald X hR e_x18 dX10_notes_44 ?_
      obtain ⟨N19, e_N19, hp⟩ := owp_ob hp
      refine ab_iast X hR hS e_N19 dX10_notes_45 (fun H locs hR hS => ?_)
      refine lv_iinc (v := v4 + 1) (lv' := [(4, .int (v4 + 1)), (0, .ref v0), (1, .int v1), (2, .int v2), (3, .int v3)]) hx hb dX10_notes_46 hl (k := 4) rfl rfl (by decide) rfl (fun ls hl => ?_)
      refine lv_goto (tgt := 15) hx hb dX10_notes_49 (by decide) ?_
      exact ih _ _ _ _ _ hR hS (lv_sub hl [1, 2, 3, 4, 0] rfl) hp
def f_X10_notes (v0 : Nat) (v1 : Int32) (v2 : Int32) (v3 : Int32) (N : AH) : Option (Unit × AH) := ob (iO N v0 10) (fun _ => ob (hR N v0 10 0) (fun x1 => ob (aI N x1 (8 : Int32)) (fun x2 => if ¬ x2 = (20 : Int32) then f_X10_notes_J63 v0 v1 v2 v3 N else f_X10_notes_L15 v0 v1 v2 v3 (fun N20 => ob (hR N20 v0 10 0) (fun x21 => ob (aI N20 x21 (8 : Int32)) (fun x22 => ob (sI N20 x21 (8 : Int32) (x22 - (1 : Int32))) (fun N23 => f_X10_notes_J63 v0 v1 v2 v3 N23)))) FU (0 : Int32) N)))
set_option maxHeartbeats 4000000 in
set_option maxRecDepth 100000 in
theorem wk_X10_notes {P : Unit × AH → Prop} (X : CX cX10_notes RX10 5 G aC t b0 p s m args c) (hr : RtV p l e rm_X10_notes s m args below meth c 0 0 Q cX10_notes G aC b0 P) (v0 : Nat) (v1 : Int32) (v2 : Int32) (v3 : Int32) (N : AH) (H : Heap) (locs : List Loc) (ls : Array Slot) (hR : Rp G aC b0 N H) (hS : va_S (fun q => b0 ≤ q) s.heap H locs) (hl : lv_has ls 5 [(0, .ref v0), (1, .int v1), (2, .int v2), (3, .int v3)]) (hp : owp (f_X10_notes v0 v1 v2 v3 N) P) : W p l e rm_X10_notes s m args below meth c H locs 0 0 Q (F0 m 0 ls []) := by
  have hx := X.1.1
  have hb := X.1.2.1
  unfold f_X10_notes at hp
  obtain ⟨_, _, hp⟩ := owp_ob hp
  refine lv_aload_n hx hb dX10_notes_0 rfl (lv_at hl 0 rfl) ?_
  obtain ⟨x1, e_x1, hp⟩ := owp_ob hp
  refine gf_X10_7 X hR e_x1 dX10_notes_1 ?_
  refine lv_bipush (v := (8)) hx hb dX10_notes_4 (by decide) ?_
  obtain ⟨x2, e_x2, hp⟩ := owp_ob hp
  refine ab_iald X hR e_x2 dX10_notes_6 ?_
  refine lv_bipush (v := (20)) hx hb dX10_notes_7 (by decide) ?_
  refine lv_icmp_ne (tgt := 63) hx hb dX10_notes_9 (by decide) (fun k3 => ?_) (fun k3 => ?_)
  · have hp := owp_t k3 hp
    exact w_X10_notes_J63 X hr _ _ _ _ _ _ _ _ hR hS hl hp
  · have hp := owp_f (fun q => q k3) hp
    refine lv_iconst (v := (0)) hx hb dX10_notes_12 (by decide) ?_
    refine lv_istore (lv' := [(4, .int (0 : Int32)), (0, .ref v0), (1, .int v1), (2, .int v2), (3, .int v3)]) hx hb dX10_notes_13 hl (by decide) rfl (fun ls hl => ?_)
    refine w_X10_notes_L15 X hr _ _ _ _ (fun N20 H locs ls hR hS hl hp => ?_) _ _ _ _ _ _ hR hS (lv_sub hl [1, 2, 3, 4, 0] rfl) hp
    refine lv_aload_n hx hb dX10_notes_52 rfl (lv_at hl 0 rfl) ?_
    obtain ⟨x21, e_x21, hp⟩ := owp_ob hp
    refine gf_X10_7 X hR e_x21 dX10_notes_53 ?_
    refine lv_bipush (v := (8)) hx hb dX10_notes_56 (by decide) ?_
    refine lv_dup2_11 hx hb dX10_notes_58 rfl rfl ?_
    obtain ⟨x22, e_x22, hp⟩ := owp_ob hp
    refine ab_iald X hR e_x22 dX10_notes_59 ?_
    refine lv_iconst (v := (1)) hx hb dX10_notes_60 (by decide) ?_
    refine lv_isub hx hb dX10_notes_61 ?_
    obtain ⟨N23, e_N23, hp⟩ := owp_ob hp
    refine ab_iast X hR hS e_N23 dX10_notes_62 (fun H locs hR hS => ?_)
    exact w_X10_notes_J63 X hr _ _ _ _ _ _ _ _ hR hS hl hp
end
theorem ct_X10_notes {v0 : Nat} {v1 : Int32} {v2 : Int32} {v3 : Int32} {N N1 : AH} {r : Unit} (h : f_X10_notes v0 v1 v2 v3 N = some (r, N1)) : Ct yX10_notes cX10_notes 5 none rm_X10_notes [.ref v0, .int v1, .int v2, .int v3] N none N1 :=
  ab_met (own := RX10) (by decide +kernel) rfl (Nat.le_of_ble_eq_true rfl) (fun l G aC t b0 p e s m below meth c ls X hr hlk hnm hR hS hl => wk_X10_notes X (RtV_met X.1.1 X.1.2.1 hr hlk) _ _ _ _ _ _ _ _ hR hS hl (owp_of h))
theorem cw_X10_notes : Cond.code yX10_notes cX10_notes 5 none ∈ WT := WT_of 1124 (by decide +kernel) (by decide +kernel)
theorem iv_X10_notes {p : Program} {l : Launch} {e : Env} {R : Room} {s : State} {m : MethodId} {args : Array Value} {below : List Frame} {meth : Method} {c : Code} {H : Heap} {locs : List Loc} {cells slots : Nat} {Q : State → Prop} {cc : ByteArray} {own : String} {nL : Nat} {G : va_G} {aC : Nat → ClassId} {t b0 : Nat} {N N1 : AH} {pc index : Nat} {ls : Array Slot} {rest : List Value} {v0 : Nat} {v1 : Int32} {v2 : Int32} {v3 : Int32} {r : Unit} (w1 : Cond.methodLink own index yX10_notes ∈ WT) (X : CX cc own nL G aC t b0 p s m args c) (hR : Rp G aC b0 N H) (hS : va_S (fun q => b0 ≤ q) s.heap H locs) (h : f_X10_notes v0 v1 v2 v3 N = some (r, N1)) (hls : ls.size = nL) (hW : (rest.map fun v => v.category).sum ≤ 8) (hR1 : 1 ≤ R.frames ∧ 24 ≤ R.locals) (hcs : cells + 0 ≤ R.cells ∧ slots + 0 ≤ R.slots) (hdg : decode cc pc = .ok (.invokevirtual index, 3)) (kk : ∀ (H1 : Heap) (locs1 : List Loc), Rp G aC b0 N1 H1 → va_S (fun q => b0 ≤ q) s.heap H1 locs1 → W p l e R s m args below meth c H1 locs1 cells slots Q (F0 m (pc + 3) ls rest)) : W p l e R s m args below meth c H locs cells slots Q (F0 m pc ls (.int v3 :: .int v2 :: .int v1 :: .ref v0 :: rest)) :=
  ab_callV (n := 3) (As := [.int v1, .int v2, .int v3]) X hR hS (ct_X10_notes h) (ob_rc (c := 10) (N := N) (a := v0) h) (T := TX10) (k := 20) (C := RX10) rfl w1 (WT_of 1123 (by decide +kernel) (by decide +kernel)) (WT_of 50 (by decide +kernel) (by decide +kernel)) (WT_of 92 (by decide +kernel) (by decide +kernel)) cw_X10_notes ⟨rfl, by decide +kernel, by decide +kernel, by decide +kernel⟩ rfl hls hW hR1 hcs rfl hdg kk
-- X10_preempts
theorem mw_X10_134 : Cond.methodLink RX10 134 yX10_notes ∈ WT := WT_of 1121 (by decide +kernel) (by decide +kernel)
theorem dX10_preempts_0 : decode cX10_preempts 0 = .ok (.aload_n 0, 1) := by decide +kernel
theorem dX10_preempts_1 : decode cX10_preempts 1 = .ok (.getfield 101, 3) := by decide +kernel
theorem dX10_preempts_4 : decode cX10_preempts 4 = .ok (.ifCond .ne 4, 3) := by decide +kernel
theorem dX10_preempts_7 : decode cX10_preempts 7 = .ok (.return_, 1) := by decide +kernel
theorem dX10_preempts_8 : decode cX10_preempts 8 = .ok (.aload_n 0, 1) := by decide +kernel
theorem dX10_preempts_9 : decode cX10_preempts 9 = .ok (.getfield 7, 3) := by decide +kernel
theorem dX10_preempts_12 : decode cX10_preempts 12 = .ok (.iconst 5, 1) := by decide +kernel
theorem dX10_preempts_13 : decode cX10_preempts 13 = .ok (.iaload, 1) := by decide +kernel
theorem dX10_preempts_14 : decode cX10_preempts 14 = .ok (.istore_n 1, 1) := by decide +kernel
theorem dX10_preempts_15 : decode cX10_preempts 15 = .ok (.iload_n 1, 1) := by decide +kernel
theorem dX10_preempts_16 : decode cX10_preempts 16 = .ok (.iconst (-1), 1) := by decide +kernel
theorem dX10_preempts_17 : decode cX10_preempts 17 = .ok (.if_icmp .eq 44, 3) := by decide +kernel
theorem dX10_preempts_20 : decode cX10_preempts 20 = .ok (.iload_n 1, 1) := by decide +kernel
theorem dX10_preempts_21 : decode cX10_preempts 21 = .ok (.aload_n 0, 1) := by decide +kernel
theorem dX10_preempts_22 : decode cX10_preempts 22 = .ok (.getfield 22, 3) := by decide +kernel
theorem dX10_preempts_25 : decode cX10_preempts 25 = .ok (.iconst 0, 1) := by decide +kernel
theorem dX10_preempts_26 : decode cX10_preempts 26 = .ok (.iaload, 1) := by decide +kernel
theorem dX10_preempts_27 : decode cX10_preempts 27 = .ok (.if_icmp .eq 34, 3) := by decide +kernel
theorem dX10_preempts_30 : decode cX10_preempts 30 = .ok (.aload_n 0, 1) := by decide +kernel
theorem dX10_preempts_31 : decode cX10_preempts 31 = .ok (.iload_n 1, 1) := by decide +kernel
theorem dX10_preempts_32 : decode cX10_preempts 32 = .ok (.invokevirtual 107, 3) := by decide +kernel
theorem dX10_preempts_35 : decode cX10_preempts 35 = .ok (.iconst 1, 1) := by decide +kernel
theorem dX10_preempts_36 : decode cX10_preempts 36 = .ok (.if_icmp .ne 25, 3) := by decide +kernel
theorem dX10_preempts_39 : decode cX10_preempts 39 = .ok (.aload_n 0, 1) := by decide +kernel
theorem dX10_preempts_40 : decode cX10_preempts 40 = .ok (.getfield 7, 3) := by decide +kernel
theorem dX10_preempts_43 : decode cX10_preempts 43 = .ok (.iconst 4, 1) := by decide +kernel
theorem dX10_preempts_44 : decode cX10_preempts 44 = .ok (.dup2, 1) := by decide +kernel
theorem dX10_preempts_45 : decode cX10_preempts 45 = .ok (.iaload, 1) := by decide +kernel
theorem dX10_preempts_46 : decode cX10_preempts 46 = .ok (.iconst 1, 1) := by decide +kernel
theorem dX10_preempts_47 : decode cX10_preempts 47 = .ok (.iadd, 1) := by decide +kernel
theorem dX10_preempts_48 : decode cX10_preempts 48 = .ok (.iastore, 1) := by decide +kernel
theorem dX10_preempts_49 : decode cX10_preempts 49 = .ok (.aload_n 0, 1) := by decide +kernel
theorem dX10_preempts_50 : decode cX10_preempts 50 = .ok (.iconst 2, 1) := by decide +kernel
theorem dX10_preempts_51 : decode cX10_preempts 51 = .ok (.iload_n 1, 1) := by decide +kernel
theorem dX10_preempts_52 : decode cX10_preempts 52 = .ok (.aload_n 0, 1) := by decide +kernel
theorem dX10_preempts_53 : decode cX10_preempts 53 = .ok (.getfield 7, 3) := by decide +kernel
theorem dX10_preempts_56 : decode cX10_preempts 56 = .ok (.iconst 0, 1) := by decide +kernel
theorem dX10_preempts_57 : decode cX10_preempts 57 = .ok (.iaload, 1) := by decide +kernel
theorem dX10_preempts_58 : decode cX10_preempts 58 = .ok (.invokevirtual 134, 3) := by decide +kernel
theorem dX10_preempts_61 : decode cX10_preempts 61 = .ok (.aload_n 0, 1) := by decide +kernel
theorem dX10_preempts_62 : decode cX10_preempts 62 = .ok (.getfield 7, 3) := by decide +kernel
theorem dX10_preempts_65 : decode cX10_preempts 65 = .ok (.iconst 5, 1) := by decide +kernel
theorem dX10_preempts_66 : decode cX10_preempts 66 = .ok (.aload_n 0, 1) := by decide +kernel
theorem dX10_preempts_67 : decode cX10_preempts 67 = .ok (.getfield 22, 3) := by decide +kernel
theorem dX10_preempts_70 : decode cX10_preempts 70 = .ok (.iconst 0, 1) := by decide +kernel
theorem dX10_preempts_71 : decode cX10_preempts 71 = .ok (.iaload, 1) := by decide +kernel
theorem dX10_preempts_72 : decode cX10_preempts 72 = .ok (.iastore, 1) := by decide +kernel
theorem dX10_preempts_73 : decode cX10_preempts 73 = .ok (.return_, 1) := by decide +kernel
def rm_X10_preempts : Room := { frames := 2, cells := 0, slots := 0, locals := 43 }
section
variable {p : Program} {l : Launch} {e : Env} {s : State} {m : MethodId} {args : Array Value} {below : List Frame} {meth : Method} {c : Code} {Q : State → Prop} {G : va_G} {aC : Nat → ClassId} {t b0 : Nat}
def f_X10_preempts_J61 (v0 : Nat) (N : AH) : Option (Unit × AH) := ob (hR N v0 10 0) (fun x6 => ob (hR N v0 10 6) (fun x7 => ob (aI N x7 (0 : Int32)) (fun x8 => ob (sI N x6 (5 : Int32) x8) (fun N9 => some ((), N9)))))
set_option maxHeartbeats 4000000 in
set_option maxRecDepth 100000 in
theorem w_X10_preempts_J61 {P : Unit × AH → Prop} (X : CX cX10_preempts RX10 2 G aC t b0 p s m args c) (hr : RtV p l e rm_X10_preempts s m args below meth c 0 0 Q cX10_preempts G aC b0 P) (v0 : Nat) (N : AH) (H : Heap) (locs : List Loc) (ls : Array Slot) (hR : Rp G aC b0 N H) (hS : va_S (fun q => b0 ≤ q) s.heap H locs) (hl : lv_has ls 2 [(0, .ref v0)]) (hp : owp (f_X10_preempts_J61 v0 N) P) : W p l e rm_X10_preempts s m args below meth c H locs 0 0 Q (F0 m 61 ls []) := by
  have hx := X.1.1
  have hb := X.1.2.1
  unfold f_X10_preempts_J61 at hp
  refine lv_aload_n hx hb dX10_preempts_61 rfl (lv_at hl 0 rfl) ?_
  obtain ⟨x6, e_x6, hp⟩ := owp_ob hp
  refine gf_X10_7 X hR e_x6 dX10_preempts_62 ?_
  refine lv_iconst (v := (5)) hx hb dX10_preempts_65 (by decide) ?_
  refine lv_aload_n hx hb dX10_preempts_66 rfl (lv_at hl 0 rfl) ?_
  obtain ⟨x7, e_x7, hp⟩ := owp_ob hp
  refine gf_X10_22 X hR e_x7 dX10_preempts_67 ?_
  refine lv_iconst (v := (0)) hx hb dX10_preempts_70 (by decide) ?_
  obtain ⟨x8, e_x8, hp⟩ := owp_ob hp
  refine ab_iald X hR e_x8 dX10_preempts_71 ?_
  obtain ⟨N9, e_N9, hp⟩ := owp_ob hp
  refine ab_iast X hR hS e_N9 dX10_preempts_72 (fun H locs hR hS => ?_)
  exact hr _ _ _ _ _ hR hS dX10_preempts_73 hp
def f_X10_preempts (v0 : Nat) (N : AH) : Option (Unit × AH) := ob (iO N v0 10) (fun _ => ob (hI N v0 10 7) (fun x1 => if ¬ x1 = 0 then ob (hR N v0 10 0) (fun x3 => ob (aI N x3 (5 : Int32)) (fun x4 => if x4 = (-1 : Int32) then f_X10_preempts_J61 v0 N else ob (hR N v0 10 6) (fun x10 => ob (aI N x10 (0 : Int32)) (fun x11 => if x4 = x11 then f_X10_preempts_J61 v0 N else ob2 (f_X10_stateOf v0 x4 N) (fun x14 N13 => if ¬ x14 = (1 : Int32) then f_X10_preempts_J61 v0 N13 else ob (hR N13 v0 10 0) (fun x16 => ob (aI N13 x16 (4 : Int32)) (fun x17 => ob (sI N13 x16 (4 : Int32) (x17 + (1 : Int32))) (fun N18 => ob (hR N18 v0 10 0) (fun x19 => ob (aI N18 x19 (0 : Int32)) (fun x20 => ob2 (f_X10_notes v0 (2 : Int32) x4 x20 N18) (fun _ N21 => f_X10_preempts_J61 v0 N21))))))))))) else some ((), N)))
set_option maxHeartbeats 4000000 in
set_option maxRecDepth 100000 in
theorem wk_X10_preempts {P : Unit × AH → Prop} (X : CX cX10_preempts RX10 2 G aC t b0 p s m args c) (hr : RtV p l e rm_X10_preempts s m args below meth c 0 0 Q cX10_preempts G aC b0 P) (v0 : Nat) (N : AH) (H : Heap) (locs : List Loc) (ls : Array Slot) (hR : Rp G aC b0 N H) (hS : va_S (fun q => b0 ≤ q) s.heap H locs) (hl : lv_has ls 2 [(0, .ref v0)]) (hp : owp (f_X10_preempts v0 N) P) : W p l e rm_X10_preempts s m args below meth c H locs 0 0 Q (F0 m 0 ls []) := by
  have hx := X.1.1
  have hb := X.1.2.1
  unfold f_X10_preempts at hp
  obtain ⟨_, _, hp⟩ := owp_ob hp
  refine lv_aload_n hx hb dX10_preempts_0 rfl (lv_at hl 0 rfl) ?_
  obtain ⟨x1, e_x1, hp⟩ := owp_ob hp
  refine gf_X10_101 X hR e_x1 dX10_preempts_1 ?_
  refine lv_if_ne (tgt := 8) hx hb dX10_preempts_4 (by decide) (fun k2 => ?_) (fun k2 => ?_)
  · have hp := owp_t k2 hp
    refine lv_aload_n hx hb dX10_preempts_8 rfl (lv_at hl 0 rfl) ?_
    obtain ⟨x3, e_x3, hp⟩ := owp_ob hp
    refine gf_X10_7 X hR e_x3 dX10_preempts_9 ?_
    refine lv_iconst (v := (5)) hx hb dX10_preempts_12 (by decide) ?_
    obtain ⟨x4, e_x4, hp⟩ := owp_ob hp
    refine ab_iald X hR e_x4 dX10_preempts_13 ?_
    refine lv_istore_n (lv' := [(1, .int x4), (0, .ref v0)]) hx hb dX10_preempts_14 rfl hl (by decide) rfl (fun ls hl => ?_)
    refine lv_iload_n hx hb dX10_preempts_15 rfl (lv_at hl 0 rfl) ?_
    refine lv_iconst (v := (-1)) hx hb dX10_preempts_16 (by decide) ?_
    refine lv_icmp_eq (tgt := 61) hx hb dX10_preempts_17 (by decide) (fun k5 => ?_) (fun k5 => ?_)
    · have hp := owp_t k5 hp
      exact w_X10_preempts_J61 X hr _ _ _ _ _ hR hS (lv_sub hl [1] rfl) hp
    · have hp := owp_f k5 hp
      refine lv_iload_n hx hb dX10_preempts_20 rfl (lv_at hl 0 rfl) ?_
      refine lv_aload_n hx hb dX10_preempts_21 rfl (lv_at hl 1 rfl) ?_
      obtain ⟨x10, e_x10, hp⟩ := owp_ob hp
      refine gf_X10_22 X hR e_x10 dX10_preempts_22 ?_
      refine lv_iconst (v := (0)) hx hb dX10_preempts_25 (by decide) ?_
      obtain ⟨x11, e_x11, hp⟩ := owp_ob hp
      refine ab_iald X hR e_x11 dX10_preempts_26 ?_
      refine lv_icmp_eq (tgt := 61) hx hb dX10_preempts_27 (by decide) (fun k12 => ?_) (fun k12 => ?_)
      · have hp := owp_t k12 hp
        exact w_X10_preempts_J61 X hr _ _ _ _ _ hR hS (lv_sub hl [1] rfl) hp
      · have hp := owp_f k12 hp
        refine lv_aload_n hx hb dX10_preempts_30 rfl (lv_at hl 1 rfl) ?_
        refine lv_iload_n hx hb dX10_preempts_31 rfl (lv_at hl 0 rfl) ?_
        obtain ⟨x14, N13, e_N13, hp⟩ := owp_ob2 hp
        refine iv_X10_stateOf (rest := []) mw_X10_107 X hR hS e_N13 hl.1 (Nat.le_of_ble_eq_true rfl) ⟨Nat.le_of_ble_eq_true rfl, Nat.le_of_ble_eq_true rfl⟩ ⟨Nat.le_of_ble_eq_true rfl, Nat.le_of_ble_eq_true rfl⟩ dX10_preempts_32 (fun H locs hR hS => ?_)
        refine lv_iconst (v := (1)) hx hb dX10_preempts_35 (by decide) ?_
        refine lv_icmp_ne (tgt := 61) hx hb dX10_preempts_36 (by decide) (fun k15 => ?_) (fun k15 => ?_)
        · have hp := owp_t k15 hp
          exact w_X10_preempts_J61 X hr _ _ _ _ _ hR hS (lv_sub hl [1] rfl) hp
        · have hp := owp_f (fun q => q k15) hp
          refine lv_aload_n hx hb dX10_preempts_39 rfl (lv_at hl 1 rfl) ?_
          obtain ⟨x16, e_x16, hp⟩ := owp_ob hp
          refine gf_X10_7 X hR e_x16 dX10_preempts_40 ?_
          refine lv_iconst (v := (4)) hx hb dX10_preempts_43 (by decide) ?_
          refine lv_dup2_11 hx hb dX10_preempts_44 rfl rfl ?_
          obtain ⟨x17, e_x17, hp⟩ := owp_ob hp
          refine ab_iald X hR e_x17 dX10_preempts_45 ?_
          refine lv_iconst (v := (1)) hx hb dX10_preempts_46 (by decide) ?_
          refine lv_iadd hx hb dX10_preempts_47 ?_
          obtain ⟨N18, e_N18, hp⟩ := owp_ob hp
          refine ab_iast X hR hS e_N18 dX10_preempts_48 (fun H locs hR hS => ?_)
          refine lv_aload_n hx hb dX10_preempts_49 rfl (lv_at hl 1 rfl) ?_
          refine lv_iconst (v := (2)) hx hb dX10_preempts_50 (by decide) ?_
          refine lv_iload_n hx hb dX10_preempts_51 rfl (lv_at hl 0 rfl) ?_
          refine lv_aload_n hx hb dX10_preempts_52 rfl (lv_at hl 1 rfl) ?_
          obtain ⟨x19, e_x19, hp⟩ := owp_ob hp
          refine gf_X10_7 X hR e_x19 dX10_preempts_53 ?_
          refine lv_iconst (v := (0)) hx hb dX10_preempts_56 (by decide) ?_
          obtain ⟨x20, e_x20, hp⟩ := owp_ob hp
          refine ab_iald X hR e_x20 dX10_preempts_57 ?_
          obtain ⟨_, N21, e_N21, hp⟩ := owp_ob2 hp
          refine iv_X10_notes (rest := []) mw_X10_134 X hR hS e_N21 hl.1 (Nat.le_of_ble_eq_true rfl) ⟨Nat.le_of_ble_eq_true rfl, Nat.le_of_ble_eq_true rfl⟩ ⟨Nat.le_of_ble_eq_true rfl, Nat.le_of_ble_eq_true rfl⟩ dX10_preempts_58 (fun H locs hR hS => ?_)
          exact w_X10_preempts_J61 X hr _ _ _ _ _ hR hS (lv_sub hl [1] rfl) hp
  · have hp := owp_f (fun q => q k2) hp
    exact hr _ _ _ _ _ hR hS dX10_preempts_7 hp
end
theorem ct_X10_preempts {v0 : Nat} {N N1 : AH} {r : Unit} (h : f_X10_preempts v0 N = some (r, N1)) : Ct yX10_preempts cX10_preempts 2 none rm_X10_preempts [.ref v0] N none N1 :=
  ab_met (own := RX10) (by decide +kernel) rfl (Nat.le_of_ble_eq_true rfl) (fun l G aC t b0 p e s m below meth c ls X hr hlk hnm hR hS hl => wk_X10_preempts X (RtV_met X.1.1 X.1.2.1 hr hlk) _ _ _ _ _ hR hS hl (owp_of h))
theorem cw_X10_preempts : Cond.code yX10_preempts cX10_preempts 2 none ∈ WT := WT_of 1213 (by decide +kernel) (by decide +kernel)
theorem iv_X10_preempts {p : Program} {l : Launch} {e : Env} {R : Room} {s : State} {m : MethodId} {args : Array Value} {below : List Frame} {meth : Method} {c : Code} {H : Heap} {locs : List Loc} {cells slots : Nat} {Q : State → Prop} {cc : ByteArray} {own : String} {nL : Nat} {G : va_G} {aC : Nat → ClassId} {t b0 : Nat} {N N1 : AH} {pc index : Nat} {ls : Array Slot} {rest : List Value} {v0 : Nat} {r : Unit} (w1 : Cond.methodLink own index yX10_preempts ∈ WT) (X : CX cc own nL G aC t b0 p s m args c) (hR : Rp G aC b0 N H) (hS : va_S (fun q => b0 ≤ q) s.heap H locs) (h : f_X10_preempts v0 N = some (r, N1)) (hls : ls.size = nL) (hW : (rest.map fun v => v.category).sum ≤ 8) (hR1 : 3 ≤ R.frames ∧ 64 ≤ R.locals) (hcs : cells + 0 ≤ R.cells ∧ slots + 0 ≤ R.slots) (hdg : decode cc pc = .ok (.invokevirtual index, 3)) (kk : ∀ (H1 : Heap) (locs1 : List Loc), Rp G aC b0 N1 H1 → va_S (fun q => b0 ≤ q) s.heap H1 locs1 → W p l e R s m args below meth c H1 locs1 cells slots Q (F0 m (pc + 3) ls rest)) : W p l e R s m args below meth c H locs cells slots Q (F0 m pc ls (.ref v0 :: rest)) :=
  ab_callV (n := 0) (As := []) X hR hS (ct_X10_preempts h) (ob_rc (c := 10) (N := N) (a := v0) h) (T := TX10) (k := 20) (C := RX10) rfl w1 (WT_of 1212 (by decide +kernel) (by decide +kernel)) (WT_of 67 (by decide +kernel) (by decide +kernel)) (WT_of 92 (by decide +kernel) (by decide +kernel)) cw_X10_preempts ⟨rfl, by decide +kernel, by decide +kernel, by decide +kernel⟩ rfl hls hW hR1 hcs rfl hdg kk
-- X10_sends
theorem mw_X10_137 : Cond.methodLink RX10 137 yX10_setsFlow ∈ WT := WT_of 1090 (by decide +kernel) (by decide +kernel)
theorem dX10_sends_0 : decode cX10_sends 0 = .ok (.iconst 0, 1) := by decide +kernel
theorem dX10_sends_1 : decode cX10_sends 1 = .ok (.istore_n 2, 1) := by decide +kernel
theorem dX10_sends_2 : decode cX10_sends 2 = .ok (.iload_n 2, 1) := by decide +kernel
theorem dX10_sends_3 : decode cX10_sends 3 = .ok (.aload_n 0, 1) := by decide +kernel
theorem dX10_sends_4 : decode cX10_sends 4 = .ok (.iload_n 1, 1) := by decide +kernel
theorem dX10_sends_5 : decode cX10_sends 5 = .ok (.iconst 5, 1) := by decide +kernel
theorem dX10_sends_6 : decode cX10_sends 6 = .ok (.invokevirtual 52, 3) := by decide +kernel
theorem dX10_sends_9 : decode cX10_sends 9 = .ok (.if_icmp .ge 83, 3) := by decide +kernel
theorem dX10_sends_12 : decode cX10_sends 12 = .ok (.aload_n 0, 1) := by decide +kernel
theorem dX10_sends_13 : decode cX10_sends 13 = .ok (.getfield 38, 3) := by decide +kernel
theorem dX10_sends_16 : decode cX10_sends 16 = .ok (.bipush 16, 2) := by decide +kernel
theorem dX10_sends_18 : decode cX10_sends 18 = .ok (.iload_n 1, 1) := by decide +kernel
theorem dX10_sends_19 : decode cX10_sends 19 = .ok (.imul, 1) := by decide +kernel
theorem dX10_sends_20 : decode cX10_sends 20 = .ok (.iload_n 2, 1) := by decide +kernel
theorem dX10_sends_21 : decode cX10_sends 21 = .ok (.iadd, 1) := by decide +kernel
theorem dX10_sends_22 : decode cX10_sends 22 = .ok (.iaload, 1) := by decide +kernel
theorem dX10_sends_23 : decode cX10_sends 23 = .ok (.istore_n 3, 1) := by decide +kernel
theorem dX10_sends_24 : decode cX10_sends 24 = .ok (.aload_n 0, 1) := by decide +kernel
theorem dX10_sends_25 : decode cX10_sends 25 = .ok (.iload_n 1, 1) := by decide +kernel
theorem dX10_sends_26 : decode cX10_sends 26 = .ok (.iload_n 2, 1) := by decide +kernel
theorem dX10_sends_27 : decode cX10_sends 27 = .ok (.iconst 4, 1) := by decide +kernel
theorem dX10_sends_28 : decode cX10_sends 28 = .ok (.iload_n 3, 1) := by decide +kernel
theorem dX10_sends_29 : decode cX10_sends 29 = .ok (.invokevirtual 137, 3) := by decide +kernel
theorem dX10_sends_32 : decode cX10_sends 32 = .ok (.aload_n 0, 1) := by decide +kernel
theorem dX10_sends_33 : decode cX10_sends 33 = .ok (.iload_n 1, 1) := by decide +kernel
theorem dX10_sends_34 : decode cX10_sends 34 = .ok (.iload_n 2, 1) := by decide +kernel
theorem dX10_sends_35 : decode cX10_sends 35 = .ok (.iconst 3, 1) := by decide +kernel
theorem dX10_sends_36 : decode cX10_sends 36 = .ok (.aload_n 0, 1) := by decide +kernel
theorem dX10_sends_37 : decode cX10_sends 37 = .ok (.iload_n 1, 1) := by decide +kernel
theorem dX10_sends_38 : decode cX10_sends 38 = .ok (.iload_n 2, 1) := by decide +kernel
theorem dX10_sends_39 : decode cX10_sends 39 = .ok (.iconst 3, 1) := by decide +kernel
theorem dX10_sends_40 : decode cX10_sends 40 = .ok (.invokevirtual 64, 3) := by decide +kernel
theorem dX10_sends_43 : decode cX10_sends 43 = .ok (.iload_n 3, 1) := by decide +kernel
theorem dX10_sends_44 : decode cX10_sends 44 = .ok (.isub, 1) := by decide +kernel
theorem dX10_sends_45 : decode cX10_sends 45 = .ok (.invokevirtual 137, 3) := by decide +kernel
theorem dX10_sends_48 : decode cX10_sends 48 = .ok (.aload_n 0, 1) := by decide +kernel
theorem dX10_sends_49 : decode cX10_sends 49 = .ok (.getfield 7, 3) := by decide +kernel
theorem dX10_sends_52 : decode cX10_sends 52 = .ok (.bipush 26, 2) := by decide +kernel
theorem dX10_sends_54 : decode cX10_sends 54 = .ok (.aload_n 0, 1) := by decide +kernel
theorem dX10_sends_55 : decode cX10_sends 55 = .ok (.iload_n 1, 1) := by decide +kernel
theorem dX10_sends_56 : decode cX10_sends 56 = .ok (.iload_n 2, 1) := by decide +kernel
theorem dX10_sends_57 : decode cX10_sends 57 = .ok (.iconst 0, 1) := by decide +kernel
theorem dX10_sends_58 : decode cX10_sends 58 = .ok (.invokevirtual 64, 3) := by decide +kernel
theorem dX10_sends_61 : decode cX10_sends 61 = .ok (.iadd, 1) := by decide +kernel
theorem dX10_sends_62 : decode cX10_sends 62 = .ok (.dup2, 1) := by decide +kernel
theorem dX10_sends_63 : decode cX10_sends 63 = .ok (.iaload, 1) := by decide +kernel
theorem dX10_sends_64 : decode cX10_sends 64 = .ok (.iload_n 3, 1) := by decide +kernel
theorem dX10_sends_65 : decode cX10_sends 65 = .ok (.iadd, 1) := by decide +kernel
theorem dX10_sends_66 : decode cX10_sends 66 = .ok (.iastore, 1) := by decide +kernel
theorem dX10_sends_67 : decode cX10_sends 67 = .ok (.aload_n 0, 1) := by decide +kernel
theorem dX10_sends_68 : decode cX10_sends 68 = .ok (.getfield 7, 3) := by decide +kernel
theorem dX10_sends_71 : decode cX10_sends 71 = .ok (.bipush 34, 2) := by decide +kernel
theorem dX10_sends_73 : decode cX10_sends 73 = .ok (.aload_n 0, 1) := by decide +kernel
theorem dX10_sends_74 : decode cX10_sends 74 = .ok (.iload_n 1, 1) := by decide +kernel
theorem dX10_sends_75 : decode cX10_sends 75 = .ok (.iload_n 2, 1) := by decide +kernel
theorem dX10_sends_76 : decode cX10_sends 76 = .ok (.iconst 1, 1) := by decide +kernel
theorem dX10_sends_77 : decode cX10_sends 77 = .ok (.invokevirtual 64, 3) := by decide +kernel
theorem dX10_sends_80 : decode cX10_sends 80 = .ok (.iadd, 1) := by decide +kernel
theorem dX10_sends_81 : decode cX10_sends 81 = .ok (.dup2, 1) := by decide +kernel
theorem dX10_sends_82 : decode cX10_sends 82 = .ok (.iaload, 1) := by decide +kernel
theorem dX10_sends_83 : decode cX10_sends 83 = .ok (.iload_n 3, 1) := by decide +kernel
theorem dX10_sends_84 : decode cX10_sends 84 = .ok (.iadd, 1) := by decide +kernel
theorem dX10_sends_85 : decode cX10_sends 85 = .ok (.iastore, 1) := by decide +kernel
theorem dX10_sends_86 : decode cX10_sends 86 = .ok (.iinc 2 1, 3) := by decide +kernel
theorem dX10_sends_89 : decode cX10_sends 89 = .ok (.goto (-87), 3) := by decide +kernel
theorem dX10_sends_92 : decode cX10_sends 92 = .ok (.return_, 1) := by decide +kernel
def rm_X10_sends : Room := { frames := 2, cells := 0, slots := 0, locals := 47 }
section
variable {p : Program} {l : Launch} {e : Env} {s : State} {m : MethodId} {args : Array Value} {below : List Frame} {meth : Method} {c : Code} {Q : State → Prop} {G : va_G} {aC : Nat → ClassId} {t b0 : Nat}
def f_X10_sends_L2 (v0 : Nat) (v1 : Int32) (k92 : AH → Option (Unit × AH)) : Nat → Int32 → AH → Option (Unit × AH)
  | 0, _, _ => none
  | n + 1, v2, N => ob2 (f_X10_of v0 v1 (5 : Int32) N) (fun x2 N1 => if x2 ≤ v2 then k92 N1 else ob (hR N1 v0 10 14) (fun x4 => ob (aI N1 x4 (((16 : Int32) * v1) + v2)) (fun x5 => ob2 (f_X10_setsFlow v0 v1 v2 (4 : Int32) x5 N1) (fun _ N6 => ob2 (f_X10_flowOf v0 v1 v2 (3 : Int32) N6) (fun x8 N7 => ob2 (f_X10_setsFlow v0 v1 v2 (3 : Int32) (x8 - x5) N7) (fun _ N9 => ob (hR N9 v0 10 0) (fun x10 => ob2 (f_X10_flowOf v0 v1 v2 (0 : Int32) N9) (fun x12 N11 => ob (aI N11 x10 ((26 : Int32) + x12)) (fun x13 => ob (sI N11 x10 ((26 : Int32) + x12) (x13 + x5)) (fun N14 => ob (hR N14 v0 10 0) (fun x15 => ob2 (f_X10_flowOf v0 v1 v2 (1 : Int32) N14) (fun x17 N16 => ob (aI N16 x15 ((34 : Int32) + x17)) (fun x18 => ob (sI N16 x15 ((34 : Int32) + x17) (x18 + x5)) (fun N19 => f_X10_sends_L2 v0 v1 k92 n (v2 + 1) N19))))))))))))))
set_option maxHeartbeats 4000000 in
set_option maxRecDepth 100000 in
theorem w_X10_sends_L2 {P : Unit × AH → Prop} (X : CX cX10_sends RX10 4 G aC t b0 p s m args c) (hr : RtV p l e rm_X10_sends s m args below meth c 0 0 Q cX10_sends G aC b0 P) (v0 : Nat) (v1 : Int32) {k92 : AH → Option (Unit × AH)}
    (hk92 : ∀ (N : AH) (H : Heap) (locs : List Loc) (ls : Array Slot), Rp G aC b0 N H → va_S (fun q => b0 ≤ q) s.heap H locs → lv_has ls 4 [] → owp (k92 N) P → W p l e rm_X10_sends s m args below meth c H locs 0 0 Q (F0 m 92 ls [])) :
    ∀ (n : Nat) (v2 : Int32) (N : AH) (H : Heap) (locs : List Loc) (ls : Array Slot), Rp G aC b0 N H → va_S (fun q => b0 ≤ q) s.heap H locs → lv_has ls 4 [(0, .ref v0), (1, .int v1), (2, .int v2)] → owp (f_X10_sends_L2 v0 v1 k92 n v2 N) P → W p l e rm_X10_sends s m args below meth c H locs 0 0 Q (F0 m 2 ls []) := by
  have hx := X.1.1
  have hb := X.1.2.1
  intro n
  induction n with
  | zero =>
    intro v2 N H locs ls hR hS hl hp
    exact (show False from hp).elim
  | succ n ih =>
    intro v2 N H locs ls hR hS hl hp
    rw [f_X10_sends_L2] at hp
    refine lv_iload_n hx hb dX10_sends_2 rfl (lv_at hl 2 rfl) ?_
    refine lv_aload_n hx hb dX10_sends_3 rfl (lv_at hl 0 rfl) ?_
    refine lv_iload_n hx hb dX10_sends_4 rfl (lv_at hl 1 rfl) ?_
    refine lv_iconst (v := (5)) hx hb dX10_sends_5 (by decide) ?_
    obtain ⟨x2, N1, e_N1, hp⟩ := owp_ob2 hp
    refine iv_X10_of (rest := [.int v2]) mw_X10_52 X hR hS e_N1 hl.1 (Nat.le_of_ble_eq_true rfl) ⟨Nat.le_of_ble_eq_true rfl, Nat.le_of_ble_eq_true rfl⟩ ⟨Nat.le_of_ble_eq_true rfl, Nat.le_of_ble_eq_true rfl⟩ dX10_sends_6 (fun H locs hR hS => ?_)
    refine lv_icmp_ge (tgt := 92) hx hb dX10_sends_9 (by decide) (fun k3 => ?_) (fun k3 => ?_)
    · have hp := owp_t k3 hp
      exact hk92 _ _ _ _ hR hS (lv_sub hl [] rfl) hp
    · have hp := owp_f k3 hp
      refine lv_aload_n hx hb dX10_sends_12 rfl (lv_at hl 0 rfl) ?_
      obtain ⟨x4, e_x4, hp⟩ := owp_ob hp
      refine gf_X10_38 X hR e_x4 dX10_sends_13 ?_
      refine lv_bipush (v := (16)) hx hb dX10_sends_16 (by decide) ?_
      refine lv_iload_n hx hb dX10_sends_18 rfl (lv_at hl 1 rfl) ?_
      refine lv_imul hx hb dX10_sends_19 ?_
      refine lv_iload_n hx hb dX10_sends_20 rfl (lv_at hl 2 rfl) ?_
      refine lv_iadd hx hb dX10_sends_21 ?_
      obtain ⟨x5, e_x5, hp⟩ := owp_ob hp
      refine ab_iald X hR e_x5 dX10_sends_22 ?_
      refine lv_istore_n (lv' := [(3, .int x5), (0, .ref v0), (1, .int v1), (2, .int v2)]) hx hb dX10_sends_23 rfl hl (by decide) rfl (fun ls hl => ?_)
      refine lv_aload_n hx hb dX10_sends_24 rfl (lv_at hl 1 rfl) ?_
      refine lv_iload_n hx hb dX10_sends_25 rfl (lv_at hl 2 rfl) ?_
      refine lv_iload_n hx hb dX10_sends_26 rfl (lv_at hl 3 rfl) ?_
      refine lv_iconst (v := (4)) hx hb dX10_sends_27 (by decide) ?_
      refine lv_iload_n hx hb dX10_sends_28 rfl (lv_at hl 0 rfl) ?_
      obtain ⟨_, N6, e_N6, hp⟩ := owp_ob2 hp
      refine iv_X10_setsFlow (rest := []) mw_X10_137 X hR hS e_N6 hl.1 (Nat.le_of_ble_eq_true rfl) ⟨Nat.le_of_ble_eq_true rfl, Nat.le_of_ble_eq_true rfl⟩ ⟨Nat.le_of_ble_eq_true rfl, Nat.le_of_ble_eq_true rfl⟩ dX10_sends_29 (fun H locs hR hS => ?_)
      refine lv_aload_n hx hb dX10_sends_32 rfl (lv_at hl 1 rfl) ?_
      refine lv_iload_n hx hb dX10_sends_33 rfl (lv_at hl 2 rfl) ?_
      refine lv_iload_n hx hb dX10_sends_34 rfl (lv_at hl 3 rfl) ?_
      refine lv_iconst (v := (3)) hx hb dX10_sends_35 (by decide) ?_
      refine lv_aload_n hx hb dX10_sends_36 rfl (lv_at hl 1 rfl) ?_
      refine lv_iload_n hx hb dX10_sends_37 rfl (lv_at hl 2 rfl) ?_
      refine lv_iload_n hx hb dX10_sends_38 rfl (lv_at hl 3 rfl) ?_
      refine lv_iconst (v := (3)) hx hb dX10_sends_39 (by decide) ?_
      obtain ⟨x8, N7, e_N7, hp⟩ := owp_ob2 hp
      refine iv_X10_flowOf (rest := [.int (3 : Int32), .int v2, .int v1, .ref v0]) mw_X10_64 X hR hS e_N7 hl.1 (Nat.le_of_ble_eq_true rfl) ⟨Nat.le_of_ble_eq_true rfl, Nat.le_of_ble_eq_true rfl⟩ ⟨Nat.le_of_ble_eq_true rfl, Nat.le_of_ble_eq_true rfl⟩ dX10_sends_40 (fun H locs hR hS => ?_)
      refine lv_iload_n hx hb dX10_sends_43 rfl (lv_at hl 0 rfl) ?_
      refine lv_isub hx hb dX10_sends_44 ?_
      obtain ⟨_, N9, e_N9, hp⟩ := owp_ob2 hp
      refine iv_X10_setsFlow (rest := []) mw_X10_137 X hR hS e_N9 hl.1 (Nat.le_of_ble_eq_true rfl) ⟨Nat.le_of_ble_eq_true rfl, Nat.le_of_ble_eq_true rfl⟩ ⟨Nat.le_of_ble_eq_true rfl, Nat.le_of_ble_eq_true rfl⟩ dX10_sends_45 (fun H locs hR hS => ?_)
      refine lv_aload_n hx hb dX10_sends_48 rfl (lv_at hl 1 rfl) ?_
      obtain ⟨x10, e_x10, hp⟩ := owp_ob hp
      refine gf_X10_7 X hR e_x10 dX10_sends_49 ?_
      refine lv_bipush (v := (26)) hx hb dX10_sends_52 (by decide) ?_
      refine lv_aload_n hx hb dX10_sends_54 rfl (lv_at hl 1 rfl) ?_
      refine lv_iload_n hx hb dX10_sends_55 rfl (lv_at hl 2 rfl) ?_
      refine lv_iload_n hx hb dX10_sends_56 rfl (lv_at hl 3 rfl) ?_
      refine lv_iconst (v := (0)) hx hb dX10_sends_57 (by decide) ?_
      obtain ⟨x12, N11, e_N11, hp⟩ := owp_ob2 hp
      refine iv_X10_flowOf (rest := [.int (26 : Int32), .ref x10]) mw_X10_64 X hR hS e_N11 hl.1 (Nat.le_of_ble_eq_true rfl) ⟨Nat.le_of_ble_eq_true rfl, Nat.le_of_ble_eq_true rfl⟩ ⟨Nat.le_of_ble_eq_true rfl, Nat.le_of_ble_eq_true rfl⟩ dX10_sends_58 (fun H locs hR hS => ?_)
      refine lv_iadd hx hb dX10_sends_61 ?_
      refine lv_dup2_11 hx hb dX10_sends_62 rfl rfl ?_
      obtain ⟨x13, e_x13, hp⟩ := owp_ob hp
      refine ab_iald X hR e_x13 dX10_sends_63 ?_
      refine lv_iload_n hx hb dX10_sends_64 rfl (lv_at hl 0 rfl) ?_
      refine lv_iadd hx hb dX10_sends_65 ?_
      obtain ⟨N14, e_N14, hp⟩ := owp_ob hp
      refine ab_iast X hR hS e_N14 dX10_sends_66 (fun H locs hR hS => ?_)
      refine lv_aload_n hx hb dX10_sends_67 rfl (lv_at hl 1 rfl) ?_
      obtain ⟨x15, e_x15, hp⟩ := owp_ob hp
      refine gf_X10_7 X hR e_x15 dX10_sends_68 ?_
      refine lv_bipush (v := (34)) hx hb dX10_sends_71 (by decide) ?_
      refine lv_aload_n hx hb dX10_sends_73 rfl (lv_at hl 1 rfl) ?_
      refine lv_iload_n hx hb dX10_sends_74 rfl (lv_at hl 2 rfl) ?_
      refine lv_iload_n hx hb dX10_sends_75 rfl (lv_at hl 3 rfl) ?_
      refine lv_iconst (v := (1)) hx hb dX10_sends_76 (by decide) ?_
      obtain ⟨x17, N16, e_N16, hp⟩ := owp_ob2 hp
      refine iv_X10_flowOf (rest := [.int (34 : Int32), .ref x15]) mw_X10_64 X hR hS e_N16 hl.1 (Nat.le_of_ble_eq_true rfl) ⟨Nat.le_of_ble_eq_true rfl, Nat.le_of_ble_eq_true rfl⟩ ⟨Nat.le_of_ble_eq_true rfl, Nat.le_of_ble_eq_true rfl⟩ dX10_sends_77 (fun H locs hR hS => ?_)
      refine lv_iadd hx hb dX10_sends_80 ?_
      refine lv_dup2_11 hx hb dX10_sends_81 rfl rfl ?_
      obtain ⟨x18, e_x18, hp⟩ := owp_ob hp
      refine ab_iald X hR e_x18 dX10_sends_82 ?_
      refine lv_iload_n hx hb dX10_sends_83 rfl (lv_at hl 0 rfl) ?_
      refine lv_iadd hx hb dX10_sends_84 ?_
      obtain ⟨N19, e_N19, hp⟩ := owp_ob hp
      refine ab_iast X hR hS e_N19 dX10_sends_85 (fun H locs hR hS => ?_)
      refine lv_iinc (v := v2 + 1) (lv' := [(2, .int (v2 + 1)), (3, .int x5), (0, .ref v0), (1, .int v1)]) hx hb dX10_sends_86 hl (k := 3) rfl rfl (by decide) rfl (fun ls hl => ?_)
      refine lv_goto (tgt := 2) hx hb dX10_sends_89 (by decide) ?_
      exact ih _ _ _ _ _ hR hS (lv_sub hl [2, 3, 0] rfl) hp
def f_X10_sends (v0 : Nat) (v1 : Int32) (N : AH) : Option (Unit × AH) := ob (iO N v0 10) (fun _ => f_X10_sends_L2 v0 v1 (fun N20 => some ((), N20)) FU (0 : Int32) N)
set_option maxHeartbeats 4000000 in
set_option maxRecDepth 100000 in
theorem wk_X10_sends {P : Unit × AH → Prop} (X : CX cX10_sends RX10 4 G aC t b0 p s m args c) (hr : RtV p l e rm_X10_sends s m args below meth c 0 0 Q cX10_sends G aC b0 P) (v0 : Nat) (v1 : Int32) (N : AH) (H : Heap) (locs : List Loc) (ls : Array Slot) (hR : Rp G aC b0 N H) (hS : va_S (fun q => b0 ≤ q) s.heap H locs) (hl : lv_has ls 4 [(0, .ref v0), (1, .int v1)]) (hp : owp (f_X10_sends v0 v1 N) P) : W p l e rm_X10_sends s m args below meth c H locs 0 0 Q (F0 m 0 ls []) := by
  have hx := X.1.1
  have hb := X.1.2.1
  unfold f_X10_sends at hp
  obtain ⟨_, _, hp⟩ := owp_ob hp
  refine lv_iconst (v := (0)) hx hb dX10_sends_0 (by decide) ?_
  refine lv_istore_n (lv' := [(2, .int (0 : Int32)), (0, .ref v0), (1, .int v1)]) hx hb dX10_sends_1 rfl hl (by decide) rfl (fun ls hl => ?_)
  refine w_X10_sends_L2 X hr _ _ (fun N20 H locs ls hR hS hl hp => ?_) _ _ _ _ _ _ hR hS (lv_sub hl [1, 2, 0] rfl) hp
  exact hr _ _ _ _ _ hR hS dX10_sends_92 hp
end
theorem ct_X10_sends {v0 : Nat} {v1 : Int32} {N N1 : AH} {r : Unit} (h : f_X10_sends v0 v1 N = some (r, N1)) : Ct yX10_sends cX10_sends 4 none rm_X10_sends [.ref v0, .int v1] N none N1 :=
  ab_met (own := RX10) (by decide +kernel) rfl (Nat.le_of_ble_eq_true rfl) (fun l G aC t b0 p e s m below meth c ls X hr hlk hnm hR hS hl => wk_X10_sends X (RtV_met X.1.1 X.1.2.1 hr hlk) _ _ _ _ _ _ hR hS hl (owp_of h))
theorem cw_X10_sends : Cond.code yX10_sends cX10_sends 4 none ∈ WT := WT_of 1217 (by decide +kernel) (by decide +kernel)
theorem iv_X10_sends {p : Program} {l : Launch} {e : Env} {R : Room} {s : State} {m : MethodId} {args : Array Value} {below : List Frame} {meth : Method} {c : Code} {H : Heap} {locs : List Loc} {cells slots : Nat} {Q : State → Prop} {cc : ByteArray} {own : String} {nL : Nat} {G : va_G} {aC : Nat → ClassId} {t b0 : Nat} {N N1 : AH} {pc index : Nat} {ls : Array Slot} {rest : List Value} {v0 : Nat} {v1 : Int32} {r : Unit} (w1 : Cond.methodLink own index yX10_sends ∈ WT) (X : CX cc own nL G aC t b0 p s m args c) (hR : Rp G aC b0 N H) (hS : va_S (fun q => b0 ≤ q) s.heap H locs) (h : f_X10_sends v0 v1 N = some (r, N1)) (hls : ls.size = nL) (hW : (rest.map fun v => v.category).sum ≤ 8) (hR1 : 3 ≤ R.frames ∧ 70 ≤ R.locals) (hcs : cells + 0 ≤ R.cells ∧ slots + 0 ≤ R.slots) (hdg : decode cc pc = .ok (.invokevirtual index, 3)) (kk : ∀ (H1 : Heap) (locs1 : List Loc), Rp G aC b0 N1 H1 → va_S (fun q => b0 ≤ q) s.heap H1 locs1 → W p l e R s m args below meth c H1 locs1 cells slots Q (F0 m (pc + 3) ls rest)) : W p l e R s m args below meth c H locs cells slots Q (F0 m pc ls (.int v1 :: .ref v0 :: rest)) :=
  ab_callV (n := 1) (As := [.int v1]) X hR hS (ct_X10_sends h) (ob_rc (c := 10) (N := N) (a := v0) h) (T := TX10) (k := 20) (C := RX10) rfl w1 (WT_of 1216 (by decide +kernel) (by decide +kernel)) (WT_of 68 (by decide +kernel) (by decide +kernel)) (WT_of 92 (by decide +kernel) (by decide +kernel)) cw_X10_sends ⟨rfl, by decide +kernel, by decide +kernel, by decide +kernel⟩ rfl hls hW hR1 hcs rfl hdg kk
-- X10_ticks
theorem mw_X10_141 : Cond.methodLink RX10 141 yX10_worksOut ∈ WT := WT_of 1152 (by decide +kernel) (by decide +kernel)
theorem mw_X10_144 : Cond.methodLink RX10 144 yX10_preempts ∈ WT := WT_of 1210 (by decide +kernel) (by decide +kernel)
theorem mw_X10_147 : Cond.methodLink RX10 147 yX10_sends ∈ WT := WT_of 1214 (by decide +kernel) (by decide +kernel)
theorem dX10_ticks_0 : decode cX10_ticks 0 = .ok (.aload_n 0, 1) := by decide +kernel
theorem dX10_ticks_1 : decode cX10_ticks 1 = .ok (.invokevirtual 141, 3) := by decide +kernel
theorem dX10_ticks_4 : decode cX10_ticks 4 = .ok (.aload_n 0, 1) := by decide +kernel
theorem dX10_ticks_5 : decode cX10_ticks 5 = .ok (.invokevirtual 144, 3) := by decide +kernel
theorem dX10_ticks_8 : decode cX10_ticks 8 = .ok (.iconst 0, 1) := by decide +kernel
theorem dX10_ticks_9 : decode cX10_ticks 9 = .ok (.istore_n 1, 1) := by decide +kernel
theorem dX10_ticks_10 : decode cX10_ticks 10 = .ok (.iload_n 1, 1) := by decide +kernel
theorem dX10_ticks_11 : decode cX10_ticks 11 = .ok (.aload_n 0, 1) := by decide +kernel
theorem dX10_ticks_12 : decode cX10_ticks 12 = .ok (.getfield 7, 3) := by decide +kernel
theorem dX10_ticks_15 : decode cX10_ticks 15 = .ok (.bipush 6, 2) := by decide +kernel
theorem dX10_ticks_17 : decode cX10_ticks 17 = .ok (.iaload, 1) := by decide +kernel
theorem dX10_ticks_18 : decode cX10_ticks 18 = .ok (.if_icmp .ge 14, 3) := by decide +kernel
theorem dX10_ticks_21 : decode cX10_ticks 21 = .ok (.aload_n 0, 1) := by decide +kernel
theorem dX10_ticks_22 : decode cX10_ticks 22 = .ok (.iload_n 1, 1) := by decide +kernel
theorem dX10_ticks_23 : decode cX10_ticks 23 = .ok (.invokevirtual 147, 3) := by decide +kernel
theorem dX10_ticks_26 : decode cX10_ticks 26 = .ok (.iinc 1 1, 3) := by decide +kernel
theorem dX10_ticks_29 : decode cX10_ticks 29 = .ok (.goto (-19), 3) := by decide +kernel
theorem dX10_ticks_32 : decode cX10_ticks 32 = .ok (.aload_n 0, 1) := by decide +kernel
theorem dX10_ticks_33 : decode cX10_ticks 33 = .ok (.getfield 7, 3) := by decide +kernel
theorem dX10_ticks_36 : decode cX10_ticks 36 = .ok (.iconst 0, 1) := by decide +kernel
theorem dX10_ticks_37 : decode cX10_ticks 37 = .ok (.dup2, 1) := by decide +kernel
theorem dX10_ticks_38 : decode cX10_ticks 38 = .ok (.iaload, 1) := by decide +kernel
theorem dX10_ticks_39 : decode cX10_ticks 39 = .ok (.iconst 1, 1) := by decide +kernel
theorem dX10_ticks_40 : decode cX10_ticks 40 = .ok (.iadd, 1) := by decide +kernel
theorem dX10_ticks_41 : decode cX10_ticks 41 = .ok (.iastore, 1) := by decide +kernel
theorem dX10_ticks_42 : decode cX10_ticks 42 = .ok (.iconst 0, 1) := by decide +kernel
theorem dX10_ticks_43 : decode cX10_ticks 43 = .ok (.istore_n 1, 1) := by decide +kernel
theorem dX10_ticks_44 : decode cX10_ticks 44 = .ok (.iload_n 1, 1) := by decide +kernel
theorem dX10_ticks_45 : decode cX10_ticks 45 = .ok (.aload_n 0, 1) := by decide +kernel
theorem dX10_ticks_46 : decode cX10_ticks 46 = .ok (.getfield 7, 3) := by decide +kernel
theorem dX10_ticks_49 : decode cX10_ticks 49 = .ok (.bipush 6, 2) := by decide +kernel
theorem dX10_ticks_51 : decode cX10_ticks 51 = .ok (.iaload, 1) := by decide +kernel
theorem dX10_ticks_52 : decode cX10_ticks 52 = .ok (.if_icmp .ge 83, 3) := by decide +kernel
theorem dX10_ticks_55 : decode cX10_ticks 55 = .ok (.iconst 0, 1) := by decide +kernel
theorem dX10_ticks_56 : decode cX10_ticks 56 = .ok (.istore_n 2, 1) := by decide +kernel
theorem dX10_ticks_57 : decode cX10_ticks 57 = .ok (.iconst 0, 1) := by decide +kernel
theorem dX10_ticks_58 : decode cX10_ticks 58 = .ok (.istore_n 3, 1) := by decide +kernel
theorem dX10_ticks_59 : decode cX10_ticks 59 = .ok (.iload_n 3, 1) := by decide +kernel
theorem dX10_ticks_60 : decode cX10_ticks 60 = .ok (.aload_n 0, 1) := by decide +kernel
theorem dX10_ticks_61 : decode cX10_ticks 61 = .ok (.getfield 101, 3) := by decide +kernel
theorem dX10_ticks_64 : decode cX10_ticks 64 = .ok (.if_icmp .ge 29, 3) := by decide +kernel
theorem dX10_ticks_67 : decode cX10_ticks 67 = .ok (.iload_n 2, 1) := by decide +kernel
theorem dX10_ticks_68 : decode cX10_ticks 68 = .ok (.ifCond .ne 13, 3) := by decide +kernel
theorem dX10_ticks_71 : decode cX10_ticks 71 = .ok (.aload_n 0, 1) := by decide +kernel
theorem dX10_ticks_72 : decode cX10_ticks 72 = .ok (.getfield 22, 3) := by decide +kernel
theorem dX10_ticks_75 : decode cX10_ticks 75 = .ok (.iload_n 3, 1) := by decide +kernel
theorem dX10_ticks_76 : decode cX10_ticks 76 = .ok (.iaload, 1) := by decide +kernel
theorem dX10_ticks_77 : decode cX10_ticks 77 = .ok (.iload_n 1, 1) := by decide +kernel
theorem dX10_ticks_78 : decode cX10_ticks 78 = .ok (.if_icmp .ne 7, 3) := by decide +kernel
theorem dX10_ticks_81 : decode cX10_ticks 81 = .ok (.iconst 1, 1) := by decide +kernel
theorem dX10_ticks_82 : decode cX10_ticks 82 = .ok (.goto 4, 3) := by decide +kernel
theorem dX10_ticks_85 : decode cX10_ticks 85 = .ok (.iconst 0, 1) := by decide +kernel
theorem dX10_ticks_86 : decode cX10_ticks 86 = .ok (.istore_n 2, 1) := by decide +kernel
theorem dX10_ticks_87 : decode cX10_ticks 87 = .ok (.iinc 3 1, 3) := by decide +kernel
theorem dX10_ticks_90 : decode cX10_ticks 90 = .ok (.goto (-31), 3) := by decide +kernel
theorem dX10_ticks_93 : decode cX10_ticks 93 = .ok (.iload_n 2, 1) := by decide +kernel
theorem dX10_ticks_94 : decode cX10_ticks 94 = .ok (.ifCond .eq 35, 3) := by decide +kernel
theorem dX10_ticks_97 : decode cX10_ticks 97 = .ok (.aload_n 0, 1) := by decide +kernel
theorem dX10_ticks_98 : decode cX10_ticks 98 = .ok (.iload_n 1, 1) := by decide +kernel
theorem dX10_ticks_99 : decode cX10_ticks 99 = .ok (.invokevirtual 88, 3) := by decide +kernel
theorem dX10_ticks_102 : decode cX10_ticks 102 = .ok (.ifCond .ne 27, 3) := by decide +kernel
theorem dX10_ticks_105 : decode cX10_ticks 105 = .ok (.aload_n 0, 1) := by decide +kernel
theorem dX10_ticks_106 : decode cX10_ticks 106 = .ok (.iload_n 1, 1) := by decide +kernel
theorem dX10_ticks_107 : decode cX10_ticks 107 = .ok (.iconst 3, 1) := by decide +kernel
theorem dX10_ticks_108 : decode cX10_ticks 108 = .ok (.aload_n 0, 1) := by decide +kernel
theorem dX10_ticks_109 : decode cX10_ticks 109 = .ok (.getfield 7, 3) := by decide +kernel
theorem dX10_ticks_112 : decode cX10_ticks 112 = .ok (.iconst 0, 1) := by decide +kernel
theorem dX10_ticks_113 : decode cX10_ticks 113 = .ok (.iaload, 1) := by decide +kernel
theorem dX10_ticks_114 : decode cX10_ticks 114 = .ok (.invokevirtual 56, 3) := by decide +kernel
theorem dX10_ticks_117 : decode cX10_ticks 117 = .ok (.aload_n 0, 1) := by decide +kernel
theorem dX10_ticks_118 : decode cX10_ticks 118 = .ok (.iconst 1, 1) := by decide +kernel
theorem dX10_ticks_119 : decode cX10_ticks 119 = .ok (.iload_n 1, 1) := by decide +kernel
theorem dX10_ticks_120 : decode cX10_ticks 120 = .ok (.aload_n 0, 1) := by decide +kernel
theorem dX10_ticks_121 : decode cX10_ticks 121 = .ok (.getfield 7, 3) := by decide +kernel
theorem dX10_ticks_124 : decode cX10_ticks 124 = .ok (.iconst 0, 1) := by decide +kernel
theorem dX10_ticks_125 : decode cX10_ticks 125 = .ok (.iaload, 1) := by decide +kernel
theorem dX10_ticks_126 : decode cX10_ticks 126 = .ok (.invokevirtual 134, 3) := by decide +kernel
theorem dX10_ticks_129 : decode cX10_ticks 129 = .ok (.iinc 1 1, 3) := by decide +kernel
theorem dX10_ticks_132 : decode cX10_ticks 132 = .ok (.goto (-88), 3) := by decide +kernel
theorem dX10_ticks_135 : decode cX10_ticks 135 = .ok (.iconst 0, 1) := by decide +kernel
theorem dX10_ticks_136 : decode cX10_ticks 136 = .ok (.istore_n 1, 1) := by decide +kernel
theorem dX10_ticks_137 : decode cX10_ticks 137 = .ok (.iload_n 1, 1) := by decide +kernel
theorem dX10_ticks_138 : decode cX10_ticks 138 = .ok (.aload_n 0, 1) := by decide +kernel
theorem dX10_ticks_139 : decode cX10_ticks 139 = .ok (.getfield 7, 3) := by decide +kernel
theorem dX10_ticks_142 : decode cX10_ticks 142 = .ok (.bipush 6, 2) := by decide +kernel
theorem dX10_ticks_144 : decode cX10_ticks 144 = .ok (.iaload, 1) := by decide +kernel
theorem dX10_ticks_145 : decode cX10_ticks 145 = .ok (.if_icmp .ge 61, 3) := by decide +kernel
theorem dX10_ticks_148 : decode cX10_ticks 148 = .ok (.aload_n 0, 1) := by decide +kernel
theorem dX10_ticks_149 : decode cX10_ticks 149 = .ok (.iload_n 1, 1) := by decide +kernel
theorem dX10_ticks_150 : decode cX10_ticks 150 = .ok (.iconst 2, 1) := by decide +kernel
theorem dX10_ticks_151 : decode cX10_ticks 151 = .ok (.invokevirtual 52, 3) := by decide +kernel
theorem dX10_ticks_154 : decode cX10_ticks 154 = .ok (.ifCond .le 46, 3) := by decide +kernel
theorem dX10_ticks_157 : decode cX10_ticks 157 = .ok (.aload_n 0, 1) := by decide +kernel
theorem dX10_ticks_158 : decode cX10_ticks 158 = .ok (.iload_n 1, 1) := by decide +kernel
theorem dX10_ticks_159 : decode cX10_ticks 159 = .ok (.iconst 0, 1) := by decide +kernel
theorem dX10_ticks_160 : decode cX10_ticks 160 = .ok (.invokevirtual 52, 3) := by decide +kernel
theorem dX10_ticks_163 : decode cX10_ticks 163 = .ok (.aload_n 0, 1) := by decide +kernel
theorem dX10_ticks_164 : decode cX10_ticks 164 = .ok (.iload_n 1, 1) := by decide +kernel
theorem dX10_ticks_165 : decode cX10_ticks 165 = .ok (.iconst 2, 1) := by decide +kernel
theorem dX10_ticks_166 : decode cX10_ticks 166 = .ok (.invokevirtual 52, 3) := by decide +kernel
theorem dX10_ticks_169 : decode cX10_ticks 169 = .ok (.iadd, 1) := by decide +kernel
theorem dX10_ticks_170 : decode cX10_ticks 170 = .ok (.aload_n 0, 1) := by decide +kernel
theorem dX10_ticks_171 : decode cX10_ticks 171 = .ok (.getfield 7, 3) := by decide +kernel
theorem dX10_ticks_174 : decode cX10_ticks 174 = .ok (.iconst 0, 1) := by decide +kernel
theorem dX10_ticks_175 : decode cX10_ticks 175 = .ok (.iaload, 1) := by decide +kernel
theorem dX10_ticks_176 : decode cX10_ticks 176 = .ok (.if_icmp .ne 24, 3) := by decide +kernel
theorem dX10_ticks_179 : decode cX10_ticks 179 = .ok (.aload_n 0, 1) := by decide +kernel
theorem dX10_ticks_180 : decode cX10_ticks 180 = .ok (.iload_n 1, 1) := by decide +kernel
theorem dX10_ticks_181 : decode cX10_ticks 181 = .ok (.invokevirtual 107, 3) := by decide +kernel
theorem dX10_ticks_184 : decode cX10_ticks 184 = .ok (.iconst 1, 1) := by decide +kernel
theorem dX10_ticks_185 : decode cX10_ticks 185 = .ok (.if_icmp .ne 15, 3) := by decide +kernel
theorem dX10_ticks_188 : decode cX10_ticks 188 = .ok (.aload_n 0, 1) := by decide +kernel
theorem dX10_ticks_189 : decode cX10_ticks 189 = .ok (.iconst 4, 1) := by decide +kernel
theorem dX10_ticks_190 : decode cX10_ticks 190 = .ok (.iload_n 1, 1) := by decide +kernel
theorem dX10_ticks_191 : decode cX10_ticks 191 = .ok (.aload_n 0, 1) := by decide +kernel
theorem dX10_ticks_192 : decode cX10_ticks 192 = .ok (.getfield 7, 3) := by decide +kernel
theorem dX10_ticks_195 : decode cX10_ticks 195 = .ok (.iconst 0, 1) := by decide +kernel
theorem dX10_ticks_196 : decode cX10_ticks 196 = .ok (.iaload, 1) := by decide +kernel
theorem dX10_ticks_197 : decode cX10_ticks 197 = .ok (.invokevirtual 134, 3) := by decide +kernel
theorem dX10_ticks_200 : decode cX10_ticks 200 = .ok (.iinc 1 1, 3) := by decide +kernel
theorem dX10_ticks_203 : decode cX10_ticks 203 = .ok (.goto (-66), 3) := by decide +kernel
theorem dX10_ticks_206 : decode cX10_ticks 206 = .ok (.return_, 1) := by decide +kernel
def rm_X10_ticks : Room := { frames := 8, cells := 0, slots := 0, locals := 180 }
section
variable {p : Program} {l : Launch} {e : Env} {s : State} {m : MethodId} {args : Array Value} {below : List Frame} {meth : Method} {c : Code} {Q : State → Prop} {G : va_G} {aC : Nat → ClassId} {t b0 : Nat}
def f_X10_ticks_L10 (v0 : Nat) (k32 : AH → Option (Unit × AH)) : Nat → Int32 → AH → Option (Unit × AH)
  | 0, _, _ => none
  | n + 1, v1, N => ob (hR N v0 10 0) (fun x3 => ob (aI N x3 (6 : Int32)) (fun x4 => if x4 ≤ v1 then k32 N else ob2 (f_X10_sends v0 v1 N) (fun _ N6 => f_X10_ticks_L10 v0 k32 n (v1 + 1) N6)))
set_option maxHeartbeats 4000000 in
set_option maxRecDepth 100000 in
theorem w_X10_ticks_L10 {P : Unit × AH → Prop} (X : CX cX10_ticks RX10 4 G aC t b0 p s m args c) (hr : RtV p l e rm_X10_ticks s m args below meth c 0 0 Q cX10_ticks G aC b0 P) (v0 : Nat) {k32 : AH → Option (Unit × AH)}
    (hk32 : ∀ (N : AH) (H : Heap) (locs : List Loc) (ls : Array Slot), Rp G aC b0 N H → va_S (fun q => b0 ≤ q) s.heap H locs → lv_has ls 4 [(0, .ref v0)] → owp (k32 N) P → W p l e rm_X10_ticks s m args below meth c H locs 0 0 Q (F0 m 32 ls [])) :
    ∀ (n : Nat) (v1 : Int32) (N : AH) (H : Heap) (locs : List Loc) (ls : Array Slot), Rp G aC b0 N H → va_S (fun q => b0 ≤ q) s.heap H locs → lv_has ls 4 [(0, .ref v0), (1, .int v1)] → owp (f_X10_ticks_L10 v0 k32 n v1 N) P → W p l e rm_X10_ticks s m args below meth c H locs 0 0 Q (F0 m 10 ls []) := by
  have hx := X.1.1
  have hb := X.1.2.1
  intro n
  induction n with
  | zero =>
    intro v1 N H locs ls hR hS hl hp
    exact (show False from hp).elim
  | succ n ih =>
    intro v1 N H locs ls hR hS hl hp
    rw [f_X10_ticks_L10] at hp
    refine lv_iload_n hx hb dX10_ticks_10 rfl (lv_at hl 1 rfl) ?_
    refine lv_aload_n hx hb dX10_ticks_11 rfl (lv_at hl 0 rfl) ?_
    obtain ⟨x3, e_x3, hp⟩ := owp_ob hp
    refine gf_X10_7 X hR e_x3 dX10_ticks_12 ?_
    refine lv_bipush (v := (6)) hx hb dX10_ticks_15 (by decide) ?_
    obtain ⟨x4, e_x4, hp⟩ := owp_ob hp
    refine ab_iald X hR e_x4 dX10_ticks_17 ?_
    refine lv_icmp_ge (tgt := 32) hx hb dX10_ticks_18 (by decide) (fun k5 => ?_) (fun k5 => ?_)
    · have hp := owp_t k5 hp
      exact hk32 _ _ _ _ hR hS (lv_sub hl [0] rfl) hp
    · have hp := owp_f k5 hp
      refine lv_aload_n hx hb dX10_ticks_21 rfl (lv_at hl 0 rfl) ?_
      refine lv_iload_n hx hb dX10_ticks_22 rfl (lv_at hl 1 rfl) ?_
      obtain ⟨_, N6, e_N6, hp⟩ := owp_ob2 hp
      refine iv_X10_sends (rest := []) mw_X10_147 X hR hS e_N6 hl.1 (Nat.le_of_ble_eq_true rfl) ⟨Nat.le_of_ble_eq_true rfl, Nat.le_of_ble_eq_true rfl⟩ ⟨Nat.le_of_ble_eq_true rfl, Nat.le_of_ble_eq_true rfl⟩ dX10_ticks_23 (fun H locs hR hS => ?_)
      refine lv_iinc (v := v1 + 1) (lv' := [(1, .int (v1 + 1)), (0, .ref v0)]) hx hb dX10_ticks_26 hl (k := 1) rfl rfl (by decide) rfl (fun ls hl => ?_)
      refine lv_goto (tgt := 10) hx hb dX10_ticks_29 (by decide) ?_
      exact ih _ _ _ _ _ hR hS (lv_sub hl [1, 0] rfl) hp
def f_X10_ticks_L59 (v0 : Nat) (v1 : Int32) (k93 : Int32 → AH → Option (Unit × AH)) : Nat → Int32 → Int32 → AH → Option (Unit × AH)
  | 0, _, _, _ => none
  | n + 1, v2, v3, N => ob (hI N v0 10 7) (fun x14 => if x14 ≤ v3 then k93 v2 N else if ¬ v2 = 0 then f_X10_ticks_L59 v0 v1 k93 n (1 : Int32) (v3 + 1) N else ob (hR N v0 10 6) (fun x17 => ob (aI N x17 v3) (fun x18 => if ¬ x18 = v1 then f_X10_ticks_L59 v0 v1 k93 n (0 : Int32) (v3 + 1) N else f_X10_ticks_L59 v0 v1 k93 n (1 : Int32) (v3 + 1) N)))
set_option maxHeartbeats 4000000 in
set_option maxRecDepth 100000 in
theorem w_X10_ticks_L59 {P : Unit × AH → Prop} (X : CX cX10_ticks RX10 4 G aC t b0 p s m args c) (hr : RtV p l e rm_X10_ticks s m args below meth c 0 0 Q cX10_ticks G aC b0 P) (v0 : Nat) (v1 : Int32) {k93 : Int32 → AH → Option (Unit × AH)}
    (hk93 : ∀ (v2 : Int32) (N : AH) (H : Heap) (locs : List Loc) (ls : Array Slot), Rp G aC b0 N H → va_S (fun q => b0 ≤ q) s.heap H locs → lv_has ls 4 [(0, .ref v0), (1, .int v1), (2, .int v2)] → owp (k93 v2 N) P → W p l e rm_X10_ticks s m args below meth c H locs 0 0 Q (F0 m 93 ls [])) :
    ∀ (n : Nat) (v2 : Int32) (v3 : Int32) (N : AH) (H : Heap) (locs : List Loc) (ls : Array Slot), Rp G aC b0 N H → va_S (fun q => b0 ≤ q) s.heap H locs → lv_has ls 4 [(0, .ref v0), (1, .int v1), (2, .int v2), (3, .int v3)] → owp (f_X10_ticks_L59 v0 v1 k93 n v2 v3 N) P → W p l e rm_X10_ticks s m args below meth c H locs 0 0 Q (F0 m 59 ls []) := by
  have hx := X.1.1
  have hb := X.1.2.1
  intro n
  induction n with
  | zero =>
    intro v2 v3 N H locs ls hR hS hl hp
    exact (show False from hp).elim
  | succ n ih =>
    intro v2 v3 N H locs ls hR hS hl hp
    rw [f_X10_ticks_L59] at hp
    refine lv_iload_n hx hb dX10_ticks_59 rfl (lv_at hl 3 rfl) ?_
    refine lv_aload_n hx hb dX10_ticks_60 rfl (lv_at hl 0 rfl) ?_
    obtain ⟨x14, e_x14, hp⟩ := owp_ob hp
    refine gf_X10_101 X hR e_x14 dX10_ticks_61 ?_
    refine lv_icmp_ge (tgt := 93) hx hb dX10_ticks_64 (by decide) (fun k15 => ?_) (fun k15 => ?_)
    · have hp := owp_t k15 hp
      exact hk93 _ _ _ _ _ hR hS (lv_sub hl [0, 1, 2] rfl) hp
    · have hp := owp_f k15 hp
      refine lv_iload_n hx hb dX10_ticks_67 rfl (lv_at hl 2 rfl) ?_
      refine lv_if_ne (tgt := 81) hx hb dX10_ticks_68 (by decide) (fun k16 => ?_) (fun k16 => ?_)
      · have hp := owp_t k16 hp
        refine lv_iconst (v := (1)) hx hb dX10_ticks_81 (by decide) ?_
        refine lv_goto (tgt := 86) hx hb dX10_ticks_82 (by decide) ?_
        refine lv_istore_n (lv' := [(2, .int (1 : Int32)), (0, .ref v0), (1, .int v1), (3, .int v3)]) hx hb dX10_ticks_86 rfl hl (by decide) rfl (fun ls hl => ?_)
        refine lv_iinc (v := v3 + 1) (lv' := [(3, .int (v3 + 1)), (2, .int (1 : Int32)), (0, .ref v0), (1, .int v1)]) hx hb dX10_ticks_87 hl (k := 3) rfl rfl (by decide) rfl (fun ls hl => ?_)
        refine lv_goto (tgt := 59) hx hb dX10_ticks_90 (by decide) ?_
        exact ih _ _ _ _ _ _ hR hS (lv_sub hl [2, 3, 1, 0] rfl) hp
      · have hp := owp_f (fun q => q k16) hp
        refine lv_aload_n hx hb dX10_ticks_71 rfl (lv_at hl 0 rfl) ?_
        obtain ⟨x17, e_x17, hp⟩ := owp_ob hp
        refine gf_X10_22 X hR e_x17 dX10_ticks_72 ?_
        refine lv_iload_n hx hb dX10_ticks_75 rfl (lv_at hl 3 rfl) ?_
        obtain ⟨x18, e_x18, hp⟩ := owp_ob hp
        refine ab_iald X hR e_x18 dX10_ticks_76 ?_
        refine lv_iload_n hx hb dX10_ticks_77 rfl (lv_at hl 1 rfl) ?_
        refine lv_icmp_ne (tgt := 85) hx hb dX10_ticks_78 (by decide) (fun k19 => ?_) (fun k19 => ?_)
        · have hp := owp_t k19 hp
          refine lv_iconst (v := (0)) hx hb dX10_ticks_85 (by decide) ?_
          refine lv_istore_n (lv' := [(2, .int (0 : Int32)), (0, .ref v0), (1, .int v1), (3, .int v3)]) hx hb dX10_ticks_86 rfl hl (by decide) rfl (fun ls hl => ?_)
          refine lv_iinc (v := v3 + 1) (lv' := [(3, .int (v3 + 1)), (2, .int (0 : Int32)), (0, .ref v0), (1, .int v1)]) hx hb dX10_ticks_87 hl (k := 3) rfl rfl (by decide) rfl (fun ls hl => ?_)
          refine lv_goto (tgt := 59) hx hb dX10_ticks_90 (by decide) ?_
          exact ih _ _ _ _ _ _ hR hS (lv_sub hl [2, 3, 1, 0] rfl) hp
        · have hp := owp_f (fun q => q k19) hp
          refine lv_iconst (v := (1)) hx hb dX10_ticks_81 (by decide) ?_
          refine lv_goto (tgt := 86) hx hb dX10_ticks_82 (by decide) ?_
          refine lv_istore_n (lv' := [(2, .int (1 : Int32)), (0, .ref v0), (1, .int v1), (3, .int v3)]) hx hb dX10_ticks_86 rfl hl (by decide) rfl (fun ls hl => ?_)
          refine lv_iinc (v := v3 + 1) (lv' := [(3, .int (v3 + 1)), (2, .int (1 : Int32)), (0, .ref v0), (1, .int v1)]) hx hb dX10_ticks_87 hl (k := 3) rfl rfl (by decide) rfl (fun ls hl => ?_)
          refine lv_goto (tgt := 59) hx hb dX10_ticks_90 (by decide) ?_
          exact ih _ _ _ _ _ _ hR hS (lv_sub hl [2, 3, 1, 0] rfl) hp
def f_X10_ticks_L44 (v0 : Nat) (k135 : AH → Option (Unit × AH)) : Nat → Int32 → AH → Option (Unit × AH)
  | 0, _, _ => none
  | n + 1, v1, N => ob (hR N v0 10 0) (fun x11 => ob (aI N x11 (6 : Int32)) (fun x12 => if x12 ≤ v1 then k135 N else f_X10_ticks_L59 v0 v1 (fun v20 N21 => if v20 = 0 then f_X10_ticks_L44 v0 k135 n (v1 + 1) N21 else ob2 (f_X10_restOf v0 v1 N21) (fun x24 N23 => if ¬ x24 = 0 then f_X10_ticks_L44 v0 k135 n (v1 + 1) N23 else ob (hR N23 v0 10 0) (fun x26 => ob (aI N23 x26 (0 : Int32)) (fun x27 => ob2 (f_X10_sets v0 v1 (3 : Int32) x27 N23) (fun _ N28 => ob (hR N28 v0 10 0) (fun x29 => ob (aI N28 x29 (0 : Int32)) (fun x30 => ob2 (f_X10_notes v0 (1 : Int32) v1 x30 N28) (fun _ N31 => f_X10_ticks_L44 v0 k135 n (v1 + 1) N31)))))))) FU (0 : Int32) (0 : Int32) N))
set_option maxHeartbeats 4000000 in
set_option maxRecDepth 100000 in
theorem w_X10_ticks_L44 {P : Unit × AH → Prop} (X : CX cX10_ticks RX10 4 G aC t b0 p s m args c) (hr : RtV p l e rm_X10_ticks s m args below meth c 0 0 Q cX10_ticks G aC b0 P) (v0 : Nat) {k135 : AH → Option (Unit × AH)}
    (hk135 : ∀ (N : AH) (H : Heap) (locs : List Loc) (ls : Array Slot), Rp G aC b0 N H → va_S (fun q => b0 ≤ q) s.heap H locs → lv_has ls 4 [(0, .ref v0)] → owp (k135 N) P → W p l e rm_X10_ticks s m args below meth c H locs 0 0 Q (F0 m 135 ls [])) :
    ∀ (n : Nat) (v1 : Int32) (N : AH) (H : Heap) (locs : List Loc) (ls : Array Slot), Rp G aC b0 N H → va_S (fun q => b0 ≤ q) s.heap H locs → lv_has ls 4 [(0, .ref v0), (1, .int v1)] → owp (f_X10_ticks_L44 v0 k135 n v1 N) P → W p l e rm_X10_ticks s m args below meth c H locs 0 0 Q (F0 m 44 ls []) := by
  have hx := X.1.1
  have hb := X.1.2.1
  intro n
  induction n with
  | zero =>
    intro v1 N H locs ls hR hS hl hp
    exact (show False from hp).elim
  | succ n ih =>
    intro v1 N H locs ls hR hS hl hp
    rw [f_X10_ticks_L44] at hp
    refine lv_iload_n hx hb dX10_ticks_44 rfl (lv_at hl 1 rfl) ?_
    refine lv_aload_n hx hb dX10_ticks_45 rfl (lv_at hl 0 rfl) ?_
    obtain ⟨x11, e_x11, hp⟩ := owp_ob hp
    refine gf_X10_7 X hR e_x11 dX10_ticks_46 ?_
    refine lv_bipush (v := (6)) hx hb dX10_ticks_49 (by decide) ?_
    obtain ⟨x12, e_x12, hp⟩ := owp_ob hp
    refine ab_iald X hR e_x12 dX10_ticks_51 ?_
    refine lv_icmp_ge (tgt := 135) hx hb dX10_ticks_52 (by decide) (fun k13 => ?_) (fun k13 => ?_)
    · have hp := owp_t k13 hp
      exact hk135 _ _ _ _ hR hS (lv_sub hl [0] rfl) hp
    · have hp := owp_f k13 hp
      refine lv_iconst (v := (0)) hx hb dX10_ticks_55 (by decide) ?_
      refine lv_istore_n (lv' := [(2, .int (0 : Int32)), (0, .ref v0), (1, .int v1)]) hx hb dX10_ticks_56 rfl hl (by decide) rfl (fun ls hl => ?_)
      refine lv_iconst (v := (0)) hx hb dX10_ticks_57 (by decide) ?_
      refine lv_istore_n (lv' := [(3, .int (0 : Int32)), (2, .int (0 : Int32)), (0, .ref v0), (1, .int v1)]) hx hb dX10_ticks_58 rfl hl (by decide) rfl (fun ls hl => ?_)
      refine w_X10_ticks_L59 X hr _ _ (fun v20 N21 H locs ls hR hS hl hp => ?_) _ _ _ _ _ _ _ hR hS (lv_sub hl [2, 3, 1, 0] rfl) hp
      refine lv_iload_n hx hb dX10_ticks_93 rfl (lv_at hl 2 rfl) ?_
      refine lv_if_eq (tgt := 129) hx hb dX10_ticks_94 (by decide) (fun k22 => ?_) (fun k22 => ?_)
      · have hp := owp_t k22 hp
        refine lv_iinc (v := v1 + 1) (lv' := [(1, .int (v1 + 1)), (0, .ref v0), (2, .int v20)]) hx hb dX10_ticks_129 hl (k := 1) rfl rfl (by decide) rfl (fun ls hl => ?_)
        refine lv_goto (tgt := 44) hx hb dX10_ticks_132 (by decide) ?_
        exact ih _ _ _ _ _ hR hS (lv_sub hl [1, 0] rfl) hp
      · have hp := owp_f k22 hp
        refine lv_aload_n hx hb dX10_ticks_97 rfl (lv_at hl 0 rfl) ?_
        refine lv_iload_n hx hb dX10_ticks_98 rfl (lv_at hl 1 rfl) ?_
        obtain ⟨x24, N23, e_N23, hp⟩ := owp_ob2 hp
        refine iv_X10_restOf (rest := []) mw_X10_88 X hR hS e_N23 hl.1 (Nat.le_of_ble_eq_true rfl) ⟨Nat.le_of_ble_eq_true rfl, Nat.le_of_ble_eq_true rfl⟩ ⟨Nat.le_of_ble_eq_true rfl, Nat.le_of_ble_eq_true rfl⟩ dX10_ticks_99 (fun H locs hR hS => ?_)
        refine lv_if_ne (tgt := 129) hx hb dX10_ticks_102 (by decide) (fun k25 => ?_) (fun k25 => ?_)
        · have hp := owp_t k25 hp
          refine lv_iinc (v := v1 + 1) (lv' := [(1, .int (v1 + 1)), (0, .ref v0), (2, .int v20)]) hx hb dX10_ticks_129 hl (k := 1) rfl rfl (by decide) rfl (fun ls hl => ?_)
          refine lv_goto (tgt := 44) hx hb dX10_ticks_132 (by decide) ?_
          exact ih _ _ _ _ _ hR hS (lv_sub hl [1, 0] rfl) hp
        · have hp := owp_f (fun q => q k25) hp
          refine lv_aload_n hx hb dX10_ticks_105 rfl (lv_at hl 0 rfl) ?_
          refine lv_iload_n hx hb dX10_ticks_106 rfl (lv_at hl 1 rfl) ?_
          refine lv_iconst (v := (3)) hx hb dX10_ticks_107 (by decide) ?_
          refine lv_aload_n hx hb dX10_ticks_108 rfl (lv_at hl 0 rfl) ?_
          obtain ⟨x26, e_x26, hp⟩ := owp_ob hp
          refine gf_X10_7 X hR e_x26 dX10_ticks_109 ?_
          refine lv_iconst (v := (0)) hx hb dX10_ticks_112 (by decide) ?_
          obtain ⟨x27, e_x27, hp⟩ := owp_ob hp
          refine ab_iald X hR e_x27 dX10_ticks_113 ?_
          obtain ⟨_, N28, e_N28, hp⟩ := owp_ob2 hp
          refine iv_X10_sets (rest := []) mw_X10_56 X hR hS e_N28 hl.1 (Nat.le_of_ble_eq_true rfl) ⟨Nat.le_of_ble_eq_true rfl, Nat.le_of_ble_eq_true rfl⟩ ⟨Nat.le_of_ble_eq_true rfl, Nat.le_of_ble_eq_true rfl⟩ dX10_ticks_114 (fun H locs hR hS => ?_)
          refine lv_aload_n hx hb dX10_ticks_117 rfl (lv_at hl 0 rfl) ?_
          refine lv_iconst (v := (1)) hx hb dX10_ticks_118 (by decide) ?_
          refine lv_iload_n hx hb dX10_ticks_119 rfl (lv_at hl 1 rfl) ?_
          refine lv_aload_n hx hb dX10_ticks_120 rfl (lv_at hl 0 rfl) ?_
          obtain ⟨x29, e_x29, hp⟩ := owp_ob hp
          refine gf_X10_7 X hR e_x29 dX10_ticks_121 ?_
          refine lv_iconst (v := (0)) hx hb dX10_ticks_124 (by decide) ?_
          obtain ⟨x30, e_x30, hp⟩ := owp_ob hp
          refine ab_iald X hR e_x30 dX10_ticks_125 ?_
          obtain ⟨_, N31, e_N31, hp⟩ := owp_ob2 hp
          refine iv_X10_notes (rest := []) mw_X10_134 X hR hS e_N31 hl.1 (Nat.le_of_ble_eq_true rfl) ⟨Nat.le_of_ble_eq_true rfl, Nat.le_of_ble_eq_true rfl⟩ ⟨Nat.le_of_ble_eq_true rfl, Nat.le_of_ble_eq_true rfl⟩ dX10_ticks_126 (fun H locs hR hS => ?_)
          refine lv_iinc (v := v1 + 1) (lv' := [(1, .int (v1 + 1)), (0, .ref v0), (2, .int v20)]) hx hb dX10_ticks_129 hl (k := 1) rfl rfl (by decide) rfl (fun ls hl => ?_)
          refine lv_goto (tgt := 44) hx hb dX10_ticks_132 (by decide) ?_
          exact ih _ _ _ _ _ hR hS (lv_sub hl [1, 0] rfl) hp
def f_X10_ticks_L137 (v0 : Nat) (k206 : AH → Option (Unit × AH)) : Nat → Int32 → AH → Option (Unit × AH)
  | 0, _, _ => none
  | n + 1, v1, N => ob (hR N v0 10 0) (fun x33 => ob (aI N x33 (6 : Int32)) (fun x34 => if x34 ≤ v1 then k206 N else ob2 (f_X10_of v0 v1 (2 : Int32) N) (fun x37 N36 => if x37 ≤ 0 then f_X10_ticks_L137 v0 k206 n (v1 + 1) N36 else ob2 (f_X10_of v0 v1 (0 : Int32) N36) (fun x40 N39 => ob2 (f_X10_of v0 v1 (2 : Int32) N39) (fun x42 N41 => ob (hR N41 v0 10 0) (fun x43 => ob (aI N41 x43 (0 : Int32)) (fun x44 => if ¬ (x40 + x42) = x44 then f_X10_ticks_L137 v0 k206 n (v1 + 1) N41 else ob2 (f_X10_stateOf v0 v1 N41) (fun x47 N46 => if ¬ x47 = (1 : Int32) then f_X10_ticks_L137 v0 k206 n (v1 + 1) N46 else ob (hR N46 v0 10 0) (fun x49 => ob (aI N46 x49 (0 : Int32)) (fun x50 => ob2 (f_X10_notes v0 (4 : Int32) v1 x50 N46) (fun _ N51 => f_X10_ticks_L137 v0 k206 n (v1 + 1) N51)))))))))))
set_option maxHeartbeats 4000000 in
set_option maxRecDepth 100000 in
theorem w_X10_ticks_L137 {P : Unit × AH → Prop} (X : CX cX10_ticks RX10 4 G aC t b0 p s m args c) (hr : RtV p l e rm_X10_ticks s m args below meth c 0 0 Q cX10_ticks G aC b0 P) (v0 : Nat) {k206 : AH → Option (Unit × AH)}
    (hk206 : ∀ (N : AH) (H : Heap) (locs : List Loc) (ls : Array Slot), Rp G aC b0 N H → va_S (fun q => b0 ≤ q) s.heap H locs → lv_has ls 4 [] → owp (k206 N) P → W p l e rm_X10_ticks s m args below meth c H locs 0 0 Q (F0 m 206 ls [])) :
    ∀ (n : Nat) (v1 : Int32) (N : AH) (H : Heap) (locs : List Loc) (ls : Array Slot), Rp G aC b0 N H → va_S (fun q => b0 ≤ q) s.heap H locs → lv_has ls 4 [(0, .ref v0), (1, .int v1)] → owp (f_X10_ticks_L137 v0 k206 n v1 N) P → W p l e rm_X10_ticks s m args below meth c H locs 0 0 Q (F0 m 137 ls []) := by
  have hx := X.1.1
  have hb := X.1.2.1
  intro n
  induction n with
  | zero =>
    intro v1 N H locs ls hR hS hl hp
    exact (show False from hp).elim
  | succ n ih =>
    intro v1 N H locs ls hR hS hl hp
    rw [f_X10_ticks_L137] at hp
    refine lv_iload_n hx hb dX10_ticks_137 rfl (lv_at hl 1 rfl) ?_
    refine lv_aload_n hx hb dX10_ticks_138 rfl (lv_at hl 0 rfl) ?_
    obtain ⟨x33, e_x33, hp⟩ := owp_ob hp
    refine gf_X10_7 X hR e_x33 dX10_ticks_139 ?_
    refine lv_bipush (v := (6)) hx hb dX10_ticks_142 (by decide) ?_
    obtain ⟨x34, e_x34, hp⟩ := owp_ob hp
    refine ab_iald X hR e_x34 dX10_ticks_144 ?_
    refine lv_icmp_ge (tgt := 206) hx hb dX10_ticks_145 (by decide) (fun k35 => ?_) (fun k35 => ?_)
    · have hp := owp_t k35 hp
      exact hk206 _ _ _ _ hR hS (lv_sub hl [] rfl) hp
    · have hp := owp_f k35 hp
      refine lv_aload_n hx hb dX10_ticks_148 rfl (lv_at hl 0 rfl) ?_
      refine lv_iload_n hx hb dX10_ticks_149 rfl (lv_at hl 1 rfl) ?_
      refine lv_iconst (v := (2)) hx hb dX10_ticks_150 (by decide) ?_
      obtain ⟨x37, N36, e_N36, hp⟩ := owp_ob2 hp
      refine iv_X10_of (rest := []) mw_X10_52 X hR hS e_N36 hl.1 (Nat.le_of_ble_eq_true rfl) ⟨Nat.le_of_ble_eq_true rfl, Nat.le_of_ble_eq_true rfl⟩ ⟨Nat.le_of_ble_eq_true rfl, Nat.le_of_ble_eq_true rfl⟩ dX10_ticks_151 (fun H locs hR hS => ?_)
      refine lv_if_le (tgt := 200) hx hb dX10_ticks_154 (by decide) (fun k38 => ?_) (fun k38 => ?_)
      · have hp := owp_t k38 hp
        refine lv_iinc (v := v1 + 1) (lv' := [(1, .int (v1 + 1)), (0, .ref v0)]) hx hb dX10_ticks_200 hl (k := 1) rfl rfl (by decide) rfl (fun ls hl => ?_)
        refine lv_goto (tgt := 137) hx hb dX10_ticks_203 (by decide) ?_
        exact ih _ _ _ _ _ hR hS (lv_sub hl [1, 0] rfl) hp
      · have hp := owp_f k38 hp
        refine lv_aload_n hx hb dX10_ticks_157 rfl (lv_at hl 0 rfl) ?_
        refine lv_iload_n hx hb dX10_ticks_158 rfl (lv_at hl 1 rfl) ?_
        refine lv_iconst (v := (0)) hx hb dX10_ticks_159 (by decide) ?_
        obtain ⟨x40, N39, e_N39, hp⟩ := owp_ob2 hp
        refine iv_X10_of (rest := []) mw_X10_52 X hR hS e_N39 hl.1 (Nat.le_of_ble_eq_true rfl) ⟨Nat.le_of_ble_eq_true rfl, Nat.le_of_ble_eq_true rfl⟩ ⟨Nat.le_of_ble_eq_true rfl, Nat.le_of_ble_eq_true rfl⟩ dX10_ticks_160 (fun H locs hR hS => ?_)
        refine lv_aload_n hx hb dX10_ticks_163 rfl (lv_at hl 0 rfl) ?_
        refine lv_iload_n hx hb dX10_ticks_164 rfl (lv_at hl 1 rfl) ?_
        refine lv_iconst (v := (2)) hx hb dX10_ticks_165 (by decide) ?_
        obtain ⟨x42, N41, e_N41, hp⟩ := owp_ob2 hp
        refine iv_X10_of (rest := [.int x40]) mw_X10_52 X hR hS e_N41 hl.1 (Nat.le_of_ble_eq_true rfl) ⟨Nat.le_of_ble_eq_true rfl, Nat.le_of_ble_eq_true rfl⟩ ⟨Nat.le_of_ble_eq_true rfl, Nat.le_of_ble_eq_true rfl⟩ dX10_ticks_166 (fun H locs hR hS => ?_)
        refine lv_iadd hx hb dX10_ticks_169 ?_
        refine lv_aload_n hx hb dX10_ticks_170 rfl (lv_at hl 0 rfl) ?_
        obtain ⟨x43, e_x43, hp⟩ := owp_ob hp
        refine gf_X10_7 X hR e_x43 dX10_ticks_171 ?_
        refine lv_iconst (v := (0)) hx hb dX10_ticks_174 (by decide) ?_
        obtain ⟨x44, e_x44, hp⟩ := owp_ob hp
        refine ab_iald X hR e_x44 dX10_ticks_175 ?_
        refine lv_icmp_ne (tgt := 200) hx hb dX10_ticks_176 (by decide) (fun k45 => ?_) (fun k45 => ?_)
        · have hp := owp_t k45 hp
          refine lv_iinc (v := v1 + 1) (lv' := [(1, .int (v1 + 1)), (0, .ref v0)]) hx hb dX10_ticks_200 hl (k := 1) rfl rfl (by decide) rfl (fun ls hl => ?_)
          refine lv_goto (tgt := 137) hx hb dX10_ticks_203 (by decide) ?_
          exact ih _ _ _ _ _ hR hS (lv_sub hl [1, 0] rfl) hp
        · have hp := owp_f (fun q => q k45) hp
          refine lv_aload_n hx hb dX10_ticks_179 rfl (lv_at hl 0 rfl) ?_
          refine lv_iload_n hx hb dX10_ticks_180 rfl (lv_at hl 1 rfl) ?_
          obtain ⟨x47, N46, e_N46, hp⟩ := owp_ob2 hp
          refine iv_X10_stateOf (rest := []) mw_X10_107 X hR hS e_N46 hl.1 (Nat.le_of_ble_eq_true rfl) ⟨Nat.le_of_ble_eq_true rfl, Nat.le_of_ble_eq_true rfl⟩ ⟨Nat.le_of_ble_eq_true rfl, Nat.le_of_ble_eq_true rfl⟩ dX10_ticks_181 (fun H locs hR hS => ?_)
          refine lv_iconst (v := (1)) hx hb dX10_ticks_184 (by decide) ?_
          refine lv_icmp_ne (tgt := 200) hx hb dX10_ticks_185 (by decide) (fun k48 => ?_) (fun k48 => ?_)
          · have hp := owp_t k48 hp
            refine lv_iinc (v := v1 + 1) (lv' := [(1, .int (v1 + 1)), (0, .ref v0)]) hx hb dX10_ticks_200 hl (k := 1) rfl rfl (by decide) rfl (fun ls hl => ?_)
            refine lv_goto (tgt := 137) hx hb dX10_ticks_203 (by decide) ?_
            exact ih _ _ _ _ _ hR hS (lv_sub hl [1, 0] rfl) hp
          · have hp := owp_f (fun q => q k48) hp
            refine lv_aload_n hx hb dX10_ticks_188 rfl (lv_at hl 0 rfl) ?_
            refine lv_iconst (v := (4)) hx hb dX10_ticks_189 (by decide) ?_
            refine lv_iload_n hx hb dX10_ticks_190 rfl (lv_at hl 1 rfl) ?_
            refine lv_aload_n hx hb dX10_ticks_191 rfl (lv_at hl 0 rfl) ?_
            obtain ⟨x49, e_x49, hp⟩ := owp_ob hp
            refine gf_X10_7 X hR e_x49 dX10_ticks_192 ?_
            refine lv_iconst (v := (0)) hx hb dX10_ticks_195 (by decide) ?_
            obtain ⟨x50, e_x50, hp⟩ := owp_ob hp
            refine ab_iald X hR e_x50 dX10_ticks_196 ?_
            obtain ⟨_, N51, e_N51, hp⟩ := owp_ob2 hp
            refine iv_X10_notes (rest := []) mw_X10_134 X hR hS e_N51 hl.1 (Nat.le_of_ble_eq_true rfl) ⟨Nat.le_of_ble_eq_true rfl, Nat.le_of_ble_eq_true rfl⟩ ⟨Nat.le_of_ble_eq_true rfl, Nat.le_of_ble_eq_true rfl⟩ dX10_ticks_197 (fun H locs hR hS => ?_)
            refine lv_iinc (v := v1 + 1) (lv' := [(1, .int (v1 + 1)), (0, .ref v0)]) hx hb dX10_ticks_200 hl (k := 1) rfl rfl (by decide) rfl (fun ls hl => ?_)
            refine lv_goto (tgt := 137) hx hb dX10_ticks_203 (by decide) ?_
            exact ih _ _ _ _ _ hR hS (lv_sub hl [1, 0] rfl) hp
def f_X10_ticks (v0 : Nat) (N : AH) : Option (Unit × AH) := ob (iO N v0 10) (fun _ => ob2 (f_X10_worksOut v0 N) (fun _ N1 => ob2 (f_X10_preempts v0 N1) (fun _ N2 => f_X10_ticks_L10 v0 (fun N7 => ob (hR N7 v0 10 0) (fun x8 => ob (aI N7 x8 (0 : Int32)) (fun x9 => ob (sI N7 x8 (0 : Int32) (x9 + (1 : Int32))) (fun N10 => f_X10_ticks_L44 v0 (fun N32 => f_X10_ticks_L137 v0 (fun N52 => some ((), N52)) FU (0 : Int32) N32) FU (0 : Int32) N10)))) FU (0 : Int32) N2)))
set_option maxHeartbeats 4000000 in
set_option maxRecDepth 100000 in
theorem wk_X10_ticks {P : Unit × AH → Prop} (X : CX cX10_ticks RX10 4 G aC t b0 p s m args c) (hr : RtV p l e rm_X10_ticks s m args below meth c 0 0 Q cX10_ticks G aC b0 P) (v0 : Nat) (N : AH) (H : Heap) (locs : List Loc) (ls : Array Slot) (hR : Rp G aC b0 N H) (hS : va_S (fun q => b0 ≤ q) s.heap H locs) (hl : lv_has ls 4 [(0, .ref v0)]) (hp : owp (f_X10_ticks v0 N) P) : W p l e rm_X10_ticks s m args below meth c H locs 0 0 Q (F0 m 0 ls []) := by
  have hx := X.1.1
  have hb := X.1.2.1
  unfold f_X10_ticks at hp
  obtain ⟨_, _, hp⟩ := owp_ob hp
  refine lv_aload_n hx hb dX10_ticks_0 rfl (lv_at hl 0 rfl) ?_
  obtain ⟨_, N1, e_N1, hp⟩ := owp_ob2 hp
  refine iv_X10_worksOut (rest := []) mw_X10_141 X hR hS e_N1 hl.1 (Nat.le_of_ble_eq_true rfl) ⟨Nat.le_of_ble_eq_true rfl, Nat.le_of_ble_eq_true rfl⟩ ⟨Nat.le_of_ble_eq_true rfl, Nat.le_of_ble_eq_true rfl⟩ dX10_ticks_1 (fun H locs hR hS => ?_)
  refine lv_aload_n hx hb dX10_ticks_4 rfl (lv_at hl 0 rfl) ?_
  obtain ⟨_, N2, e_N2, hp⟩ := owp_ob2 hp
  refine iv_X10_preempts (rest := []) mw_X10_144 X hR hS e_N2 hl.1 (Nat.le_of_ble_eq_true rfl) ⟨Nat.le_of_ble_eq_true rfl, Nat.le_of_ble_eq_true rfl⟩ ⟨Nat.le_of_ble_eq_true rfl, Nat.le_of_ble_eq_true rfl⟩ dX10_ticks_5 (fun H locs hR hS => ?_)
  refine lv_iconst (v := (0)) hx hb dX10_ticks_8 (by decide) ?_
  refine lv_istore_n (lv' := [(1, .int (0 : Int32)), (0, .ref v0)]) hx hb dX10_ticks_9 rfl hl (by decide) rfl (fun ls hl => ?_)
  refine w_X10_ticks_L10 X hr _ (fun N7 H locs ls hR hS hl hp => ?_) _ _ _ _ _ _ hR hS (lv_sub hl [1, 0] rfl) hp
  refine lv_aload_n hx hb dX10_ticks_32 rfl (lv_at hl 0 rfl) ?_
  obtain ⟨x8, e_x8, hp⟩ := owp_ob hp
  refine gf_X10_7 X hR e_x8 dX10_ticks_33 ?_
  refine lv_iconst (v := (0)) hx hb dX10_ticks_36 (by decide) ?_
  refine lv_dup2_11 hx hb dX10_ticks_37 rfl rfl ?_
  obtain ⟨x9, e_x9, hp⟩ := owp_ob hp
  refine ab_iald X hR e_x9 dX10_ticks_38 ?_
  refine lv_iconst (v := (1)) hx hb dX10_ticks_39 (by decide) ?_
  refine lv_iadd hx hb dX10_ticks_40 ?_
  obtain ⟨N10, e_N10, hp⟩ := owp_ob hp
  refine ab_iast X hR hS e_N10 dX10_ticks_41 (fun H locs hR hS => ?_)
  refine lv_iconst (v := (0)) hx hb dX10_ticks_42 (by decide) ?_
  refine lv_istore_n (lv' := [(1, .int (0 : Int32)), (0, .ref v0)]) hx hb dX10_ticks_43 rfl hl (by decide) rfl (fun ls hl => ?_)
  refine w_X10_ticks_L44 X hr _ (fun N32 H locs ls hR hS hl hp => ?_) _ _ _ _ _ _ hR hS (lv_sub hl [1, 0] rfl) hp
  refine lv_iconst (v := (0)) hx hb dX10_ticks_135 (by decide) ?_
  refine lv_istore_n (lv' := [(1, .int (0 : Int32)), (0, .ref v0)]) hx hb dX10_ticks_136 rfl hl (by decide) rfl (fun ls hl => ?_)
  refine w_X10_ticks_L137 X hr _ (fun N52 H locs ls hR hS hl hp => ?_) _ _ _ _ _ _ hR hS (lv_sub hl [1, 0] rfl) hp
  exact hr _ _ _ _ _ hR hS dX10_ticks_206 hp
end
theorem ct_X10_ticks {v0 : Nat} {N N1 : AH} {r : Unit} (h : f_X10_ticks v0 N = some (r, N1)) : Ct yX10_ticks cX10_ticks 4 none rm_X10_ticks [.ref v0] N none N1 :=
  ab_met (own := RX10) (by decide +kernel) rfl (Nat.le_of_ble_eq_true rfl) (fun l G aC t b0 p e s m below meth c ls X hr hlk hnm hR hS hl => wk_X10_ticks X (RtV_met X.1.1 X.1.2.1 hr hlk) _ _ _ _ _ hR hS hl (owp_of h))
theorem cw_X10_ticks : Cond.code yX10_ticks cX10_ticks 4 none ∈ WT := WT_of 1151 (by decide +kernel) (by decide +kernel)
theorem iv_X10_ticks {p : Program} {l : Launch} {e : Env} {R : Room} {s : State} {m : MethodId} {args : Array Value} {below : List Frame} {meth : Method} {c : Code} {H : Heap} {locs : List Loc} {cells slots : Nat} {Q : State → Prop} {cc : ByteArray} {own : String} {nL : Nat} {G : va_G} {aC : Nat → ClassId} {t b0 : Nat} {N N1 : AH} {pc index : Nat} {ls : Array Slot} {rest : List Value} {v0 : Nat} {r : Unit} (w1 : Cond.methodLink own index yX10_ticks ∈ WT) (X : CX cc own nL G aC t b0 p s m args c) (hR : Rp G aC b0 N H) (hS : va_S (fun q => b0 ≤ q) s.heap H locs) (h : f_X10_ticks v0 N = some (r, N1)) (hls : ls.size = nL) (hW : (rest.map fun v => v.category).sum ≤ 8) (hR1 : 9 ≤ R.frames ∧ 203 ≤ R.locals) (hcs : cells + 0 ≤ R.cells ∧ slots + 0 ≤ R.slots) (hdg : decode cc pc = .ok (.invokevirtual index, 3)) (kk : ∀ (H1 : Heap) (locs1 : List Loc), Rp G aC b0 N1 H1 → va_S (fun q => b0 ≤ q) s.heap H1 locs1 → W p l e R s m args below meth c H1 locs1 cells slots Q (F0 m (pc + 3) ls rest)) : W p l e R s m args below meth c H locs cells slots Q (F0 m pc ls (.ref v0 :: rest)) :=
  ab_callV (n := 0) (As := []) X hR hS (ct_X10_ticks h) (ob_rc (c := 10) (N := N) (a := v0) h) (T := TX10) (k := 20) (C := RX10) rfl w1 (WT_of 1150 (by decide +kernel) (by decide +kernel)) (WT_of 52 (by decide +kernel) (by decide +kernel)) (WT_of 92 (by decide +kernel) (by decide +kernel)) cw_X10_ticks ⟨rfl, by decide +kernel, by decide +kernel, by decide +kernel⟩ rfl hls hW hR1 hcs rfl hdg kk
-- X10_many
theorem dX10_many_0 : decode cX10_many 0 = .ok (.iconst 0, 1) := by decide +kernel
theorem dX10_many_1 : decode cX10_many 1 = .ok (.istore_n 2, 1) := by decide +kernel
theorem dX10_many_2 : decode cX10_many 2 = .ok (.iconst 0, 1) := by decide +kernel
theorem dX10_many_3 : decode cX10_many 3 = .ok (.istore_n 3, 1) := by decide +kernel
theorem dX10_many_4 : decode cX10_many 4 = .ok (.iload_n 3, 1) := by decide +kernel
theorem dX10_many_5 : decode cX10_many 5 = .ok (.aload_n 0, 1) := by decide +kernel
theorem dX10_many_6 : decode cX10_many 6 = .ok (.getfield 7, 3) := by decide +kernel
theorem dX10_many_9 : decode cX10_many 9 = .ok (.bipush 6, 2) := by decide +kernel
theorem dX10_many_11 : decode cX10_many 11 = .ok (.iaload, 1) := by decide +kernel
theorem dX10_many_12 : decode cX10_many 12 = .ok (.if_icmp .ge 26, 3) := by decide +kernel
theorem dX10_many_15 : decode cX10_many 15 = .ok (.iload_n 2, 1) := by decide +kernel
theorem dX10_many_16 : decode cX10_many 16 = .ok (.aload_n 0, 1) := by decide +kernel
theorem dX10_many_17 : decode cX10_many 17 = .ok (.iload_n 3, 1) := by decide +kernel
theorem dX10_many_18 : decode cX10_many 18 = .ok (.invokevirtual 107, 3) := by decide +kernel
theorem dX10_many_21 : decode cX10_many 21 = .ok (.iload_n 1, 1) := by decide +kernel
theorem dX10_many_22 : decode cX10_many 22 = .ok (.if_icmp .ne 7, 3) := by decide +kernel
theorem dX10_many_25 : decode cX10_many 25 = .ok (.iconst 1, 1) := by decide +kernel
theorem dX10_many_26 : decode cX10_many 26 = .ok (.goto 4, 3) := by decide +kernel
theorem dX10_many_29 : decode cX10_many 29 = .ok (.iconst 0, 1) := by decide +kernel
theorem dX10_many_30 : decode cX10_many 30 = .ok (.iadd, 1) := by decide +kernel
theorem dX10_many_31 : decode cX10_many 31 = .ok (.istore_n 2, 1) := by decide +kernel
theorem dX10_many_32 : decode cX10_many 32 = .ok (.iinc 3 1, 3) := by decide +kernel
theorem dX10_many_35 : decode cX10_many 35 = .ok (.goto (-31), 3) := by decide +kernel
theorem dX10_many_38 : decode cX10_many 38 = .ok (.iload_n 2, 1) := by decide +kernel
theorem dX10_many_39 : decode cX10_many 39 = .ok (.ireturn, 1) := by decide +kernel
def rm_X10_many : Room := { frames := 2, cells := 0, slots := 0, locals := 43 }
section
variable {p : Program} {l : Launch} {e : Env} {s : State} {m : MethodId} {args : Array Value} {below : List Frame} {meth : Method} {c : Code} {Q : State → Prop} {G : va_G} {aC : Nat → ClassId} {t b0 : Nat}
def f_X10_many_L4 (v0 : Nat) (v1 : Int32) (k38 : Int32 → AH → Option (Int32 × AH)) : Nat → Int32 → Int32 → AH → Option (Int32 × AH)
  | 0, _, _, _ => none
  | n + 1, v2, v3, N => ob (hR N v0 10 0) (fun x1 => ob (aI N x1 (6 : Int32)) (fun x2 => if x2 ≤ v3 then k38 v2 N else ob2 (f_X10_stateOf v0 v3 N) (fun x5 N4 => if ¬ x5 = v1 then f_X10_many_L4 v0 v1 k38 n (v2 + (0 : Int32)) (v3 + 1) N4 else f_X10_many_L4 v0 v1 k38 n (v2 + (1 : Int32)) (v3 + 1) N4)))
set_option maxHeartbeats 4000000 in
set_option maxRecDepth 100000 in
theorem w_X10_many_L4 {P : Int32 × AH → Prop} (X : CX cX10_many RX10 4 G aC t b0 p s m args c) (hr : RtI p l e rm_X10_many s m args below meth c 0 0 Q cX10_many G aC b0 P) (v0 : Nat) (v1 : Int32) {k38 : Int32 → AH → Option (Int32 × AH)}
    (hk38 : ∀ (v2 : Int32) (N : AH) (H : Heap) (locs : List Loc) (ls : Array Slot), Rp G aC b0 N H → va_S (fun q => b0 ≤ q) s.heap H locs → lv_has ls 4 [(2, .int v2)] → owp (k38 v2 N) P → W p l e rm_X10_many s m args below meth c H locs 0 0 Q (F0 m 38 ls [])) :
    ∀ (n : Nat) (v2 : Int32) (v3 : Int32) (N : AH) (H : Heap) (locs : List Loc) (ls : Array Slot), Rp G aC b0 N H → va_S (fun q => b0 ≤ q) s.heap H locs → lv_has ls 4 [(0, .ref v0), (1, .int v1), (2, .int v2), (3, .int v3)] → owp (f_X10_many_L4 v0 v1 k38 n v2 v3 N) P → W p l e rm_X10_many s m args below meth c H locs 0 0 Q (F0 m 4 ls []) := by
  have hx := X.1.1
  have hb := X.1.2.1
  intro n
  induction n with
  | zero =>
    intro v2 v3 N H locs ls hR hS hl hp
    exact (show False from hp).elim
  | succ n ih =>
    intro v2 v3 N H locs ls hR hS hl hp
    rw [f_X10_many_L4] at hp
    refine lv_iload_n hx hb dX10_many_4 rfl (lv_at hl 3 rfl) ?_
    refine lv_aload_n hx hb dX10_many_5 rfl (lv_at hl 0 rfl) ?_
    obtain ⟨x1, e_x1, hp⟩ := owp_ob hp
    refine gf_X10_7 X hR e_x1 dX10_many_6 ?_
    refine lv_bipush (v := (6)) hx hb dX10_many_9 (by decide) ?_
    obtain ⟨x2, e_x2, hp⟩ := owp_ob hp
    refine ab_iald X hR e_x2 dX10_many_11 ?_
    refine lv_icmp_ge (tgt := 38) hx hb dX10_many_12 (by decide) (fun k3 => ?_) (fun k3 => ?_)
    · have hp := owp_t k3 hp
      exact hk38 _ _ _ _ _ hR hS (lv_sub hl [2] rfl) hp
    · have hp := owp_f k3 hp
      refine lv_iload_n hx hb dX10_many_15 rfl (lv_at hl 2 rfl) ?_
      refine lv_aload_n hx hb dX10_many_16 rfl (lv_at hl 0 rfl) ?_
      refine lv_iload_n hx hb dX10_many_17 rfl (lv_at hl 3 rfl) ?_
      obtain ⟨x5, N4, e_N4, hp⟩ := owp_ob2 hp
      refine iv_X10_stateOf (rest := [.int v2]) mw_X10_107 X hR hS e_N4 hl.1 (Nat.le_of_ble_eq_true rfl) ⟨Nat.le_of_ble_eq_true rfl, Nat.le_of_ble_eq_true rfl⟩ ⟨Nat.le_of_ble_eq_true rfl, Nat.le_of_ble_eq_true rfl⟩ dX10_many_18 (fun H locs hR hS => ?_)
      refine lv_iload_n hx hb dX10_many_21 rfl (lv_at hl 1 rfl) ?_
      refine lv_icmp_ne (tgt := 29) hx hb dX10_many_22 (by decide) (fun k6 => ?_) (fun k6 => ?_)
      · have hp := owp_t k6 hp
        refine lv_iconst (v := (0)) hx hb dX10_many_29 (by decide) ?_
        refine lv_iadd hx hb dX10_many_30 ?_
        refine lv_istore_n (lv' := [(2, .int (v2 + (0 : Int32))), (0, .ref v0), (1, .int v1), (3, .int v3)]) hx hb dX10_many_31 rfl hl (by decide) rfl (fun ls hl => ?_)
        refine lv_iinc (v := v3 + 1) (lv' := [(3, .int (v3 + 1)), (2, .int (v2 + (0 : Int32))), (0, .ref v0), (1, .int v1)]) hx hb dX10_many_32 hl (k := 3) rfl rfl (by decide) rfl (fun ls hl => ?_)
        refine lv_goto (tgt := 4) hx hb dX10_many_35 (by decide) ?_
        exact ih _ _ _ _ _ _ hR hS (lv_sub hl [2, 3, 1, 0] rfl) hp
      · have hp := owp_f (fun q => q k6) hp
        refine lv_iconst (v := (1)) hx hb dX10_many_25 (by decide) ?_
        refine lv_goto (tgt := 30) hx hb dX10_many_26 (by decide) ?_
        refine lv_iadd hx hb dX10_many_30 ?_
        refine lv_istore_n (lv' := [(2, .int (v2 + (1 : Int32))), (0, .ref v0), (1, .int v1), (3, .int v3)]) hx hb dX10_many_31 rfl hl (by decide) rfl (fun ls hl => ?_)
        refine lv_iinc (v := v3 + 1) (lv' := [(3, .int (v3 + 1)), (2, .int (v2 + (1 : Int32))), (0, .ref v0), (1, .int v1)]) hx hb dX10_many_32 hl (k := 3) rfl rfl (by decide) rfl (fun ls hl => ?_)
        refine lv_goto (tgt := 4) hx hb dX10_many_35 (by decide) ?_
        exact ih _ _ _ _ _ _ hR hS (lv_sub hl [2, 3, 1, 0] rfl) hp
def f_X10_many (v0 : Nat) (v1 : Int32) (N : AH) : Option (Int32 × AH) := ob (iO N v0 10) (fun _ => f_X10_many_L4 v0 v1 (fun v7 N8 => some (v7, N8)) FU (0 : Int32) (0 : Int32) N)
set_option maxHeartbeats 4000000 in
set_option maxRecDepth 100000 in
theorem wk_X10_many {P : Int32 × AH → Prop} (X : CX cX10_many RX10 4 G aC t b0 p s m args c) (hr : RtI p l e rm_X10_many s m args below meth c 0 0 Q cX10_many G aC b0 P) (v0 : Nat) (v1 : Int32) (N : AH) (H : Heap) (locs : List Loc) (ls : Array Slot) (hR : Rp G aC b0 N H) (hS : va_S (fun q => b0 ≤ q) s.heap H locs) (hl : lv_has ls 4 [(0, .ref v0), (1, .int v1)]) (hp : owp (f_X10_many v0 v1 N) P) : W p l e rm_X10_many s m args below meth c H locs 0 0 Q (F0 m 0 ls []) := by
  have hx := X.1.1
  have hb := X.1.2.1
  unfold f_X10_many at hp
  obtain ⟨_, _, hp⟩ := owp_ob hp
  refine lv_iconst (v := (0)) hx hb dX10_many_0 (by decide) ?_
  refine lv_istore_n (lv' := [(2, .int (0 : Int32)), (0, .ref v0), (1, .int v1)]) hx hb dX10_many_1 rfl hl (by decide) rfl (fun ls hl => ?_)
  refine lv_iconst (v := (0)) hx hb dX10_many_2 (by decide) ?_
  refine lv_istore_n (lv' := [(3, .int (0 : Int32)), (2, .int (0 : Int32)), (0, .ref v0), (1, .int v1)]) hx hb dX10_many_3 rfl hl (by decide) rfl (fun ls hl => ?_)
  refine w_X10_many_L4 X hr _ _ (fun v7 N8 H locs ls hR hS hl hp => ?_) _ _ _ _ _ _ _ hR hS (lv_sub hl [2, 3, 1, 0] rfl) hp
  refine lv_iload_n hx hb dX10_many_38 rfl (lv_at hl 0 rfl) ?_
  exact hr _ _ _ _ _ _ hR hS dX10_many_39 hp
end
theorem ct_X10_many {v0 : Nat} {v1 : Int32} {N N1 : AH} {r : Int32} (h : f_X10_many v0 v1 N = some (r, N1)) : Ct yX10_many cX10_many 4 (some .int) rm_X10_many [.ref v0, .int v1] N (some (.int r)) N1 :=
  ab_met (own := RX10) (by decide +kernel) rfl (Nat.le_of_ble_eq_true rfl) (fun l G aC t b0 p e s m below meth c ls X hr hlk hnm hR hS hl => wk_X10_many X (RtI_met X.1.1 X.1.2.1 hr hlk) _ _ _ _ _ _ hR hS hl (owp_of h))
theorem cw_X10_many : Cond.code yX10_many cX10_many 4 (some .int) ∈ WT := WT_of 1221 (by decide +kernel) (by decide +kernel)
theorem iv_X10_many {p : Program} {l : Launch} {e : Env} {R : Room} {s : State} {m : MethodId} {args : Array Value} {below : List Frame} {meth : Method} {c : Code} {H : Heap} {locs : List Loc} {cells slots : Nat} {Q : State → Prop} {cc : ByteArray} {own : String} {nL : Nat} {G : va_G} {aC : Nat → ClassId} {t b0 : Nat} {N N1 : AH} {pc index : Nat} {ls : Array Slot} {rest : List Value} {v0 : Nat} {v1 : Int32} {r : Int32} (w1 : Cond.methodLink own index yX10_many ∈ WT) (X : CX cc own nL G aC t b0 p s m args c) (hR : Rp G aC b0 N H) (hS : va_S (fun q => b0 ≤ q) s.heap H locs) (h : f_X10_many v0 v1 N = some (r, N1)) (hls : ls.size = nL) (hW : (rest.map fun v => v.category).sum ≤ 8) (hR1 : 3 ≤ R.frames ∧ 66 ≤ R.locals) (hcs : cells + 0 ≤ R.cells ∧ slots + 0 ≤ R.slots) (hdg : decode cc pc = .ok (.invokevirtual index, 3)) (kk : ∀ (H1 : Heap) (locs1 : List Loc), Rp G aC b0 N1 H1 → va_S (fun q => b0 ≤ q) s.heap H1 locs1 → W p l e R s m args below meth c H1 locs1 cells slots Q (F0 m (pc + 3) ls (.int r :: rest))) : W p l e R s m args below meth c H locs cells slots Q (F0 m pc ls (.int v1 :: .ref v0 :: rest)) :=
  ab_callV (n := 1) (As := [.int v1]) X hR hS (ct_X10_many h) (ob_rc (c := 10) (N := N) (a := v0) h) (T := TX10) (k := 20) (C := RX10) rfl w1 (WT_of 1220 (by decide +kernel) (by decide +kernel)) (WT_of 69 (by decide +kernel) (by decide +kernel)) (WT_of 92 (by decide +kernel) (by decide +kernel)) cw_X10_many ⟨rfl, by decide +kernel, by decide +kernel, by decide +kernel⟩ rfl hls hW hR1 hcs rfl hdg kk
