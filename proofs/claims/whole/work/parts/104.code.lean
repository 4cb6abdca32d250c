-- X9_setPolicy
theorem gf_X9_109 {p : Program} {l : Launch} {e : Env} {R : Room} {s : State} {m : MethodId} {args : Array Value} {below : List Frame} {meth : Method} {c : Code} {H : Heap} {locs : List Loc} {cells slots : Nat} {Q : State → Prop} {cc : ByteArray} {nL : Nat} {G : va_G} {aC : Nat → ClassId} {t b0 : Nat} {N : AH} {pc : Nat} {ls : Array Slot} {rest : List Value} {a : Nat} {v : Int32} (X : CX cc RX9 nL G aC t b0 p s m args c) (hR0 : Rp G aC b0 N H) (hv : hI N a 7 1 = some v) (hdg : decode cc pc = .ok (.getfield 109, 3)) (kk : W p l e R s m args below meth c H locs cells slots Q (F0 m (pc + 3) ls (.int v :: rest))) : W p l e R s m args below meth c H locs cells slots Q (F0 m pc ls (.ref a :: rest)) := by
  obtain ⟨fs, h1, h2⟩ := hI_ok hv
  exact ab_get (C := RX7) (T := TX7) (n := 12) X hR0 h1 h2 rfl inX7 (by decide) (WT_of 260 (by decide +kernel) (by decide +kernel)) hdg kk
theorem pf_X9_109 {p : Program} {l : Launch} {e : Env} {R : Room} {s : State} {m : MethodId} {args : Array Value} {below : List Frame} {meth : Method} {c : Code} {H : Heap} {locs : List Loc} {cells slots : Nat} {Q : State → Prop} {cc : ByteArray} {nL : Nat} {G : va_G} {aC : Nat → ClassId} {t b0 : Nat} {N : AH} {pc : Nat} {ls : Array Slot} {rest : List Value} {N1 : AH} {a : Nat} {v : Int32} (X : CX cc RX9 nL G aC t b0 p s m args c) (hR0 : Rp G aC b0 N H) (hS : va_S (fun q => b0 ≤ q) s.heap H locs) (hv : pI N a 7 1 v = some N1) (hdg : decode cc pc = .ok (.putfield 109, 3)) (kk : ∀ (H1 : Heap) (locs1 : List Loc), Rp G aC b0 N1 H1 → va_S (fun q => b0 ≤ q) s.heap H1 locs1 → W p l e R s m args below meth c H1 locs1 cells slots Q (F0 m (pc + 3) ls rest)) : W p l e R s m args below meth c H locs cells slots Q (F0 m pc ls (.int v :: .ref a :: rest)) := by
  obtain ⟨fs, h1, h2, h3⟩ := pV_ok hv
  subst h3
  exact ab_put (C := RX7) (T := TX7) (n := 12) X hR0 hS h1 h2 rfl inX7 tyX7 tyX7_ok nmX7 (by decide) (WT_of 260 (by decide +kernel) (by decide +kernel)) rfl rfl rfl hdg kk
theorem dX9_setPolicy_0 : decode cX9_setPolicy 0 = .ok (.iload_n 1, 1) := by decide +kernel
theorem dX9_setPolicy_1 : decode cX9_setPolicy 1 = .ok (.bipush 6, 2) := by decide +kernel
theorem dX9_setPolicy_3 : decode cX9_setPolicy 3 = .ok (.invokestatic 72, 3) := by decide +kernel
theorem dX9_setPolicy_6 : decode cX9_setPolicy 6 = .ok (.ifCond .ne 6, 3) := by decide +kernel
theorem dX9_setPolicy_9 : decode cX9_setPolicy 9 = .ok (.bipush (-3), 2) := by decide +kernel
theorem dX9_setPolicy_11 : decode cX9_setPolicy 11 = .ok (.ireturn, 1) := by decide +kernel
theorem dX9_setPolicy_12 : decode cX9_setPolicy 12 = .ok (.aload_n 0, 1) := by decide +kernel
theorem dX9_setPolicy_13 : decode cX9_setPolicy 13 = .ok (.invokevirtual 77, 3) := by decide +kernel
theorem dX9_setPolicy_16 : decode cX9_setPolicy 16 = .ok (.aload_n 0, 1) := by decide +kernel
theorem dX9_setPolicy_17 : decode cX9_setPolicy 17 = .ok (.getfield 19, 3) := by decide +kernel
theorem dX9_setPolicy_20 : decode cX9_setPolicy 20 = .ok (.getfield 109, 3) := by decide +kernel
theorem dX9_setPolicy_23 : decode cX9_setPolicy 23 = .ok (.istore_n 2, 1) := by decide +kernel
theorem dX9_setPolicy_24 : decode cX9_setPolicy 24 = .ok (.aload_n 0, 1) := by decide +kernel
theorem dX9_setPolicy_25 : decode cX9_setPolicy 25 = .ok (.getfield 19, 3) := by decide +kernel
theorem dX9_setPolicy_28 : decode cX9_setPolicy 28 = .ok (.iload_n 1, 1) := by decide +kernel
theorem dX9_setPolicy_29 : decode cX9_setPolicy 29 = .ok (.putfield 109, 3) := by decide +kernel
theorem dX9_setPolicy_32 : decode cX9_setPolicy 32 = .ok (.iload_n 2, 1) := by decide +kernel
theorem dX9_setPolicy_33 : decode cX9_setPolicy 33 = .ok (.ireturn, 1) := by decide +kernel
def rm_X9_setPolicy : Room := { frames := 6, cells := 0, slots := 0, locals := 123 }
section
variable {p : Program} {l : Launch} {e : Env} {s : State} {m : MethodId} {args : Array Value} {below : List Frame} {meth : Method} {c : Code} {Q : State → Prop} {G : va_G} {aC : Nat → ClassId} {t b0 : Nat}
def f_X9_setPolicy (v0 : Nat) (v1 : Int32) (N : AH) : Option (Int32 × AH) := ob (iO N v0 9) (fun _ => ob2 (f_X9_isOneOf v1 (6 : Int32) N) (fun x2 N1 => if ¬ x2 = 0 then ob2 (f_X9_save v0 N1) (fun _ N4 => ob (hR N4 v0 9 1) (fun x5 => ob (hI N4 x5 7 1) (fun x6 => ob (hR N4 v0 9 1) (fun x7 => ob (pI N4 x7 7 1 v1) (fun N8 => some (x6, N8)))))) else some ((-3 : Int32), N1)))
set_option maxHeartbeats 4000000 in
set_option maxRecDepth 100000 in
theorem wk_X9_setPolicy {P : Int32 × AH → Prop} (X : CX cX9_setPolicy RX9 3 G aC t b0 p s m args c) (hr : RtI p l e rm_X9_setPolicy s m args below meth c 0 0 Q cX9_setPolicy G aC b0 P) (v0 : Nat) (v1 : Int32) (N : AH) (H : Heap) (locs : List Loc) (ls : Array Slot) (hR : Rp G aC b0 N H) (hS : va_S (fun q => b0 ≤ q) s.heap H locs) (hl : lv_has ls 3 [(0, .ref v0), (1, .int v1)]) (hp : owp (f_X9_setPolicy v0 v1 N) P) : W p l e rm_X9_setPolicy s m args below meth c H locs 0 0 Q (F0 m 0 ls []) := by
  have hx := X.1.1
  have hb := X.1.2.1
  unfold f_X9_setPolicy at hp
  obtain ⟨_, _, hp⟩ := owp_ob hp
  refine lv_iload_n hx hb dX9_setPolicy_0 rfl (lv_at hl 1 rfl) ?_
  refine lv_bipush (v := (6)) hx hb dX9_setPolicy_1 (by decide) ?_
  obtain ⟨x2, N1, e_N1, hp⟩ := owp_ob2 hp
  refine iv_X9_isOneOf (rest := []) mw_X9_72 X hR hS e_N1 hl.1 (Nat.le_of_ble_eq_true rfl) ⟨Nat.le_of_ble_eq_true rfl, Nat.le_of_ble_eq_true rfl⟩ ⟨Nat.le_of_ble_eq_true rfl, Nat.le_of_ble_eq_true rfl⟩ dX9_setPolicy_3 (fun H locs hR hS => ?_)
  refine lv_if_ne (tgt := 12) hx hb dX9_setPolicy_6 (by decide) (fun k3 => ?_) (fun k3 => ?_)
  · have hp := owp_t k3 hp
    refine lv_aload_n hx hb dX9_setPolicy_12 rfl (lv_at hl 0 rfl) ?_
    obtain ⟨_, N4, e_N4, hp⟩ := owp_ob2 hp
    refine iv_X9_save (rest := []) mw_X9_77 X hR hS e_N4 hl.1 (Nat.le_of_ble_eq_true rfl) ⟨Nat.le_of_ble_eq_true rfl, Nat.le_of_ble_eq_true rfl⟩ ⟨Nat.le_of_ble_eq_true rfl, Nat.le_of_ble_eq_true rfl⟩ dX9_setPolicy_13 (fun H locs hR hS => ?_)
    refine lv_aload_n hx hb dX9_setPolicy_16 rfl (lv_at hl 0 rfl) ?_
    obtain ⟨x5, e_x5, hp⟩ := owp_ob hp
    refine gf_X9_19 X hR e_x5 dX9_setPolicy_17 ?_
    obtain ⟨x6, e_x6, hp⟩ := owp_ob hp
    refine gf_X9_109 X hR e_x6 dX9_setPolicy_20 ?_
    refine lv_istore_n (lv' := [(2, .int x6), (0, .ref v0), (1, .int v1)]) hx hb dX9_setPolicy_23 rfl hl (by decide) rfl (fun ls hl => ?_)
    refine lv_aload_n hx hb dX9_setPolicy_24 rfl (lv_at hl 1 rfl) ?_
    obtain ⟨x7, e_x7, hp⟩ := owp_ob hp
    refine gf_X9_19 X hR e_x7 dX9_setPolicy_25 ?_
    refine lv_iload_n hx hb dX9_setPolicy_28 rfl (lv_at hl 2 rfl) ?_
    obtain ⟨N8, e_N8, hp⟩ := owp_ob hp
    refine pf_X9_109 X hR hS e_N8 dX9_setPolicy_29 (fun H locs hR hS => ?_)
    refine lv_iload_n hx hb dX9_setPolicy_32 rfl (lv_at hl 0 rfl) ?_
    exact hr _ _ _ _ _ _ hR hS dX9_setPolicy_33 hp
  · have hp := owp_f (fun q => q k3) hp
    refine lv_bipush (v := (-3)) hx hb dX9_setPolicy_9 (by decide) ?_
    exact hr _ _ _ _ _ _ hR hS dX9_setPolicy_11 hp
end
theorem ct_X9_setPolicy {v0 : Nat} {v1 : Int32} {N N1 : AH} {r : Int32} (h : f_X9_setPolicy v0 v1 N = some (r, N1)) : Ct yX9_setPolicy cX9_setPolicy 3 (some .int) rm_X9_setPolicy [.ref v0, .int v1] N (some (.int r)) N1 :=
  ab_met (own := RX9) (by decide +kernel) rfl (Nat.le_of_ble_eq_true rfl) (fun l G aC t b0 p e s m below meth c ls X hr hlk hnm hR hS hl => wk_X9_setPolicy X (RtI_met X.1.1 X.1.2.1 hr hlk) _ _ _ _ _ _ hR hS hl (owp_of h))
theorem cw_X9_setPolicy : Cond.code yX9_setPolicy cX9_setPolicy 3 (some .int) ∈ WT := WT_of 602 (by decide +kernel) (by decide +kernel)
theorem iv_X9_setPolicy {p : Program} {l : Launch} {e : Env} {R : Room} {s : State} {m : MethodId} {args : Array Value} {below : List Frame} {meth : Method} {c : Code} {H : Heap} {locs : List Loc} {cells slots : Nat} {Q : State → Prop} {cc : ByteArray} {own : String} {nL : Nat} {G : va_G} {aC : Nat → ClassId} {t b0 : Nat} {N N1 : AH} {pc index : Nat} {ls : Array Slot} {rest : List Value} {v0 : Nat} {v1 : Int32} {r : Int32} (w1 : Cond.methodLink own index yX9_setPolicy ∈ WT) (X : CX cc own nL G aC t b0 p s m args c) (hR : Rp G aC b0 N H) (hS : va_S (fun q => b0 ≤ q) s.heap H locs) (h : f_X9_setPolicy v0 v1 N = some (r, N1)) (hls : ls.size = nL) (hW : (rest.map fun v => v.category).sum ≤ 8) (hR1 : 7 ≤ R.frames ∧ 145 ≤ R.locals) (hcs : cells + 0 ≤ R.cells ∧ slots + 0 ≤ R.slots) (hdg : decode cc pc = .ok (.invokevirtual index, 3)) (kk : ∀ (H1 : Heap) (locs1 : List Loc), Rp G aC b0 N1 H1 → va_S (fun q => b0 ≤ q) s.heap H1 locs1 → W p l e R s m args below meth c H1 locs1 cells slots Q (F0 m (pc + 3) ls (.int r :: rest))) : W p l e R s m args below meth c H locs cells slots Q (F0 m pc ls (.int v1 :: .ref v0 :: rest)) :=
  ab_callV (n := 1) (As := [.int v1]) X hR hS (ct_X9_setPolicy h) (ob_rc (c := 9) (N := N) (a := v0) h) (T := TX9) (k := 6) (C := RX9) rfl w1 (WT_of 600 (by decide +kernel) (by decide +kernel)) (WT_of 601 (by decide +kernel) (by decide +kernel)) (WT_of 81 (by decide +kernel) (by decide +kernel)) cw_X9_setPolicy ⟨rfl, by decide +kernel, by decide +kernel, by decide +kernel⟩ rfl hls hW hR1 hcs rfl hdg kk
-- X9_setRules
theorem gf_X9_112 {p : Program} {l : Launch} {e : Env} {R : Room} {s : State} {m : MethodId} {args : Array Value} {below : List Frame} {meth : Method} {c : Code} {H : Heap} {locs : List Loc} {cells slots : Nat} {Q : State → Prop} {cc : ByteArray} {nL : Nat} {G : va_G} {aC : Nat → ClassId} {t b0 : Nat} {N : AH} {pc : Nat} {ls : Array Slot} {rest : List Value} {a : Nat} {v : Int32} (X : CX cc RX9 nL G aC t b0 p s m args c) (hR0 : Rp G aC b0 N H) (hv : hI N a 7 2 = some v) (hdg : decode cc pc = .ok (.getfield 112, 3)) (kk : W p l e R s m args below meth c H locs cells slots Q (F0 m (pc + 3) ls (.int v :: rest))) : W p l e R s m args below meth c H locs cells slots Q (F0 m pc ls (.ref a :: rest)) := by
  obtain ⟨fs, h1, h2⟩ := hI_ok hv
  exact ab_get (C := RX7) (T := TX7) (n := 12) X hR0 h1 h2 rfl inX7 (by decide) (WT_of 262 (by decide +kernel) (by decide +kernel)) hdg kk
theorem pf_X9_93 {p : Program} {l : Launch} {e : Env} {R : Room} {s : State} {m : MethodId} {args : Array Value} {below : List Frame} {meth : Method} {c : Code} {H : Heap} {locs : List Loc} {cells slots : Nat} {Q : State → Prop} {cc : ByteArray} {nL : Nat} {G : va_G} {aC : Nat → ClassId} {t b0 : Nat} {N : AH} {pc : Nat} {ls : Array Slot} {rest : List Value} {N1 : AH} {a : Nat} {v : Int32} (X : CX cc RX9 nL G aC t b0 p s m args c) (hR0 : Rp G aC b0 N H) (hS : va_S (fun q => b0 ≤ q) s.heap H locs) (hv : pZ N a 7 3 v = some N1) (hdg : decode cc pc = .ok (.putfield 93, 3)) (kk : ∀ (H1 : Heap) (locs1 : List Loc), Rp G aC b0 N1 H1 → va_S (fun q => b0 ≤ q) s.heap H1 locs1 → W p l e R s m args below meth c H1 locs1 cells slots Q (F0 m (pc + 3) ls rest)) : W p l e R s m args below meth c H locs cells slots Q (F0 m pc ls (.int v :: .ref a :: rest)) := by
  unfold pZ at hv
  split at hv
  case isFalse => cases hv
  rename_i h01
  obtain ⟨fs, h1, h2, h3⟩ := pV_ok hv
  subst h3
  exact ab_put (C := RX7) (T := TX7) (n := 12) X hR0 hS h1 h2 rfl inX7 tyX7 tyX7_ok nmX7 (by decide) (WT_of 266 (by decide +kernel) (by decide +kernel)) rfl (by rcases h01 with rfl | rfl <;> rfl) (by rcases h01 with rfl | rfl <;> rfl) hdg kk
theorem pf_X9_112 {p : Program} {l : Launch} {e : Env} {R : Room} {s : State} {m : MethodId} {args : Array Value} {below : List Frame} {meth : Method} {c : Code} {H : Heap} {locs : List Loc} {cells slots : Nat} {Q : State → Prop} {cc : ByteArray} {nL : Nat} {G : va_G} {aC : Nat → ClassId} {t b0 : Nat} {N : AH} {pc : Nat} {ls : Array Slot} {rest : List Value} {N1 : AH} {a : Nat} {v : Int32} (X : CX cc RX9 nL G aC t b0 p s m args c) (hR0 : Rp G aC b0 N H) (hS : va_S (fun q => b0 ≤ q) s.heap H locs) (hv : pZ N a 7 2 v = some N1) (hdg : decode cc pc = .ok (.putfield 112, 3)) (kk : ∀ (H1 : Heap) (locs1 : List Loc), Rp G aC b0 N1 H1 → va_S (fun q => b0 ≤ q) s.heap H1 locs1 → W p l e R s m args below meth c H1 locs1 cells slots Q (F0 m (pc + 3) ls rest)) : W p l e R s m args below meth c H locs cells slots Q (F0 m pc ls (.int v :: .ref a :: rest)) := by
  unfold pZ at hv
  split at hv
  case isFalse => cases hv
  rename_i h01
  obtain ⟨fs, h1, h2, h3⟩ := pV_ok hv
  subst h3
  exact ab_put (C := RX7) (T := TX7) (n := 12) X hR0 hS h1 h2 rfl inX7 tyX7 tyX7_ok nmX7 (by decide) (WT_of 262 (by decide +kernel) (by decide +kernel)) rfl (by rcases h01 with rfl | rfl <;> rfl) (by rcases h01 with rfl | rfl <;> rfl) hdg kk
theorem dX9_setRules_0 : decode cX9_setRules 0 = .ok (.aload_n 0, 1) := by decide +kernel
theorem dX9_setRules_1 : decode cX9_setRules 1 = .ok (.invokevirtual 77, 3) := by decide +kernel
theorem dX9_setRules_4 : decode cX9_setRules 4 = .ok (.aload_n 0, 1) := by decide +kernel
theorem dX9_setRules_5 : decode cX9_setRules 5 = .ok (.getfield 19, 3) := by decide +kernel
theorem dX9_setRules_8 : decode cX9_setRules 8 = .ok (.getfield 112, 3) := by decide +kernel
theorem dX9_setRules_11 : decode cX9_setRules 11 = .ok (.ifCond .eq 7, 3) := by decide +kernel
theorem dX9_setRules_14 : decode cX9_setRules 14 = .ok (.iconst 1, 1) := by decide +kernel
theorem dX9_setRules_15 : decode cX9_setRules 15 = .ok (.goto 4, 3) := by decide +kernel
theorem dX9_setRules_18 : decode cX9_setRules 18 = .ok (.iconst 0, 1) := by decide +kernel
theorem dX9_setRules_19 : decode cX9_setRules 19 = .ok (.aload_n 0, 1) := by decide +kernel
theorem dX9_setRules_20 : decode cX9_setRules 20 = .ok (.getfield 19, 3) := by decide +kernel
theorem dX9_setRules_23 : decode cX9_setRules 23 = .ok (.getfield 93, 3) := by decide +kernel
theorem dX9_setRules_26 : decode cX9_setRules 26 = .ok (.ifCond .eq 7, 3) := by decide +kernel
theorem dX9_setRules_29 : decode cX9_setRules 29 = .ok (.iconst 2, 1) := by decide +kernel
theorem dX9_setRules_30 : decode cX9_setRules 30 = .ok (.goto 4, 3) := by decide +kernel
theorem dX9_setRules_33 : decode cX9_setRules 33 = .ok (.iconst 0, 1) := by decide +kernel
theorem dX9_setRules_34 : decode cX9_setRules 34 = .ok (.iadd, 1) := by decide +kernel
theorem dX9_setRules_35 : decode cX9_setRules 35 = .ok (.istore_n 3, 1) := by decide +kernel
theorem dX9_setRules_36 : decode cX9_setRules 36 = .ok (.aload_n 0, 1) := by decide +kernel
theorem dX9_setRules_37 : decode cX9_setRules 37 = .ok (.getfield 19, 3) := by decide +kernel
theorem dX9_setRules_40 : decode cX9_setRules 40 = .ok (.iload_n 1, 1) := by decide +kernel
theorem dX9_setRules_41 : decode cX9_setRules 41 = .ok (.putfield 112, 3) := by decide +kernel
theorem dX9_setRules_44 : decode cX9_setRules 44 = .ok (.aload_n 0, 1) := by decide +kernel
theorem dX9_setRules_45 : decode cX9_setRules 45 = .ok (.getfield 19, 3) := by decide +kernel
theorem dX9_setRules_48 : decode cX9_setRules 48 = .ok (.iload_n 2, 1) := by decide +kernel
theorem dX9_setRules_49 : decode cX9_setRules 49 = .ok (.putfield 93, 3) := by decide +kernel
theorem dX9_setRules_52 : decode cX9_setRules 52 = .ok (.iload_n 3, 1) := by decide +kernel
theorem dX9_setRules_53 : decode cX9_setRules 53 = .ok (.ireturn, 1) := by decide +kernel
def rm_X9_setRules : Room := { frames := 6, cells := 0, slots := 0, locals := 123 }
section
variable {p : Program} {l : Launch} {e : Env} {s : State} {m : MethodId} {args : Array Value} {below : List Frame} {meth : Method} {c : Code} {Q : State → Prop} {G : va_G} {aC : Nat → ClassId} {t b0 : Nat}
def f_X9_setRules_J34 (v0 : Nat) (v1 : Int32) (v2 : Int32) (w0 : Int32) (w1 : Int32) (N : AH) : Option (Int32 × AH) := ob (hR N v0 9 1) (fun x8 => ob (pZ N x8 7 2 v1) (fun N9 => ob (hR N9 v0 9 1) (fun x10 => ob (pZ N9 x10 7 3 v2) (fun N11 => some (w0 + w1, N11)))))
set_option maxHeartbeats 4000000 in
set_option maxRecDepth 100000 in
theorem w_X9_setRules_J34 {P : Int32 × AH → Prop} (X : CX cX9_setRules RX9 4 G aC t b0 p s m args c) (hr : RtI p l e rm_X9_setRules s m args below meth c 0 0 Q cX9_setRules G aC b0 P) (v0 : Nat) (v1 : Int32) (v2 : Int32) (w0 : Int32) (w1 : Int32) (N : AH) (H : Heap) (locs : List Loc) (ls : Array Slot) (hR : Rp G aC b0 N H) (hS : va_S (fun q => b0 ≤ q) s.heap H locs) (hl : lv_has ls 4 [(0, .ref v0), (1, .int v1), (2, .int v2)]) (hp : owp (f_X9_setRules_J34 v0 v1 v2 w0 w1 N) P) : W p l e rm_X9_setRules s m args below meth c H locs 0 0 Q (F0 m 34 ls [.int w1, .int w0]) := by
  have hx := X.1.1
  have hb := X.1.2.1
  unfold f_X9_setRules_J34 at hp
  refine lv_iadd hx hb dX9_setRules_34 ?_
  refine lv_istore_n (lv' := [(3, .int (w0 + w1)), (0, .ref v0), (1, .int v1), (2, .int v2)]) hx hb dX9_setRules_35 rfl hl (by decide) rfl (fun ls hl => ?_)
  refine lv_aload_n hx hb dX9_setRules_36 rfl (lv_at hl 1 rfl) ?_
  obtain ⟨x8, e_x8, hp⟩ := owp_ob hp
  refine gf_X9_19 X hR e_x8 dX9_setRules_37 ?_
  refine lv_iload_n hx hb dX9_setRules_40 rfl (lv_at hl 2 rfl) ?_
  obtain ⟨N9, e_N9, hp⟩ := owp_ob hp
  refine pf_X9_112 X hR hS e_N9 dX9_setRules_41 (fun H locs hR hS => ?_)
  refine lv_aload_n hx hb dX9_setRules_44 rfl (lv_at hl 1 rfl) ?_
  obtain ⟨x10, e_x10, hp⟩ := owp_ob hp
  refine gf_X9_19 X hR e_x10 dX9_setRules_45 ?_
  refine lv_iload_n hx hb dX9_setRules_48 rfl (lv_at hl 3 rfl) ?_
  obtain ⟨N11, e_N11, hp⟩ := owp_ob hp
  refine pf_X9_93 X hR hS e_N11 dX9_setRules_49 (fun H locs hR hS => ?_)
  refine lv_iload_n hx hb dX9_setRules_52 rfl (lv_at hl 0 rfl) ?_
  exact hr _ _ _ _ _ _ hR hS dX9_setRules_53 hp
def f_X9_setRules_J19 (v0 : Nat) (v1 : Int32) (v2 : Int32) (w0 : Int32) (N : AH) : Option (Int32 × AH) := ob (hR N v0 9 1) (fun x5 => ob (hI N x5 7 3) (fun x6 => if x6 = 0 then f_X9_setRules_J34 v0 v1 v2 w0 (0 : Int32) N else f_X9_setRules_J34 v0 v1 v2 w0 (2 : Int32) N))
set_option maxHeartbeats 4000000 in
set_option maxRecDepth 100000 in
theorem w_X9_setRules_J19 {P : Int32 × AH → Prop} (X : CX cX9_setRules RX9 4 G aC t b0 p s m args c) (hr : RtI p l e rm_X9_setRules s m args below meth c 0 0 Q cX9_setRules G aC b0 P) (v0 : Nat) (v1 : Int32) (v2 : Int32) (w0 : Int32) (N : AH) (H : Heap) (locs : List Loc) (ls : Array Slot) (hR : Rp G aC b0 N H) (hS : va_S (fun q => b0 ≤ q) s.heap H locs) (hl : lv_has ls 4 [(0, .ref v0), (1, .int v1), (2, .int v2)]) (hp : owp (f_X9_setRules_J19 v0 v1 v2 w0 N) P) : W p l e rm_X9_setRules s m args below meth c H locs 0 0 Q (F0 m 19 ls [.int w0]) := by
  have hx := X.1.1
  have hb := X.1.2.1
  unfold f_X9_setRules_J19 at hp
  refine lv_aload_n hx hb dX9_setRules_19 rfl (lv_at hl 0 rfl) ?_
  obtain ⟨x5, e_x5, hp⟩ := owp_ob hp
  refine gf_X9_19 X hR e_x5 dX9_setRules_20 ?_
  obtain ⟨x6, e_x6, hp⟩ := owp_ob hp
  refine gf_X9_93 X hR e_x6 dX9_setRules_23 ?_
  refine lv_if_eq (tgt := 33) hx hb dX9_setRules_26 (by decide) (fun k7 => ?_) (fun k7 => ?_)
  · have hp := owp_t k7 hp
    refine lv_iconst (v := (0)) hx hb dX9_setRules_33 (by decide) ?_
    exact w_X9_setRules_J34 X hr _ _ _ _ _ _ _ _ _ hR hS hl hp
  · have hp := owp_f k7 hp
    refine lv_iconst (v := (2)) hx hb dX9_setRules_29 (by decide) ?_
    refine lv_goto (tgt := 34) hx hb dX9_setRules_30 (by decide) ?_
    exact w_X9_setRules_J34 X hr _ _ _ _ _ _ _ _ _ hR hS hl hp
def f_X9_setRules (v0 : Nat) (v1 : Int32) (v2 : Int32) (N : AH) : Option (Int32 × AH) := ob (iO N v0 9) (fun _ => ob2 (f_X9_save v0 N) (fun _ N1 => ob (hR N1 v0 9 1) (fun x2 => ob (hI N1 x2 7 2) (fun x3 => if x3 = 0 then f_X9_setRules_J19 v0 v1 v2 (0 : Int32) N1 else f_X9_setRules_J19 v0 v1 v2 (1 : Int32) N1))))
set_option maxHeartbeats 4000000 in
set_option maxRecDepth 100000 in
theorem wk_X9_setRules {P : Int32 × AH → Prop} (X : CX cX9_setRules RX9 4 G aC t b0 p s m args c) (hr : RtI p l e rm_X9_setRules s m args below meth c 0 0 Q cX9_setRules G aC b0 P) (v0 : Nat) (v1 : Int32) (v2 : Int32) (N : AH) (H : Heap) (locs : List Loc) (ls : Array Slot) (hR : Rp G aC b0 N H) (hS : va_S (fun q => b0 ≤ q) s.heap H locs) (hl : lv_has ls 4 [(0, .ref v0), (1, .int v1), (2, .int v2)]) (hp : owp (f_X9_setRules v0 v1 v2 N) P) : W p l e rm_X9_setRules s m args below meth c H locs 0 0 Q (F0 m 0 ls []) := by
  have hx := X.1.1
  have hb := X.1.2.1
  unfold f_X9_setRules at hp
  obtain ⟨_, _, hp⟩ := owp_ob hp
  refine lv_aload_n hx hb dX9_setRules_0 rfl (lv_at hl 0 rfl) ?_
  obtain ⟨_, N1, e_N1, hp⟩ := owp_ob2 hp
  refine iv_X9_save (rest := []) mw_X9_77 X hR hS e_N1 hl.1 (Nat.le_of_ble_eq_true rfl) ⟨Nat.le_of_ble_eq_true rfl, Nat.le_of_ble_eq_true rfl⟩ ⟨Nat.le_of_ble_eq_true rfl, Nat.le_of_ble_eq_true rfl⟩ dX9_setRules_1 (fun H locs hR hS => ?_)
  refine lv_aload_n hx hb dX9_setRules_4 rfl (lv_at hl 0 rfl) ?_
  obtain ⟨x2, e_x2, hp⟩ := owp_ob hp
  refine gf_X9_19 X hR e_x2 dX9_setRules_5 ?_
  obtain ⟨x3, e_x3, hp⟩ := owp_ob hp
  refine gf_X9_112 X hR e_x3 dX9_setRules_8 ?_
  refine lv_if_eq (tgt := 18) hx hb dX9_setRules_11 (by decide) (fun k4 => ?_) (fun k4 => ?_)
  · have hp := owp_t k4 hp
    refine lv_iconst (v := (0)) hx hb dX9_setRules_18 (by decide) ?_
    exact w_X9_setRules_J19 X hr _ _ _ _ _ _ _ _ hR hS hl hp
  · have hp := owp_f k4 hp
    refine lv_iconst (v := (1)) hx hb dX9_setRules_14 (by decide) ?_
    refine lv_goto (tgt := 19) hx hb dX9_setRules_15 (by decide) ?_
    exact w_X9_setRules_J19 X hr _ _ _ _ _ _ _ _ hR hS hl hp
end
theorem ct_X9_setRules {v0 : Nat} {v1 : Int32} {v2 : Int32} {N N1 : AH} {r : Int32} (h : f_X9_setRules v0 v1 v2 N = some (r, N1)) : Ct yX9_setRules cX9_setRules 4 (some .int) rm_X9_setRules [.ref v0, .int v1, .int v2] N (some (.int r)) N1 :=
  ab_met (own := RX9) (by decide +kernel) rfl (Nat.le_of_ble_eq_true rfl) (fun l G aC t b0 p e s m below meth c ls X hr hlk hnm hR hS hl => wk_X9_setRules X (RtI_met X.1.1 X.1.2.1 hr hlk) _ _ _ _ _ _ _ hR hS hl (owp_of h))
theorem cw_X9_setRules : Cond.code yX9_setRules cX9_setRules 4 (some .int) ∈ WT := WT_of 606 (by decide +kernel) (by decide +kernel)
theorem iv_X9_setRules {p : Program} {l : Launch} {e : Env} {R : Room} {s : State} {m : MethodId} {args : Array Value} {below : List Frame} {meth : Method} {c : Code} {H : Heap} {locs : List Loc} {cells slots : Nat} {Q : State → Prop} {cc : ByteArray} {own : String} {nL : Nat} {G : va_G} {aC : Nat → ClassId} {t b0 : Nat} {N N1 : AH} {pc index : Nat} {ls : Array Slot} {rest : List Value} {v0 : Nat} {v1 : Int32} {v2 : Int32} {r : Int32} (w1 : Cond.methodLink own index yX9_setRules ∈ WT) (X : CX cc own nL G aC t b0 p s m args c) (hR : Rp G aC b0 N H) (hS : va_S (fun q => b0 ≤ q) s.heap H locs) (h : f_X9_setRules v0 v1 v2 N = some (r, N1)) (hls : ls.size = nL) (hW : (rest.map fun v => v.category).sum ≤ 8) (hR1 : 7 ≤ R.frames ∧ 146 ≤ R.locals) (hcs : cells + 0 ≤ R.cells ∧ slots + 0 ≤ R.slots) (hdg : decode cc pc = .ok (.invokevirtual index, 3)) (kk : ∀ (H1 : Heap) (locs1 : List Loc), Rp G aC b0 N1 H1 → va_S (fun q => b0 ≤ q) s.heap H1 locs1 → W p l e R s m args below meth c H1 locs1 cells slots Q (F0 m (pc + 3) ls (.int r :: rest))) : W p l e R s m args below meth c H locs cells slots Q (F0 m pc ls (.int v2 :: .int v1 :: .ref v0 :: rest)) :=
  ab_callV (n := 2) (As := [.int v1, .int v2]) X hR hS (ct_X9_setRules h) (ob_rc (c := 9) (N := N) (a := v0) h) (T := TX9) (k := 6) (C := RX9) rfl w1 (WT_of 604 (by decide +kernel) (by decide +kernel)) (WT_of 605 (by decide +kernel) (by decide +kernel)) (WT_of 81 (by decide +kernel) (by decide +kernel)) cw_X9_setRules ⟨rfl, by decide +kernel, by decide +kernel, by decide +kernel⟩ rfl hls hW hR1 hcs rfl hdg kk
-- X9_pass
theorem gf_X9_33 {p : Program} {l : Launch} {e : Env} {R : Room} {s : State} {m : MethodId} {args : Array Value} {below : List Frame} {meth : Method} {c : Code} {H : Heap} {locs : List Loc} {cells slots : Nat} {Q : State → Prop} {cc : ByteArray} {nL : Nat} {G : va_G} {aC : Nat → ClassId} {t b0 : Nat} {N : AH} {pc : Nat} {ls : Array Slot} {rest : List Value} {a : Nat} {v : Nat} (X : CX cc RX9 nL G aC t b0 p s m args c) (hR0 : Rp G aC b0 N H) (hv : hR N a 9 3 = some v) (hdg : decode cc pc = .ok (.getfield 33, 3)) (kk : W p l e R s m args below meth c H locs cells slots Q (F0 m (pc + 3) ls (.ref v :: rest))) : W p l e R s m args below meth c H locs cells slots Q (F0 m pc ls (.ref a :: rest)) := by
  obtain ⟨fs, h1, h2⟩ := hR_ok hv
  exact ab_get (C := RX9) (T := TX9) (n := 6) X hR0 h1 h2 rfl inX9 (by decide) (WT_of 436 (by decide +kernel) (by decide +kernel)) hdg kk
theorem mw_X9_115 : Cond.methodLink RX9 115 yX8_perform ∈ WT := WT_of 611 (by decide +kernel) (by decide +kernel)
theorem mw_X9_119 : Cond.methodLink RX9 119 yX7_countGroups ∈ WT := WT_of 721 (by decide +kernel) (by decide +kernel)
theorem dX9_pass_0 : decode cX9_pass 0 = .ok (.iload_n 1, 1) := by decide +kernel
theorem dX9_pass_1 : decode cX9_pass 1 = .ok (.iconst 1, 1) := by decide +kernel
theorem dX9_pass_2 : decode cX9_pass 2 = .ok (.if_icmp .lt 10, 3) := by decide +kernel
theorem dX9_pass_5 : decode cX9_pass 5 = .ok (.iload_n 1, 1) := by decide +kernel
theorem dX9_pass_6 : decode cX9_pass 6 = .ok (.sipush 500, 3) := by decide +kernel
theorem dX9_pass_9 : decode cX9_pass 9 = .ok (.if_icmp .le 6, 3) := by decide +kernel
theorem dX9_pass_12 : decode cX9_pass 12 = .ok (.bipush (-3), 2) := by decide +kernel
theorem dX9_pass_14 : decode cX9_pass 14 = .ok (.ireturn, 1) := by decide +kernel
theorem dX9_pass_15 : decode cX9_pass 15 = .ok (.aload_n 0, 1) := by decide +kernel
theorem dX9_pass_16 : decode cX9_pass 16 = .ok (.invokevirtual 77, 3) := by decide +kernel
theorem dX9_pass_19 : decode cX9_pass 19 = .ok (.iconst 0, 1) := by decide +kernel
theorem dX9_pass_20 : decode cX9_pass 20 = .ok (.istore_n 2, 1) := by decide +kernel
theorem dX9_pass_21 : decode cX9_pass 21 = .ok (.iload_n 2, 1) := by decide +kernel
theorem dX9_pass_22 : decode cX9_pass 22 = .ok (.iload_n 1, 1) := by decide +kernel
theorem dX9_pass_23 : decode cX9_pass 23 = .ok (.if_icmp .ge 21, 3) := by decide +kernel
theorem dX9_pass_26 : decode cX9_pass 26 = .ok (.aload_n 0, 1) := by decide +kernel
theorem dX9_pass_27 : decode cX9_pass 27 = .ok (.getfield 33, 3) := by decide +kernel
theorem dX9_pass_30 : decode cX9_pass 30 = .ok (.aload_n 0, 1) := by decide +kernel
theorem dX9_pass_31 : decode cX9_pass 31 = .ok (.getfield 19, 3) := by decide +kernel
theorem dX9_pass_34 : decode cX9_pass 34 = .ok (.invokevirtual 115, 3) := by decide +kernel
theorem dX9_pass_37 : decode cX9_pass 37 = .ok (.pop, 1) := by decide +kernel
theorem dX9_pass_38 : decode cX9_pass 38 = .ok (.iinc 2 1, 3) := by decide +kernel
theorem dX9_pass_41 : decode cX9_pass 41 = .ok (.goto (-20), 3) := by decide +kernel
theorem dX9_pass_44 : decode cX9_pass 44 = .ok (.aload_n 0, 1) := by decide +kernel
theorem dX9_pass_45 : decode cX9_pass 45 = .ok (.getfield 19, 3) := by decide +kernel
theorem dX9_pass_48 : decode cX9_pass 48 = .ok (.iconst 1, 1) := by decide +kernel
theorem dX9_pass_49 : decode cX9_pass 49 = .ok (.invokevirtual 119, 3) := by decide +kernel
theorem dX9_pass_52 : decode cX9_pass 52 = .ok (.ireturn, 1) := by decide +kernel
def rm_X9_pass : Room := { frames := 6, cells := 0, slots := 0, locals := 124 }
section
variable {p : Program} {l : Launch} {e : Env} {s : State} {m : MethodId} {args : Array Value} {below : List Frame} {meth : Method} {c : Code} {Q : State → Prop} {G : va_G} {aC : Nat → ClassId} {t b0 : Nat}
def f_X9_pass_L21 (v0 : Nat) (v1 : Int32) (k44 : AH → Option (Int32 × AH)) : Nat → Int32 → AH → Option (Int32 × AH)
  | 0, _, _ => none
  | n + 1, v2, N => if v1 ≤ v2 then k44 N else ob (hR N v0 9 3) (fun x5 => ob (hR N v0 9 1) (fun x6 => ob2 (f_X8_perform x5 x6 N) (fun x8 N7 => f_X9_pass_L21 v0 v1 k44 n (v2 + 1) N7)))
set_option maxHeartbeats 4000000 in
set_option maxRecDepth 100000 in
theorem w_X9_pass_L21 {P : Int32 × AH → Prop} (X : CX cX9_pass RX9 3 G aC t b0 p s m args c) (hr : RtI p l e rm_X9_pass s m args below meth c 0 0 Q cX9_pass G aC b0 P) (v0 : Nat) (v1 : Int32) {k44 : AH → Option (Int32 × AH)}
    (hk44 : ∀ (N : AH) (H : Heap) (locs : List Loc) (ls : Array Slot), Rp G aC b0 N H → va_S (fun q => b0 ≤ q) s.heap H locs → lv_has ls 3 [(0, .ref v0)] → owp (k44 N) P → W p l e rm_X9_pass s m args below meth c H locs 0 0 Q (F0 m 44 ls [])) :
    ∀ (n : Nat) (v2 : Int32) (N : AH) (H : Heap) (locs : List Loc) (ls : Array Slot), Rp G aC b0 N H → va_S (fun q => b0 ≤ q) s.heap H locs → lv_has ls 3 [(0, .ref v0), (1, .int v1), (2, .int v2)] → owp (f_X9_pass_L21 v0 v1 k44 n v2 N) P → W p l e rm_X9_pass s m args below meth c H locs 0 0 Q (F0 m 21 ls []) := by
  have hx := X.1.1
  have hb := X.1.2.1
  intro n
  induction n with
  | zero =>
    intro v2 N H locs ls hR hS hl hp
    exact (show False from hp).elim
  | succ n ih =>
    intro v2 N H locs ls hR hS hl hp
    rw [f_X9_pass_L21] at hp
    refine lv_iload_n hx hb dX9_pass_21 rfl (lv_at hl 2 rfl) ?_
    refine lv_iload_n hx hb dX9_pass_22 rfl (lv_at hl 1 rfl) ?_
    refine lv_icmp_ge (tgt := 44) hx hb dX9_pass_23 (by decide) (fun k4 => ?_) (fun k4 => ?_)
    · have hp := owp_t k4 hp
      exact hk44 _ _ _ _ hR hS (lv_sub hl [0] rfl) hp
    · have hp := owp_f k4 hp
      refine lv_aload_n hx hb dX9_pass_26 rfl (lv_at hl 0 rfl) ?_
      obtain ⟨x5, e_x5, hp⟩ := owp_ob hp
      refine gf_X9_33 X hR e_x5 dX9_pass_27 ?_
      refine lv_aload_n hx hb dX9_pass_30 rfl (lv_at hl 0 rfl) ?_
      obtain ⟨x6, e_x6, hp⟩ := owp_ob hp
      refine gf_X9_19 X hR e_x6 dX9_pass_31 ?_
      obtain ⟨x8, N7, e_N7, hp⟩ := owp_ob2 hp
      refine iv_X8_perform (rest := []) mw_X9_115 X hR hS e_N7 hl.1 (Nat.le_of_ble_eq_true rfl) ⟨Nat.le_of_ble_eq_true rfl, Nat.le_of_ble_eq_true rfl⟩ ⟨Nat.le_of_ble_eq_true rfl, Nat.le_of_ble_eq_true rfl⟩ dX9_pass_34 (fun H locs hR hS => ?_)
      refine lv_pop hx hb dX9_pass_37 rfl ?_
      refine lv_iinc (v := v2 + 1) (lv' := [(2, .int (v2 + 1)), (0, .ref v0), (1, .int v1)]) hx hb dX9_pass_38 hl (k := 2) rfl rfl (by decide) rfl (fun ls hl => ?_)
      refine lv_goto (tgt := 21) hx hb dX9_pass_41 (by decide) ?_
      exact ih _ _ _ _ _ hR hS (lv_sub hl [1, 2, 0] rfl) hp
def f_X9_pass (v0 : Nat) (v1 : Int32) (N : AH) : Option (Int32 × AH) := ob (iO N v0 9) (fun _ => if v1 < (1 : Int32) then some ((-3 : Int32), N) else if v1 ≤ (500 : Int32) then ob2 (f_X9_save v0 N) (fun _ N3 => f_X9_pass_L21 v0 v1 (fun N9 => ob (hR N9 v0 9 1) (fun x10 => ob2 (f_X7_countGroups x10 (1 : Int32) N9) (fun x12 N11 => some (x12, N11)))) FU (0 : Int32) N3) else some ((-3 : Int32), N))
set_option maxHeartbeats 4000000 in
set_option maxRecDepth 100000 in
theorem wk_X9_pass {P : Int32 × AH → Prop} (X : CX cX9_pass RX9 3 G aC t b0 p s m args c) (hr : RtI p l e rm_X9_pass s m args below meth c 0 0 Q cX9_pass G aC b0 P) (v0 : Nat) (v1 : Int32) (N : AH) (H : Heap) (locs : List Loc) (ls : Array Slot) (hR : Rp G aC b0 N H) (hS : va_S (fun q => b0 ≤ q) s.heap H locs) (hl : lv_has ls 3 [(0, .ref v0), (1, .int v1)]) (hp : owp (f_X9_pass v0 v1 N) P) : W p l e rm_X9_pass s m args below meth c H locs 0 0 Q (F0 m 0 ls []) := by
  have hx := X.1.1
  have hb := X.1.2.1
  unfold f_X9_pass at hp
  obtain ⟨_, _, hp⟩ := owp_ob hp
  refine lv_iload_n hx hb dX9_pass_0 rfl (lv_at hl 1 rfl) ?_
  refine lv_iconst (v := (1)) hx hb dX9_pass_1 (by decide) ?_
  refine lv_icmp_lt (tgt := 12) hx hb dX9_pass_2 (by decide) (fun k1 => ?_) (fun k1 => ?_)
  · have hp := owp_t k1 hp
    refine lv_bipush (v := (-3)) hx hb dX9_pass_12 (by decide) ?_
    exact hr _ _ _ _ _ _ hR hS dX9_pass_14 hp
  · have hp := owp_f k1 hp
    refine lv_iload_n hx hb dX9_pass_5 rfl (lv_at hl 1 rfl) ?_
    refine lv_sipush (v := (500)) hx hb dX9_pass_6 (by decide) ?_
    refine lv_icmp_le (tgt := 15) hx hb dX9_pass_9 (by decide) (fun k2 => ?_) (fun k2 => ?_)
    · have hp := owp_t k2 hp
      refine lv_aload_n hx hb dX9_pass_15 rfl (lv_at hl 0 rfl) ?_
      obtain ⟨_, N3, e_N3, hp⟩ := owp_ob2 hp
      refine iv_X9_save (rest := []) mw_X9_77 X hR hS e_N3 hl.1 (Nat.le_of_ble_eq_true rfl) ⟨Nat.le_of_ble_eq_true rfl, Nat.le_of_ble_eq_true rfl⟩ ⟨Nat.le_of_ble_eq_true rfl, Nat.le_of_ble_eq_true rfl⟩ dX9_pass_16 (fun H locs hR hS => ?_)
      refine lv_iconst (v := (0)) hx hb dX9_pass_19 (by decide) ?_
      refine lv_istore_n (lv' := [(2, .int (0 : Int32)), (0, .ref v0), (1, .int v1)]) hx hb dX9_pass_20 rfl hl (by decide) rfl (fun ls hl => ?_)
      refine w_X9_pass_L21 X hr _ _ (fun N9 H locs ls hR hS hl hp => ?_) _ _ _ _ _ _ hR hS (lv_sub hl [1, 2, 0] rfl) hp
      refine lv_aload_n hx hb dX9_pass_44 rfl (lv_at hl 0 rfl) ?_
      obtain ⟨x10, e_x10, hp⟩ := owp_ob hp
      refine gf_X9_19 X hR e_x10 dX9_pass_45 ?_
      refine lv_iconst (v := (1)) hx hb dX9_pass_48 (by decide) ?_
      obtain ⟨x12, N11, e_N11, hp⟩ := owp_ob2 hp
      refine iv_X7_countGroups (rest := []) mw_X9_119 X hR hS e_N11 hl.1 (Nat.le_of_ble_eq_true rfl) ⟨Nat.le_of_ble_eq_true rfl, Nat.le_of_ble_eq_true rfl⟩ ⟨Nat.le_of_ble_eq_true rfl, Nat.le_of_ble_eq_true rfl⟩ dX9_pass_49 (fun H locs hR hS => ?_)
      exact hr _ _ _ _ _ _ hR hS dX9_pass_52 hp
    · have hp := owp_f k2 hp
      refine lv_bipush (v := (-3)) hx hb dX9_pass_12 (by decide) ?_
      exact hr _ _ _ _ _ _ hR hS dX9_pass_14 hp
end
theorem ct_X9_pass {v0 : Nat} {v1 : Int32} {N N1 : AH} {r : Int32} (h : f_X9_pass v0 v1 N = some (r, N1)) : Ct yX9_pass cX9_pass 3 (some .int) rm_X9_pass [.ref v0, .int v1] N (some (.int r)) N1 :=
  ab_met (own := RX9) (by decide +kernel) rfl (Nat.le_of_ble_eq_true rfl) (fun l G aC t b0 p e s m below meth c ls X hr hlk hnm hR hS hl => wk_X9_pass X (RtI_met X.1.1 X.1.2.1 hr hlk) _ _ _ _ _ _ hR hS hl (owp_of h))
theorem cw_X9_pass : Cond.code yX9_pass cX9_pass 3 (some .int) ∈ WT := WT_of 610 (by decide +kernel) (by decide +kernel)
theorem iv_X9_pass {p : Program} {l : Launch} {e : Env} {R : Room} {s : State} {m : MethodId} {args : Array Value} {below : List Frame} {meth : Method} {c : Code} {H : Heap} {locs : List Loc} {cells slots : Nat} {Q : State → Prop} {cc : ByteArray} {own : String} {nL : Nat} {G : va_G} {aC : Nat → ClassId} {t b0 : Nat} {N N1 : AH} {pc index : Nat} {ls : Array Slot} {rest : List Value} {v0 : Nat} {v1 : Int32} {r : Int32} (w1 : Cond.methodLink own index yX9_pass ∈ WT) (X : CX cc own nL G aC t b0 p s m args c) (hR : Rp G aC b0 N H) (hS : va_S (fun q => b0 ≤ q) s.heap H locs) (h : f_X9_pass v0 v1 N = some (r, N1)) (hls : ls.size = nL) (hW : (rest.map fun v => v.category).sum ≤ 8) (hR1 : 7 ≤ R.frames ∧ 146 ≤ R.locals) (hcs : cells + 0 ≤ R.cells ∧ slots + 0 ≤ R.slots) (hdg : decode cc pc = .ok (.invokevirtual index, 3)) (kk : ∀ (H1 : Heap) (locs1 : List Loc), Rp G aC b0 N1 H1 → va_S (fun q => b0 ≤ q) s.heap H1 locs1 → W p l e R s m args below meth c H1 locs1 cells slots Q (F0 m (pc + 3) ls (.int r :: rest))) : W p l e R s m args below meth c H locs cells slots Q (F0 m pc ls (.int v1 :: .ref v0 :: rest)) :=
  ab_callV (n := 1) (As := [.int v1]) X hR hS (ct_X9_pass h) (ob_rc (c := 9) (N := N) (a := v0) h) (T := TX9) (k := 6) (C := RX9) rfl w1 (WT_of 608 (by decide +kernel) (by decide +kernel)) (WT_of 609 (by decide +kernel) (by decide +kernel)) (WT_of 81 (by decide +kernel) (by decide +kernel)) cw_X9_pass ⟨rfl, by decide +kernel, by decide +kernel, by decide +kernel⟩ rfl hls hW hR1 hcs rfl hdg kk
-- X9_undo
theorem gf_X9_122 {p : Program} {l : Launch} {e : Env} {R : Room} {s : State} {m : MethodId} {args : Array Value} {below : List Frame} {meth : Method} {c : Code} {H : Heap} {locs : List Loc} {cells slots : Nat} {Q : State → Prop} {cc : ByteArray} {nL : Nat} {G : va_G} {aC : Nat → ClassId} {t b0 : Nat} {N : AH} {pc : Nat} {ls : Array Slot} {rest : List Value} {a : Nat} {v : Int32} (X : CX cc RX9 nL G aC t b0 p s m args c) (hR0 : Rp G aC b0 N H) (hv : hI N a 5 0 = some v) (hdg : decode cc pc = .ok (.getfield 122, 3)) (kk : W p l e R s m args below meth c H locs cells slots Q (F0 m (pc + 3) ls (.int v :: rest))) : W p l e R s m args below meth c H locs cells slots Q (F0 m pc ls (.ref a :: rest)) := by
  obtain ⟨fs, h1, h2⟩ := hI_ok hv
  exact ab_get (C := RX5) (T := TX5) (n := 3) X hR0 h1 h2 rfl inX5 (by decide) (WT_of 331 (by decide +kernel) (by decide +kernel)) hdg kk
theorem mw_X9_125 : Cond.methodLink RX9 125 yX5_bringBack ∈ WT := WT_of 730 (by decide +kernel) (by decide +kernel)
theorem dX9_undo_0 : decode cX9_undo 0 = .ok (.aload_n 0, 1) := by decide +kernel
theorem dX9_undo_1 : decode cX9_undo 1 = .ok (.getfield 26, 3) := by decide +kernel
theorem dX9_undo_4 : decode cX9_undo 4 = .ok (.getfield 122, 3) := by decide +kernel
theorem dX9_undo_7 : decode cX9_undo 7 = .ok (.ifCond .ne 6, 3) := by decide +kernel
theorem dX9_undo_10 : decode cX9_undo 10 = .ok (.bipush (-4), 2) := by decide +kernel
theorem dX9_undo_12 : decode cX9_undo 12 = .ok (.ireturn, 1) := by decide +kernel
theorem dX9_undo_13 : decode cX9_undo 13 = .ok (.aload_n 0, 1) := by decide +kernel
theorem dX9_undo_14 : decode cX9_undo 14 = .ok (.getfield 26, 3) := by decide +kernel
theorem dX9_undo_17 : decode cX9_undo 17 = .ok (.aload_n 0, 1) := by decide +kernel
theorem dX9_undo_18 : decode cX9_undo 18 = .ok (.getfield 19, 3) := by decide +kernel
theorem dX9_undo_21 : decode cX9_undo 21 = .ok (.invokevirtual 125, 3) := by decide +kernel
theorem dX9_undo_24 : decode cX9_undo 24 = .ok (.aload_n 0, 1) := by decide +kernel
theorem dX9_undo_25 : decode cX9_undo 25 = .ok (.getfield 47, 3) := by decide +kernel
theorem dX9_undo_28 : decode cX9_undo 28 = .ok (.invokevirtual 129, 3) := by decide +kernel
theorem dX9_undo_31 : decode cX9_undo 31 = .ok (.aload_n 0, 1) := by decide +kernel
theorem dX9_undo_32 : decode cX9_undo 32 = .ok (.getfield 26, 3) := by decide +kernel
theorem dX9_undo_35 : decode cX9_undo 35 = .ok (.getfield 122, 3) := by decide +kernel
theorem dX9_undo_38 : decode cX9_undo 38 = .ok (.ireturn, 1) := by decide +kernel
def rm_X9_undo : Room := { frames := 5, cells := 0, slots := 0, locals := 103 }
section
variable {p : Program} {l : Launch} {e : Env} {s : State} {m : MethodId} {args : Array Value} {below : List Frame} {meth : Method} {c : Code} {Q : State → Prop} {G : va_G} {aC : Nat → ClassId} {t b0 : Nat}
def f_X9_undo (v0 : Nat) (N : AH) : Option (Int32 × AH) := ob (iO N v0 9) (fun _ => ob (hR N v0 9 2) (fun x1 => ob (hI N x1 5 0) (fun x2 => if ¬ x2 = 0 then ob (hR N v0 9 2) (fun x4 => ob (hR N v0 9 1) (fun x5 => ob2 (f_X5_bringBack x4 x5 N) (fun _ N6 => ob (hR N6 v0 9 5) (fun x7 => ob2 (f_X3_forget x7 N6) (fun _ N8 => ob (hR N8 v0 9 2) (fun x9 => ob (hI N8 x9 5 0) (fun x10 => some (x10, N8)))))))) else some ((-4 : Int32), N))))
set_option maxHeartbeats 4000000 in
set_option maxRecDepth 100000 in
theorem wk_X9_undo {P : Int32 × AH → Prop} (X : CX cX9_undo RX9 1 G aC t b0 p s m args c) (hr : RtI p l e rm_X9_undo s m args below meth c 0 0 Q cX9_undo G aC b0 P) (v0 : Nat) (N : AH) (H : Heap) (locs : List Loc) (ls : Array Slot) (hR : Rp G aC b0 N H) (hS : va_S (fun q => b0 ≤ q) s.heap H locs) (hl : lv_has ls 1 [(0, .ref v0)]) (hp : owp (f_X9_undo v0 N) P) : W p l e rm_X9_undo s m args below meth c H locs 0 0 Q (F0 m 0 ls []) := by
  have hx := X.1.1
  have hb := X.1.2.1
  unfold f_X9_undo at hp
  obtain ⟨_, _, hp⟩ := owp_ob hp
  refine lv_aload_n hx hb dX9_undo_0 rfl (lv_at hl 0 rfl) ?_
  obtain ⟨x1, e_x1, hp⟩ := owp_ob hp
  refine gf_X9_26 X hR e_x1 dX9_undo_1 ?_
  obtain ⟨x2, e_x2, hp⟩ := owp_ob hp
  refine gf_X9_122 X hR e_x2 dX9_undo_4 ?_
  refine lv_if_ne (tgt := 13) hx hb dX9_undo_7 (by decide) (fun k3 => ?_) (fun k3 => ?_)
  · have hp := owp_t k3 hp
    refine lv_aload_n hx hb dX9_undo_13 rfl (lv_at hl 0 rfl) ?_
    obtain ⟨x4, e_x4, hp⟩ := owp_ob hp
    refine gf_X9_26 X hR e_x4 dX9_undo_14 ?_
    refine lv_aload_n hx hb dX9_undo_17 rfl (lv_at hl 0 rfl) ?_
    obtain ⟨x5, e_x5, hp⟩ := owp_ob hp
    refine gf_X9_19 X hR e_x5 dX9_undo_18 ?_
    obtain ⟨_, N6, e_N6, hp⟩ := owp_ob2 hp
    refine iv_X5_bringBack (rest := []) mw_X9_125 X hR hS e_N6 hl.1 (Nat.le_of_ble_eq_true rfl) ⟨Nat.le_of_ble_eq_true rfl, Nat.le_of_ble_eq_true rfl⟩ ⟨Nat.le_of_ble_eq_true rfl, Nat.le_of_ble_eq_true rfl⟩ dX9_undo_21 (fun H locs hR hS => ?_)
    refine lv_aload_n hx hb dX9_undo_24 rfl (lv_at hl 0 rfl) ?_
    obtain ⟨x7, e_x7, hp⟩ := owp_ob hp
    refine gf_X9_47 X hR e_x7 dX9_undo_25 ?_
    obtain ⟨_, N8, e_N8, hp⟩ := owp_ob2 hp
    refine iv_X3_forget (rest := []) mw_X9_129 X hR hS e_N8 hl.1 (Nat.le_of_ble_eq_true rfl) ⟨Nat.le_of_ble_eq_true rfl, Nat.le_of_ble_eq_true rfl⟩ ⟨Nat.le_of_ble_eq_true rfl, Nat.le_of_ble_eq_true rfl⟩ dX9_undo_28 (fun H locs hR hS => ?_)
    refine lv_aload_n hx hb dX9_undo_31 rfl (lv_at hl 0 rfl) ?_
    obtain ⟨x9, e_x9, hp⟩ := owp_ob hp
    refine gf_X9_26 X hR e_x9 dX9_undo_32 ?_
    obtain ⟨x10, e_x10, hp⟩ := owp_ob hp
    refine gf_X9_122 X hR e_x10 dX9_undo_35 ?_
    exact hr _ _ _ _ _ _ hR hS dX9_undo_38 hp
  · have hp := owp_f (fun q => q k3) hp
    refine lv_bipush (v := (-4)) hx hb dX9_undo_10 (by decide) ?_
    exact hr _ _ _ _ _ _ hR hS dX9_undo_12 hp
end
theorem ct_X9_undo {v0 : Nat} {N N1 : AH} {r : Int32} (h : f_X9_undo v0 N = some (r, N1)) : Ct yX9_undo cX9_undo 1 (some .int) rm_X9_undo [.ref v0] N (some (.int r)) N1 :=
  ab_met (own := RX9) (by decide +kernel) rfl (Nat.le_of_ble_eq_true rfl) (fun l G aC t b0 p e s m below meth c ls X hr hlk hnm hR hS hl => wk_X9_undo X (RtI_met X.1.1 X.1.2.1 hr hlk) _ _ _ _ _ hR hS hl (owp_of h))
theorem cw_X9_undo : Cond.code yX9_undo cX9_undo 1 (some .int) ∈ WT := WT_of 729 (by decide +kernel) (by decide +kernel)
theorem iv_X9_undo {p : Program} {l : Launch} {e : Env} {R : Room} {s : State} {m : MethodId} {args : Array Value} {below : List Frame} {meth : Method} {c : Code} {H : Heap} {locs : List Loc} {cells slots : Nat} {Q : State → Prop} {cc : ByteArray} {own : String} {nL : Nat} {G : va_G} {aC : Nat → ClassId} {t b0 : Nat} {N N1 : AH} {pc index : Nat} {ls : Array Slot} {rest : List Value} {v0 : Nat} {r : Int32} (w1 : Cond.methodLink own index yX9_undo ∈ WT) (X : CX cc own nL G aC t b0 p s m args c) (hR : Rp G aC b0 N H) (hS : va_S (fun q => b0 ≤ q) s.heap H locs) (h : f_X9_undo v0 N = some (r, N1)) (hls : ls.size = nL) (hW : (rest.map fun v => v.category).sum ≤ 8) (hR1 : 6 ≤ R.frames ∧ 123 ≤ R.locals) (hcs : cells + 0 ≤ R.cells ∧ slots + 0 ≤ R.slots) (hdg : decode cc pc = .ok (.invokevirtual index, 3)) (kk : ∀ (H1 : Heap) (locs1 : List Loc), Rp G aC b0 N1 H1 → va_S (fun q => b0 ≤ q) s.heap H1 locs1 → W p l e R s m args below meth c H1 locs1 cells slots Q (F0 m (pc + 3) ls (.int r :: rest))) : W p l e R s m args below meth c H locs cells slots Q (F0 m pc ls (.ref v0 :: rest)) :=
  ab_callV (n := 0) (As := []) X hR hS (ct_X9_undo h) (ob_rc (c := 9) (N := N) (a := v0) h) (T := TX9) (k := 6) (C := RX9) rfl w1 (WT_of 727 (by decide +kernel) (by decide +kernel)) (WT_of 728 (by decide +kernel) (by decide +kernel)) (WT_of 81 (by decide +kernel) (by decide +kernel)) cw_X9_undo ⟨rfl, by decide +kernel, by decide +kernel, by decide +kernel⟩ rfl hls hW hR1 hcs rfl hdg kk
-- X9_time
theorem gf_X9_132 {p : Program} {l : Launch} {e : Env} {R : Room} {s : State} {m : MethodId} {args : Array Value} {below : List Frame} {meth : Method} {c : Code} {H : Heap} {locs : List Loc} {cells slots : Nat} {Q : State → Prop} {cc : ByteArray} {nL : Nat} {G : va_G} {aC : Nat → ClassId} {t b0 : Nat} {N : AH} {pc : Nat} {ls : Array Slot} {rest : List Value} {a : Nat} {v : Int32} (X : CX cc RX9 nL G aC t b0 p s m args c) (hR0 : Rp G aC b0 N H) (hv : hI N a 7 0 = some v) (hdg : decode cc pc = .ok (.getfield 132, 3)) (kk : W p l e R s m args below meth c H locs cells slots Q (F0 m (pc + 3) ls (.int v :: rest))) : W p l e R s m args below meth c H locs cells slots Q (F0 m pc ls (.ref a :: rest)) := by
  obtain ⟨fs, h1, h2⟩ := hI_ok hv
  exact ab_get (C := RX7) (T := TX7) (n := 12) X hR0 h1 h2 rfl inX7 (by decide) (WT_of 256 (by decide +kernel) (by decide +kernel)) hdg kk
theorem dX9_time_0 : decode cX9_time 0 = .ok (.aload_n 0, 1) := by decide +kernel
theorem dX9_time_1 : decode cX9_time 1 = .ok (.getfield 19, 3) := by decide +kernel
theorem dX9_time_4 : decode cX9_time 4 = .ok (.getfield 132, 3) := by decide +kernel
theorem dX9_time_7 : decode cX9_time 7 = .ok (.ireturn, 1) := by decide +kernel
def rm_X9_time : Room := { frames := 0, cells := 0, slots := 0, locals := 0 }
section
variable {p : Program} {l : Launch} {e : Env} {s : State} {m : MethodId} {args : Array Value} {below : List Frame} {meth : Method} {c : Code} {Q : State → Prop} {G : va_G} {aC : Nat → ClassId} {t b0 : Nat}
def f_X9_time (v0 : Nat) (N : AH) : Option (Int32 × AH) := ob (iO N v0 9) (fun _ => ob (hR N v0 9 1) (fun x1 => ob (hI N x1 7 0) (fun x2 => some (x2, N))))
set_option maxHeartbeats 4000000 in
set_option maxRecDepth 100000 in
theorem wk_X9_time {P : Int32 × AH → Prop} (X : CX cX9_time RX9 1 G aC t b0 p s m args c) (hr : RtI p l e rm_X9_time s m args below meth c 0 0 Q cX9_time G aC b0 P) (v0 : Nat) (N : AH) (H : Heap) (locs : List Loc) (ls : Array Slot) (hR : Rp G aC b0 N H) (hS : va_S (fun q => b0 ≤ q) s.heap H locs) (hl : lv_has ls 1 [(0, .ref v0)]) (hp : owp (f_X9_time v0 N) P) : W p l e rm_X9_time s m args below meth c H locs 0 0 Q (F0 m 0 ls []) := by
  have hx := X.1.1
  have hb := X.1.2.1
  unfold f_X9_time at hp
  obtain ⟨_, _, hp⟩ := owp_ob hp
  refine lv_aload_n hx hb dX9_time_0 rfl (lv_at hl 0 rfl) ?_
  obtain ⟨x1, e_x1, hp⟩ := owp_ob hp
  refine gf_X9_19 X hR e_x1 dX9_time_1 ?_
  obtain ⟨x2, e_x2, hp⟩ := owp_ob hp
  refine gf_X9_132 X hR e_x2 dX9_time_4 ?_
  exact hr _ _ _ _ _ _ hR hS dX9_time_7 hp
end
theorem ct_X9_time {v0 : Nat} {N N1 : AH} {r : Int32} (h : f_X9_time v0 N = some (r, N1)) : Ct yX9_time cX9_time 1 (some .int) rm_X9_time [.ref v0] N (some (.int r)) N1 :=
  ab_met (own := RX9) (by decide +kernel) rfl (Nat.le_of_ble_eq_true rfl) (fun l G aC t b0 p e s m below meth c ls X hr hlk hnm hR hS hl => wk_X9_time X (RtI_met X.1.1 X.1.2.1 hr hlk) _ _ _ _ _ hR hS hl (owp_of h))
theorem cw_X9_time : Cond.code yX9_time cX9_time 1 (some .int) ∈ WT := WT_of 737 (by decide +kernel) (by decide +kernel)
theorem iv_X9_time {p : Program} {l : Launch} {e : Env} {R : Room} {s : State} {m : MethodId} {args : Array Value} {below : List Frame} {meth : Method} {c : Code} {H : Heap} {locs : List Loc} {cells slots : Nat} {Q : State → Prop} {cc : ByteArray} {own : String} {nL : Nat} {G : va_G} {aC : Nat → ClassId} {t b0 : Nat} {N N1 : AH} {pc index : Nat} {ls : Array Slot} {rest : List Value} {v0 : Nat} {r : Int32} (w1 : Cond.methodLink own index yX9_time ∈ WT) (X : CX cc own nL G aC t b0 p s m args c) (hR : Rp G aC b0 N H) (hS : va_S (fun q => b0 ≤ q) s.heap H locs) (h : f_X9_time v0 N = some (r, N1)) (hls : ls.size = nL) (hW : (rest.map fun v => v.category).sum ≤ 8) (hR1 : 1 ≤ R.frames ∧ 20 ≤ R.locals) (hcs : cells + 0 ≤ R.cells ∧ slots + 0 ≤ R.slots) (hdg : decode cc pc = .ok (.invokevirtual index, 3)) (kk : ∀ (H1 : Heap) (locs1 : List Loc), Rp G aC b0 N1 H1 → va_S (fun q => b0 ≤ q) s.heap H1 locs1 → W p l e R s m args below meth c H1 locs1 cells slots Q (F0 m (pc + 3) ls (.int r :: rest))) : W p l e R s m args below meth c H locs cells slots Q (F0 m pc ls (.ref v0 :: rest)) :=
  ab_callV (n := 0) (As := []) X hR hS (ct_X9_time h) (ob_rc (c := 9) (N := N) (a := v0) h) (T := TX9) (k := 6) (C := RX9) rfl w1 (WT_of 735 (by decide +kernel) (by decide +kernel)) (WT_of 736 (by decide +kernel) (by decide +kernel)) (WT_of 81 (by decide +kernel) (by decide +kernel)) cw_X9_time ⟨rfl, by decide +kernel, by decide +kernel, by decide +kernel⟩ rfl hls hW hR1 hcs rfl hdg kk
-- X9_groupCount
theorem dX9_groupCount_0 : decode cX9_groupCount 0 = .ok (.aload_n 0, 1) := by decide +kernel
theorem dX9_groupCount_1 : decode cX9_groupCount 1 = .ok (.getfield 19, 3) := by decide +kernel
theorem dX9_groupCount_4 : decode cX9_groupCount 4 = .ok (.getfield 90, 3) := by decide +kernel
theorem dX9_groupCount_7 : decode cX9_groupCount 7 = .ok (.ireturn, 1) := by decide +kernel
def rm_X9_groupCount : Room := { frames := 0, cells := 0, slots := 0, locals := 0 }
section
variable {p : Program} {l : Launch} {e : Env} {s : State} {m : MethodId} {args : Array Value} {below : List Frame} {meth : Method} {c : Code} {Q : State → Prop} {G : va_G} {aC : Nat → ClassId} {t b0 : Nat}
def f_X9_groupCount (v0 : Nat) (N : AH) : Option (Int32 × AH) := ob (iO N v0 9) (fun _ => ob (hR N v0 9 1) (fun x1 => ob (hI N x1 7 6) (fun x2 => some (x2, N))))
set_option maxHeartbeats 4000000 in
set_option maxRecDepth 100000 in
theorem wk_X9_groupCount {P : Int32 × AH → Prop} (X : CX cX9_groupCount RX9 1 G aC t b0 p s m args c) (hr : RtI p l e rm_X9_groupCount s m args below meth c 0 0 Q cX9_groupCount G aC b0 P) (v0 : Nat) (N : AH) (H : Heap) (locs : List Loc) (ls : Array Slot) (hR : Rp G aC b0 N H) (hS : va_S (fun q => b0 ≤ q) s.heap H locs) (hl : lv_has ls 1 [(0, .ref v0)]) (hp : owp (f_X9_groupCount v0 N) P) : W p l e rm_X9_groupCount s m args below meth c H locs 0 0 Q (F0 m 0 ls []) := by
  have hx := X.1.1
  have hb := X.1.2.1
  unfold f_X9_groupCount at hp
  obtain ⟨_, _, hp⟩ := owp_ob hp
  refine lv_aload_n hx hb dX9_groupCount_0 rfl (lv_at hl 0 rfl) ?_
  obtain ⟨x1, e_x1, hp⟩ := owp_ob hp
  refine gf_X9_19 X hR e_x1 dX9_groupCount_1 ?_
  obtain ⟨x2, e_x2, hp⟩ := owp_ob hp
  refine gf_X9_90 X hR e_x2 dX9_groupCount_4 ?_
  exact hr _ _ _ _ _ _ hR hS dX9_groupCount_7 hp
end
theorem ct_X9_groupCount {v0 : Nat} {N N1 : AH} {r : Int32} (h : f_X9_groupCount v0 N = some (r, N1)) : Ct yX9_groupCount cX9_groupCount 1 (some .int) rm_X9_groupCount [.ref v0] N (some (.int r)) N1 :=
  ab_met (own := RX9) (by decide +kernel) rfl (Nat.le_of_ble_eq_true rfl) (fun l G aC t b0 p e s m below meth c ls X hr hlk hnm hR hS hl => wk_X9_groupCount X (RtI_met X.1.1 X.1.2.1 hr hlk) _ _ _ _ _ hR hS hl (owp_of h))
theorem cw_X9_groupCount : Cond.code yX9_groupCount cX9_groupCount 1 (some .int) ∈ WT := WT_of 741 (by decide +kernel) (by decide +kernel)
theorem iv_X9_groupCount {p : Program} {l : Launch} {e : Env} {R : Room} {s : State} {m : MethodId} {args : Array Value} {below : List Frame} {meth : Method} {c : Code} {H : Heap} {locs : List Loc} {cells slots : Nat} {Q : State → Prop} {cc : ByteArray} {own : String} {nL : Nat} {G : va_G} {aC : Nat → ClassId} {t b0 : Nat} {N N1 : AH} {pc index : Nat} {ls : Array Slot} {rest : List Value} {v0 : Nat} {r : Int32} (w1 : Cond.methodLink own index yX9_groupCount ∈ WT) (X : CX cc own nL G aC t b0 p s m args c) (hR : Rp G aC b0 N H) (hS : va_S (fun q => b0 ≤ q) s.heap H locs) (h : f_X9_groupCount v0 N = some (r, N1)) (hls : ls.size = nL) (hW : (rest.map fun v => v.category).sum ≤ 8) (hR1 : 1 ≤ R.frames ∧ 20 ≤ R.locals) (hcs : cells + 0 ≤ R.cells ∧ slots + 0 ≤ R.slots) (hdg : decode cc pc = .ok (.invokevirtual index, 3)) (kk : ∀ (H1 : Heap) (locs1 : List Loc), Rp G aC b0 N1 H1 → va_S (fun q => b0 ≤ q) s.heap H1 locs1 → W p l e R s m args below meth c H1 locs1 cells slots Q (F0 m (pc + 3) ls (.int r :: rest))) : W p l e R s m args below meth c H locs cells slots Q (F0 m pc ls (.ref v0 :: rest)) :=
  ab_callV (n := 0) (As := []) X hR hS (ct_X9_groupCount h) (ob_rc (c := 9) (N := N) (a := v0) h) (T := TX9) (k := 6) (C := RX9) rfl w1 (WT_of 739 (by decide +kernel) (by decide +kernel)) (WT_of 740 (by decide +kernel) (by decide +kernel)) (WT_of 81 (by decide +kernel) (by decide +kernel)) cw_X9_groupCount ⟨rfl, by decide +kernel, by decide +kernel, by decide +kernel⟩ rfl hls hW hR1 hcs rfl hdg kk
-- X9_isGroup
theorem dX9_isGroup_0 : decode cX9_isGroup 0 = .ok (.iload_n 1, 1) := by decide +kernel
theorem dX9_isGroup_1 : decode cX9_isGroup 1 = .ok (.aload_n 0, 1) := by decide +kernel
theorem dX9_isGroup_2 : decode cX9_isGroup 2 = .ok (.getfield 19, 3) := by decide +kernel
theorem dX9_isGroup_5 : decode cX9_isGroup 5 = .ok (.getfield 90, 3) := by decide +kernel
theorem dX9_isGroup_8 : decode cX9_isGroup 8 = .ok (.invokestatic 72, 3) := by decide +kernel
theorem dX9_isGroup_11 : decode cX9_isGroup 11 = .ok (.ireturn, 1) := by decide +kernel
def rm_X9_isGroup : Room := { frames := 1, cells := 0, slots := 0, locals := 21 }
section
variable {p : Program} {l : Launch} {e : Env} {s : State} {m : MethodId} {args : Array Value} {below : List Frame} {meth : Method} {c : Code} {Q : State → Prop} {G : va_G} {aC : Nat → ClassId} {t b0 : Nat}
def f_X9_isGroup (v0 : Nat) (v1 : Int32) (N : AH) : Option (Int32 × AH) := ob (iO N v0 9) (fun _ => ob (hR N v0 9 1) (fun x1 => ob (hI N x1 7 6) (fun x2 => ob2 (f_X9_isOneOf v1 x2 N) (fun x4 N3 => rZ x4 N3))))
set_option maxHeartbeats 4000000 in
set_option maxRecDepth 100000 in
theorem wk_X9_isGroup {P : Int32 × AH → Prop} (X : CX cX9_isGroup RX9 2 G aC t b0 p s m args c) (hr : RtZ p l e rm_X9_isGroup s m args below meth c 0 0 Q cX9_isGroup G aC b0 P) (v0 : Nat) (v1 : Int32) (N : AH) (H : Heap) (locs : List Loc) (ls : Array Slot) (hR : Rp G aC b0 N H) (hS : va_S (fun q => b0 ≤ q) s.heap H locs) (hl : lv_has ls 2 [(0, .ref v0), (1, .int v1)]) (hp : owp (f_X9_isGroup v0 v1 N) P) : W p l e rm_X9_isGroup s m args below meth c H locs 0 0 Q (F0 m 0 ls []) := by
  have hx := X.1.1
  have hb := X.1.2.1
  unfold f_X9_isGroup at hp
  obtain ⟨_, _, hp⟩ := owp_ob hp
  refine lv_iload_n hx hb dX9_isGroup_0 rfl (lv_at hl 1 rfl) ?_
  refine lv_aload_n hx hb dX9_isGroup_1 rfl (lv_at hl 0 rfl) ?_
  obtain ⟨x1, e_x1, hp⟩ := owp_ob hp
  refine gf_X9_19 X hR e_x1 dX9_isGroup_2 ?_
  obtain ⟨x2, e_x2, hp⟩ := owp_ob hp
  refine gf_X9_90 X hR e_x2 dX9_isGroup_5 ?_
  obtain ⟨x4, N3, e_N3, hp⟩ := owp_ob2 hp
  refine iv_X9_isOneOf (rest := []) mw_X9_72 X hR hS e_N3 hl.1 (Nat.le_of_ble_eq_true rfl) ⟨Nat.le_of_ble_eq_true rfl, Nat.le_of_ble_eq_true rfl⟩ ⟨Nat.le_of_ble_eq_true rfl, Nat.le_of_ble_eq_true rfl⟩ dX9_isGroup_8 (fun H locs hR hS => ?_)
  exact hr _ _ _ _ _ _ hR hS dX9_isGroup_11 hp
end
theorem ct_X9_isGroup {v0 : Nat} {v1 : Int32} {N N1 : AH} {r : Int32} (h : f_X9_isGroup v0 v1 N = some (r, N1)) : Ct yX9_isGroup cX9_isGroup 2 (some .boolean) rm_X9_isGroup [.ref v0, .int v1] N (some (.int r)) N1 :=
  ab_met (own := RX9) (by decide +kernel) rfl (Nat.le_of_ble_eq_true rfl) (fun l G aC t b0 p e s m below meth c ls X hr hlk hnm hR hS hl => wk_X9_isGroup X (RtZ_met X.1.1 X.1.2.1 hr hlk) _ _ _ _ _ _ hR hS hl (owp_of h))
theorem cw_X9_isGroup : Cond.code yX9_isGroup cX9_isGroup 2 (some .boolean) ∈ WT := WT_of 749 (by decide +kernel) (by decide +kernel)
theorem iv_X9_isGroup {p : Program} {l : Launch} {e : Env} {R : Room} {s : State} {m : MethodId} {args : Array Value} {below : List Frame} {meth : Method} {c : Code} {H : Heap} {locs : List Loc} {cells slots : Nat} {Q : State → Prop} {cc : ByteArray} {own : String} {nL : Nat} {G : va_G} {aC : Nat → ClassId} {t b0 : Nat} {N N1 : AH} {pc index : Nat} {ls : Array Slot} {rest : List Value} {v0 : Nat} {v1 : Int32} {r : Int32} (w1 : Cond.methodLink own index yX9_isGroup ∈ WT) (X : CX cc own nL G aC t b0 p s m args c) (hR : Rp G aC b0 N H) (hS : va_S (fun q => b0 ≤ q) s.heap H locs) (h : f_X9_isGroup v0 v1 N = some (r, N1)) (hls : ls.size = nL) (hW : (rest.map fun v => v.category).sum ≤ 8) (hR1 : 2 ≤ R.frames ∧ 42 ≤ R.locals) (hcs : cells + 0 ≤ R.cells ∧ slots + 0 ≤ R.slots) (hdg : decode cc pc = .ok (.invokevirtual index, 3)) (kk : ∀ (H1 : Heap) (locs1 : List Loc), Rp G aC b0 N1 H1 → va_S (fun q => b0 ≤ q) s.heap H1 locs1 → W p l e R s m args below meth c H1 locs1 cells slots Q (F0 m (pc + 3) ls (.int r :: rest))) : W p l e R s m args below meth c H locs cells slots Q (F0 m pc ls (.int v1 :: .ref v0 :: rest)) :=
  ab_callV (n := 1) (As := [.int v1]) X hR hS (ct_X9_isGroup h) (ob_rc (c := 9) (N := N) (a := v0) h) (T := TX9) (k := 6) (C := RX9) rfl w1 (WT_of 748 (by decide +kernel) (by decide +kernel)) (WT_of 21 (by decide +kernel) (by decide +kernel)) (WT_of 81 (by decide +kernel) (by decide +kernel)) cw_X9_isGroup ⟨rfl, by decide +kernel, by decide +kernel, by decide +kernel⟩ rfl hls hW hR1 hcs rfl hdg kk
-- X9_state
theorem gf_X9_138 {p : Program} {l : Launch} {e : Env} {R : Room} {s : State} {m : MethodId} {args : Array Value} {below : List Frame} {meth : Method} {c : Code} {H : Heap} {locs : List Loc} {cells slots : Nat} {Q : State → Prop} {cc : ByteArray} {nL : Nat} {G : va_G} {aC : Nat → ClassId} {t b0 : Nat} {N : AH} {pc : Nat} {ls : Array Slot} {rest : List Value} {a : Nat} {v : Nat} (X : CX cc RX9 nL G aC t b0 p s m args c) (hR0 : Rp G aC b0 N H) (hv : hR N a 7 10 = some v) (hdg : decode cc pc = .ok (.getfield 138, 3)) (kk : W p l e R s m args below meth c H locs cells slots Q (F0 m (pc + 3) ls (.ref v :: rest))) : W p l e R s m args below meth c H locs cells slots Q (F0 m pc ls (.ref a :: rest)) := by
  obtain ⟨fs, h1, h2⟩ := hR_ok hv
  exact ab_get (C := RX7) (T := TX7) (n := 12) X hR0 h1 h2 rfl inX7 (by decide) (WT_of 292 (by decide +kernel) (by decide +kernel)) hdg kk
theorem mw_X9_135 : Cond.methodLink RX9 135 yX9_isGroup ∈ WT := WT_of 746 (by decide +kernel) (by decide +kernel)
theorem mw_X9_142 : Cond.methodLink RX9 142 yX4_stateAt ∈ WT := WT_of 750 (by decide +kernel) (by decide +kernel)
theorem dX9_state_0 : decode cX9_state 0 = .ok (.aload_n 0, 1) := by decide +kernel
theorem dX9_state_1 : decode cX9_state 1 = .ok (.iload_n 1, 1) := by decide +kernel
theorem dX9_state_2 : decode cX9_state 2 = .ok (.invokevirtual 135, 3) := by decide +kernel
theorem dX9_state_5 : decode cX9_state 5 = .ok (.ifCond .eq 25, 3) := by decide +kernel
theorem dX9_state_8 : decode cX9_state 8 = .ok (.aload_n 0, 1) := by decide +kernel
theorem dX9_state_9 : decode cX9_state 9 = .ok (.getfield 19, 3) := by decide +kernel
theorem dX9_state_12 : decode cX9_state 12 = .ok (.getfield 138, 3) := by decide +kernel
theorem dX9_state_15 : decode cX9_state 15 = .ok (.iload_n 1, 1) := by decide +kernel
theorem dX9_state_16 : decode cX9_state 16 = .ok (.aaload, 1) := by decide +kernel
theorem dX9_state_17 : decode cX9_state 17 = .ok (.aload_n 0, 1) := by decide +kernel
theorem dX9_state_18 : decode cX9_state 18 = .ok (.getfield 19, 3) := by decide +kernel
theorem dX9_state_21 : decode cX9_state 21 = .ok (.getfield 132, 3) := by decide +kernel
theorem dX9_state_24 : decode cX9_state 24 = .ok (.invokevirtual 142, 3) := by decide +kernel
theorem dX9_state_27 : decode cX9_state 27 = .ok (.goto 5, 3) := by decide +kernel
theorem dX9_state_30 : decode cX9_state 30 = .ok (.bipush (-2), 2) := by decide +kernel
theorem dX9_state_32 : decode cX9_state 32 = .ok (.ireturn, 1) := by decide +kernel
def rm_X9_state : Room := { frames := 2, cells := 0, slots := 0, locals := 42 }
section
variable {p : Program} {l : Launch} {e : Env} {s : State} {m : MethodId} {args : Array Value} {below : List Frame} {meth : Method} {c : Code} {Q : State → Prop} {G : va_G} {aC : Nat → ClassId} {t b0 : Nat}
def f_X9_state (v0 : Nat) (v1 : Int32) (N : AH) : Option (Int32 × AH) := ob (iO N v0 9) (fun _ => ob2 (f_X9_isGroup v0 v1 N) (fun x2 N1 => if x2 = 0 then some ((-2 : Int32), N1) else ob (hR N1 v0 9 1) (fun x4 => ob (hR N1 x4 7 10) (fun x5 => ob (aR N1 2 x5 v1) (fun x6 => ob (hR N1 v0 9 1) (fun x7 => ob (hI N1 x7 7 0) (fun x8 => ob2 (f_X4_stateAt x6 x8 N1) (fun x10 N9 => some (x10, N9)))))))))
set_option maxHeartbeats 4000000 in
set_option maxRecDepth 100000 in
theorem wk_X9_state {P : Int32 × AH → Prop} (X : CX cX9_state RX9 2 G aC t b0 p s m args c) (hr : RtI p l e rm_X9_state s m args below meth c 0 0 Q cX9_state G aC b0 P) (v0 : Nat) (v1 : Int32) (N : AH) (H : Heap) (locs : List Loc) (ls : Array Slot) (hR : Rp G aC b0 N H) (hS : va_S (fun q => b0 ≤ q) s.heap H locs) (hl : lv_has ls 2 [(0, .ref v0), (1, .int v1)]) (hp : owp (f_X9_state v0 v1 N) P) : W p l e rm_X9_state s m args below meth c H locs 0 0 Q (F0 m 0 ls []) := by
  have hx := X.1.1
  have hb := X.1.2.1
  unfold f_X9_state at hp
  obtain ⟨_, _, hp⟩ := owp_ob hp
  refine lv_aload_n hx hb dX9_state_0 rfl (lv_at hl 0 rfl) ?_
  refine lv_iload_n hx hb dX9_state_1 rfl (lv_at hl 1 rfl) ?_
  obtain ⟨x2, N1, e_N1, hp⟩ := owp_ob2 hp
  refine iv_X9_isGroup (rest := []) mw_X9_135 X hR hS e_N1 hl.1 (Nat.le_of_ble_eq_true rfl) ⟨Nat.le_of_ble_eq_true rfl, Nat.le_of_ble_eq_true rfl⟩ ⟨Nat.le_of_ble_eq_true rfl, Nat.le_of_ble_eq_true rfl⟩ dX9_state_2 (fun H locs hR hS => ?_)
  refine lv_if_eq (tgt := 30) hx hb dX9_state_5 (by decide) (fun k3 => ?_) (fun k3 => ?_)
  · have hp := owp_t k3 hp
    refine lv_bipush (v := (-2)) hx hb dX9_state_30 (by decide) ?_
    exact hr _ _ _ _ _ _ hR hS dX9_state_32 hp
  · have hp := owp_f k3 hp
    refine lv_aload_n hx hb dX9_state_8 rfl (lv_at hl 0 rfl) ?_
    obtain ⟨x4, e_x4, hp⟩ := owp_ob hp
    refine gf_X9_19 X hR e_x4 dX9_state_9 ?_
    obtain ⟨x5, e_x5, hp⟩ := owp_ob hp
    refine gf_X9_138 X hR e_x5 dX9_state_12 ?_
    refine lv_iload_n hx hb dX9_state_15 rfl (lv_at hl 1 rfl) ?_
    obtain ⟨x6, e_x6, hp⟩ := owp_ob hp
    refine ab_aald X hR (kd := 2) rfl e_x6 dX9_state_16 ?_
    refine lv_aload_n hx hb dX9_state_17 rfl (lv_at hl 0 rfl) ?_
    obtain ⟨x7, e_x7, hp⟩ := owp_ob hp
    refine gf_X9_19 X hR e_x7 dX9_state_18 ?_
    obtain ⟨x8, e_x8, hp⟩ := owp_ob hp
    refine gf_X9_132 X hR e_x8 dX9_state_21 ?_
    obtain ⟨x10, N9, e_N9, hp⟩ := owp_ob2 hp
    refine iv_X4_stateAt (rest := []) mw_X9_142 X hR hS e_N9 hl.1 (Nat.le_of_ble_eq_true rfl) ⟨Nat.le_of_ble_eq_true rfl, Nat.le_of_ble_eq_true rfl⟩ ⟨Nat.le_of_ble_eq_true rfl, Nat.le_of_ble_eq_true rfl⟩ dX9_state_24 (fun H locs hR hS => ?_)
    refine lv_goto (tgt := 32) hx hb dX9_state_27 (by decide) ?_
    exact hr _ _ _ _ _ _ hR hS dX9_state_32 hp
end
theorem ct_X9_state {v0 : Nat} {v1 : Int32} {N N1 : AH} {r : Int32} (h : f_X9_state v0 v1 N = some (r, N1)) : Ct yX9_state cX9_state 2 (some .int) rm_X9_state [.ref v0, .int v1] N (some (.int r)) N1 :=
  ab_met (own := RX9) (by decide +kernel) rfl (Nat.le_of_ble_eq_true rfl) (fun l G aC t b0 p e s m below meth c ls X hr hlk hnm hR hS hl => wk_X9_state X (RtI_met X.1.1 X.1.2.1 hr hlk) _ _ _ _ _ _ hR hS hl (owp_of h))
theorem cw_X9_state : Cond.code yX9_state cX9_state 2 (some .int) ∈ WT := WT_of 745 (by decide +kernel) (by decide +kernel)
theorem iv_X9_state {p : Program} {l : Launch} {e : Env} {R : Room} {s : State} {m : MethodId} {args : Array Value} {below : List Frame} {meth : Method} {c : Code} {H : Heap} {locs : List Loc} {cells slots : Nat} {Q : State → Prop} {cc : ByteArray} {own : String} {nL : Nat} {G : va_G} {aC : Nat → ClassId} {t b0 : Nat} {N N1 : AH} {pc index : Nat} {ls : Array Slot} {rest : List Value} {v0 : Nat} {v1 : Int32} {r : Int32} (w1 : Cond.methodLink own index yX9_state ∈ WT) (X : CX cc own nL G aC t b0 p s m args c) (hR : Rp G aC b0 N H) (hS : va_S (fun q => b0 ≤ q) s.heap H locs) (h : f_X9_state v0 v1 N = some (r, N1)) (hls : ls.size = nL) (hW : (rest.map fun v => v.category).sum ≤ 8) (hR1 : 3 ≤ R.frames ∧ 63 ≤ R.locals) (hcs : cells + 0 ≤ R.cells ∧ slots + 0 ≤ R.slots) (hdg : decode cc pc = .ok (.invokevirtual index, 3)) (kk : ∀ (H1 : Heap) (locs1 : List Loc), Rp G aC b0 N1 H1 → va_S (fun q => b0 ≤ q) s.heap H1 locs1 → W p l e R s m args below meth c H1 locs1 cells slots Q (F0 m (pc + 3) ls (.int r :: rest))) : W p l e R s m args below meth c H locs cells slots Q (F0 m pc ls (.int v1 :: .ref v0 :: rest)) :=
  ab_callV (n := 1) (As := [.int v1]) X hR hS (ct_X9_state h) (ob_rc (c := 9) (N := N) (a := v0) h) (T := TX9) (k := 6) (C := RX9) rfl w1 (WT_of 743 (by decide +kernel) (by decide +kernel)) (WT_of 744 (by decide +kernel) (by decide +kernel)) (WT_of 81 (by decide +kernel) (by decide +kernel)) cw_X9_state ⟨rfl, by decide +kernel, by decide +kernel, by decide +kernel⟩ rfl hls hW hR1 hcs rfl hdg kk
-- X9_arrival
theorem gf_X9_147 {p : Program} {l : Launch} {e : Env} {R : Room} {s : State} {m : MethodId} {args : Array Value} {below : List Frame} {meth : Method} {c : Code} {H : Heap} {locs : List Loc} {cells slots : Nat} {Q : State → Prop} {cc : ByteArray} {nL : Nat} {G : va_G} {aC : Nat → ClassId} {t b0 : Nat} {N : AH} {pc : Nat} {ls : Array Slot} {rest : List Value} {a : Nat} {v : Int32} (X : CX cc RX9 nL G aC t b0 p s m args c) (hR0 : Rp G aC b0 N H) (hv : hI N a 4 0 = some v) (hdg : decode cc pc = .ok (.getfield 147, 3)) (kk : W p l e R s m args below meth c H locs cells slots Q (F0 m (pc + 3) ls (.int v :: rest))) : W p l e R s m args below meth c H locs cells slots Q (F0 m pc ls (.ref a :: rest)) := by
  obtain ⟨fs, h1, h2⟩ := hI_ok hv
  exact ab_get (C := RX4) (T := TX4) (n := 6) X hR0 h1 h2 rfl inX4 (by decide) (WT_of 192 (by decide +kernel) (by decide +kernel)) hdg kk
theorem dX9_arrival_0 : decode cX9_arrival 0 = .ok (.aload_n 0, 1) := by decide +kernel
theorem dX9_arrival_1 : decode cX9_arrival 1 = .ok (.iload_n 1, 1) := by decide +kernel
theorem dX9_arrival_2 : decode cX9_arrival 2 = .ok (.invokevirtual 135, 3) := by decide +kernel
theorem dX9_arrival_5 : decode cX9_arrival 5 = .ok (.ifCond .eq 18, 3) := by decide +kernel
theorem dX9_arrival_8 : decode cX9_arrival 8 = .ok (.aload_n 0, 1) := by decide +kernel
theorem dX9_arrival_9 : decode cX9_arrival 9 = .ok (.getfield 19, 3) := by decide +kernel
theorem dX9_arrival_12 : decode cX9_arrival 12 = .ok (.getfield 138, 3) := by decide +kernel
theorem dX9_arrival_15 : decode cX9_arrival 15 = .ok (.iload_n 1, 1) := by decide +kernel
theorem dX9_arrival_16 : decode cX9_arrival 16 = .ok (.aaload, 1) := by decide +kernel
theorem dX9_arrival_17 : decode cX9_arrival 17 = .ok (.getfield 147, 3) := by decide +kernel
theorem dX9_arrival_20 : decode cX9_arrival 20 = .ok (.goto 5, 3) := by decide +kernel
theorem dX9_arrival_23 : decode cX9_arrival 23 = .ok (.bipush (-2), 2) := by decide +kernel
theorem dX9_arrival_25 : decode cX9_arrival 25 = .ok (.ireturn, 1) := by decide +kernel
def rm_X9_arrival : Room := { frames := 2, cells := 0, slots := 0, locals := 42 }
section
variable {p : Program} {l : Launch} {e : Env} {s : State} {m : MethodId} {args : Array Value} {below : List Frame} {meth : Method} {c : Code} {Q : State → Prop} {G : va_G} {aC : Nat → ClassId} {t b0 : Nat}
def f_X9_arrival (v0 : Nat) (v1 : Int32) (N : AH) : Option (Int32 × AH) := ob (iO N v0 9) (fun _ => ob2 (f_X9_isGroup v0 v1 N) (fun x2 N1 => if x2 = 0 then some ((-2 : Int32), N1) else ob (hR N1 v0 9 1) (fun x4 => ob (hR N1 x4 7 10) (fun x5 => ob (aR N1 2 x5 v1) (fun x6 => ob (hI N1 x6 4 0) (fun x7 => some (x7, N1)))))))
set_option maxHeartbeats 4000000 in
set_option maxRecDepth 100000 in
theorem wk_X9_arrival {P : Int32 × AH → Prop} (X : CX cX9_arrival RX9 2 G aC t b0 p s m args c) (hr : RtI p l e rm_X9_arrival s m args below meth c 0 0 Q cX9_arrival G aC b0 P) (v0 : Nat) (v1 : Int32) (N : AH) (H : Heap) (locs : List Loc) (ls : Array Slot) (hR : Rp G aC b0 N H) (hS : va_S (fun q => b0 ≤ q) s.heap H locs) (hl : lv_has ls 2 [(0, .ref v0), (1, .int v1)]) (hp : owp (f_X9_arrival v0 v1 N) P) : W p l e rm_X9_arrival s m args below meth c H locs 0 0 Q (F0 m 0 ls []) := by
  have hx := X.1.1
  have hb := X.1.2.1
  unfold f_X9_arrival at hp
  obtain ⟨_, _, hp⟩ := owp_ob hp
  refine lv_aload_n hx hb dX9_arrival_0 rfl (lv_at hl 0 rfl) ?_
  refine lv_iload_n hx hb dX9_arrival_1 rfl (lv_at hl 1 rfl) ?_
  obtain ⟨x2, N1, e_N1, hp⟩ := owp_ob2 hp
  refine iv_X9_isGroup (rest := []) mw_X9_135 X hR hS e_N1 hl.1 (Nat.le_of_ble_eq_true rfl) ⟨Nat.le_of_ble_eq_true rfl, Nat.le_of_ble_eq_true rfl⟩ ⟨Nat.le_of_ble_eq_true rfl, Nat.le_of_ble_eq_true rfl⟩ dX9_arrival_2 (fun H locs hR hS => ?_)
  refine lv_if_eq (tgt := 23) hx hb dX9_arrival_5 (by decide) (fun k3 => ?_) (fun k3 => ?_)
  · have hp := owp_t k3 hp
    refine lv_bipush (v := (-2)) hx hb dX9_arrival_23 (by decide) ?_
    exact hr _ _ _ _ _ _ hR hS dX9_arrival_25 hp
  · have hp := owp_f k3 hp
    refine lv_aload_n hx hb dX9_arrival_8 rfl (lv_at hl 0 rfl) ?_
    obtain ⟨x4, e_x4, hp⟩ := owp_ob hp
    refine gf_X9_19 X hR e_x4 dX9_arrival_9 ?_
    obtain ⟨x5, e_x5, hp⟩ := owp_ob hp
    refine gf_X9_138 X hR e_x5 dX9_arrival_12 ?_
    refine lv_iload_n hx hb dX9_arrival_15 rfl (lv_at hl 1 rfl) ?_
    obtain ⟨x6, e_x6, hp⟩ := owp_ob hp
    refine ab_aald X hR (kd := 2) rfl e_x6 dX9_arrival_16 ?_
    obtain ⟨x7, e_x7, hp⟩ := owp_ob hp
    refine gf_X9_147 X hR e_x7 dX9_arrival_17 ?_
    refine lv_goto (tgt := 25) hx hb dX9_arrival_20 (by decide) ?_
    exact hr _ _ _ _ _ _ hR hS dX9_arrival_25 hp
end
theorem ct_X9_arrival {v0 : Nat} {v1 : Int32} {N N1 : AH} {r : Int32} (h : f_X9_arrival v0 v1 N = some (r, N1)) : Ct yX9_arrival cX9_arrival 2 (some .int) rm_X9_arrival [.ref v0, .int v1] N (some (.int r)) N1 :=
  ab_met (own := RX9) (by decide +kernel) rfl (Nat.le_of_ble_eq_true rfl) (fun l G aC t b0 p e s m below meth c ls X hr hlk hnm hR hS hl => wk_X9_arrival X (RtI_met X.1.1 X.1.2.1 hr hlk) _ _ _ _ _ _ hR hS hl (owp_of h))
theorem cw_X9_arrival : Cond.code yX9_arrival cX9_arrival 2 (some .int) ∈ WT := WT_of 754 (by decide +kernel) (by decide +kernel)
theorem iv_X9_arrival {p : Program} {l : Launch} {e : Env} {R : Room} {s : State} {m : MethodId} {args : Array Value} {below : List Frame} {meth : Method} {c : Code} {H : Heap} {locs : List Loc} {cells slots : Nat} {Q : State → Prop} {cc : ByteArray} {own : String} {nL : Nat} {G : va_G} {aC : Nat → ClassId} {t b0 : Nat} {N N1 : AH} {pc index : Nat} {ls : Array Slot} {rest : List Value} {v0 : Nat} {v1 : Int32} {r : Int32} (w1 : Cond.methodLink own index yX9_arrival ∈ WT) (X : CX cc own nL G aC t b0 p s m args c) (hR : Rp G aC b0 N H) (hS : va_S (fun q => b0 ≤ q) s.heap H locs) (h : f_X9_arrival v0 v1 N = some (r, N1)) (hls : ls.size = nL) (hW : (rest.map fun v => v.category).sum ≤ 8) (hR1 : 3 ≤ R.frames ∧ 63 ≤ R.locals) (hcs : cells + 0 ≤ R.cells ∧ slots + 0 ≤ R.slots) (hdg : decode cc pc = .ok (.invokevirtual index, 3)) (kk : ∀ (H1 : Heap) (locs1 : List Loc), Rp G aC b0 N1 H1 → va_S (fun q => b0 ≤ q) s.heap H1 locs1 → W p l e R s m args below meth c H1 locs1 cells slots Q (F0 m (pc + 3) ls (.int r :: rest))) : W p l e R s m args below meth c H locs cells slots Q (F0 m pc ls (.int v1 :: .ref v0 :: rest)) :=
  ab_callV (n := 1) (As := [.int v1]) X hR hS (ct_X9_arrival h) (ob_rc (c := 9) (N := N) (a := v0) h) (T := TX9) (k := 6) (C := RX9) rfl w1 (WT_of 752 (by decide +kernel) (by decide +kernel)) (WT_of 753 (by decide +kernel) (by decide +kernel)) (WT_of 81 (by decide +kernel) (by decide +kernel)) cw_X9_arrival ⟨rfl, by decide +kernel, by decide +kernel, by decide +kernel⟩ rfl hls hW hR1 hcs rfl hdg kk
-- X9_end
theorem gf_X9_150 {p : Program} {l : Launch} {e : Env} {R : Room} {s : State} {m : MethodId} {args : Array Value} {below : List Frame} {meth : Method} {c : Code} {H : Heap} {locs : List Loc} {cells slots : Nat} {Q : State → Prop} {cc : ByteArray} {nL : Nat} {G : va_G} {aC : Nat → ClassId} {t b0 : Nat} {N : AH} {pc : Nat} {ls : Array Slot} {rest : List Value} {a : Nat} {v : Int32} (X : CX cc RX9 nL G aC t b0 p s m args c) (hR0 : Rp G aC b0 N H) (hv : hI N a 4 3 = some v) (hdg : decode cc pc = .ok (.getfield 150, 3)) (kk : W p l e R s m args below meth c H locs cells slots Q (F0 m (pc + 3) ls (.int v :: rest))) : W p l e R s m args below meth c H locs cells slots Q (F0 m pc ls (.ref a :: rest)) := by
  obtain ⟨fs, h1, h2⟩ := hI_ok hv
  exact ab_get (C := RX4) (T := TX4) (n := 6) X hR0 h1 h2 rfl inX4 (by decide) (WT_of 206 (by decide +kernel) (by decide +kernel)) hdg kk
theorem dX9_end_0 : decode cX9_end 0 = .ok (.aload_n 0, 1) := by decide +kernel
theorem dX9_end_1 : decode cX9_end 1 = .ok (.iload_n 1, 1) := by decide +kernel
theorem dX9_end_2 : decode cX9_end 2 = .ok (.invokevirtual 135, 3) := by decide +kernel
theorem dX9_end_5 : decode cX9_end 5 = .ok (.ifCond .eq 18, 3) := by decide +kernel
theorem dX9_end_8 : decode cX9_end 8 = .ok (.aload_n 0, 1) := by decide +kernel
theorem dX9_end_9 : decode cX9_end 9 = .ok (.getfield 19, 3) := by decide +kernel
theorem dX9_end_12 : decode cX9_end 12 = .ok (.getfield 138, 3) := by decide +kernel
theorem dX9_end_15 : decode cX9_end 15 = .ok (.iload_n 1, 1) := by decide +kernel
theorem dX9_end_16 : decode cX9_end 16 = .ok (.aaload, 1) := by decide +kernel
theorem dX9_end_17 : decode cX9_end 17 = .ok (.getfield 150, 3) := by decide +kernel
theorem dX9_end_20 : decode cX9_end 20 = .ok (.goto 5, 3) := by decide +kernel
theorem dX9_end_23 : decode cX9_end 23 = .ok (.bipush (-2), 2) := by decide +kernel
theorem dX9_end_25 : decode cX9_end 25 = .ok (.ireturn, 1) := by decide +kernel
def rm_X9_end : Room := { frames := 2, cells := 0, slots := 0, locals := 42 }
section
variable {p : Program} {l : Launch} {e : Env} {s : State} {m : MethodId} {args : Array Value} {below : List Frame} {meth : Method} {c : Code} {Q : State → Prop} {G : va_G} {aC : Nat → ClassId} {t b0 : Nat}
def f_X9_end (v0 : Nat) (v1 : Int32) (N : AH) : Option (Int32 × AH) := ob (iO N v0 9) (fun _ => ob2 (f_X9_isGroup v0 v1 N) (fun x2 N1 => if x2 = 0 then some ((-2 : Int32), N1) else ob (hR N1 v0 9 1) (fun x4 => ob (hR N1 x4 7 10) (fun x5 => ob (aR N1 2 x5 v1) (fun x6 => ob (hI N1 x6 4 3) (fun x7 => some (x7, N1)))))))
set_option maxHeartbeats 4000000 in
set_option maxRecDepth 100000 in
theorem wk_X9_end {P : Int32 × AH → Prop} (X : CX cX9_end RX9 2 G aC t b0 p s m args c) (hr : RtI p l e rm_X9_end s m args below meth c 0 0 Q cX9_end G aC b0 P) (v0 : Nat) (v1 : Int32) (N : AH) (H : Heap) (locs : List Loc) (ls : Array Slot) (hR : Rp G aC b0 N H) (hS : va_S (fun q => b0 ≤ q) s.heap H locs) (hl : lv_has ls 2 [(0, .ref v0), (1, .int v1)]) (hp : owp (f_X9_end v0 v1 N) P) : W p l e rm_X9_end s m args below meth c H locs 0 0 Q (F0 m 0 ls []) := by
  have hx := X.1.1
  have hb := X.1.2.1
  unfold f_X9_end at hp
  obtain ⟨_, _, hp⟩ := owp_ob hp
  refine lv_aload_n hx hb dX9_end_0 rfl (lv_at hl 0 rfl) ?_
  refine lv_iload_n hx hb dX9_end_1 rfl (lv_at hl 1 rfl) ?_
  obtain ⟨x2, N1, e_N1, hp⟩ := owp_ob2 hp
  refine iv_X9_isGroup (rest := []) mw_X9_135 X hR hS e_N1 hl.1 (Nat.le_of_ble_eq_true rfl) ⟨Nat.le_of_ble_eq_true rfl, Nat.le_of_ble_eq_true rfl⟩ ⟨Nat.le_of_ble_eq_true rfl, Nat.le_of_ble_eq_true rfl⟩ dX9_end_2 (fun H locs hR hS => ?_)
  refine lv_if_eq (tgt := 23) hx hb dX9_end_5 (by decide) (fun k3 => ?_) (fun k3 => ?_)
  · have hp := owp_t k3 hp
    refine lv_bipush (v := (-2)) hx hb dX9_end_23 (by decide) ?_
    exact hr _ _ _ _ _ _ hR hS dX9_end_25 hp
  · have hp := owp_f k3 hp
    refine lv_aload_n hx hb dX9_end_8 rfl (lv_at hl 0 rfl) ?_
    obtain ⟨x4, e_x4, hp⟩ := owp_ob hp
    refine gf_X9_19 X hR e_x4 dX9_end_9 ?_
    obtain ⟨x5, e_x5, hp⟩ := owp_ob hp
    refine gf_X9_138 X hR e_x5 dX9_end_12 ?_
    refine lv_iload_n hx hb dX9_end_15 rfl (lv_at hl 1 rfl) ?_
    obtain ⟨x6, e_x6, hp⟩ := owp_ob hp
    refine ab_aald X hR (kd := 2) rfl e_x6 dX9_end_16 ?_
    obtain ⟨x7, e_x7, hp⟩ := owp_ob hp
    refine gf_X9_150 X hR e_x7 dX9_end_17 ?_
    refine lv_goto (tgt := 25) hx hb dX9_end_20 (by decide) ?_
    exact hr _ _ _ _ _ _ hR hS dX9_end_25 hp
end
theorem ct_X9_end {v0 : Nat} {v1 : Int32} {N N1 : AH} {r : Int32} (h : f_X9_end v0 v1 N = some (r, N1)) : Ct yX9_end cX9_end 2 (some .int) rm_X9_end [.ref v0, .int v1] N (some (.int r)) N1 :=
  ab_met (own := RX9) (by decide +kernel) rfl (Nat.le_of_ble_eq_true rfl) (fun l G aC t b0 p e s m below meth c ls X hr hlk hnm hR hS hl => wk_X9_end X (RtI_met X.1.1 X.1.2.1 hr hlk) _ _ _ _ _ _ hR hS hl (owp_of h))
theorem cw_X9_end : Cond.code yX9_end cX9_end 2 (some .int) ∈ WT := WT_of 758 (by decide +kernel) (by decide +kernel)
theorem iv_X9_end {p : Program} {l : Launch} {e : Env} {R : Room} {s : State} {m : MethodId} {args : Array Value} {below : List Frame} {meth : Method} {c : Code} {H : Heap} {locs : List Loc} {cells slots : Nat} {Q : State → Prop} {cc : ByteArray} {own : String} {nL : Nat} {G : va_G} {aC : Nat → ClassId} {t b0 : Nat} {N N1 : AH} {pc index : Nat} {ls : Array Slot} {rest : List Value} {v0 : Nat} {v1 : Int32} {r : Int32} (w1 : Cond.methodLink own index yX9_end ∈ WT) (X : CX cc own nL G aC t b0 p s m args c) (hR : Rp G aC b0 N H) (hS : va_S (fun q => b0 ≤ q) s.heap H locs) (h : f_X9_end v0 v1 N = some (r, N1)) (hls : ls.size = nL) (hW : (rest.map fun v => v.category).sum ≤ 8) (hR1 : 3 ≤ R.frames ∧ 63 ≤ R.locals) (hcs : cells + 0 ≤ R.cells ∧ slots + 0 ≤ R.slots) (hdg : decode cc pc = .ok (.invokevirtual index, 3)) (kk : ∀ (H1 : Heap) (locs1 : List Loc), Rp G aC b0 N1 H1 → va_S (fun q => b0 ≤ q) s.heap H1 locs1 → W p l e R s m args below meth c H1 locs1 cells slots Q (F0 m (pc + 3) ls (.int r :: rest))) : W p l e R s m args below meth c H locs cells slots Q (F0 m pc ls (.int v1 :: .ref v0 :: rest)) :=
  ab_callV (n := 1) (As := [.int v1]) X hR hS (ct_X9_end h) (ob_rc (c := 9) (N := N) (a := v0) h) (T := TX9) (k := 6) (C := RX9) rfl w1 (WT_of 756 (by decide +kernel) (by decide +kernel)) (WT_of 757 (by decide +kernel) (by decide +kernel)) (WT_of 81 (by decide +kernel) (by decide +kernel)) cw_X9_end ⟨rfl, by decide +kernel, by decide +kernel, by decide +kernel⟩ rfl hls hW hR1 hcs rfl hdg kk
-- X9_flowCount
theorem gf_X9_153 {p : Program} {l : Launch} {e : Env} {R : Room} {s : State} {m : MethodId} {args : Array Value} {below : List Frame} {meth : Method} {c : Code} {H : Heap} {locs : List Loc} {cells slots : Nat} {Q : State → Prop} {cc : ByteArray} {nL : Nat} {G : va_G} {aC : Nat → ClassId} {t b0 : Nat} {N : AH} {pc : Nat} {ls : Array Slot} {rest : List Value} {a : Nat} {v : Nat} (X : CX cc RX9 nL G aC t b0 p s m args c) (hR0 : Rp G aC b0 N H) (hv : hR N a 4 5 = some v) (hdg : decode cc pc = .ok (.getfield 153, 3)) (kk : W p l e R s m args below meth c H locs cells slots Q (F0 m (pc + 3) ls (.ref v :: rest))) : W p l e R s m args below meth c H locs cells slots Q (F0 m pc ls (.ref a :: rest)) := by
  obtain ⟨fs, h1, h2⟩ := hR_ok hv
  exact ab_get (C := RX4) (T := TX4) (n := 6) X hR0 h1 h2 rfl inX4 (by decide) (WT_of 213 (by decide +kernel) (by decide +kernel)) hdg kk
theorem dX9_flowCount_0 : decode cX9_flowCount 0 = .ok (.aload_n 0, 1) := by decide +kernel
theorem dX9_flowCount_1 : decode cX9_flowCount 1 = .ok (.iload_n 1, 1) := by decide +kernel
theorem dX9_flowCount_2 : decode cX9_flowCount 2 = .ok (.invokevirtual 135, 3) := by decide +kernel
theorem dX9_flowCount_5 : decode cX9_flowCount 5 = .ok (.ifCond .eq 21, 3) := by decide +kernel
theorem dX9_flowCount_8 : decode cX9_flowCount 8 = .ok (.aload_n 0, 1) := by decide +kernel
theorem dX9_flowCount_9 : decode cX9_flowCount 9 = .ok (.getfield 19, 3) := by decide +kernel
theorem dX9_flowCount_12 : decode cX9_flowCount 12 = .ok (.getfield 138, 3) := by decide +kernel
theorem dX9_flowCount_15 : decode cX9_flowCount 15 = .ok (.iload_n 1, 1) := by decide +kernel
theorem dX9_flowCount_16 : decode cX9_flowCount 16 = .ok (.aaload, 1) := by decide +kernel
theorem dX9_flowCount_17 : decode cX9_flowCount 17 = .ok (.getfield 153, 3) := by decide +kernel
theorem dX9_flowCount_20 : decode cX9_flowCount 20 = .ok (.getfield 63, 3) := by decide +kernel
theorem dX9_flowCount_23 : decode cX9_flowCount 23 = .ok (.goto 5, 3) := by decide +kernel
theorem dX9_flowCount_26 : decode cX9_flowCount 26 = .ok (.bipush (-2), 2) := by decide +kernel
theorem dX9_flowCount_28 : decode cX9_flowCount 28 = .ok (.ireturn, 1) := by decide +kernel
def rm_X9_flowCount : Room := { frames := 2, cells := 0, slots := 0, locals := 42 }
section
variable {p : Program} {l : Launch} {e : Env} {s : State} {m : MethodId} {args : Array Value} {below : List Frame} {meth : Method} {c : Code} {Q : State → Prop} {G : va_G} {aC : Nat → ClassId} {t b0 : Nat}
def f_X9_flowCount (v0 : Nat) (v1 : Int32) (N : AH) : Option (Int32 × AH) := ob (iO N v0 9) (fun _ => ob2 (f_X9_isGroup v0 v1 N) (fun x2 N1 => if x2 = 0 then some ((-2 : Int32), N1) else ob (hR N1 v0 9 1) (fun x4 => ob (hR N1 x4 7 10) (fun x5 => ob (aR N1 2 x5 v1) (fun x6 => ob (hR N1 x6 4 5) (fun x7 => ob (hI N1 x7 1 0) (fun x8 => some (x8, N1))))))))
set_option maxHeartbeats 4000000 in
set_option maxRecDepth 100000 in
theorem wk_X9_flowCount {P : Int32 × AH → Prop} (X : CX cX9_flowCount RX9 2 G aC t b0 p s m args c) (hr : RtI p l e rm_X9_flowCount s m args below meth c 0 0 Q cX9_flowCount G aC b0 P) (v0 : Nat) (v1 : Int32) (N : AH) (H : Heap) (locs : List Loc) (ls : Array Slot) (hR : Rp G aC b0 N H) (hS : va_S (fun q => b0 ≤ q) s.heap H locs) (hl : lv_has ls 2 [(0, .ref v0), (1, .int v1)]) (hp : owp (f_X9_flowCount v0 v1 N) P) : W p l e rm_X9_flowCount s m args below meth c H locs 0 0 Q (F0 m 0 ls []) := by
  have hx := X.1.1
  have hb := X.1.2.1
  unfold f_X9_flowCount at hp
  obtain ⟨_, _, hp⟩ := owp_ob hp
  refine lv_aload_n hx hb dX9_flowCount_0 rfl (lv_at hl 0 rfl) ?_
  refine lv_iload_n hx hb dX9_flowCount_1 rfl (lv_at hl 1 rfl) ?_
  obtain ⟨x2, N1, e_N1, hp⟩ := owp_ob2 hp
  refine iv_X9_isGroup (rest := []) mw_X9_135 X hR hS e_N1 hl.1 (Nat.le_of_ble_eq_true rfl) ⟨Nat.le_of_ble_eq_true rfl, Nat.le_of_ble_eq_true rfl⟩ ⟨Nat.le_of_ble_eq_true rfl, Nat.le_of_ble_eq_true rfl⟩ dX9_flowCount_2 (fun H locs hR hS => ?_)
  refine lv_if_eq (tgt := 26) hx hb dX9_flowCount_5 (by decide) (fun k3 => ?_) (fun k3 => ?_)
  · have hp := owp_t k3 hp
    refine lv_bipush (v := (-2)) hx hb dX9_flowCount_26 (by decide) ?_
    exact hr _ _ _ _ _ _ hR hS dX9_flowCount_28 hp
  · have hp := owp_f k3 hp
    refine lv_aload_n hx hb dX9_flowCount_8 rfl (lv_at hl 0 rfl) ?_
    obtain ⟨x4, e_x4, hp⟩ := owp_ob hp
    refine gf_X9_19 X hR e_x4 dX9_flowCount_9 ?_
    obtain ⟨x5, e_x5, hp⟩ := owp_ob hp
    refine gf_X9_138 X hR e_x5 dX9_flowCount_12 ?_
    refine lv_iload_n hx hb dX9_flowCount_15 rfl (lv_at hl 1 rfl) ?_
    obtain ⟨x6, e_x6, hp⟩ := owp_ob hp
    refine ab_aald X hR (kd := 2) rfl e_x6 dX9_flowCount_16 ?_
    obtain ⟨x7, e_x7, hp⟩ := owp_ob hp
    refine gf_X9_153 X hR e_x7 dX9_flowCount_17 ?_
    obtain ⟨x8, e_x8, hp⟩ := owp_ob hp
    refine gf_X9_63 X hR e_x8 dX9_flowCount_20 ?_
    refine lv_goto (tgt := 28) hx hb dX9_flowCount_23 (by decide) ?_
    exact hr _ _ _ _ _ _ hR hS dX9_flowCount_28 hp
end
theorem ct_X9_flowCount {v0 : Nat} {v1 : Int32} {N N1 : AH} {r : Int32} (h : f_X9_flowCount v0 v1 N = some (r, N1)) : Ct yX9_flowCount cX9_flowCount 2 (some .int) rm_X9_flowCount [.ref v0, .int v1] N (some (.int r)) N1 :=
  ab_met (own := RX9) (by decide +kernel) rfl (Nat.le_of_ble_eq_true rfl) (fun l G aC t b0 p e s m below meth c ls X hr hlk hnm hR hS hl => wk_X9_flowCount X (RtI_met X.1.1 X.1.2.1 hr hlk) _ _ _ _ _ _ hR hS hl (owp_of h))
theorem cw_X9_flowCount : Cond.code yX9_flowCount cX9_flowCount 2 (some .int) ∈ WT := WT_of 762 (by decide +kernel) (by decide +kernel)
theorem iv_X9_flowCount {p : Program} {l : Launch} {e : Env} {R : Room} {s : State} {m : MethodId} {args : Array Value} {below : List Frame} {meth : Method} {c : Code} {H : Heap} {locs : List Loc} {cells slots : Nat} {Q : State → Prop} {cc : ByteArray} {own : String} {nL : Nat} {G : va_G} {aC : Nat → ClassId} {t b0 : Nat} {N N1 : AH} {pc index : Nat} {ls : Array Slot} {rest : List Value} {v0 : Nat} {v1 : Int32} {r : Int32} (w1 : Cond.methodLink own index yX9_flowCount ∈ WT) (X : CX cc own nL G aC t b0 p s m args c) (hR : Rp G aC b0 N H) (hS : va_S (fun q => b0 ≤ q) s.heap H locs) (h : f_X9_flowCount v0 v1 N = some (r, N1)) (hls : ls.size = nL) (hW : (rest.map fun v => v.category).sum ≤ 8) (hR1 : 3 ≤ R.frames ∧ 63 ≤ R.locals) (hcs : cells + 0 ≤ R.cells ∧ slots + 0 ≤ R.slots) (hdg : decode cc pc = .ok (.invokevirtual index, 3)) (kk : ∀ (H1 : Heap) (locs1 : List Loc), Rp G aC b0 N1 H1 → va_S (fun q => b0 ≤ q) s.heap H1 locs1 → W p l e R s m args below meth c H1 locs1 cells slots Q (F0 m (pc + 3) ls (.int r :: rest))) : W p l e R s m args below meth c H locs cells slots Q (F0 m pc ls (.int v1 :: .ref v0 :: rest)) :=
  ab_callV (n := 1) (As := [.int v1]) X hR hS (ct_X9_flowCount h) (ob_rc (c := 9) (N := N) (a := v0) h) (T := TX9) (k := 6) (C := RX9) rfl w1 (WT_of 760 (by decide +kernel) (by decide +kernel)) (WT_of 761 (by decide +kernel) (by decide +kernel)) (WT_of 81 (by decide +kernel) (by decide +kernel)) cw_X9_flowCount ⟨rfl, by decide +kernel, by decide +kernel, by decide +kernel⟩ rfl hls hW hR1 hcs rfl hdg kk
-- X9_isFlow
theorem dX9_isFlow_0 : decode cX9_isFlow 0 = .ok (.aload_n 0, 1) := by decide +kernel
theorem dX9_isFlow_1 : decode cX9_isFlow 1 = .ok (.iload_n 1, 1) := by decide +kernel
theorem dX9_isFlow_2 : decode cX9_isFlow 2 = .ok (.invokevirtual 135, 3) := by decide +kernel
theorem dX9_isFlow_5 : decode cX9_isFlow 5 = .ok (.ifCond .eq 29, 3) := by decide +kernel
theorem dX9_isFlow_8 : decode cX9_isFlow 8 = .ok (.iload_n 2, 1) := by decide +kernel
theorem dX9_isFlow_9 : decode cX9_isFlow 9 = .ok (.aload_n 0, 1) := by decide +kernel
theorem dX9_isFlow_10 : decode cX9_isFlow 10 = .ok (.getfield 19, 3) := by decide +kernel
theorem dX9_isFlow_13 : decode cX9_isFlow 13 = .ok (.getfield 138, 3) := by decide +kernel
theorem dX9_isFlow_16 : decode cX9_isFlow 16 = .ok (.iload_n 1, 1) := by decide +kernel
theorem dX9_isFlow_17 : decode cX9_isFlow 17 = .ok (.aaload, 1) := by decide +kernel
theorem dX9_isFlow_18 : decode cX9_isFlow 18 = .ok (.getfield 153, 3) := by decide +kernel
theorem dX9_isFlow_21 : decode cX9_isFlow 21 = .ok (.getfield 63, 3) := by decide +kernel
theorem dX9_isFlow_24 : decode cX9_isFlow 24 = .ok (.invokestatic 72, 3) := by decide +kernel
theorem dX9_isFlow_27 : decode cX9_isFlow 27 = .ok (.ifCond .eq 7, 3) := by decide +kernel
theorem dX9_isFlow_30 : decode cX9_isFlow 30 = .ok (.iconst 1, 1) := by decide +kernel
theorem dX9_isFlow_31 : decode cX9_isFlow 31 = .ok (.goto 4, 3) := by decide +kernel
theorem dX9_isFlow_34 : decode cX9_isFlow 34 = .ok (.iconst 0, 1) := by decide +kernel
theorem dX9_isFlow_35 : decode cX9_isFlow 35 = .ok (.ireturn, 1) := by decide +kernel
def rm_X9_isFlow : Room := { frames := 2, cells := 0, slots := 0, locals := 42 }
section
variable {p : Program} {l : Launch} {e : Env} {s : State} {m : MethodId} {args : Array Value} {below : List Frame} {meth : Method} {c : Code} {Q : State → Prop} {G : va_G} {aC : Nat → ClassId} {t b0 : Nat}
def f_X9_isFlow (v0 : Nat) (v1 : Int32) (v2 : Int32) (N : AH) : Option (Int32 × AH) := ob (iO N v0 9) (fun _ => ob2 (f_X9_isGroup v0 v1 N) (fun x2 N1 => if x2 = 0 then some ((0 : Int32), N1) else ob (hR N1 v0 9 1) (fun x4 => ob (hR N1 x4 7 10) (fun x5 => ob (aR N1 2 x5 v1) (fun x6 => ob (hR N1 x6 4 5) (fun x7 => ob (hI N1 x7 1 0) (fun x8 => ob2 (f_X9_isOneOf v2 x8 N1) (fun x10 N9 => if x10 = 0 then some ((0 : Int32), N9) else some ((1 : Int32), N9)))))))))
set_option maxHeartbeats 4000000 in
set_option maxRecDepth 100000 in
theorem wk_X9_isFlow {P : Int32 × AH → Prop} (X : CX cX9_isFlow RX9 3 G aC t b0 p s m args c) (hr : RtZ p l e rm_X9_isFlow s m args below meth c 0 0 Q cX9_isFlow G aC b0 P) (v0 : Nat) (v1 : Int32) (v2 : Int32) (N : AH) (H : Heap) (locs : List Loc) (ls : Array Slot) (hR : Rp G aC b0 N H) (hS : va_S (fun q => b0 ≤ q) s.heap H locs) (hl : lv_has ls 3 [(0, .ref v0), (1, .int v1), (2, .int v2)]) (hp : owp (f_X9_isFlow v0 v1 v2 N) P) : W p l e rm_X9_isFlow s m args below meth c H locs 0 0 Q (F0 m 0 ls []) := by
  have hx := X.1.1
  have hb := X.1.2.1
  unfold f_X9_isFlow at hp
  obtain ⟨_, _, hp⟩ := owp_ob hp
  refine lv_aload_n hx hb dX9_isFlow_0 rfl (lv_at hl 0 rfl) ?_
  refine lv_iload_n hx hb dX9_isFlow_1 rfl (lv_at hl 1 rfl) ?_
  obtain ⟨x2, N1, e_N1, hp⟩ := owp_ob2 hp
  refine iv_X9_isGroup (rest := []) mw_X9_135 X hR hS e_N1 hl.1 (Nat.le_of_ble_eq_true rfl) ⟨Nat.le_of_ble_eq_true rfl, Nat.le_of_ble_eq_true rfl⟩ ⟨Nat.le_of_ble_eq_true rfl, Nat.le_of_ble_eq_true rfl⟩ dX9_isFlow_2 (fun H locs hR hS => ?_)
  refine lv_if_eq (tgt := 34) hx hb dX9_isFlow_5 (by decide) (fun k3 => ?_) (fun k3 => ?_)
  · have hp := owp_t k3 hp
    refine lv_iconst (v := (0)) hx hb dX9_isFlow_34 (by decide) ?_
    exact hr _ _ _ _ _ _ hR hS dX9_isFlow_35 (rZ_0 hp)
  · have hp := owp_f k3 hp
    refine lv_iload_n hx hb dX9_isFlow_8 rfl (lv_at hl 2 rfl) ?_
    refine lv_aload_n hx hb dX9_isFlow_9 rfl (lv_at hl 0 rfl) ?_
    obtain ⟨x4, e_x4, hp⟩ := owp_ob hp
    refine gf_X9_19 X hR e_x4 dX9_isFlow_10 ?_
    obtain ⟨x5, e_x5, hp⟩ := owp_ob hp
    refine gf_X9_138 X hR e_x5 dX9_isFlow_13 ?_
    refine lv_iload_n hx hb dX9_isFlow_16 rfl (lv_at hl 1 rfl) ?_
    obtain ⟨x6, e_x6, hp⟩ := owp_ob hp
    refine ab_aald X hR (kd := 2) rfl e_x6 dX9_isFlow_17 ?_
    obtain ⟨x7, e_x7, hp⟩ := owp_ob hp
    refine gf_X9_153 X hR e_x7 dX9_isFlow_18 ?_
    obtain ⟨x8, e_x8, hp⟩ := owp_ob hp
    refine gf_X9_63 X hR e_x8 dX9_isFlow_21 ?_
    obtain ⟨x10, N9, e_N9, hp⟩ := owp_ob2 hp
    refine iv_X9_isOneOf (rest := []) mw_X9_72 X hR hS e_N9 hl.1 (Nat.le_of_ble_eq_true rfl) ⟨Nat.le_of_ble_eq_true rfl, Nat.le_of_ble_eq_true rfl⟩ ⟨Nat.le_of_ble_eq_true rfl, Nat.le_of_ble_eq_true rfl⟩ dX9_isFlow_24 (fun H locs hR hS => ?_)
    refine lv_if_eq (tgt := 34) hx hb dX9_isFlow_27 (by decide) (fun k11 => ?_) (fun k11 => ?_)
    · have hp := owp_t k11 hp
      refine lv_iconst (v := (0)) hx hb dX9_isFlow_34 (by decide) ?_
      exact hr _ _ _ _ _ _ hR hS dX9_isFlow_35 (rZ_0 hp)
    · have hp := owp_f k11 hp
      refine lv_iconst (v := (1)) hx hb dX9_isFlow_30 (by decide) ?_
      refine lv_goto (tgt := 35) hx hb dX9_isFlow_31 (by decide) ?_
      exact hr _ _ _ _ _ _ hR hS dX9_isFlow_35 (rZ_1 hp)
end
theorem ct_X9_isFlow {v0 : Nat} {v1 : Int32} {v2 : Int32} {N N1 : AH} {r : Int32} (h : f_X9_isFlow v0 v1 v2 N = some (r, N1)) : Ct yX9_isFlow cX9_isFlow 3 (some .boolean) rm_X9_isFlow [.ref v0, .int v1, .int v2] N (some (.int r)) N1 :=
  ab_met (own := RX9) (by decide +kernel) rfl (Nat.le_of_ble_eq_true rfl) (fun l G aC t b0 p e s m below meth c ls X hr hlk hnm hR hS hl => wk_X9_isFlow X (RtZ_met X.1.1 X.1.2.1 hr hlk) _ _ _ _ _ _ _ hR hS hl (owp_of h))
theorem cw_X9_isFlow : Cond.code yX9_isFlow cX9_isFlow 3 (some .boolean) ∈ WT := WT_of 770 (by decide +kernel) (by decide +kernel)
theorem iv_X9_isFlow {p : Program} {l : Launch} {e : Env} {R : Room} {s : State} {m : MethodId} {args : Array Value} {below : List Frame} {meth : Method} {c : Code} {H : Heap} {locs : List Loc} {cells slots : Nat} {Q : State → Prop} {cc : ByteArray} {own : String} {nL : Nat} {G : va_G} {aC : Nat → ClassId} {t b0 : Nat} {N N1 : AH} {pc index : Nat} {ls : Array Slot} {rest : List Value} {v0 : Nat} {v1 : Int32} {v2 : Int32} {r : Int32} (w1 : Cond.methodLink own index yX9_isFlow ∈ WT) (X : CX cc own nL G aC t b0 p s m args c) (hR : Rp G aC b0 N H) (hS : va_S (fun q => b0 ≤ q) s.heap H locs) (h : f_X9_isFlow v0 v1 v2 N = some (r, N1)) (hls : ls.size = nL) (hW : (rest.map fun v => v.category).sum ≤ 8) (hR1 : 3 ≤ R.frames ∧ 64 ≤ R.locals) (hcs : cells + 0 ≤ R.cells ∧ slots + 0 ≤ R.slots) (hdg : decode cc pc = .ok (.invokevirtual index, 3)) (kk : ∀ (H1 : Heap) (locs1 : List Loc), Rp G aC b0 N1 H1 → va_S (fun q => b0 ≤ q) s.heap H1 locs1 → W p l e R s m args below meth c H1 locs1 cells slots Q (F0 m (pc + 3) ls (.int r :: rest))) : W p l e R s m args below meth c H locs cells slots Q (F0 m pc ls (.int v2 :: .int v1 :: .ref v0 :: rest)) :=
  ab_callV (n := 2) (As := [.int v1, .int v2]) X hR hS (ct_X9_isFlow h) (ob_rc (c := 9) (N := N) (a := v0) h) (T := TX9) (k := 6) (C := RX9) rfl w1 (WT_of 769 (by decide +kernel) (by decide +kernel)) (WT_of 22 (by decide +kernel) (by decide +kernel)) (WT_of 81 (by decide +kernel) (by decide +kernel)) cw_X9_isFlow ⟨rfl, by decide +kernel, by decide +kernel, by decide +kernel⟩ rfl hls hW hR1 hcs rfl hdg kk
-- X9_flowPart
theorem gf_X9_159 {p : Program} {l : Launch} {e : Env} {R : Room} {s : State} {m : MethodId} {args : Array Value} {below : List Frame} {meth : Method} {c : Code} {H : Heap} {locs : List Loc} {cells slots : Nat} {Q : State → Prop} {cc : ByteArray} {nL : Nat} {G : va_G} {aC : Nat → ClassId} {t b0 : Nat} {N : AH} {pc : Nat} {ls : Array Slot} {rest : List Value} {a : Nat} {v : Nat} (X : CX cc RX9 nL G aC t b0 p s m args c) (hR0 : Rp G aC b0 N H) (hv : hR N a 1 1 = some v) (hdg : decode cc pc = .ok (.getfield 159, 3)) (kk : W p l e R s m args below meth c H locs cells slots Q (F0 m (pc + 3) ls (.ref v :: rest))) : W p l e R s m args below meth c H locs cells slots Q (F0 m pc ls (.ref a :: rest)) := by
  obtain ⟨fs, h1, h2⟩ := hR_ok hv
  exact ab_get (C := RX1) (T := TX1) (n := 6) X hR0 h1 h2 rfl inX1 (by decide) (WT_of 124 (by decide +kernel) (by decide +kernel)) hdg kk
theorem gf_X9_162 {p : Program} {l : Launch} {e : Env} {R : Room} {s : State} {m : MethodId} {args : Array Value} {below : List Frame} {meth : Method} {c : Code} {H : Heap} {locs : List Loc} {cells slots : Nat} {Q : State → Prop} {cc : ByteArray} {nL : Nat} {G : va_G} {aC : Nat → ClassId} {t b0 : Nat} {N : AH} {pc : Nat} {ls : Array Slot} {rest : List Value} {a : Nat} {v : Nat} (X : CX cc RX9 nL G aC t b0 p s m args c) (hR0 : Rp G aC b0 N H) (hv : hR N a 1 2 = some v) (hdg : decode cc pc = .ok (.getfield 162, 3)) (kk : W p l e R s m args below meth c H locs cells slots Q (F0 m (pc + 3) ls (.ref v :: rest))) : W p l e R s m args below meth c H locs cells slots Q (F0 m pc ls (.ref a :: rest)) := by
  obtain ⟨fs, h1, h2⟩ := hR_ok hv
  exact ab_get (C := RX1) (T := TX1) (n := 6) X hR0 h1 h2 rfl inX1 (by decide) (WT_of 128 (by decide +kernel) (by decide +kernel)) hdg kk
theorem gf_X9_165 {p : Program} {l : Launch} {e : Env} {R : Room} {s : State} {m : MethodId} {args : Array Value} {below : List Frame} {meth : Method} {c : Code} {H : Heap} {locs : List Loc} {cells slots : Nat} {Q : State → Prop} {cc : ByteArray} {nL : Nat} {G : va_G} {aC : Nat → ClassId} {t b0 : Nat} {N : AH} {pc : Nat} {ls : Array Slot} {rest : List Value} {a : Nat} {v : Nat} (X : CX cc RX9 nL G aC t b0 p s m args c) (hR0 : Rp G aC b0 N H) (hv : hR N a 1 3 = some v) (hdg : decode cc pc = .ok (.getfield 165, 3)) (kk : W p l e R s m args below meth c H locs cells slots Q (F0 m (pc + 3) ls (.ref v :: rest))) : W p l e R s m args below meth c H locs cells slots Q (F0 m pc ls (.ref a :: rest)) := by
  obtain ⟨fs, h1, h2⟩ := hR_ok hv
  exact ab_get (C := RX1) (T := TX1) (n := 6) X hR0 h1 h2 rfl inX1 (by decide) (WT_of 131 (by decide +kernel) (by decide +kernel)) hdg kk
theorem gf_X9_168 {p : Program} {l : Launch} {e : Env} {R : Room} {s : State} {m : MethodId} {args : Array Value} {below : List Frame} {meth : Method} {c : Code} {H : Heap} {locs : List Loc} {cells slots : Nat} {Q : State → Prop} {cc : ByteArray} {nL : Nat} {G : va_G} {aC : Nat → ClassId} {t b0 : Nat} {N : AH} {pc : Nat} {ls : Array Slot} {rest : List Value} {a : Nat} {v : Nat} (X : CX cc RX9 nL G aC t b0 p s m args c) (hR0 : Rp G aC b0 N H) (hv : hR N a 1 4 = some v) (hdg : decode cc pc = .ok (.getfield 168, 3)) (kk : W p l e R s m args below meth c H locs cells slots Q (F0 m (pc + 3) ls (.ref v :: rest))) : W p l e R s m args below meth c H locs cells slots Q (F0 m pc ls (.ref a :: rest)) := by
  obtain ⟨fs, h1, h2⟩ := hR_ok hv
  exact ab_get (C := RX1) (T := TX1) (n := 6) X hR0 h1 h2 rfl inX1 (by decide) (WT_of 135 (by decide +kernel) (by decide +kernel)) hdg kk
theorem gf_X9_171 {p : Program} {l : Launch} {e : Env} {R : Room} {s : State} {m : MethodId} {args : Array Value} {below : List Frame} {meth : Method} {c : Code} {H : Heap} {locs : List Loc} {cells slots : Nat} {Q : State → Prop} {cc : ByteArray} {nL : Nat} {G : va_G} {aC : Nat → ClassId} {t b0 : Nat} {N : AH} {pc : Nat} {ls : Array Slot} {rest : List Value} {a : Nat} {v : Nat} (X : CX cc RX9 nL G aC t b0 p s m args c) (hR0 : Rp G aC b0 N H) (hv : hR N a 1 5 = some v) (hdg : decode cc pc = .ok (.getfield 171, 3)) (kk : W p l e R s m args below meth c H locs cells slots Q (F0 m (pc + 3) ls (.ref v :: rest))) : W p l e R s m args below meth c H locs cells slots Q (F0 m pc ls (.ref a :: rest)) := by
  obtain ⟨fs, h1, h2⟩ := hR_ok hv
  exact ab_get (C := RX1) (T := TX1) (n := 6) X hR0 h1 h2 rfl inX1 (by decide) (WT_of 138 (by decide +kernel) (by decide +kernel)) hdg kk
theorem mw_X9_156 : Cond.methodLink RX9 156 yX9_isFlow ∈ WT := WT_of 767 (by decide +kernel) (by decide +kernel)
theorem dX9_flowPart_0 : decode cX9_flowPart 0 = .ok (.aload_n 0, 1) := by decide +kernel
theorem dX9_flowPart_1 : decode cX9_flowPart 1 = .ok (.iload_n 1, 1) := by decide +kernel
theorem dX9_flowPart_2 : decode cX9_flowPart 2 = .ok (.iload_n 2, 1) := by decide +kernel
theorem dX9_flowPart_3 : decode cX9_flowPart 3 = .ok (.invokevirtual 156, 3) := by decide +kernel
theorem dX9_flowPart_6 : decode cX9_flowPart 6 = .ok (.ifCond .ne 6, 3) := by decide +kernel
theorem dX9_flowPart_9 : decode cX9_flowPart 9 = .ok (.bipush (-2), 2) := by decide +kernel
theorem dX9_flowPart_11 : decode cX9_flowPart 11 = .ok (.ireturn, 1) := by decide +kernel
theorem dX9_flowPart_12 : decode cX9_flowPart 12 = .ok (.aload_n 0, 1) := by decide +kernel
theorem dX9_flowPart_13 : decode cX9_flowPart 13 = .ok (.getfield 19, 3) := by decide +kernel
theorem dX9_flowPart_16 : decode cX9_flowPart 16 = .ok (.getfield 138, 3) := by decide +kernel
theorem dX9_flowPart_19 : decode cX9_flowPart 19 = .ok (.iload_n 1, 1) := by decide +kernel
theorem dX9_flowPart_20 : decode cX9_flowPart 20 = .ok (.aaload, 1) := by decide +kernel
theorem dX9_flowPart_21 : decode cX9_flowPart 21 = .ok (.getfield 153, 3) := by decide +kernel
theorem dX9_flowPart_24 : decode cX9_flowPart 24 = .ok (.astore 4, 2) := by decide +kernel
theorem dX9_flowPart_26 : decode cX9_flowPart 26 = .ok (.iload_n 3, 1) := by decide +kernel
theorem dX9_flowPart_27 : decode cX9_flowPart 27 = .ok (.tableswitch 73 0 4 #[33, 41, 49, 57, 65], 33) := by decide +kernel
theorem dX9_flowPart_60 : decode cX9_flowPart 60 = .ok (.aload 4, 2) := by decide +kernel
theorem dX9_flowPart_62 : decode cX9_flowPart 62 = .ok (.getfield 159, 3) := by decide +kernel
theorem dX9_flowPart_65 : decode cX9_flowPart 65 = .ok (.iload_n 2, 1) := by decide +kernel
theorem dX9_flowPart_66 : decode cX9_flowPart 66 = .ok (.iaload, 1) := by decide +kernel
theorem dX9_flowPart_67 : decode cX9_flowPart 67 = .ok (.ireturn, 1) := by decide +kernel
theorem dX9_flowPart_68 : decode cX9_flowPart 68 = .ok (.aload 4, 2) := by decide +kernel
theorem dX9_flowPart_70 : decode cX9_flowPart 70 = .ok (.getfield 162, 3) := by decide +kernel
theorem dX9_flowPart_73 : decode cX9_flowPart 73 = .ok (.iload_n 2, 1) := by decide +kernel
theorem dX9_flowPart_74 : decode cX9_flowPart 74 = .ok (.iaload, 1) := by decide +kernel
theorem dX9_flowPart_75 : decode cX9_flowPart 75 = .ok (.ireturn, 1) := by decide +kernel
theorem dX9_flowPart_76 : decode cX9_flowPart 76 = .ok (.aload 4, 2) := by decide +kernel
theorem dX9_flowPart_78 : decode cX9_flowPart 78 = .ok (.getfield 165, 3) := by decide +kernel
theorem dX9_flowPart_81 : decode cX9_flowPart 81 = .ok (.iload_n 2, 1) := by decide +kernel
theorem dX9_flowPart_82 : decode cX9_flowPart 82 = .ok (.iaload, 1) := by decide +kernel
theorem dX9_flowPart_83 : decode cX9_flowPart 83 = .ok (.ireturn, 1) := by decide +kernel
theorem dX9_flowPart_84 : decode cX9_flowPart 84 = .ok (.aload 4, 2) := by decide +kernel
theorem dX9_flowPart_86 : decode cX9_flowPart 86 = .ok (.getfield 168, 3) := by decide +kernel
theorem dX9_flowPart_89 : decode cX9_flowPart 89 = .ok (.iload_n 2, 1) := by decide +kernel
theorem dX9_flowPart_90 : decode cX9_flowPart 90 = .ok (.iaload, 1) := by decide +kernel
theorem dX9_flowPart_91 : decode cX9_flowPart 91 = .ok (.ireturn, 1) := by decide +kernel
theorem dX9_flowPart_92 : decode cX9_flowPart 92 = .ok (.aload 4, 2) := by decide +kernel
theorem dX9_flowPart_94 : decode cX9_flowPart 94 = .ok (.getfield 171, 3) := by decide +kernel
theorem dX9_flowPart_97 : decode cX9_flowPart 97 = .ok (.iload_n 2, 1) := by decide +kernel
theorem dX9_flowPart_98 : decode cX9_flowPart 98 = .ok (.iaload, 1) := by decide +kernel
theorem dX9_flowPart_99 : decode cX9_flowPart 99 = .ok (.ireturn, 1) := by decide +kernel
theorem dX9_flowPart_100 : decode cX9_flowPart 100 = .ok (.bipush (-3), 2) := by decide +kernel
theorem dX9_flowPart_102 : decode cX9_flowPart 102 = .ok (.ireturn, 1) := by decide +kernel
def rm_X9_flowPart : Room := { frames := 3, cells := 0, slots := 0, locals := 64 }
section
variable {p : Program} {l : Launch} {e : Env} {s : State} {m : MethodId} {args : Array Value} {below : List Frame} {meth : Method} {c : Code} {Q : State → Prop} {G : va_G} {aC : Nat → ClassId} {t b0 : Nat}
def f_X9_flowPart (v0 : Nat) (v1 : Int32) (v2 : Int32) (v3 : Int32) (N : AH) : Option (Int32 × AH) := ob (iO N v0 9) (fun _ => ob2 (f_X9_isFlow v0 v1 v2 N) (fun x2 N1 => if ¬ x2 = 0 then ob (hR N1 v0 9 1) (fun x4 => ob (hR N1 x4 7 10) (fun x5 => ob (aR N1 2 x5 v1) (fun x6 => ob (hR N1 x6 4 5) (fun x7 => if v3 = 0 then ob (hR N1 x7 1 1) (fun x8 => ob (aI N1 x8 v2) (fun x9 => some (x9, N1))) else if v3 = 1 then ob (hR N1 x7 1 2) (fun x11 => ob (aI N1 x11 v2) (fun x12 => some (x12, N1))) else if v3 = 2 then ob (hR N1 x7 1 3) (fun x14 => ob (aI N1 x14 v2) (fun x15 => some (x15, N1))) else if v3 = 3 then ob (hR N1 x7 1 4) (fun x17 => ob (aI N1 x17 v2) (fun x18 => some (x18, N1))) else if v3 = 4 then ob (hR N1 x7 1 5) (fun x20 => ob (aI N1 x20 v2) (fun x21 => some (x21, N1))) else some ((-3 : Int32), N1))))) else some ((-2 : Int32), N1)))
set_option maxHeartbeats 4000000 in
set_option maxRecDepth 100000 in
theorem wk_X9_flowPart {P : Int32 × AH → Prop} (X : CX cX9_flowPart RX9 5 G aC t b0 p s m args c) (hr : RtI p l e rm_X9_flowPart s m args below meth c 0 0 Q cX9_flowPart G aC b0 P) (v0 : Nat) (v1 : Int32) (v2 : Int32) (v3 : Int32) (N : AH) (H : Heap) (locs : List Loc) (ls : Array Slot) (hR : Rp G aC b0 N H) (hS : va_S (fun q => b0 ≤ q) s.heap H locs) (hl : lv_has ls 5 [(0, .ref v0), (1, .int v1), (2, .int v2), (3, .int v3)]) (hp : owp (f_X9_flowPart v0 v1 v2 v3 N) P) : W p l e rm_X9_flowPart s m args below meth c H locs 0 0 Q (F0 m 0 ls []) := by
  have hx := X.1.1
  have hb := X.1.2.1
  unfold f_X9_flowPart at hp
  obtain ⟨_, _, hp⟩ := owp_ob hp
  refine lv_aload_n hx hb dX9_flowPart_0 rfl (lv_at hl 0 rfl) ?_
  refine lv_iload_n hx hb dX9_flowPart_1 rfl (lv_at hl 1 rfl) ?_
  refine lv_iload_n hx hb dX9_flowPart_2 rfl (lv_at hl 2 rfl) ?_
  obtain ⟨x2, N1, e_N1, hp⟩ := owp_ob2 hp
  refine iv_X9_isFlow (rest := []) mw_X9_156 X hR hS e_N1 hl.1 (Nat.le_of_ble_eq_true rfl) ⟨Nat.le_of_ble_eq_true rfl, Nat.le_of_ble_eq_true rfl⟩ ⟨Nat.le_of_ble_eq_true rfl, Nat.le_of_ble_eq_true rfl⟩ dX9_flowPart_3 (fun H locs hR hS => ?_)
  refine lv_if_ne (tgt := 12) hx hb dX9_flowPart_6 (by decide) (fun k3 => ?_) (fun k3 => ?_)
  · have hp := owp_t k3 hp
    refine lv_aload_n hx hb dX9_flowPart_12 rfl (lv_at hl 0 rfl) ?_
    obtain ⟨x4, e_x4, hp⟩ := owp_ob hp
    refine gf_X9_19 X hR e_x4 dX9_flowPart_13 ?_
    obtain ⟨x5, e_x5, hp⟩ := owp_ob hp
    refine gf_X9_138 X hR e_x5 dX9_flowPart_16 ?_
    refine lv_iload_n hx hb dX9_flowPart_19 rfl (lv_at hl 1 rfl) ?_
    obtain ⟨x6, e_x6, hp⟩ := owp_ob hp
    refine ab_aald X hR (kd := 2) rfl e_x6 dX9_flowPart_20 ?_
    obtain ⟨x7, e_x7, hp⟩ := owp_ob hp
    refine gf_X9_153 X hR e_x7 dX9_flowPart_21 ?_
    refine lv_astore (lv' := [(4, .ref x7), (0, .ref v0), (1, .int v1), (2, .int v2), (3, .int v3)]) hx hb dX9_flowPart_24 hl (by decide) rfl (fun ls hl => ?_)
    refine lv_iload_n hx hb dX9_flowPart_26 rfl (lv_at hl 4 rfl) ?_
    by_cases k10 : v3 = 0
    · have hp := owp_t k10 hp
      refine lv_tableIn (tgt := 60) (off := 33) hx hb dX9_flowPart_27 (by rw [k10]; decide) (by rw [k10]; decide) (by rw [k10]; rfl) (by decide) ?_
      refine lv_aload hx hb dX9_flowPart_60 (lv_at hl 0 rfl) ?_
      obtain ⟨x8, e_x8, hp⟩ := owp_ob hp
      refine gf_X9_159 X hR e_x8 dX9_flowPart_62 ?_
      refine lv_iload_n hx hb dX9_flowPart_65 rfl (lv_at hl 3 rfl) ?_
      obtain ⟨x9, e_x9, hp⟩ := owp_ob hp
      refine ab_iald X hR e_x9 dX9_flowPart_66 ?_
      exact hr _ _ _ _ _ _ hR hS dX9_flowPart_67 hp
    have hp := owp_f k10 hp
    by_cases k13 : v3 = 1
    · have hp := owp_t k13 hp
      refine lv_tableIn (tgt := 68) (off := 41) hx hb dX9_flowPart_27 (by rw [k13]; decide) (by rw [k13]; decide) (by rw [k13]; rfl) (by decide) ?_
      refine lv_aload hx hb dX9_flowPart_68 (lv_at hl 0 rfl) ?_
      obtain ⟨x11, e_x11, hp⟩ := owp_ob hp
      refine gf_X9_162 X hR e_x11 dX9_flowPart_70 ?_
      refine lv_iload_n hx hb dX9_flowPart_73 rfl (lv_at hl 3 rfl) ?_
      obtain ⟨x12, e_x12, hp⟩ := owp_ob hp
      refine ab_iald X hR e_x12 dX9_flowPart_74 ?_
      exact hr _ _ _ _ _ _ hR hS dX9_flowPart_75 hp
    have hp := owp_f k13 hp
    by_cases k16 : v3 = 2
    · have hp := owp_t k16 hp
      refine lv_tableIn (tgt := 76) (off := 49) hx hb dX9_flowPart_27 (by rw [k16]; decide) (by rw [k16]; decide) (by rw [k16]; rfl) (by decide) ?_
      refine lv_aload hx hb dX9_flowPart_76 (lv_at hl 0 rfl) ?_
      obtain ⟨x14, e_x14, hp⟩ := owp_ob hp
      refine gf_X9_165 X hR e_x14 dX9_flowPart_78 ?_
      refine lv_iload_n hx hb dX9_flowPart_81 rfl (lv_at hl 3 rfl) ?_
      obtain ⟨x15, e_x15, hp⟩ := owp_ob hp
      refine ab_iald X hR e_x15 dX9_flowPart_82 ?_
      exact hr _ _ _ _ _ _ hR hS dX9_flowPart_83 hp
    have hp := owp_f k16 hp
    by_cases k19 : v3 = 3
    · have hp := owp_t k19 hp
      refine lv_tableIn (tgt := 84) (off := 57) hx hb dX9_flowPart_27 (by rw [k19]; decide) (by rw [k19]; decide) (by rw [k19]; rfl) (by decide) ?_
      refine lv_aload hx hb dX9_flowPart_84 (lv_at hl 0 rfl) ?_
      obtain ⟨x17, e_x17, hp⟩ := owp_ob hp
      refine gf_X9_168 X hR e_x17 dX9_flowPart_86 ?_
      refine lv_iload_n hx hb dX9_flowPart_89 rfl (lv_at hl 3 rfl) ?_
      obtain ⟨x18, e_x18, hp⟩ := owp_ob hp
      refine ab_iald X hR e_x18 dX9_flowPart_90 ?_
      exact hr _ _ _ _ _ _ hR hS dX9_flowPart_91 hp
    have hp := owp_f k19 hp
    by_cases k22 : v3 = 4
    · have hp := owp_t k22 hp
      refine lv_tableIn (tgt := 92) (off := 65) hx hb dX9_flowPart_27 (by rw [k22]; decide) (by rw [k22]; decide) (by rw [k22]; rfl) (by decide) ?_
      refine lv_aload hx hb dX9_flowPart_92 (lv_at hl 0 rfl) ?_
      obtain ⟨x20, e_x20, hp⟩ := owp_ob hp
      refine gf_X9_171 X hR e_x20 dX9_flowPart_94 ?_
      refine lv_iload_n hx hb dX9_flowPart_97 rfl (lv_at hl 3 rfl) ?_
      obtain ⟨x21, e_x21, hp⟩ := owp_ob hp
      refine ab_iald X hR e_x21 dX9_flowPart_98 ?_
      exact hr _ _ _ _ _ _ hR hS dX9_flowPart_99 hp
    have hp := owp_f k22 hp
    have hout : Int32.toInt v3 < 0 ∨ 4 < Int32.toInt v3 := by
      have qk10 := lv_neT (a := 0) k10 (by decide)
      have qk13 := lv_neT (a := 1) k13 (by decide)
      have qk16 := lv_neT (a := 2) k16 (by decide)
      have qk19 := lv_neT (a := 3) k19 (by decide)
      have qk22 := lv_neT (a := 4) k22 (by decide)
      omega
    refine lv_tableOut (tgt := 100) hx hb dX9_flowPart_27 hout (by decide) ?_
    refine lv_bipush (v := (-3)) hx hb dX9_flowPart_100 (by decide) ?_
    exact hr _ _ _ _ _ _ hR hS dX9_flowPart_102 hp
  · have hp := owp_f (fun q => q k3) hp
    refine lv_bipush (v := (-2)) hx hb dX9_flowPart_9 (by decide) ?_
    exact hr _ _ _ _ _ _ hR hS dX9_flowPart_11 hp
end
theorem ct_X9_flowPart {v0 : Nat} {v1 : Int32} {v2 : Int32} {v3 : Int32} {N N1 : AH} {r : Int32} (h : f_X9_flowPart v0 v1 v2 v3 N = some (r, N1)) : Ct yX9_flowPart cX9_flowPart 5 (some .int) rm_X9_flowPart [.ref v0, .int v1, .int v2, .int v3] N (some (.int r)) N1 :=
  ab_met (own := RX9) (by decide +kernel) rfl (Nat.le_of_ble_eq_true rfl) (fun l G aC t b0 p e s m below meth c ls X hr hlk hnm hR hS hl => wk_X9_flowPart X (RtI_met X.1.1 X.1.2.1 hr hlk) _ _ _ _ _ _ _ _ hR hS hl (owp_of h))
theorem cw_X9_flowPart : Cond.code yX9_flowPart cX9_flowPart 5 (some .int) ∈ WT := WT_of 766 (by decide +kernel) (by decide +kernel)
theorem iv_X9_flowPart {p : Program} {l : Launch} {e : Env} {R : Room} {s : State} {m : MethodId} {args : Array Value} {below : List Frame} {meth : Method} {c : Code} {H : Heap} {locs : List Loc} {cells slots : Nat} {Q : State → Prop} {cc : ByteArray} {own : String} {nL : Nat} {G : va_G} {aC : Nat → ClassId} {t b0 : Nat} {N N1 : AH} {pc index : Nat} {ls : Array Slot} {rest : List Value} {v0 : Nat} {v1 : Int32} {v2 : Int32} {v3 : Int32} {r : Int32} (w1 : Cond.methodLink own index yX9_flowPart ∈ WT) (X : CX cc own nL G aC t b0 p s m args c) (hR : Rp G aC b0 N H) (hS : va_S (fun q => b0 ≤ q) s.heap H locs) (h : f_X9_flowPart v0 v1 v2 v3 N = some (r, N1)) (hls : ls.size = nL) (hW : (rest.map fun v => v.category).sum ≤ 8) (hR1 : 4 ≤ R.frames ∧ 88 ≤ R.locals) (hcs : cells + 0 ≤ R.cells ∧ slots + 0 ≤ R.slots) (hdg : decode cc pc = .ok (.invokevirtual index, 3)) (kk : ∀ (H1 : Heap) (locs1 : List Loc), Rp G aC b0 N1 H1 → va_S (fun q => b0 ≤ q) s.heap H1 locs1 → W p l e R s m args below meth c H1 locs1 cells slots Q (F0 m (pc + 3) ls (.int r :: rest))) : W p l e R s m args below meth c H locs cells slots Q (F0 m pc ls (.int v3 :: .int v2 :: .int v1 :: .ref v0 :: rest)) :=
  ab_callV (n := 3) (As := [.int v1, .int v2, .int v3]) X hR hS (ct_X9_flowPart h) (ob_rc (c := 9) (N := N) (a := v0) h) (T := TX9) (k := 6) (C := RX9) rfl w1 (WT_of 764 (by decide +kernel) (by decide +kernel)) (WT_of 765 (by decide +kernel) (by decide +kernel)) (WT_of 81 (by decide +kernel) (by decide +kernel)) cw_X9_flowPart ⟨rfl, by decide +kernel, by decide +kernel, by decide +kernel⟩ rfl hls hW hR1 hcs rfl hdg kk
-- X9_rest
theorem mw_X9_174 : Cond.methodLink RX9 174 yX1_sumOfRests ∈ WT := WT_of 775 (by decide +kernel) (by decide +kernel)
theorem dX9_rest_0 : decode cX9_rest 0 = .ok (.aload_n 0, 1) := by decide +kernel
theorem dX9_rest_1 : decode cX9_rest 1 = .ok (.iload_n 1, 1) := by decide +kernel
theorem dX9_rest_2 : decode cX9_rest 2 = .ok (.invokevirtual 135, 3) := by decide +kernel
theorem dX9_rest_5 : decode cX9_rest 5 = .ok (.ifCond .eq 21, 3) := by decide +kernel
theorem dX9_rest_8 : decode cX9_rest 8 = .ok (.aload_n 0, 1) := by decide +kernel
theorem dX9_rest_9 : decode cX9_rest 9 = .ok (.getfield 19, 3) := by decide +kernel
theorem dX9_rest_12 : decode cX9_rest 12 = .ok (.getfield 138, 3) := by decide +kernel
theorem dX9_rest_15 : decode cX9_rest 15 = .ok (.iload_n 1, 1) := by decide +kernel
theorem dX9_rest_16 : decode cX9_rest 16 = .ok (.aaload, 1) := by decide +kernel
theorem dX9_rest_17 : decode cX9_rest 17 = .ok (.getfield 153, 3) := by decide +kernel
theorem dX9_rest_20 : decode cX9_rest 20 = .ok (.invokevirtual 174, 3) := by decide +kernel
theorem dX9_rest_23 : decode cX9_rest 23 = .ok (.goto 5, 3) := by decide +kernel
theorem dX9_rest_26 : decode cX9_rest 26 = .ok (.bipush (-2), 2) := by decide +kernel
theorem dX9_rest_28 : decode cX9_rest 28 = .ok (.ireturn, 1) := by decide +kernel
def rm_X9_rest : Room := { frames := 2, cells := 0, slots := 0, locals := 42 }
section
variable {p : Program} {l : Launch} {e : Env} {s : State} {m : MethodId} {args : Array Value} {below : List Frame} {meth : Method} {c : Code} {Q : State → Prop} {G : va_G} {aC : Nat → ClassId} {t b0 : Nat}
def f_X9_rest (v0 : Nat) (v1 : Int32) (N : AH) : Option (Int32 × AH) := ob (iO N v0 9) (fun _ => ob2 (f_X9_isGroup v0 v1 N) (fun x2 N1 => if x2 = 0 then some ((-2 : Int32), N1) else ob (hR N1 v0 9 1) (fun x4 => ob (hR N1 x4 7 10) (fun x5 => ob (aR N1 2 x5 v1) (fun x6 => ob (hR N1 x6 4 5) (fun x7 => ob2 (f_X1_sumOfRests x7 N1) (fun x9 N8 => some (x9, N8))))))))
set_option maxHeartbeats 4000000 in
set_option maxRecDepth 100000 in
theorem wk_X9_rest {P : Int32 × AH → Prop} (X : CX cX9_rest RX9 2 G aC t b0 p s m args c) (hr : RtI p l e rm_X9_rest s m args below meth c 0 0 Q cX9_rest G aC b0 P) (v0 : Nat) (v1 : Int32) (N : AH) (H : Heap) (locs : List Loc) (ls : Array Slot) (hR : Rp G aC b0 N H) (hS : va_S (fun q => b0 ≤ q) s.heap H locs) (hl : lv_has ls 2 [(0, .ref v0), (1, .int v1)]) (hp : owp (f_X9_rest v0 v1 N) P) : W p l e rm_X9_rest s m args below meth c H locs 0 0 Q (F0 m 0 ls []) := by
  have hx := X.1.1
  have hb := X.1.2.1
  unfold f_X9_rest at hp
  obtain ⟨_, _, hp⟩ := owp_ob hp
  refine lv_aload_n hx hb dX9_rest_0 rfl (lv_at hl 0 rfl) ?_
  refine lv_iload_n hx hb dX9_rest_1 rfl (lv_at hl 1 rfl) ?_
  obtain ⟨x2, N1, e_N1, hp⟩ := owp_ob2 hp
  refine iv_X9_isGroup (rest := []) mw_X9_135 X hR hS e_N1 hl.1 (Nat.le_of_ble_eq_true rfl) ⟨Nat.le_of_ble_eq_true rfl, Nat.le_of_ble_eq_true rfl⟩ ⟨Nat.le_of_ble_eq_true rfl, Nat.le_of_ble_eq_true rfl⟩ dX9_rest_2 (fun H locs hR hS => ?_)
  refine lv_if_eq (tgt := 26) hx hb dX9_rest_5 (by decide) (fun k3 => ?_) (fun k3 => ?_)
  · have hp := owp_t k3 hp
    refine lv_bipush (v := (-2)) hx hb dX9_rest_26 (by decide) ?_
    exact hr _ _ _ _ _ _ hR hS dX9_rest_28 hp
  · have hp := owp_f k3 hp
    refine lv_aload_n hx hb dX9_rest_8 rfl (lv_at hl 0 rfl) ?_
    obtain ⟨x4, e_x4, hp⟩ := owp_ob hp
    refine gf_X9_19 X hR e_x4 dX9_rest_9 ?_
    obtain ⟨x5, e_x5, hp⟩ := owp_ob hp
    refine gf_X9_138 X hR e_x5 dX9_rest_12 ?_
    refine lv_iload_n hx hb dX9_rest_15 rfl (lv_at hl 1 rfl) ?_
    obtain ⟨x6, e_x6, hp⟩ := owp_ob hp
    refine ab_aald X hR (kd := 2) rfl e_x6 dX9_rest_16 ?_
    obtain ⟨x7, e_x7, hp⟩ := owp_ob hp
    refine gf_X9_153 X hR e_x7 dX9_rest_17 ?_
    obtain ⟨x9, N8, e_N8, hp⟩ := owp_ob2 hp
    refine iv_X1_sumOfRests (rest := []) mw_X9_174 X hR hS e_N8 hl.1 (Nat.le_of_ble_eq_true rfl) ⟨Nat.le_of_ble_eq_true rfl, Nat.le_of_ble_eq_true rfl⟩ ⟨Nat.le_of_ble_eq_true rfl, Nat.le_of_ble_eq_true rfl⟩ dX9_rest_20 (fun H locs hR hS => ?_)
    refine lv_goto (tgt := 28) hx hb dX9_rest_23 (by decide) ?_
    exact hr _ _ _ _ _ _ hR hS dX9_rest_28 hp
end
theorem ct_X9_rest {v0 : Nat} {v1 : Int32} {N N1 : AH} {r : Int32} (h : f_X9_rest v0 v1 N = some (r, N1)) : Ct yX9_rest cX9_rest 2 (some .int) rm_X9_rest [.ref v0, .int v1] N (some (.int r)) N1 :=
  ab_met (own := RX9) (by decide +kernel) rfl (Nat.le_of_ble_eq_true rfl) (fun l G aC t b0 p e s m below meth c ls X hr hlk hnm hR hS hl => wk_X9_rest X (RtI_met X.1.1 X.1.2.1 hr hlk) _ _ _ _ _ _ hR hS hl (owp_of h))
theorem cw_X9_rest : Cond.code yX9_rest cX9_rest 2 (some .int) ∈ WT := WT_of 774 (by decide +kernel) (by decide +kernel)
theorem iv_X9_rest {p : Program} {l : Launch} {e : Env} {R : Room} {s : State} {m : MethodId} {args : Array Value} {below : List Frame} {meth : Method} {c : Code} {H : Heap} {locs : List Loc} {cells slots : Nat} {Q : State → Prop} {cc : ByteArray} {own : String} {nL : Nat} {G : va_G} {aC : Nat → ClassId} {t b0 : Nat} {N N1 : AH} {pc index : Nat} {ls : Array Slot} {rest : List Value} {v0 : Nat} {v1 : Int32} {r : Int32} (w1 : Cond.methodLink own index yX9_rest ∈ WT) (X : CX cc own nL G aC t b0 p s m args c) (hR : Rp G aC b0 N H) (hS : va_S (fun q => b0 ≤ q) s.heap H locs) (h : f_X9_rest v0 v1 N = some (r, N1)) (hls : ls.size = nL) (hW : (rest.map fun v => v.category).sum ≤ 8) (hR1 : 3 ≤ R.frames ∧ 63 ≤ R.locals) (hcs : cells + 0 ≤ R.cells ∧ slots + 0 ≤ R.slots) (hdg : decode cc pc = .ok (.invokevirtual index, 3)) (kk : ∀ (H1 : Heap) (locs1 : List Loc), Rp G aC b0 N1 H1 → va_S (fun q => b0 ≤ q) s.heap H1 locs1 → W p l e R s m args below meth c H1 locs1 cells slots Q (F0 m (pc + 3) ls (.int r :: rest))) : W p l e R s m args below meth c H locs cells slots Q (F0 m pc ls (.int v1 :: .ref v0 :: rest)) :=
  ab_callV (n := 1) (As := [.int v1]) X hR hS (ct_X9_rest h) (ob_rc (c := 9) (N := N) (a := v0) h) (T := TX9) (k := 6) (C := RX9) rfl w1 (WT_of 772 (by decide +kernel) (by decide +kernel)) (WT_of 773 (by decide +kernel) (by decide +kernel)) (WT_of 81 (by decide +kernel) (by decide +kernel)) cw_X9_rest ⟨rfl, by decide +kernel, by decide +kernel, by decide +kernel⟩ rfl hls hW hR1 hcs rfl hdg kk
-- X9_level
theorem mw_X9_178 : Cond.methodLink RX9 178 yX1_levelReached ∈ WT := WT_of 780 (by decide +kernel) (by decide +kernel)
theorem dX9_level_0 : decode cX9_level 0 = .ok (.aload_n 0, 1) := by decide +kernel
theorem dX9_level_1 : decode cX9_level 1 = .ok (.iload_n 1, 1) := by decide +kernel
theorem dX9_level_2 : decode cX9_level 2 = .ok (.invokevirtual 135, 3) := by decide +kernel
theorem dX9_level_5 : decode cX9_level 5 = .ok (.ifCond .eq 21, 3) := by decide +kernel
theorem dX9_level_8 : decode cX9_level 8 = .ok (.aload_n 0, 1) := by decide +kernel
theorem dX9_level_9 : decode cX9_level 9 = .ok (.getfield 19, 3) := by decide +kernel
theorem dX9_level_12 : decode cX9_level 12 = .ok (.getfield 138, 3) := by decide +kernel
theorem dX9_level_15 : decode cX9_level 15 = .ok (.iload_n 1, 1) := by decide +kernel
theorem dX9_level_16 : decode cX9_level 16 = .ok (.aaload, 1) := by decide +kernel
theorem dX9_level_17 : decode cX9_level 17 = .ok (.getfield 153, 3) := by decide +kernel
theorem dX9_level_20 : decode cX9_level 20 = .ok (.invokevirtual 178, 3) := by decide +kernel
theorem dX9_level_23 : decode cX9_level 23 = .ok (.goto 5, 3) := by decide +kernel
theorem dX9_level_26 : decode cX9_level 26 = .ok (.bipush (-2), 2) := by decide +kernel
theorem dX9_level_28 : decode cX9_level 28 = .ok (.ireturn, 1) := by decide +kernel
def rm_X9_level : Room := { frames := 2, cells := 0, slots := 0, locals := 42 }
section
variable {p : Program} {l : Launch} {e : Env} {s : State} {m : MethodId} {args : Array Value} {below : List Frame} {meth : Method} {c : Code} {Q : State → Prop} {G : va_G} {aC : Nat → ClassId} {t b0 : Nat}
def f_X9_level (v0 : Nat) (v1 : Int32) (N : AH) : Option (Int32 × AH) := ob (iO N v0 9) (fun _ => ob2 (f_X9_isGroup v0 v1 N) (fun x2 N1 => if x2 = 0 then some ((-2 : Int32), N1) else ob (hR N1 v0 9 1) (fun x4 => ob (hR N1 x4 7 10) (fun x5 => ob (aR N1 2 x5 v1) (fun x6 => ob (hR N1 x6 4 5) (fun x7 => ob2 (f_X1_levelReached x7 N1) (fun x9 N8 => some (x9, N8))))))))
set_option maxHeartbeats 4000000 in
set_option maxRecDepth 100000 in
theorem wk_X9_level {P : Int32 × AH → Prop} (X : CX cX9_level RX9 2 G aC t b0 p s m args c) (hr : RtI p l e rm_X9_level s m args below meth c 0 0 Q cX9_level G aC b0 P) (v0 : Nat) (v1 : Int32) (N : AH) (H : Heap) (locs : List Loc) (ls : Array Slot) (hR : Rp G aC b0 N H) (hS : va_S (fun q => b0 ≤ q) s.heap H locs) (hl : lv_has ls 2 [(0, .ref v0), (1, .int v1)]) (hp : owp (f_X9_level v0 v1 N) P) : W p l e rm_X9_level s m args below meth c H locs 0 0 Q (F0 m 0 ls []) := by
  have hx := X.1.1
  have hb := X.1.2.1
  unfold f_X9_level at hp
  obtain ⟨_, _, hp⟩ := owp_ob hp
  refine lv_aload_n hx hb dX9_level_0 rfl (lv_at hl 0 rfl) ?_
  refine lv_iload_n hx hb dX9_level_1 rfl (lv_at hl 1 rfl) ?_
  obtain ⟨x2, N1, e_N1, hp⟩ := owp_ob2 hp
  refine iv_X9_isGroup (rest := []) mw_X9_135 X hR hS e_N1 hl.1 (Nat.le_of_ble_eq_true rfl) ⟨Nat.le_of_ble_eq_true rfl, Nat.le_of_ble_eq_true rfl⟩ ⟨Nat.le_of_ble_eq_true rfl, Nat.le_of_ble_eq_true rfl⟩ dX9_level_2 (fun H locs hR hS => ?_)
  refine lv_if_eq (tgt := 26) hx hb dX9_level_5 (by decide) (fun k3 => ?_) (fun k3 => ?_)
  · have hp := owp_t k3 hp
    refine lv_bipush (v := (-2)) hx hb dX9_level_26 (by decide) ?_
    exact hr _ _ _ _ _ _ hR hS dX9_level_28 hp
  · have hp := owp_f k3 hp
    refine lv_aload_n hx hb dX9_level_8 rfl (lv_at hl 0 rfl) ?_
    obtain ⟨x4, e_x4, hp⟩ := owp_ob hp
    refine gf_X9_19 X hR e_x4 dX9_level_9 ?_
    obtain ⟨x5, e_x5, hp⟩ := owp_ob hp
    refine gf_X9_138 X hR e_x5 dX9_level_12 ?_
    refine lv_iload_n hx hb dX9_level_15 rfl (lv_at hl 1 rfl) ?_
    obtain ⟨x6, e_x6, hp⟩ := owp_ob hp
    refine ab_aald X hR (kd := 2) rfl e_x6 dX9_level_16 ?_
    obtain ⟨x7, e_x7, hp⟩ := owp_ob hp
    refine gf_X9_153 X hR e_x7 dX9_level_17 ?_
    obtain ⟨x9, N8, e_N8, hp⟩ := owp_ob2 hp
    refine iv_X1_levelReached (rest := []) mw_X9_178 X hR hS e_N8 hl.1 (Nat.le_of_ble_eq_true rfl) ⟨Nat.le_of_ble_eq_true rfl, Nat.le_of_ble_eq_true rfl⟩ ⟨Nat.le_of_ble_eq_true rfl, Nat.le_of_ble_eq_true rfl⟩ dX9_level_20 (fun H locs hR hS => ?_)
    refine lv_goto (tgt := 28) hx hb dX9_level_23 (by decide) ?_
    exact hr _ _ _ _ _ _ hR hS dX9_level_28 hp
end
theorem ct_X9_level {v0 : Nat} {v1 : Int32} {N N1 : AH} {r : Int32} (h : f_X9_level v0 v1 N = some (r, N1)) : Ct yX9_level cX9_level 2 (some .int) rm_X9_level [.ref v0, .int v1] N (some (.int r)) N1 :=
  ab_met (own := RX9) (by decide +kernel) rfl (Nat.le_of_ble_eq_true rfl) (fun l G aC t b0 p e s m below meth c ls X hr hlk hnm hR hS hl => wk_X9_level X (RtI_met X.1.1 X.1.2.1 hr hlk) _ _ _ _ _ _ hR hS hl (owp_of h))
theorem cw_X9_level : Cond.code yX9_level cX9_level 2 (some .int) ∈ WT := WT_of 779 (by decide +kernel) (by decide +kernel)
theorem iv_X9_level {p : Program} {l : Launch} {e : Env} {R : Room} {s : State} {m : MethodId} {args : Array Value} {below : List Frame} {meth : Method} {c : Code} {H : Heap} {locs : List Loc} {cells slots : Nat} {Q : State → Prop} {cc : ByteArray} {own : String} {nL : Nat} {G : va_G} {aC : Nat → ClassId} {t b0 : Nat} {N N1 : AH} {pc index : Nat} {ls : Array Slot} {rest : List Value} {v0 : Nat} {v1 : Int32} {r : Int32} (w1 : Cond.methodLink own index yX9_level ∈ WT) (X : CX cc own nL G aC t b0 p s m args c) (hR : Rp G aC b0 N H) (hS : va_S (fun q => b0 ≤ q) s.heap H locs) (h : f_X9_level v0 v1 N = some (r, N1)) (hls : ls.size = nL) (hW : (rest.map fun v => v.category).sum ≤ 8) (hR1 : 3 ≤ R.frames ∧ 63 ≤ R.locals) (hcs : cells + 0 ≤ R.cells ∧ slots + 0 ≤ R.slots) (hdg : decode cc pc = .ok (.invokevirtual index, 3)) (kk : ∀ (H1 : Heap) (locs1 : List Loc), Rp G aC b0 N1 H1 → va_S (fun q => b0 ≤ q) s.heap H1 locs1 → W p l e R s m args below meth c H1 locs1 cells slots Q (F0 m (pc + 3) ls (.int r :: rest))) : W p l e R s m args below meth c H locs cells slots Q (F0 m pc ls (.int v1 :: .ref v0 :: rest)) :=
  ab_callV (n := 1) (As := [.int v1]) X hR hS (ct_X9_level h) (ob_rc (c := 9) (N := N) (a := v0) h) (T := TX9) (k := 6) (C := RX9) rfl w1 (WT_of 777 (by decide +kernel) (by decide +kernel)) (WT_of 778 (by decide +kernel) (by decide +kernel)) (WT_of 81 (by decide +kernel) (by decide +kernel)) cw_X9_level ⟨rfl, by decide +kernel, by decide +kernel, by decide +kernel⟩ rfl hls hW hR1 hcs rfl hdg kk
-- X9_loneSpan
theorem mw_X9_181 : Cond.methodLink RX9 181 yX8_spanOf ∈ WT := WT_of 785 (by decide +kernel) (by decide +kernel)
theorem dX9_loneSpan_0 : decode cX9_loneSpan 0 = .ok (.aload_n 0, 1) := by decide +kernel
theorem dX9_loneSpan_1 : decode cX9_loneSpan 1 = .ok (.iload_n 1, 1) := by decide +kernel
theorem dX9_loneSpan_2 : decode cX9_loneSpan 2 = .ok (.invokevirtual 135, 3) := by decide +kernel
theorem dX9_loneSpan_5 : decode cX9_loneSpan 5 = .ok (.ifCond .ne 6, 3) := by decide +kernel
theorem dX9_loneSpan_8 : decode cX9_loneSpan 8 = .ok (.bipush (-2), 2) := by decide +kernel
theorem dX9_loneSpan_10 : decode cX9_loneSpan 10 = .ok (.ireturn, 1) := by decide +kernel
theorem dX9_loneSpan_11 : decode cX9_loneSpan 11 = .ok (.aload_n 0, 1) := by decide +kernel
theorem dX9_loneSpan_12 : decode cX9_loneSpan 12 = .ok (.getfield 19, 3) := by decide +kernel
theorem dX9_loneSpan_15 : decode cX9_loneSpan 15 = .ok (.getfield 138, 3) := by decide +kernel
theorem dX9_loneSpan_18 : decode cX9_loneSpan 18 = .ok (.iload_n 1, 1) := by decide +kernel
theorem dX9_loneSpan_19 : decode cX9_loneSpan 19 = .ok (.aaload, 1) := by decide +kernel
theorem dX9_loneSpan_20 : decode cX9_loneSpan 20 = .ok (.astore_n 2, 1) := by decide +kernel
theorem dX9_loneSpan_21 : decode cX9_loneSpan 21 = .ok (.aload_n 2, 1) := by decide +kernel
theorem dX9_loneSpan_22 : decode cX9_loneSpan 22 = .ok (.aload_n 0, 1) := by decide +kernel
theorem dX9_loneSpan_23 : decode cX9_loneSpan 23 = .ok (.getfield 19, 3) := by decide +kernel
theorem dX9_loneSpan_26 : decode cX9_loneSpan 26 = .ok (.getfield 132, 3) := by decide +kernel
theorem dX9_loneSpan_29 : decode cX9_loneSpan 29 = .ok (.invokevirtual 142, 3) := by decide +kernel
theorem dX9_loneSpan_32 : decode cX9_loneSpan 32 = .ok (.iconst 2, 1) := by decide +kernel
theorem dX9_loneSpan_33 : decode cX9_loneSpan 33 = .ok (.if_icmp .ne 7, 3) := by decide +kernel
theorem dX9_loneSpan_36 : decode cX9_loneSpan 36 = .ok (.iconst (-1), 1) := by decide +kernel
theorem dX9_loneSpan_37 : decode cX9_loneSpan 37 = .ok (.goto 21, 3) := by decide +kernel
theorem dX9_loneSpan_40 : decode cX9_loneSpan 40 = .ok (.aload_n 0, 1) := by decide +kernel
theorem dX9_loneSpan_41 : decode cX9_loneSpan 41 = .ok (.getfield 33, 3) := by decide +kernel
theorem dX9_loneSpan_44 : decode cX9_loneSpan 44 = .ok (.aload_n 2, 1) := by decide +kernel
theorem dX9_loneSpan_45 : decode cX9_loneSpan 45 = .ok (.getfield 153, 3) := by decide +kernel
theorem dX9_loneSpan_48 : decode cX9_loneSpan 48 = .ok (.aload_n 0, 1) := by decide +kernel
theorem dX9_loneSpan_49 : decode cX9_loneSpan 49 = .ok (.getfield 19, 3) := by decide +kernel
theorem dX9_loneSpan_52 : decode cX9_loneSpan 52 = .ok (.getfield 105, 3) := by decide +kernel
theorem dX9_loneSpan_55 : decode cX9_loneSpan 55 = .ok (.invokevirtual 181, 3) := by decide +kernel
theorem dX9_loneSpan_58 : decode cX9_loneSpan 58 = .ok (.ireturn, 1) := by decide +kernel
def rm_X9_loneSpan : Room := { frames := 3, cells := 0, slots := 0, locals := 77 }
section
variable {p : Program} {l : Launch} {e : Env} {s : State} {m : MethodId} {args : Array Value} {below : List Frame} {meth : Method} {c : Code} {Q : State → Prop} {G : va_G} {aC : Nat → ClassId} {t b0 : Nat}
def f_X9_loneSpan (v0 : Nat) (v1 : Int32) (N : AH) : Option (Int32 × AH) := ob (iO N v0 9) (fun _ => ob2 (f_X9_isGroup v0 v1 N) (fun x2 N1 => if ¬ x2 = 0 then ob (hR N1 v0 9 1) (fun x4 => ob (hR N1 x4 7 10) (fun x5 => ob (aR N1 2 x5 v1) (fun x6 => ob (hR N1 v0 9 1) (fun x7 => ob (hI N1 x7 7 0) (fun x8 => ob2 (f_X4_stateAt x6 x8 N1) (fun x10 N9 => if ¬ x10 = (2 : Int32) then ob (hR N9 v0 9 3) (fun x12 => ob (hR N9 x6 4 5) (fun x13 => ob (hR N9 v0 9 1) (fun x14 => ob (hR N9 x14 7 7) (fun x15 => ob2 (f_X8_spanOf x12 x13 x15 N9) (fun x17 N16 => some (x17, N16)))))) else some ((-1 : Int32), N9))))))) else some ((-2 : Int32), N1)))
set_option maxHeartbeats 4000000 in
set_option maxRecDepth 100000 in
theorem wk_X9_loneSpan {P : Int32 × AH → Prop} (X : CX cX9_loneSpan RX9 3 G aC t b0 p s m args c) (hr : RtI p l e rm_X9_loneSpan s m args below meth c 0 0 Q cX9_loneSpan G aC b0 P) (v0 : Nat) (v1 : Int32) (N : AH) (H : Heap) (locs : List Loc) (ls : Array Slot) (hR : Rp G aC b0 N H) (hS : va_S (fun q => b0 ≤ q) s.heap H locs) (hl : lv_has ls 3 [(0, .ref v0), (1, .int v1)]) (hp : owp (f_X9_loneSpan v0 v1 N) P) : W p l e rm_X9_loneSpan s m args below meth c H locs 0 0 Q (F0 m 0 ls []) := by
  have hx := X.1.1
  have hb := X.1.2.1
  unfold f_X9_loneSpan at hp
  obtain ⟨_, _, hp⟩ := owp_ob hp
  refine lv_aload_n hx hb dX9_loneSpan_0 rfl (lv_at hl 0 rfl) ?_
  refine lv_iload_n hx hb dX9_loneSpan_1 rfl (lv_at hl 1 rfl) ?_
  obtain ⟨x2, N1, e_N1, hp⟩ := owp_ob2 hp
  refine iv_X9_isGroup (rest := []) mw_X9_135 X hR hS e_N1 hl.1 (Nat.le_of_ble_eq_true rfl) ⟨Nat.le_of_ble_eq_true rfl, Nat.le_of_ble_eq_true rfl⟩ ⟨Nat.le_of_ble_eq_true rfl, Nat.le_of_ble_eq_true rfl⟩ dX9_loneSpan_2 (fun H locs hR hS => ?_)
  refine lv_if_ne (tgt := 11) hx hb dX9_loneSpan_5 (by decide) (fun k3 => ?_) (fun k3 => ?_)
  · have hp := owp_t k3 hp
    refine lv_aload_n hx hb dX9_loneSpan_11 rfl (lv_at hl 0 rfl) ?_
    obtain ⟨x4, e_x4, hp⟩ := owp_ob hp
    refine gf_X9_19 X hR e_x4 dX9_loneSpan_12 ?_
    obtain ⟨x5, e_x5, hp⟩ := owp_ob hp
    refine gf_X9_138 X hR e_x5 dX9_loneSpan_15 ?_
    refine lv_iload_n hx hb dX9_loneSpan_18 rfl (lv_at hl 1 rfl) ?_
    obtain ⟨x6, e_x6, hp⟩ := owp_ob hp
    refine ab_aald X hR (kd := 2) rfl e_x6 dX9_loneSpan_19 ?_
    refine lv_astore_n (lv' := [(2, .ref x6), (0, .ref v0), (1, .int v1)]) hx hb dX9_loneSpan_20 rfl hl (by decide) rfl (fun ls hl => ?_)
    refine lv_aload_n hx hb dX9_loneSpan_21 rfl (lv_at hl 0 rfl) ?_
    refine lv_aload_n hx hb dX9_loneSpan_22 rfl (lv_at hl 1 rfl) ?_
    obtain ⟨x7, e_x7, hp⟩ := owp_ob hp
    refine gf_X9_19 X hR e_x7 dX9_loneSpan_23 ?_
    obtain ⟨x8, e_x8, hp⟩ := owp_ob hp
    refine gf_X9_132 X hR e_x8 dX9_loneSpan_26 ?_
    obtain ⟨x10, N9, e_N9, hp⟩ := owp_ob2 hp
    refine iv_X4_stateAt (rest := []) mw_X9_142 X hR hS e_N9 hl.1 (Nat.le_of_ble_eq_true rfl) ⟨Nat.le_of_ble_eq_true rfl, Nat.le_of_ble_eq_true rfl⟩ ⟨Nat.le_of_ble_eq_true rfl, Nat.le_of_ble_eq_true rfl⟩ dX9_loneSpan_29 (fun H locs hR hS => ?_)
    refine lv_iconst (v := (2)) hx hb dX9_loneSpan_32 (by decide) ?_
    refine lv_icmp_ne (tgt := 40) hx hb dX9_loneSpan_33 (by decide) (fun k11 => ?_) (fun k11 => ?_)
    · have hp := owp_t k11 hp
      refine lv_aload_n hx hb dX9_loneSpan_40 rfl (lv_at hl 1 rfl) ?_
      obtain ⟨x12, e_x12, hp⟩ := owp_ob hp
      refine gf_X9_33 X hR e_x12 dX9_loneSpan_41 ?_
      refine lv_aload_n hx hb dX9_loneSpan_44 rfl (lv_at hl 0 rfl) ?_
      obtain ⟨x13, e_x13, hp⟩ := owp_ob hp
      refine gf_X9_153 X hR e_x13 dX9_loneSpan_45 ?_
      refine lv_aload_n hx hb dX9_loneSpan_48 rfl (lv_at hl 1 rfl) ?_
      obtain ⟨x14, e_x14, hp⟩ := owp_ob hp
      refine gf_X9_19 X hR e_x14 dX9_loneSpan_49 ?_
      obtain ⟨x15, e_x15, hp⟩ := owp_ob hp
      refine gf_X9_105 X hR e_x15 dX9_loneSpan_52 ?_
      obtain ⟨x17, N16, e_N16, hp⟩ := owp_ob2 hp
      refine iv_X8_spanOf (rest := []) mw_X9_181 X hR hS e_N16 hl.1 (Nat.le_of_ble_eq_true rfl) ⟨Nat.le_of_ble_eq_true rfl, Nat.le_of_ble_eq_true rfl⟩ ⟨Nat.le_of_ble_eq_true rfl, Nat.le_of_ble_eq_true rfl⟩ dX9_loneSpan_55 (fun H locs hR hS => ?_)
      exact hr _ _ _ _ _ _ hR hS dX9_loneSpan_58 hp
    · have hp := owp_f (fun q => q k11) hp
      refine lv_iconst (v := (-1)) hx hb dX9_loneSpan_36 (by decide) ?_
      refine lv_goto (tgt := 58) hx hb dX9_loneSpan_37 (by decide) ?_
      exact hr _ _ _ _ _ _ hR hS dX9_loneSpan_58 hp
  · have hp := owp_f (fun q => q k3) hp
    refine lv_bipush (v := (-2)) hx hb dX9_loneSpan_8 (by decide) ?_
    exact hr _ _ _ _ _ _ hR hS dX9_loneSpan_10 hp
end
theorem ct_X9_loneSpan {v0 : Nat} {v1 : Int32} {N N1 : AH} {r : Int32} (h : f_X9_loneSpan v0 v1 N = some (r, N1)) : Ct yX9_loneSpan cX9_loneSpan 3 (some .int) rm_X9_loneSpan [.ref v0, .int v1] N (some (.int r)) N1 :=
  ab_met (own := RX9) (by decide +kernel) rfl (Nat.le_of_ble_eq_true rfl) (fun l G aC t b0 p e s m below meth c ls X hr hlk hnm hR hS hl => wk_X9_loneSpan X (RtI_met X.1.1 X.1.2.1 hr hlk) _ _ _ _ _ _ hR hS hl (owp_of h))
theorem cw_X9_loneSpan : Cond.code yX9_loneSpan cX9_loneSpan 3 (some .int) ∈ WT := WT_of 784 (by decide +kernel) (by decide +kernel)
theorem iv_X9_loneSpan {p : Program} {l : Launch} {e : Env} {R : Room} {s : State} {m : MethodId} {args : Array Value} {below : List Frame} {meth : Method} {c : Code} {H : Heap} {locs : List Loc} {cells slots : Nat} {Q : State → Prop} {cc : ByteArray} {own : String} {nL : Nat} {G : va_G} {aC : Nat → ClassId} {t b0 : Nat} {N N1 : AH} {pc index : Nat} {ls : Array Slot} {rest : List Value} {v0 : Nat} {v1 : Int32} {r : Int32} (w1 : Cond.methodLink own index yX9_loneSpan ∈ WT) (X : CX cc own nL G aC t b0 p s m args c) (hR : Rp G aC b0 N H) (hS : va_S (fun q => b0 ≤ q) s.heap H locs) (h : f_X9_loneSpan v0 v1 N = some (r, N1)) (hls : ls.size = nL) (hW : (rest.map fun v => v.category).sum ≤ 8) (hR1 : 4 ≤ R.frames ∧ 99 ≤ R.locals) (hcs : cells + 0 ≤ R.cells ∧ slots + 0 ≤ R.slots) (hdg : decode cc pc = .ok (.invokevirtual index, 3)) (kk : ∀ (H1 : Heap) (locs1 : List Loc), Rp G aC b0 N1 H1 → va_S (fun q => b0 ≤ q) s.heap H1 locs1 → W p l e R s m args below meth c H1 locs1 cells slots Q (F0 m (pc + 3) ls (.int r :: rest))) : W p l e R s m args below meth c H locs cells slots Q (F0 m pc ls (.int v1 :: .ref v0 :: rest)) :=
  ab_callV (n := 1) (As := [.int v1]) X hR hS (ct_X9_loneSpan h) (ob_rc (c := 9) (N := N) (a := v0) h) (T := TX9) (k := 6) (C := RX9) rfl w1 (WT_of 782 (by decide +kernel) (by decide +kernel)) (WT_of 783 (by decide +kernel) (by decide +kernel)) (WT_of 81 (by decide +kernel) (by decide +kernel)) cw_X9_loneSpan ⟨rfl, by decide +kernel, by decide +kernel, by decide +kernel⟩ rfl hls hW hR1 hcs rfl hdg kk
-- X9_place
theorem mw_X9_185 : Cond.methodLink RX9 185 yX8_putInOrder ∈ WT := WT_of 790 (by decide +kernel) (by decide +kernel)
theorem mw_X9_188 : Cond.methodLink RX9 188 yX8_placeOf ∈ WT := WT_of 791 (by decide +kernel) (by decide +kernel)
theorem dX9_place_0 : decode cX9_place 0 = .ok (.aload_n 0, 1) := by decide +kernel
theorem dX9_place_1 : decode cX9_place 1 = .ok (.iload_n 1, 1) := by decide +kernel
theorem dX9_place_2 : decode cX9_place 2 = .ok (.invokevirtual 135, 3) := by decide +kernel
theorem dX9_place_5 : decode cX9_place 5 = .ok (.ifCond .ne 6, 3) := by decide +kernel
theorem dX9_place_8 : decode cX9_place 8 = .ok (.bipush (-2), 2) := by decide +kernel
theorem dX9_place_10 : decode cX9_place 10 = .ok (.ireturn, 1) := by decide +kernel
theorem dX9_place_11 : decode cX9_place 11 = .ok (.aload_n 0, 1) := by decide +kernel
theorem dX9_place_12 : decode cX9_place 12 = .ok (.getfield 33, 3) := by decide +kernel
theorem dX9_place_15 : decode cX9_place 15 = .ok (.aload_n 0, 1) := by decide +kernel
theorem dX9_place_16 : decode cX9_place 16 = .ok (.getfield 19, 3) := by decide +kernel
theorem dX9_place_19 : decode cX9_place 19 = .ok (.invokevirtual 185, 3) := by decide +kernel
theorem dX9_place_22 : decode cX9_place 22 = .ok (.aload_n 0, 1) := by decide +kernel
theorem dX9_place_23 : decode cX9_place 23 = .ok (.getfield 33, 3) := by decide +kernel
theorem dX9_place_26 : decode cX9_place 26 = .ok (.iload_n 1, 1) := by decide +kernel
theorem dX9_place_27 : decode cX9_place 27 = .ok (.invokevirtual 188, 3) := by decide +kernel
theorem dX9_place_30 : decode cX9_place 30 = .ok (.ireturn, 1) := by decide +kernel
def rm_X9_place : Room := { frames := 4, cells := 0, slots := 0, locals := 101 }
section
variable {p : Program} {l : Launch} {e : Env} {s : State} {m : MethodId} {args : Array Value} {below : List Frame} {meth : Method} {c : Code} {Q : State → Prop} {G : va_G} {aC : Nat → ClassId} {t b0 : Nat}
def f_X9_place (v0 : Nat) (v1 : Int32) (N : AH) : Option (Int32 × AH) := ob (iO N v0 9) (fun _ => ob2 (f_X9_isGroup v0 v1 N) (fun x2 N1 => if ¬ x2 = 0 then ob (hR N1 v0 9 3) (fun x4 => ob (hR N1 v0 9 1) (fun x5 => ob2 (f_X8_putInOrder x4 x5 N1) (fun _ N6 => ob (hR N6 v0 9 3) (fun x7 => ob2 (f_X8_placeOf x7 v1 N6) (fun x9 N8 => some (x9, N8)))))) else some ((-2 : Int32), N1)))
set_option maxHeartbeats 4000000 in
set_option maxRecDepth 100000 in
theorem wk_X9_place {P : Int32 × AH → Prop} (X : CX cX9_place RX9 2 G aC t b0 p s m args c) (hr : RtI p l e rm_X9_place s m args below meth c 0 0 Q cX9_place G aC b0 P) (v0 : Nat) (v1 : Int32) (N : AH) (H : Heap) (locs : List Loc) (ls : Array Slot) (hR : Rp G aC b0 N H) (hS : va_S (fun q => b0 ≤ q) s.heap H locs) (hl : lv_has ls 2 [(0, .ref v0), (1, .int v1)]) (hp : owp (f_X9_place v0 v1 N) P) : W p l e rm_X9_place s m args below meth c H locs 0 0 Q (F0 m 0 ls []) := by
  have hx := X.1.1
  have hb := X.1.2.1
  unfold f_X9_place at hp
  obtain ⟨_, _, hp⟩ := owp_ob hp
  refine lv_aload_n hx hb dX9_place_0 rfl (lv_at hl 0 rfl) ?_
  refine lv_iload_n hx hb dX9_place_1 rfl (lv_at hl 1 rfl) ?_
  obtain ⟨x2, N1, e_N1, hp⟩ := owp_ob2 hp
  refine iv_X9_isGroup (rest := []) mw_X9_135 X hR hS e_N1 hl.1 (Nat.le_of_ble_eq_true rfl) ⟨Nat.le_of_ble_eq_true rfl, Nat.le_of_ble_eq_true rfl⟩ ⟨Nat.le_of_ble_eq_true rfl, Nat.le_of_ble_eq_true rfl⟩ dX9_place_2 (fun H locs hR hS => ?_)
  refine lv_if_ne (tgt := 11) hx hb dX9_place_5 (by decide) (fun k3 => ?_) (fun k3 => ?_)
  · have hp := owp_t k3 hp
    refine lv_aload_n hx hb dX9_place_11 rfl (lv_at hl 0 rfl) ?_
    obtain ⟨x4, e_x4, hp⟩ := owp_ob hp
    refine gf_X9_33 X hR e_x4 dX9_place_12 ?_
    refine lv_aload_n hx hb dX9_place_15 rfl (lv_at hl 0 rfl) ?_
    obtain ⟨x5, e_x5, hp⟩ := owp_ob hp
    refine gf_X9_19 X hR e_x5 dX9_place_16 ?_
    obtain ⟨_, N6, e_N6, hp⟩ := owp_ob2 hp
    refine iv_X8_putInOrder (rest := []) mw_X9_185 X hR hS e_N6 hl.1 (Nat.le_of_ble_eq_true rfl) ⟨Nat.le_of_ble_eq_true rfl, Nat.le_of_ble_eq_true rfl⟩ ⟨Nat.le_of_ble_eq_true rfl, Nat.le_of_ble_eq_true rfl⟩ dX9_place_19 (fun H locs hR hS => ?_)
    refine lv_aload_n hx hb dX9_place_22 rfl (lv_at hl 0 rfl) ?_
    obtain ⟨x7, e_x7, hp⟩ := owp_ob hp
    refine gf_X9_33 X hR e_x7 dX9_place_23 ?_
    refine lv_iload_n hx hb dX9_place_26 rfl (lv_at hl 1 rfl) ?_
    obtain ⟨x9, N8, e_N8, hp⟩ := owp_ob2 hp
    refine iv_X8_placeOf (rest := []) mw_X9_188 X hR hS e_N8 hl.1 (Nat.le_of_ble_eq_true rfl) ⟨Nat.le_of_ble_eq_true rfl, Nat.le_of_ble_eq_true rfl⟩ ⟨Nat.le_of_ble_eq_true rfl, Nat.le_of_ble_eq_true rfl⟩ dX9_place_27 (fun H locs hR hS => ?_)
    exact hr _ _ _ _ _ _ hR hS dX9_place_30 hp
  · have hp := owp_f (fun q => q k3) hp
    refine lv_bipush (v := (-2)) hx hb dX9_place_8 (by decide) ?_
    exact hr _ _ _ _ _ _ hR hS dX9_place_10 hp
end
theorem ct_X9_place {v0 : Nat} {v1 : Int32} {N N1 : AH} {r : Int32} (h : f_X9_place v0 v1 N = some (r, N1)) : Ct yX9_place cX9_place 2 (some .int) rm_X9_place [.ref v0, .int v1] N (some (.int r)) N1 :=
  ab_met (own := RX9) (by decide +kernel) rfl (Nat.le_of_ble_eq_true rfl) (fun l G aC t b0 p e s m below meth c ls X hr hlk hnm hR hS hl => wk_X9_place X (RtI_met X.1.1 X.1.2.1 hr hlk) _ _ _ _ _ _ hR hS hl (owp_of h))
theorem cw_X9_place : Cond.code yX9_place cX9_place 2 (some .int) ∈ WT := WT_of 789 (by decide +kernel) (by decide +kernel)
theorem iv_X9_place {p : Program} {l : Launch} {e : Env} {R : Room} {s : State} {m : MethodId} {args : Array Value} {below : List Frame} {meth : Method} {c : Code} {H : Heap} {locs : List Loc} {cells slots : Nat} {Q : State → Prop} {cc : ByteArray} {own : String} {nL : Nat} {G : va_G} {aC : Nat → ClassId} {t b0 : Nat} {N N1 : AH} {pc index : Nat} {ls : Array Slot} {rest : List Value} {v0 : Nat} {v1 : Int32} {r : Int32} (w1 : Cond.methodLink own index yX9_place ∈ WT) (X : CX cc own nL G aC t b0 p s m args c) (hR : Rp G aC b0 N H) (hS : va_S (fun q => b0 ≤ q) s.heap H locs) (h : f_X9_place v0 v1 N = some (r, N1)) (hls : ls.size = nL) (hW : (rest.map fun v => v.category).sum ≤ 8) (hR1 : 5 ≤ R.frames ∧ 122 ≤ R.locals) (hcs : cells + 0 ≤ R.cells ∧ slots + 0 ≤ R.slots) (hdg : decode cc pc = .ok (.invokevirtual index, 3)) (kk : ∀ (H1 : Heap) (locs1 : List Loc), Rp G aC b0 N1 H1 → va_S (fun q => b0 ≤ q) s.heap H1 locs1 → W p l e R s m args below meth c H1 locs1 cells slots Q (F0 m (pc + 3) ls (.int r :: rest))) : W p l e R s m args below meth c H locs cells slots Q (F0 m pc ls (.int v1 :: .ref v0 :: rest)) :=
  ab_callV (n := 1) (As := [.int v1]) X hR hS (ct_X9_place h) (ob_rc (c := 9) (N := N) (a := v0) h) (T := TX9) (k := 6) (C := RX9) rfl w1 (WT_of 787 (by decide +kernel) (by decide +kernel)) (WT_of 788 (by decide +kernel) (by decide +kernel)) (WT_of 81 (by decide +kernel) (by decide +kernel)) cw_X9_place ⟨rfl, by decide +kernel, by decide +kernel, by decide +kernel⟩ rfl hls hW hR1 hcs rfl hdg kk
-- X9_nextSpan
theorem gf_X9_194 {p : Program} {l : Launch} {e : Env} {R : Room} {s : State} {m : MethodId} {args : Array Value} {below : List Frame} {meth : Method} {c : Code} {H : Heap} {locs : List Loc} {cells slots : Nat} {Q : State → Prop} {cc : ByteArray} {nL : Nat} {G : va_G} {aC : Nat → ClassId} {t b0 : Nat} {N : AH} {pc : Nat} {ls : Array Slot} {rest : List Value} {a : Nat} {v : Nat} (X : CX cc RX9 nL G aC t b0 p s m args c) (hR0 : Rp G aC b0 N H) (hv : hR N a 3 1 = some v) (hdg : decode cc pc = .ok (.getfield 194, 3)) (kk : W p l e R s m args below meth c H locs cells slots Q (F0 m (pc + 3) ls (.ref v :: rest))) : W p l e R s m args below meth c H locs cells slots Q (F0 m pc ls (.ref a :: rest)) := by
  obtain ⟨fs, h1, h2⟩ := hR_ok hv
  exact ab_get (C := RX3) (T := TX3) (n := 7) X hR0 h1 h2 rfl inX3 (by decide) (WT_of 410 (by decide +kernel) (by decide +kernel)) hdg kk
theorem gf_X9_195 {p : Program} {l : Launch} {e : Env} {R : Room} {s : State} {m : MethodId} {args : Array Value} {below : List Frame} {meth : Method} {c : Code} {H : Heap} {locs : List Loc} {cells slots : Nat} {Q : State → Prop} {cc : ByteArray} {nL : Nat} {G : va_G} {aC : Nat → ClassId} {t b0 : Nat} {N : AH} {pc : Nat} {ls : Array Slot} {rest : List Value} {a : Nat} {v : Nat} (X : CX cc RX9 nL G aC t b0 p s m args c) (hR0 : Rp G aC b0 N H) (hv : hR N a 8 2 = some v) (hdg : decode cc pc = .ok (.getfield 195, 3)) (kk : W p l e R s m args below meth c H locs cells slots Q (F0 m (pc + 3) ls (.ref v :: rest))) : W p l e R s m args below meth c H locs cells slots Q (F0 m pc ls (.ref a :: rest)) := by
  obtain ⟨fs, h1, h2⟩ := hR_ok hv
  exact ab_get (C := RX8) (T := TX8) (n := 11) X hR0 h1 h2 rfl inX8 (by decide) (WT_of 350 (by decide +kernel) (by decide +kernel)) hdg kk
theorem mw_X9_191 : Cond.methodLink RX9 191 yX3_planTick ∈ WT := WT_of 796 (by decide +kernel) (by decide +kernel)
theorem dX9_nextSpan_0 : decode cX9_nextSpan 0 = .ok (.aload_n 0, 1) := by decide +kernel
theorem dX9_nextSpan_1 : decode cX9_nextSpan 1 = .ok (.iload_n 1, 1) := by decide +kernel
theorem dX9_nextSpan_2 : decode cX9_nextSpan 2 = .ok (.invokevirtual 135, 3) := by decide +kernel
theorem dX9_nextSpan_5 : decode cX9_nextSpan 5 = .ok (.ifCond .ne 6, 3) := by decide +kernel
theorem dX9_nextSpan_8 : decode cX9_nextSpan 8 = .ok (.bipush (-2), 2) := by decide +kernel
theorem dX9_nextSpan_10 : decode cX9_nextSpan 10 = .ok (.ireturn, 1) := by decide +kernel
theorem dX9_nextSpan_11 : decode cX9_nextSpan 11 = .ok (.aload_n 0, 1) := by decide +kernel
theorem dX9_nextSpan_12 : decode cX9_nextSpan 12 = .ok (.getfield 47, 3) := by decide +kernel
theorem dX9_nextSpan_15 : decode cX9_nextSpan 15 = .ok (.aload_n 0, 1) := by decide +kernel
theorem dX9_nextSpan_16 : decode cX9_nextSpan 16 = .ok (.getfield 19, 3) := by decide +kernel
theorem dX9_nextSpan_19 : decode cX9_nextSpan 19 = .ok (.invokevirtual 191, 3) := by decide +kernel
theorem dX9_nextSpan_22 : decode cX9_nextSpan 22 = .ok (.aload_n 0, 1) := by decide +kernel
theorem dX9_nextSpan_23 : decode cX9_nextSpan 23 = .ok (.getfield 47, 3) := by decide +kernel
theorem dX9_nextSpan_26 : decode cX9_nextSpan 26 = .ok (.getfield 194, 3) := by decide +kernel
theorem dX9_nextSpan_29 : decode cX9_nextSpan 29 = .ok (.iload_n 1, 1) := by decide +kernel
theorem dX9_nextSpan_30 : decode cX9_nextSpan 30 = .ok (.invokevirtual 188, 3) := by decide +kernel
theorem dX9_nextSpan_33 : decode cX9_nextSpan 33 = .ok (.iconst (-1), 1) := by decide +kernel
theorem dX9_nextSpan_34 : decode cX9_nextSpan 34 = .ok (.if_icmp .ne 7, 3) := by decide +kernel
theorem dX9_nextSpan_37 : decode cX9_nextSpan 37 = .ok (.iconst (-1), 1) := by decide +kernel
theorem dX9_nextSpan_38 : decode cX9_nextSpan 38 = .ok (.goto 15, 3) := by decide +kernel
theorem dX9_nextSpan_41 : decode cX9_nextSpan 41 = .ok (.aload_n 0, 1) := by decide +kernel
theorem dX9_nextSpan_42 : decode cX9_nextSpan 42 = .ok (.getfield 47, 3) := by decide +kernel
theorem dX9_nextSpan_45 : decode cX9_nextSpan 45 = .ok (.getfield 194, 3) := by decide +kernel
theorem dX9_nextSpan_48 : decode cX9_nextSpan 48 = .ok (.getfield 195, 3) := by decide +kernel
theorem dX9_nextSpan_51 : decode cX9_nextSpan 51 = .ok (.iload_n 1, 1) := by decide +kernel
theorem dX9_nextSpan_52 : decode cX9_nextSpan 52 = .ok (.iaload, 1) := by decide +kernel
theorem dX9_nextSpan_53 : decode cX9_nextSpan 53 = .ok (.ireturn, 1) := by decide +kernel
def rm_X9_nextSpan : Room := { frames := 5, cells := 0, slots := 0, locals := 122 }
section
variable {p : Program} {l : Launch} {e : Env} {s : State} {m : MethodId} {args : Array Value} {below : List Frame} {meth : Method} {c : Code} {Q : State → Prop} {G : va_G} {aC : Nat → ClassId} {t b0 : Nat}
def f_X9_nextSpan (v0 : Nat) (v1 : Int32) (N : AH) : Option (Int32 × AH) := ob (iO N v0 9) (fun _ => ob2 (f_X9_isGroup v0 v1 N) (fun x2 N1 => if ¬ x2 = 0 then ob (hR N1 v0 9 5) (fun x4 => ob (hR N1 v0 9 1) (fun x5 => ob2 (f_X3_planTick x4 x5 N1) (fun _ N6 => ob (hR N6 v0 9 5) (fun x7 => ob (hR N6 x7 3 1) (fun x8 => ob2 (f_X8_placeOf x8 v1 N6) (fun x10 N9 => if ¬ x10 = (-1 : Int32) then ob (hR N9 v0 9 5) (fun x12 => ob (hR N9 x12 3 1) (fun x13 => ob (hR N9 x13 8 2) (fun x14 => ob (aI N9 x14 v1) (fun x15 => some (x15, N9))))) else some ((-1 : Int32), N9))))))) else some ((-2 : Int32), N1)))
set_option maxHeartbeats 4000000 in
set_option maxRecDepth 100000 in
theorem wk_X9_nextSpan {P : Int32 × AH → Prop} (X : CX cX9_nextSpan RX9 2 G aC t b0 p s m args c) (hr : RtI p l e rm_X9_nextSpan s m args below meth c 0 0 Q cX9_nextSpan G aC b0 P) (v0 : Nat) (v1 : Int32) (N : AH) (H : Heap) (locs : List Loc) (ls : Array Slot) (hR : Rp G aC b0 N H) (hS : va_S (fun q => b0 ≤ q) s.heap H locs) (hl : lv_has ls 2 [(0, .ref v0), (1, .int v1)]) (hp : owp (f_X9_nextSpan v0 v1 N) P) : W p l e rm_X9_nextSpan s m args below meth c H locs 0 0 Q (F0 m 0 ls []) := by
  have hx := X.1.1
  have hb := X.1.2.1
  unfold f_X9_nextSpan at hp
  obtain ⟨_, _, hp⟩ := owp_ob hp
  refine lv_aload_n hx hb dX9_nextSpan_0 rfl (lv_at hl 0 rfl) ?_
  refine lv_iload_n hx hb dX9_nextSpan_1 rfl (lv_at hl 1 rfl) ?_
  obtain ⟨x2, N1, e_N1, hp⟩ := owp_ob2 hp
  refine iv_X9_isGroup (rest := []) mw_X9_135 X hR hS e_N1 hl.1 (Nat.le_of_ble_eq_true rfl) ⟨Nat.le_of_ble_eq_true rfl, Nat.le_of_ble_eq_true rfl⟩ ⟨Nat.le_of_ble_eq_true rfl, Nat.le_of_ble_eq_true rfl⟩ dX9_nextSpan_2 (fun H locs hR hS => ?_)
  refine lv_if_ne (tgt := 11) hx hb dX9_nextSpan_5 (by decide) (fun k3 => ?_) (fun k3 => ?_)
  · have hp := owp_t k3 hp
    refine lv_aload_n hx hb dX9_nextSpan_11 rfl (lv_at hl 0 rfl) ?_
    obtain ⟨x4, e_x4, hp⟩ := owp_ob hp
    refine gf_X9_47 X hR e_x4 dX9_nextSpan_12 ?_
    refine lv_aload_n hx hb dX9_nextSpan_15 rfl (lv_at hl 0 rfl) ?_
    obtain ⟨x5, e_x5, hp⟩ := owp_ob hp
    refine gf_X9_19 X hR e_x5 dX9_nextSpan_16 ?_
    obtain ⟨_, N6, e_N6, hp⟩ := owp_ob2 hp
    refine iv_X3_planTick (rest := []) mw_X9_191 X hR hS e_N6 hl.1 (Nat.le_of_ble_eq_true rfl) ⟨Nat.le_of_ble_eq_true rfl, Nat.le_of_ble_eq_true rfl⟩ ⟨Nat.le_of_ble_eq_true rfl, Nat.le_of_ble_eq_true rfl⟩ dX9_nextSpan_19 (fun H locs hR hS => ?_)
    refine lv_aload_n hx hb dX9_nextSpan_22 rfl (lv_at hl 0 rfl) ?_
    obtain ⟨x7, e_x7, hp⟩ := owp_ob hp
    refine gf_X9_47 X hR e_x7 dX9_nextSpan_23 ?_
    obtain ⟨x8, e_x8, hp⟩ := owp_ob hp
    refine gf_X9_194 X hR e_x8 dX9_nextSpan_26 ?_
    refine lv_iload_n hx hb dX9_nextSpan_29 rfl (lv_at hl 1 rfl) ?_
    obtain ⟨x10, N9, e_N9, hp⟩ := owp_ob2 hp
    refine iv_X8_placeOf (rest := []) mw_X9_188 X hR hS e_N9 hl.1 (Nat.le_of_ble_eq_true rfl) ⟨Nat.le_of_ble_eq_true rfl, Nat.le_of_ble_eq_true rfl⟩ ⟨Nat.le_of_ble_eq_true rfl, Nat.le_of_ble_eq_true rfl⟩ dX9_nextSpan_30 (fun H locs hR hS => ?_)
    refine lv_iconst (v := (-1)) hx hb dX9_nextSpan_33 (by decide) ?_
    refine lv_icmp_ne (tgt := 41) hx hb dX9_nextSpan_34 (by decide) (fun k11 => ?_) (fun k11 => ?_)
    · have hp := owp_t k11 hp
      refine lv_aload_n hx hb dX9_nextSpan_41 rfl (lv_at hl 0 rfl) ?_
      obtain ⟨x12, e_x12, hp⟩ := owp_ob hp
      refine gf_X9_47 X hR e_x12 dX9_nextSpan_42 ?_
      obtain ⟨x13, e_x13, hp⟩ := owp_ob hp
      refine gf_X9_194 X hR e_x13 dX9_nextSpan_45 ?_
      obtain ⟨x14, e_x14, hp⟩ := owp_ob hp
      refine gf_X9_195 X hR e_x14 dX9_nextSpan_48 ?_
      refine lv_iload_n hx hb dX9_nextSpan_51 rfl (lv_at hl 1 rfl) ?_
      obtain ⟨x15, e_x15, hp⟩ := owp_ob hp
      refine ab_iald X hR e_x15 dX9_nextSpan_52 ?_
      exact hr _ _ _ _ _ _ hR hS dX9_nextSpan_53 hp
    · have hp := owp_f (fun q => q k11) hp
      refine lv_iconst (v := (-1)) hx hb dX9_nextSpan_37 (by decide) ?_
      refine lv_goto (tgt := 53) hx hb dX9_nextSpan_38 (by decide) ?_
      exact hr _ _ _ _ _ _ hR hS dX9_nextSpan_53 hp
  · have hp := owp_f (fun q => q k3) hp
    refine lv_bipush (v := (-2)) hx hb dX9_nextSpan_8 (by decide) ?_
    exact hr _ _ _ _ _ _ hR hS dX9_nextSpan_10 hp
end
theorem ct_X9_nextSpan {v0 : Nat} {v1 : Int32} {N N1 : AH} {r : Int32} (h : f_X9_nextSpan v0 v1 N = some (r, N1)) : Ct yX9_nextSpan cX9_nextSpan 2 (some .int) rm_X9_nextSpan [.ref v0, .int v1] N (some (.int r)) N1 :=
  ab_met (own := RX9) (by decide +kernel) rfl (Nat.le_of_ble_eq_true rfl) (fun l G aC t b0 p e s m below meth c ls X hr hlk hnm hR hS hl => wk_X9_nextSpan X (RtI_met X.1.1 X.1.2.1 hr hlk) _ _ _ _ _ _ hR hS hl (owp_of h))
theorem cw_X9_nextSpan : Cond.code yX9_nextSpan cX9_nextSpan 2 (some .int) ∈ WT := WT_of 795 (by decide +kernel) (by decide +kernel)
theorem iv_X9_nextSpan {p : Program} {l : Launch} {e : Env} {R : Room} {s : State} {m : MethodId} {args : Array Value} {below : List Frame} {meth : Method} {c : Code} {H : Heap} {locs : List Loc} {cells slots : Nat} {Q : State → Prop} {cc : ByteArray} {own : String} {nL : Nat} {G : va_G} {aC : Nat → ClassId} {t b0 : Nat} {N N1 : AH} {pc index : Nat} {ls : Array Slot} {rest : List Value} {v0 : Nat} {v1 : Int32} {r : Int32} (w1 : Cond.methodLink own index yX9_nextSpan ∈ WT) (X : CX cc own nL G aC t b0 p s m args c) (hR : Rp G aC b0 N H) (hS : va_S (fun q => b0 ≤ q) s.heap H locs) (h : f_X9_nextSpan v0 v1 N = some (r, N1)) (hls : ls.size = nL) (hW : (rest.map fun v => v.category).sum ≤ 8) (hR1 : 6 ≤ R.frames ∧ 143 ≤ R.locals) (hcs : cells + 0 ≤ R.cells ∧ slots + 0 ≤ R.slots) (hdg : decode cc pc = .ok (.invokevirtual index, 3)) (kk : ∀ (H1 : Heap) (locs1 : List Loc), Rp G aC b0 N1 H1 → va_S (fun q => b0 ≤ q) s.heap H1 locs1 → W p l e R s m args below meth c H1 locs1 cells slots Q (F0 m (pc + 3) ls (.int r :: rest))) : W p l e R s m args below meth c H locs cells slots Q (F0 m pc ls (.int v1 :: .ref v0 :: rest)) :=
  ab_callV (n := 1) (As := [.int v1]) X hR hS (ct_X9_nextSpan h) (ob_rc (c := 9) (N := N) (a := v0) h) (T := TX9) (k := 6) (C := RX9) rfl w1 (WT_of 793 (by decide +kernel) (by decide +kernel)) (WT_of 794 (by decide +kernel) (by decide +kernel)) (WT_of 81 (by decide +kernel) (by decide +kernel)) cw_X9_nextSpan ⟨rfl, by decide +kernel, by decide +kernel, by decide +kernel⟩ rfl hls hW hR1 hcs rfl hdg kk
-- X9_nextRate
theorem gf_X9_198 {p : Program} {l : Launch} {e : Env} {R : Room} {s : State} {m : MethodId} {args : Array Value} {below : List Frame} {meth : Method} {c : Code} {H : Heap} {locs : List Loc} {cells slots : Nat} {Q : State → Prop} {cc : ByteArray} {nL : Nat} {G : va_G} {aC : Nat → ClassId} {t b0 : Nat} {N : AH} {pc : Nat} {ls : Array Slot} {rest : List Value} {a : Nat} {v : Nat} (X : CX cc RX9 nL G aC t b0 p s m args c) (hR0 : Rp G aC b0 N H) (hv : hR N a 3 0 = some v) (hdg : decode cc pc = .ok (.getfield 198, 3)) (kk : W p l e R s m args below meth c H locs cells slots Q (F0 m (pc + 3) ls (.ref v :: rest))) : W p l e R s m args below meth c H locs cells slots Q (F0 m pc ls (.ref a :: rest)) := by
  obtain ⟨fs, h1, h2⟩ := hR_ok hv
  exact ab_get (C := RX3) (T := TX3) (n := 7) X hR0 h1 h2 rfl inX3 (by decide) (WT_of 408 (by decide +kernel) (by decide +kernel)) hdg kk
theorem dX9_nextRate_0 : decode cX9_nextRate 0 = .ok (.aload_n 0, 1) := by decide +kernel
theorem dX9_nextRate_1 : decode cX9_nextRate 1 = .ok (.iload_n 1, 1) := by decide +kernel
theorem dX9_nextRate_2 : decode cX9_nextRate 2 = .ok (.iload_n 2, 1) := by decide +kernel
theorem dX9_nextRate_3 : decode cX9_nextRate 3 = .ok (.invokevirtual 156, 3) := by decide +kernel
theorem dX9_nextRate_6 : decode cX9_nextRate 6 = .ok (.ifCond .ne 6, 3) := by decide +kernel
theorem dX9_nextRate_9 : decode cX9_nextRate 9 = .ok (.bipush (-2), 2) := by decide +kernel
theorem dX9_nextRate_11 : decode cX9_nextRate 11 = .ok (.ireturn, 1) := by decide +kernel
theorem dX9_nextRate_12 : decode cX9_nextRate 12 = .ok (.aload_n 0, 1) := by decide +kernel
theorem dX9_nextRate_13 : decode cX9_nextRate 13 = .ok (.getfield 47, 3) := by decide +kernel
theorem dX9_nextRate_16 : decode cX9_nextRate 16 = .ok (.aload_n 0, 1) := by decide +kernel
theorem dX9_nextRate_17 : decode cX9_nextRate 17 = .ok (.getfield 19, 3) := by decide +kernel
theorem dX9_nextRate_20 : decode cX9_nextRate 20 = .ok (.invokevirtual 191, 3) := by decide +kernel
theorem dX9_nextRate_23 : decode cX9_nextRate 23 = .ok (.aload_n 0, 1) := by decide +kernel
theorem dX9_nextRate_24 : decode cX9_nextRate 24 = .ok (.getfield 47, 3) := by decide +kernel
theorem dX9_nextRate_27 : decode cX9_nextRate 27 = .ok (.getfield 198, 3) := by decide +kernel
theorem dX9_nextRate_30 : decode cX9_nextRate 30 = .ok (.getfield 138, 3) := by decide +kernel
theorem dX9_nextRate_33 : decode cX9_nextRate 33 = .ok (.iload_n 1, 1) := by decide +kernel
theorem dX9_nextRate_34 : decode cX9_nextRate 34 = .ok (.aaload, 1) := by decide +kernel
theorem dX9_nextRate_35 : decode cX9_nextRate 35 = .ok (.getfield 153, 3) := by decide +kernel
theorem dX9_nextRate_38 : decode cX9_nextRate 38 = .ok (.getfield 171, 3) := by decide +kernel
theorem dX9_nextRate_41 : decode cX9_nextRate 41 = .ok (.iload_n 2, 1) := by decide +kernel
theorem dX9_nextRate_42 : decode cX9_nextRate 42 = .ok (.iaload, 1) := by decide +kernel
theorem dX9_nextRate_43 : decode cX9_nextRate 43 = .ok (.ireturn, 1) := by decide +kernel
def rm_X9_nextRate : Room := { frames := 5, cells := 0, slots := 0, locals := 122 }
section
variable {p : Program} {l : Launch} {e : Env} {s : State} {m : MethodId} {args : Array Value} {below : List Frame} {meth : Method} {c : Code} {Q : State → Prop} {G : va_G} {aC : Nat → ClassId} {t b0 : Nat}
def f_X9_nextRate (v0 : Nat) (v1 : Int32) (v2 : Int32) (N : AH) : Option (Int32 × AH) := ob (iO N v0 9) (fun _ => ob2 (f_X9_isFlow v0 v1 v2 N) (fun x2 N1 => if ¬ x2 = 0 then ob (hR N1 v0 9 5) (fun x4 => ob (hR N1 v0 9 1) (fun x5 => ob2 (f_X3_planTick x4 x5 N1) (fun _ N6 => ob (hR N6 v0 9 5) (fun x7 => ob (hR N6 x7 3 0) (fun x8 => ob (hR N6 x8 7 10) (fun x9 => ob (aR N6 2 x9 v1) (fun x10 => ob (hR N6 x10 4 5) (fun x11 => ob (hR N6 x11 1 5) (fun x12 => ob (aI N6 x12 v2) (fun x13 => some (x13, N6))))))))))) else some ((-2 : Int32), N1)))
set_option maxHeartbeats 4000000 in
set_option maxRecDepth 100000 in
theorem wk_X9_nextRate {P : Int32 × AH → Prop} (X : CX cX9_nextRate RX9 3 G aC t b0 p s m args c) (hr : RtI p l e rm_X9_nextRate s m args below meth c 0 0 Q cX9_nextRate G aC b0 P) (v0 : Nat) (v1 : Int32) (v2 : Int32) (N : AH) (H : Heap) (locs : List Loc) (ls : Array Slot) (hR : Rp G aC b0 N H) (hS : va_S (fun q => b0 ≤ q) s.heap H locs) (hl : lv_has ls 3 [(0, .ref v0), (1, .int v1), (2, .int v2)]) (hp : owp (f_X9_nextRate v0 v1 v2 N) P) : W p l e rm_X9_nextRate s m args below meth c H locs 0 0 Q (F0 m 0 ls []) := by
  have hx := X.1.1
  have hb := X.1.2.1
  unfold f_X9_nextRate at hp
  obtain ⟨_, _, hp⟩ := owp_ob hp
  refine lv_aload_n hx hb dX9_nextRate_0 rfl (lv_at hl 0 rfl) ?_
  refine lv_iload_n hx hb dX9_nextRate_1 rfl (lv_at hl 1 rfl) ?_
  refine lv_iload_n hx hb dX9_nextRate_2 rfl (lv_at hl 2 rfl) ?_
  obtain ⟨x2, N1, e_N1, hp⟩ := owp_ob2 hp
  refine iv_X9_isFlow (rest := []) mw_X9_156 X hR hS e_N1 hl.1 (Nat.le_of_ble_eq_true rfl) ⟨Nat.le_of_ble_eq_true rfl, Nat.le_of_ble_eq_true rfl⟩ ⟨Nat.le_of_ble_eq_true rfl, Nat.le_of_ble_eq_true rfl⟩ dX9_nextRate_3 (fun H locs hR hS => ?_)
  refine lv_if_ne (tgt := 12) hx hb dX9_nextRate_6 (by decide) (fun k3 => ?_) (fun k3 => ?_)
  · have hp := owp_t k3 hp
    refine lv_aload_n hx hb dX9_nextRate_12 rfl (lv_at hl 0 rfl) ?_
    obtain ⟨x4, e_x4, hp⟩ := owp_ob hp
    refine gf_X9_47 X hR e_x4 dX9_nextRate_13 ?_
    refine lv_aload_n hx hb dX9_nextRate_16 rfl (lv_at hl 0 rfl) ?_
    obtain ⟨x5, e_x5, hp⟩ := owp_ob hp
    refine gf_X9_19 X hR e_x5 dX9_nextRate_17 ?_
    obtain ⟨_, N6, e_N6, hp⟩ := owp_ob2 hp
    refine iv_X3_planTick (rest := []) mw_X9_191 X hR hS e_N6 hl.1 (Nat.le_of_ble_eq_true rfl) ⟨Nat.le_of_ble_eq_true rfl, Nat.le_of_ble_eq_true rfl⟩ ⟨Nat.le_of_ble_eq_true rfl, Nat.le_of_ble_eq_true rfl⟩ dX9_nextRate_20 (fun H locs hR hS => ?_)
    refine lv_aload_n hx hb dX9_nextRate_23 rfl (lv_at hl 0 rfl) ?_
    obtain ⟨x7, e_x7, hp⟩ := owp_ob hp
    refine gf_X9_47 X hR e_x7 dX9_nextRate_24 ?_
    obtain ⟨x8, e_x8, hp⟩ := owp_ob hp
    refine gf_X9_198 X hR e_x8 dX9_nextRate_27 ?_
    obtain ⟨x9, e_x9, hp⟩ := owp_ob hp
    refine gf_X9_138 X hR e_x9 dX9_nextRate_30 ?_
    refine lv_iload_n hx hb dX9_nextRate_33 rfl (lv_at hl 1 rfl) ?_
    obtain ⟨x10, e_x10, hp⟩ := owp_ob hp
    refine ab_aald X hR (kd := 2) rfl e_x10 dX9_nextRate_34 ?_
    obtain ⟨x11, e_x11, hp⟩ := owp_ob hp
    refine gf_X9_153 X hR e_x11 dX9_nextRate_35 ?_
    obtain ⟨x12, e_x12, hp⟩ := owp_ob hp
    refine gf_X9_171 X hR e_x12 dX9_nextRate_38 ?_
    refine lv_iload_n hx hb dX9_nextRate_41 rfl (lv_at hl 2 rfl) ?_
    obtain ⟨x13, e_x13, hp⟩ := owp_ob hp
    refine ab_iald X hR e_x13 dX9_nextRate_42 ?_
    exact hr _ _ _ _ _ _ hR hS dX9_nextRate_43 hp
  · have hp := owp_f (fun q => q k3) hp
    refine lv_bipush (v := (-2)) hx hb dX9_nextRate_9 (by decide) ?_
    exact hr _ _ _ _ _ _ hR hS dX9_nextRate_11 hp
end
theorem ct_X9_nextRate {v0 : Nat} {v1 : Int32} {v2 : Int32} {N N1 : AH} {r : Int32} (h : f_X9_nextRate v0 v1 v2 N = some (r, N1)) : Ct yX9_nextRate cX9_nextRate 3 (some .int) rm_X9_nextRate [.ref v0, .int v1, .int v2] N (some (.int r)) N1 :=
  ab_met (own := RX9) (by decide +kernel) rfl (Nat.le_of_ble_eq_true rfl) (fun l G aC t b0 p e s m below meth c ls X hr hlk hnm hR hS hl => wk_X9_nextRate X (RtI_met X.1.1 X.1.2.1 hr hlk) _ _ _ _ _ _ _ hR hS hl (owp_of h))
theorem cw_X9_nextRate : Cond.code yX9_nextRate cX9_nextRate 3 (some .int) ∈ WT := WT_of 807 (by decide +kernel) (by decide +kernel)
theorem iv_X9_nextRate {p : Program} {l : Launch} {e : Env} {R : Room} {s : State} {m : MethodId} {args : Array Value} {below : List Frame} {meth : Method} {c : Code} {H : Heap} {locs : List Loc} {cells slots : Nat} {Q : State → Prop} {cc : ByteArray} {own : String} {nL : Nat} {G : va_G} {aC : Nat → ClassId} {t b0 : Nat} {N N1 : AH} {pc index : Nat} {ls : Array Slot} {rest : List Value} {v0 : Nat} {v1 : Int32} {v2 : Int32} {r : Int32} (w1 : Cond.methodLink own index yX9_nextRate ∈ WT) (X : CX cc own nL G aC t b0 p s m args c) (hR : Rp G aC b0 N H) (hS : va_S (fun q => b0 ≤ q) s.heap H locs) (h : f_X9_nextRate v0 v1 v2 N = some (r, N1)) (hls : ls.size = nL) (hW : (rest.map fun v => v.category).sum ≤ 8) (hR1 : 6 ≤ R.frames ∧ 144 ≤ R.locals) (hcs : cells + 0 ≤ R.cells ∧ slots + 0 ≤ R.slots) (hdg : decode cc pc = .ok (.invokevirtual index, 3)) (kk : ∀ (H1 : Heap) (locs1 : List Loc), Rp G aC b0 N1 H1 → va_S (fun q => b0 ≤ q) s.heap H1 locs1 → W p l e R s m args below meth c H1 locs1 cells slots Q (F0 m (pc + 3) ls (.int r :: rest))) : W p l e R s m args below meth c H locs cells slots Q (F0 m pc ls (.int v2 :: .int v1 :: .ref v0 :: rest)) :=
  ab_callV (n := 2) (As := [.int v1, .int v2]) X hR hS (ct_X9_nextRate h) (ob_rc (c := 9) (N := N) (a := v0) h) (T := TX9) (k := 6) (C := RX9) rfl w1 (WT_of 805 (by decide +kernel) (by decide +kernel)) (WT_of 806 (by decide +kernel) (by decide +kernel)) (WT_of 81 (by decide +kernel) (by decide +kernel)) cw_X9_nextRate ⟨rfl, by decide +kernel, by decide +kernel, by decide +kernel⟩ rfl hls hW hR1 hcs rfl hdg kk
-- X9_spare
theorem gf_X9_201 {p : Program} {l : Launch} {e : Env} {R : Room} {s : State} {m : MethodId} {args : Array Value} {below : List Frame} {meth : Method} {c : Code} {H : Heap} {locs : List Loc} {cells slots : Nat} {Q : State → Prop} {cc : ByteArray} {nL : Nat} {G : va_G} {aC : Nat → ClassId} {t b0 : Nat} {N : AH} {pc : Nat} {ls : Array Slot} {rest : List Value} {a : Nat} {v : Nat} (X : CX cc RX9 nL G aC t b0 p s m args c) (hR0 : Rp G aC b0 N H) (hv : hR N a 8 3 = some v) (hdg : decode cc pc = .ok (.getfield 201, 3)) (kk : W p l e R s m args below meth c H locs cells slots Q (F0 m (pc + 3) ls (.ref v :: rest))) : W p l e R s m args below meth c H locs cells slots Q (F0 m pc ls (.ref a :: rest)) := by
  obtain ⟨fs, h1, h2⟩ := hR_ok hv
  exact ab_get (C := RX8) (T := TX8) (n := 11) X hR0 h1 h2 rfl inX8 (by decide) (WT_of 352 (by decide +kernel) (by decide +kernel)) hdg kk
theorem dX9_spare_0 : decode cX9_spare 0 = .ok (.iload_n 1, 1) := by decide +kernel
theorem dX9_spare_1 : decode cX9_spare 1 = .ok (.bipush 16, 2) := by decide +kernel
theorem dX9_spare_3 : decode cX9_spare 3 = .ok (.invokestatic 72, 3) := by decide +kernel
theorem dX9_spare_6 : decode cX9_spare 6 = .ok (.ifCond .ne 6, 3) := by decide +kernel
theorem dX9_spare_9 : decode cX9_spare 9 = .ok (.bipush (-2), 2) := by decide +kernel
theorem dX9_spare_11 : decode cX9_spare 11 = .ok (.ireturn, 1) := by decide +kernel
theorem dX9_spare_12 : decode cX9_spare 12 = .ok (.aload_n 0, 1) := by decide +kernel
theorem dX9_spare_13 : decode cX9_spare 13 = .ok (.getfield 47, 3) := by decide +kernel
theorem dX9_spare_16 : decode cX9_spare 16 = .ok (.aload_n 0, 1) := by decide +kernel
theorem dX9_spare_17 : decode cX9_spare 17 = .ok (.getfield 19, 3) := by decide +kernel
theorem dX9_spare_20 : decode cX9_spare 20 = .ok (.invokevirtual 191, 3) := by decide +kernel
theorem dX9_spare_23 : decode cX9_spare 23 = .ok (.aload_n 0, 1) := by decide +kernel
theorem dX9_spare_24 : decode cX9_spare 24 = .ok (.getfield 47, 3) := by decide +kernel
theorem dX9_spare_27 : decode cX9_spare 27 = .ok (.getfield 194, 3) := by decide +kernel
theorem dX9_spare_30 : decode cX9_spare 30 = .ok (.getfield 201, 3) := by decide +kernel
theorem dX9_spare_33 : decode cX9_spare 33 = .ok (.iload_n 1, 1) := by decide +kernel
theorem dX9_spare_34 : decode cX9_spare 34 = .ok (.iaload, 1) := by decide +kernel
theorem dX9_spare_35 : decode cX9_spare 35 = .ok (.ireturn, 1) := by decide +kernel
def rm_X9_spare : Room := { frames := 5, cells := 0, slots := 0, locals := 122 }
section
variable {p : Program} {l : Launch} {e : Env} {s : State} {m : MethodId} {args : Array Value} {below : List Frame} {meth : Method} {c : Code} {Q : State → Prop} {G : va_G} {aC : Nat → ClassId} {t b0 : Nat}
def f_X9_spare (v0 : Nat) (v1 : Int32) (N : AH) : Option (Int32 × AH) := ob (iO N v0 9) (fun _ => ob2 (f_X9_isOneOf v1 (16 : Int32) N) (fun x2 N1 => if ¬ x2 = 0 then ob (hR N1 v0 9 5) (fun x4 => ob (hR N1 v0 9 1) (fun x5 => ob2 (f_X3_planTick x4 x5 N1) (fun _ N6 => ob (hR N6 v0 9 5) (fun x7 => ob (hR N6 x7 3 1) (fun x8 => ob (hR N6 x8 8 3) (fun x9 => ob (aI N6 x9 v1) (fun x10 => some (x10, N6)))))))) else some ((-2 : Int32), N1)))
set_option maxHeartbeats 4000000 in
set_option maxRecDepth 100000 in
theorem wk_X9_spare {P : Int32 × AH → Prop} (X : CX cX9_spare RX9 2 G aC t b0 p s m args c) (hr : RtI p l e rm_X9_spare s m args below meth c 0 0 Q cX9_spare G aC b0 P) (v0 : Nat) (v1 : Int32) (N : AH) (H : Heap) (locs : List Loc) (ls : Array Slot) (hR : Rp G aC b0 N H) (hS : va_S (fun q => b0 ≤ q) s.heap H locs) (hl : lv_has ls 2 [(0, .ref v0), (1, .int v1)]) (hp : owp (f_X9_spare v0 v1 N) P) : W p l e rm_X9_spare s m args below meth c H locs 0 0 Q (F0 m 0 ls []) := by
  have hx := X.1.1
  have hb := X.1.2.1
  unfold f_X9_spare at hp
  obtain ⟨_, _, hp⟩ := owp_ob hp
  refine lv_iload_n hx hb dX9_spare_0 rfl (lv_at hl 1 rfl) ?_
  refine lv_bipush (v := (16)) hx hb dX9_spare_1 (by decide) ?_
  obtain ⟨x2, N1, e_N1, hp⟩ := owp_ob2 hp
  refine iv_X9_isOneOf (rest := []) mw_X9_72 X hR hS e_N1 hl.1 (Nat.le_of_ble_eq_true rfl) ⟨Nat.le_of_ble_eq_true rfl, Nat.le_of_ble_eq_true rfl⟩ ⟨Nat.le_of_ble_eq_true rfl, Nat.le_of_ble_eq_true rfl⟩ dX9_spare_3 (fun H locs hR hS => ?_)
  refine lv_if_ne (tgt := 12) hx hb dX9_spare_6 (by decide) (fun k3 => ?_) (fun k3 => ?_)
  · have hp := owp_t k3 hp
    refine lv_aload_n hx hb dX9_spare_12 rfl (lv_at hl 0 rfl) ?_
    obtain ⟨x4, e_x4, hp⟩ := owp_ob hp
    refine gf_X9_47 X hR e_x4 dX9_spare_13 ?_
    refine lv_aload_n hx hb dX9_spare_16 rfl (lv_at hl 0 rfl) ?_
    obtain ⟨x5, e_x5, hp⟩ := owp_ob hp
    refine gf_X9_19 X hR e_x5 dX9_spare_17 ?_
    obtain ⟨_, N6, e_N6, hp⟩ := owp_ob2 hp
    refine iv_X3_planTick (rest := []) mw_X9_191 X hR hS e_N6 hl.1 (Nat.le_of_ble_eq_true rfl) ⟨Nat.le_of_ble_eq_true rfl, Nat.le_of_ble_eq_true rfl⟩ ⟨Nat.le_of_ble_eq_true rfl, Nat.le_of_ble_eq_true rfl⟩ dX9_spare_20 (fun H locs hR hS => ?_)
    refine lv_aload_n hx hb dX9_spare_23 rfl (lv_at hl 0 rfl) ?_
    obtain ⟨x7, e_x7, hp⟩ := owp_ob hp
    refine gf_X9_47 X hR e_x7 dX9_spare_24 ?_
    obtain ⟨x8, e_x8, hp⟩ := owp_ob hp
    refine gf_X9_194 X hR e_x8 dX9_spare_27 ?_
    obtain ⟨x9, e_x9, hp⟩ := owp_ob hp
    refine gf_X9_201 X hR e_x9 dX9_spare_30 ?_
    refine lv_iload_n hx hb dX9_spare_33 rfl (lv_at hl 1 rfl) ?_
    obtain ⟨x10, e_x10, hp⟩ := owp_ob hp
    refine ab_iald X hR e_x10 dX9_spare_34 ?_
    exact hr _ _ _ _ _ _ hR hS dX9_spare_35 hp
  · have hp := owp_f (fun q => q k3) hp
    refine lv_bipush (v := (-2)) hx hb dX9_spare_9 (by decide) ?_
    exact hr _ _ _ _ _ _ hR hS dX9_spare_11 hp
end
theorem ct_X9_spare {v0 : Nat} {v1 : Int32} {N N1 : AH} {r : Int32} (h : f_X9_spare v0 v1 N = some (r, N1)) : Ct yX9_spare cX9_spare 2 (some .int) rm_X9_spare [.ref v0, .int v1] N (some (.int r)) N1 :=
  ab_met (own := RX9) (by decide +kernel) rfl (Nat.le_of_ble_eq_true rfl) (fun l G aC t b0 p e s m below meth c ls X hr hlk hnm hR hS hl => wk_X9_spare X (RtI_met X.1.1 X.1.2.1 hr hlk) _ _ _ _ _ _ hR hS hl (owp_of h))
theorem cw_X9_spare : Cond.code yX9_spare cX9_spare 2 (some .int) ∈ WT := WT_of 811 (by decide +kernel) (by decide +kernel)
theorem iv_X9_spare {p : Program} {l : Launch} {e : Env} {R : Room} {s : State} {m : MethodId} {args : Array Value} {below : List Frame} {meth : Method} {c : Code} {H : Heap} {locs : List Loc} {cells slots : Nat} {Q : State → Prop} {cc : ByteArray} {own : String} {nL : Nat} {G : va_G} {aC : Nat → ClassId} {t b0 : Nat} {N N1 : AH} {pc index : Nat} {ls : Array Slot} {rest : List Value} {v0 : Nat} {v1 : Int32} {r : Int32} (w1 : Cond.methodLink own index yX9_spare ∈ WT) (X : CX cc own nL G aC t b0 p s m args c) (hR : Rp G aC b0 N H) (hS : va_S (fun q => b0 ≤ q) s.heap H locs) (h : f_X9_spare v0 v1 N = some (r, N1)) (hls : ls.size = nL) (hW : (rest.map fun v => v.category).sum ≤ 8) (hR1 : 6 ≤ R.frames ∧ 143 ≤ R.locals) (hcs : cells + 0 ≤ R.cells ∧ slots + 0 ≤ R.slots) (hdg : decode cc pc = .ok (.invokevirtual index, 3)) (kk : ∀ (H1 : Heap) (locs1 : List Loc), Rp G aC b0 N1 H1 → va_S (fun q => b0 ≤ q) s.heap H1 locs1 → W p l e R s m args below meth c H1 locs1 cells slots Q (F0 m (pc + 3) ls (.int r :: rest))) : W p l e R s m args below meth c H locs cells slots Q (F0 m pc ls (.int v1 :: .ref v0 :: rest)) :=
  ab_callV (n := 1) (As := [.int v1]) X hR hS (ct_X9_spare h) (ob_rc (c := 9) (N := N) (a := v0) h) (T := TX9) (k := 6) (C := RX9) rfl w1 (WT_of 809 (by decide +kernel) (by decide +kernel)) (WT_of 810 (by decide +kernel) (by decide +kernel)) (WT_of 81 (by decide +kernel) (by decide +kernel)) cw_X9_spare ⟨rfl, by decide +kernel, by decide +kernel, by decide +kernel⟩ rfl hls hW hR1 hcs rfl hdg kk
-- X9_outlook
theorem mw_X9_204 : Cond.methodLink RX9 204 yX3_endOf ∈ WT := WT_of 816 (by decide +kernel) (by decide +kernel)
theorem dX9_outlook_0 : decode cX9_outlook 0 = .ok (.aload_n 0, 1) := by decide +kernel
theorem dX9_outlook_1 : decode cX9_outlook 1 = .ok (.iload_n 1, 1) := by decide +kernel
theorem dX9_outlook_2 : decode cX9_outlook 2 = .ok (.invokevirtual 135, 3) := by decide +kernel
theorem dX9_outlook_5 : decode cX9_outlook 5 = .ok (.ifCond .eq 18, 3) := by decide +kernel
theorem dX9_outlook_8 : decode cX9_outlook 8 = .ok (.aload_n 0, 1) := by decide +kernel
theorem dX9_outlook_9 : decode cX9_outlook 9 = .ok (.getfield 47, 3) := by decide +kernel
theorem dX9_outlook_12 : decode cX9_outlook 12 = .ok (.aload_n 0, 1) := by decide +kernel
theorem dX9_outlook_13 : decode cX9_outlook 13 = .ok (.getfield 19, 3) := by decide +kernel
theorem dX9_outlook_16 : decode cX9_outlook 16 = .ok (.iload_n 1, 1) := by decide +kernel
theorem dX9_outlook_17 : decode cX9_outlook 17 = .ok (.invokevirtual 204, 3) := by decide +kernel
theorem dX9_outlook_20 : decode cX9_outlook 20 = .ok (.goto 5, 3) := by decide +kernel
theorem dX9_outlook_23 : decode cX9_outlook 23 = .ok (.bipush (-2), 2) := by decide +kernel
theorem dX9_outlook_25 : decode cX9_outlook 25 = .ok (.ireturn, 1) := by decide +kernel
def rm_X9_outlook : Room := { frames := 6, cells := 0, slots := 0, locals := 149 }
section
variable {p : Program} {l : Launch} {e : Env} {s : State} {m : MethodId} {args : Array Value} {below : List Frame} {meth : Method} {c : Code} {Q : State → Prop} {G : va_G} {aC : Nat → ClassId} {t b0 : Nat}
def f_X9_outlook (v0 : Nat) (v1 : Int32) (N : AH) : Option (Int32 × AH) := ob (iO N v0 9) (fun _ => ob2 (f_X9_isGroup v0 v1 N) (fun x2 N1 => if x2 = 0 then some ((-2 : Int32), N1) else ob (hR N1 v0 9 5) (fun x4 => ob (hR N1 v0 9 1) (fun x5 => ob2 (f_X3_endOf x4 x5 v1 N1) (fun x7 N6 => some (x7, N6))))))
set_option maxHeartbeats 4000000 in
set_option maxRecDepth 100000 in
theorem wk_X9_outlook {P : Int32 × AH → Prop} (X : CX cX9_outlook RX9 2 G aC t b0 p s m args c) (hr : RtI p l e rm_X9_outlook s m args below meth c 0 0 Q cX9_outlook G aC b0 P) (v0 : Nat) (v1 : Int32) (N : AH) (H : Heap) (locs : List Loc) (ls : Array Slot) (hR : Rp G aC b0 N H) (hS : va_S (fun q => b0 ≤ q) s.heap H locs) (hl : lv_has ls 2 [(0, .ref v0), (1, .int v1)]) (hp : owp (f_X9_outlook v0 v1 N) P) : W p l e rm_X9_outlook s m args below meth c H locs 0 0 Q (F0 m 0 ls []) := by
  have hx := X.1.1
  have hb := X.1.2.1
  unfold f_X9_outlook at hp
  obtain ⟨_, _, hp⟩ := owp_ob hp
  refine lv_aload_n hx hb dX9_outlook_0 rfl (lv_at hl 0 rfl) ?_
  refine lv_iload_n hx hb dX9_outlook_1 rfl (lv_at hl 1 rfl) ?_
  obtain ⟨x2, N1, e_N1, hp⟩ := owp_ob2 hp
  refine iv_X9_isGroup (rest := []) mw_X9_135 X hR hS e_N1 hl.1 (Nat.le_of_ble_eq_true rfl) ⟨Nat.le_of_ble_eq_true rfl, Nat.le_of_ble_eq_true rfl⟩ ⟨Nat.le_of_ble_eq_true rfl, Nat.le_of_ble_eq_true rfl⟩ dX9_outlook_2 (fun H locs hR hS => ?_)
  refine lv_if_eq (tgt := 23) hx hb dX9_outlook_5 (by decide) (fun k3 => ?_) (fun k3 => ?_)
  · have hp := owp_t k3 hp
    refine lv_bipush (v := (-2)) hx hb dX9_outlook_23 (by decide) ?_
    exact hr _ _ _ _ _ _ hR hS dX9_outlook_25 hp
  · have hp := owp_f k3 hp
    refine lv_aload_n hx hb dX9_outlook_8 rfl (lv_at hl 0 rfl) ?_
    obtain ⟨x4, e_x4, hp⟩ := owp_ob hp
    refine gf_X9_47 X hR e_x4 dX9_outlook_9 ?_
    refine lv_aload_n hx hb dX9_outlook_12 rfl (lv_at hl 0 rfl) ?_
    obtain ⟨x5, e_x5, hp⟩ := owp_ob hp
    refine gf_X9_19 X hR e_x5 dX9_outlook_13 ?_
    refine lv_iload_n hx hb dX9_outlook_16 rfl (lv_at hl 1 rfl) ?_
    obtain ⟨x7, N6, e_N6, hp⟩ := owp_ob2 hp
    refine iv_X3_endOf (rest := []) mw_X9_204 X hR hS e_N6 hl.1 (Nat.le_of_ble_eq_true rfl) ⟨Nat.le_of_ble_eq_true rfl, Nat.le_of_ble_eq_true rfl⟩ ⟨Nat.le_of_ble_eq_true rfl, Nat.le_of_ble_eq_true rfl⟩ dX9_outlook_17 (fun H locs hR hS => ?_)
    refine lv_goto (tgt := 25) hx hb dX9_outlook_20 (by decide) ?_
    exact hr _ _ _ _ _ _ hR hS dX9_outlook_25 hp
end
theorem ct_X9_outlook {v0 : Nat} {v1 : Int32} {N N1 : AH} {r : Int32} (h : f_X9_outlook v0 v1 N = some (r, N1)) : Ct yX9_outlook cX9_outlook 2 (some .int) rm_X9_outlook [.ref v0, .int v1] N (some (.int r)) N1 :=
  ab_met (own := RX9) (by decide +kernel) rfl (Nat.le_of_ble_eq_true rfl) (fun l G aC t b0 p e s m below meth c ls X hr hlk hnm hR hS hl => wk_X9_outlook X (RtI_met X.1.1 X.1.2.1 hr hlk) _ _ _ _ _ _ hR hS hl (owp_of h))
theorem cw_X9_outlook : Cond.code yX9_outlook cX9_outlook 2 (some .int) ∈ WT := WT_of 815 (by decide +kernel) (by decide +kernel)
theorem iv_X9_outlook {p : Program} {l : Launch} {e : Env} {R : Room} {s : State} {m : MethodId} {args : Array Value} {below : List Frame} {meth : Method} {c : Code} {H : Heap} {locs : List Loc} {cells slots : Nat} {Q : State → Prop} {cc : ByteArray} {own : String} {nL : Nat} {G : va_G} {aC : Nat → ClassId} {t b0 : Nat} {N N1 : AH} {pc index : Nat} {ls : Array Slot} {rest : List Value} {v0 : Nat} {v1 : Int32} {r : Int32} (w1 : Cond.methodLink own index yX9_outlook ∈ WT) (X : CX cc own nL G aC t b0 p s m args c) (hR : Rp G aC b0 N H) (hS : va_S (fun q => b0 ≤ q) s.heap H locs) (h : f_X9_outlook v0 v1 N = some (r, N1)) (hls : ls.size = nL) (hW : (rest.map fun v => v.category).sum ≤ 8) (hR1 : 7 ≤ R.frames ∧ 170 ≤ R.locals) (hcs : cells + 0 ≤ R.cells ∧ slots + 0 ≤ R.slots) (hdg : decode cc pc = .ok (.invokevirtual index, 3)) (kk : ∀ (H1 : Heap) (locs1 : List Loc), Rp G aC b0 N1 H1 → va_S (fun q => b0 ≤ q) s.heap H1 locs1 → W p l e R s m args below meth c H1 locs1 cells slots Q (F0 m (pc + 3) ls (.int r :: rest))) : W p l e R s m args below meth c H locs cells slots Q (F0 m pc ls (.int v1 :: .ref v0 :: rest)) :=
  ab_callV (n := 1) (As := [.int v1]) X hR hS (ct_X9_outlook h) (ob_rc (c := 9) (N := N) (a := v0) h) (T := TX9) (k := 6) (C := RX9) rfl w1 (WT_of 813 (by decide +kernel) (by decide +kernel)) (WT_of 814 (by decide +kernel) (by decide +kernel)) (WT_of 81 (by decide +kernel) (by decide +kernel)) cw_X9_outlook ⟨rfl, by decide +kernel, by decide +kernel, by decide +kernel⟩ rfl hls hW hR1 hcs rfl hdg kk
-- X9_total
theorem mw_X9_208 : Cond.methodLink RX9 208 yX3_totalOf ∈ WT := WT_of 826 (by decide +kernel) (by decide +kernel)
theorem dX9_total_0 : decode cX9_total 0 = .ok (.iload_n 1, 1) := by decide +kernel
theorem dX9_total_1 : decode cX9_total 1 = .ok (.bipush 6, 2) := by decide +kernel
theorem dX9_total_3 : decode cX9_total 3 = .ok (.invokestatic 72, 3) := by decide +kernel
theorem dX9_total_6 : decode cX9_total 6 = .ok (.ifCond .eq 18, 3) := by decide +kernel
theorem dX9_total_9 : decode cX9_total 9 = .ok (.aload_n 0, 1) := by decide +kernel
theorem dX9_total_10 : decode cX9_total 10 = .ok (.getfield 47, 3) := by decide +kernel
theorem dX9_total_13 : decode cX9_total 13 = .ok (.aload_n 0, 1) := by decide +kernel
theorem dX9_total_14 : decode cX9_total 14 = .ok (.getfield 19, 3) := by decide +kernel
theorem dX9_total_17 : decode cX9_total 17 = .ok (.iload_n 1, 1) := by decide +kernel
theorem dX9_total_18 : decode cX9_total 18 = .ok (.invokevirtual 208, 3) := by decide +kernel
theorem dX9_total_21 : decode cX9_total 21 = .ok (.goto 5, 3) := by decide +kernel
theorem dX9_total_24 : decode cX9_total 24 = .ok (.bipush (-3), 2) := by decide +kernel
theorem dX9_total_26 : decode cX9_total 26 = .ok (.ireturn, 1) := by decide +kernel
def rm_X9_total : Room := { frames := 7, cells := 0, slots := 0, locals := 168 }
section
variable {p : Program} {l : Launch} {e : Env} {s : State} {m : MethodId} {args : Array Value} {below : List Frame} {meth : Method} {c : Code} {Q : State → Prop} {G : va_G} {aC : Nat → ClassId} {t b0 : Nat}
def f_X9_total (v0 : Nat) (v1 : Int32) (N : AH) : Option (Int32 × AH) := ob (iO N v0 9) (fun _ => ob2 (f_X9_isOneOf v1 (6 : Int32) N) (fun x2 N1 => if x2 = 0 then some ((-3 : Int32), N1) else ob (hR N1 v0 9 5) (fun x4 => ob (hR N1 v0 9 1) (fun x5 => ob2 (f_X3_totalOf x4 x5 v1 N1) (fun x7 N6 => some (x7, N6))))))
set_option maxHeartbeats 4000000 in
set_option maxRecDepth 100000 in
theorem wk_X9_total {P : Int32 × AH → Prop} (X : CX cX9_total RX9 2 G aC t b0 p s m args c) (hr : RtI p l e rm_X9_total s m args below meth c 0 0 Q cX9_total G aC b0 P) (v0 : Nat) (v1 : Int32) (N : AH) (H : Heap) (locs : List Loc) (ls : Array Slot) (hR : Rp G aC b0 N H) (hS : va_S (fun q => b0 ≤ q) s.heap H locs) (hl : lv_has ls 2 [(0, .ref v0), (1, .int v1)]) (hp : owp (f_X9_total v0 v1 N) P) : W p l e rm_X9_total s m args below meth c H locs 0 0 Q (F0 m 0 ls []) := by
  have hx := X.1.1
  have hb := X.1.2.1
  unfold f_X9_total at hp
  obtain ⟨_, _, hp⟩ := owp_ob hp
  refine lv_iload_n hx hb dX9_total_0 rfl (lv_at hl 1 rfl) ?_
  refine lv_bipush (v := (6)) hx hb dX9_total_1 (by decide) ?_
  obtain ⟨x2, N1, e_N1, hp⟩ := owp_ob2 hp
  refine iv_X9_isOneOf (rest := []) mw_X9_72 X hR hS e_N1 hl.1 (Nat.le_of_ble_eq_true rfl) ⟨Nat.le_of_ble_eq_true rfl, Nat.le_of_ble_eq_true rfl⟩ ⟨Nat.le_of_ble_eq_true rfl, Nat.le_of_ble_eq_true rfl⟩ dX9_total_3 (fun H locs hR hS => ?_)
  refine lv_if_eq (tgt := 24) hx hb dX9_total_6 (by decide) (fun k3 => ?_) (fun k3 => ?_)
  · have hp := owp_t k3 hp
    refine lv_bipush (v := (-3)) hx hb dX9_total_24 (by decide) ?_
    exact hr _ _ _ _ _ _ hR hS dX9_total_26 hp
  · have hp := owp_f k3 hp
    refine lv_aload_n hx hb dX9_total_9 rfl (lv_at hl 0 rfl) ?_
    obtain ⟨x4, e_x4, hp⟩ := owp_ob hp
    refine gf_X9_47 X hR e_x4 dX9_total_10 ?_
    refine lv_aload_n hx hb dX9_total_13 rfl (lv_at hl 0 rfl) ?_
    obtain ⟨x5, e_x5, hp⟩ := owp_ob hp
    refine gf_X9_19 X hR e_x5 dX9_total_14 ?_
    refine lv_iload_n hx hb dX9_total_17 rfl (lv_at hl 1 rfl) ?_
    obtain ⟨x7, N6, e_N6, hp⟩ := owp_ob2 hp
    refine iv_X3_totalOf (rest := []) mw_X9_208 X hR hS e_N6 hl.1 (Nat.le_of_ble_eq_true rfl) ⟨Nat.le_of_ble_eq_true rfl, Nat.le_of_ble_eq_true rfl⟩ ⟨Nat.le_of_ble_eq_true rfl, Nat.le_of_ble_eq_true rfl⟩ dX9_total_18 (fun H locs hR hS => ?_)
    refine lv_goto (tgt := 26) hx hb dX9_total_21 (by decide) ?_
    exact hr _ _ _ _ _ _ hR hS dX9_total_26 hp
end
theorem ct_X9_total {v0 : Nat} {v1 : Int32} {N N1 : AH} {r : Int32} (h : f_X9_total v0 v1 N = some (r, N1)) : Ct yX9_total cX9_total 2 (some .int) rm_X9_total [.ref v0, .int v1] N (some (.int r)) N1 :=
  ab_met (own := RX9) (by decide +kernel) rfl (Nat.le_of_ble_eq_true rfl) (fun l G aC t b0 p e s m below meth c ls X hr hlk hnm hR hS hl => wk_X9_total X (RtI_met X.1.1 X.1.2.1 hr hlk) _ _ _ _ _ _ hR hS hl (owp_of h))
theorem cw_X9_total : Cond.code yX9_total cX9_total 2 (some .int) ∈ WT := WT_of 825 (by decide +kernel) (by decide +kernel)
theorem iv_X9_total {p : Program} {l : Launch} {e : Env} {R : Room} {s : State} {m : MethodId} {args : Array Value} {below : List Frame} {meth : Method} {c : Code} {H : Heap} {locs : List Loc} {cells slots : Nat} {Q : State → Prop} {cc : ByteArray} {own : String} {nL : Nat} {G : va_G} {aC : Nat → ClassId} {t b0 : Nat} {N N1 : AH} {pc index : Nat} {ls : Array Slot} {rest : List Value} {v0 : Nat} {v1 : Int32} {r : Int32} (w1 : Cond.methodLink own index yX9_total ∈ WT) (X : CX cc own nL G aC t b0 p s m args c) (hR : Rp G aC b0 N H) (hS : va_S (fun q => b0 ≤ q) s.heap H locs) (h : f_X9_total v0 v1 N = some (r, N1)) (hls : ls.size = nL) (hW : (rest.map fun v => v.category).sum ≤ 8) (hR1 : 8 ≤ R.frames ∧ 189 ≤ R.locals) (hcs : cells + 0 ≤ R.cells ∧ slots + 0 ≤ R.slots) (hdg : decode cc pc = .ok (.invokevirtual index, 3)) (kk : ∀ (H1 : Heap) (locs1 : List Loc), Rp G aC b0 N1 H1 → va_S (fun q => b0 ≤ q) s.heap H1 locs1 → W p l e R s m args below meth c H1 locs1 cells slots Q (F0 m (pc + 3) ls (.int r :: rest))) : W p l e R s m args below meth c H locs cells slots Q (F0 m pc ls (.int v1 :: .ref v0 :: rest)) :=
  ab_callV (n := 1) (As := [.int v1]) X hR hS (ct_X9_total h) (ob_rc (c := 9) (N := N) (a := v0) h) (T := TX9) (k := 6) (C := RX9) rfl w1 (WT_of 823 (by decide +kernel) (by decide +kernel)) (WT_of 824 (by decide +kernel) (by decide +kernel)) (WT_of 81 (by decide +kernel) (by decide +kernel)) cw_X9_total ⟨rfl, by decide +kernel, by decide +kernel, by decide +kernel⟩ rfl hls hW hR1 hcs rfl hdg kk
-- X9_bestPolicy
theorem mw_X9_211 : Cond.methodLink RX9 211 yX9_isLess ∈ WT := WT_of 855 (by decide +kernel) (by decide +kernel)
theorem dX9_bestPolicy_0 : decode cX9_bestPolicy 0 = .ok (.iconst (-1), 1) := by decide +kernel
theorem dX9_bestPolicy_1 : decode cX9_bestPolicy 1 = .ok (.istore_n 1, 1) := by decide +kernel
theorem dX9_bestPolicy_2 : decode cX9_bestPolicy 2 = .ok (.iconst (-1), 1) := by decide +kernel
theorem dX9_bestPolicy_3 : decode cX9_bestPolicy 3 = .ok (.istore_n 2, 1) := by decide +kernel
theorem dX9_bestPolicy_4 : decode cX9_bestPolicy 4 = .ok (.iconst 0, 1) := by decide +kernel
theorem dX9_bestPolicy_5 : decode cX9_bestPolicy 5 = .ok (.istore_n 3, 1) := by decide +kernel
theorem dX9_bestPolicy_6 : decode cX9_bestPolicy 6 = .ok (.iload_n 3, 1) := by decide +kernel
theorem dX9_bestPolicy_7 : decode cX9_bestPolicy 7 = .ok (.bipush 6, 2) := by decide +kernel
theorem dX9_bestPolicy_9 : decode cX9_bestPolicy 9 = .ok (.if_icmp .ge 37, 3) := by decide +kernel
theorem dX9_bestPolicy_12 : decode cX9_bestPolicy 12 = .ok (.aload_n 0, 1) := by decide +kernel
theorem dX9_bestPolicy_13 : decode cX9_bestPolicy 13 = .ok (.getfield 47, 3) := by decide +kernel
theorem dX9_bestPolicy_16 : decode cX9_bestPolicy 16 = .ok (.aload_n 0, 1) := by decide +kernel
theorem dX9_bestPolicy_17 : decode cX9_bestPolicy 17 = .ok (.getfield 19, 3) := by decide +kernel
theorem dX9_bestPolicy_20 : decode cX9_bestPolicy 20 = .ok (.iload_n 3, 1) := by decide +kernel
theorem dX9_bestPolicy_21 : decode cX9_bestPolicy 21 = .ok (.invokevirtual 208, 3) := by decide +kernel
theorem dX9_bestPolicy_24 : decode cX9_bestPolicy 24 = .ok (.istore 4, 2) := by decide +kernel
theorem dX9_bestPolicy_26 : decode cX9_bestPolicy 26 = .ok (.iload 4, 2) := by decide +kernel
theorem dX9_bestPolicy_28 : decode cX9_bestPolicy 28 = .ok (.iload_n 2, 1) := by decide +kernel
theorem dX9_bestPolicy_29 : decode cX9_bestPolicy 29 = .ok (.invokestatic 211, 3) := by decide +kernel
theorem dX9_bestPolicy_32 : decode cX9_bestPolicy 32 = .ok (.ifCond .eq 8, 3) := by decide +kernel
theorem dX9_bestPolicy_35 : decode cX9_bestPolicy 35 = .ok (.iload 4, 2) := by decide +kernel
theorem dX9_bestPolicy_37 : decode cX9_bestPolicy 37 = .ok (.istore_n 2, 1) := by decide +kernel
theorem dX9_bestPolicy_38 : decode cX9_bestPolicy 38 = .ok (.iload_n 3, 1) := by decide +kernel
theorem dX9_bestPolicy_39 : decode cX9_bestPolicy 39 = .ok (.istore_n 1, 1) := by decide +kernel
theorem dX9_bestPolicy_40 : decode cX9_bestPolicy 40 = .ok (.iinc 3 1, 3) := by decide +kernel
theorem dX9_bestPolicy_43 : decode cX9_bestPolicy 43 = .ok (.goto (-37), 3) := by decide +kernel
theorem dX9_bestPolicy_46 : decode cX9_bestPolicy 46 = .ok (.iload_n 1, 1) := by decide +kernel
theorem dX9_bestPolicy_47 : decode cX9_bestPolicy 47 = .ok (.ireturn, 1) := by decide +kernel
def rm_X9_bestPolicy : Room := { frames := 7, cells := 0, slots := 0, locals := 168 }
section
variable {p : Program} {l : Launch} {e : Env} {s : State} {m : MethodId} {args : Array Value} {below : List Frame} {meth : Method} {c : Code} {Q : State → Prop} {G : va_G} {aC : Nat → ClassId} {t b0 : Nat}
def f_X9_bestPolicy_L6 (v0 : Nat) (k46 : Int32 → AH → Option (Int32 × AH)) : Nat → Int32 → Int32 → Int32 → AH → Option (Int32 × AH)
  | 0, _, _, _, _ => none
  | n + 1, v1, v2, v3, N => if (6 : Int32) ≤ v3 then k46 v1 N else ob (hR N v0 9 5) (fun x2 => ob (hR N v0 9 1) (fun x3 => ob2 (f_X3_totalOf x2 x3 v3 N) (fun x5 N4 => ob2 (f_X9_isLess x5 v2 N4) (fun x7 N6 => if x7 = 0 then f_X9_bestPolicy_L6 v0 k46 n v1 v2 (v3 + 1) N6 else f_X9_bestPolicy_L6 v0 k46 n v3 x5 (v3 + 1) N6))))
set_option maxHeartbeats 4000000 in
set_option maxRecDepth 100000 in
theorem w_X9_bestPolicy_L6 {P : Int32 × AH → Prop} (X : CX cX9_bestPolicy RX9 5 G aC t b0 p s m args c) (hr : RtI p l e rm_X9_bestPolicy s m args below meth c 0 0 Q cX9_bestPolicy G aC b0 P) (v0 : Nat) {k46 : Int32 → AH → Option (Int32 × AH)}
    (hk46 : ∀ (v1 : Int32) (N : AH) (H : Heap) (locs : List Loc) (ls : Array Slot), Rp G aC b0 N H → va_S (fun q => b0 ≤ q) s.heap H locs → lv_has ls 5 [(1, .int v1)] → owp (k46 v1 N) P → W p l e rm_X9_bestPolicy s m args below meth c H locs 0 0 Q (F0 m 46 ls [])) :
    ∀ (n : Nat) (v1 : Int32) (v2 : Int32) (v3 : Int32) (N : AH) (H : Heap) (locs : List Loc) (ls : Array Slot), Rp G aC b0 N H → va_S (fun q => b0 ≤ q) s.heap H locs → lv_has ls 5 [(0, .ref v0), (1, .int v1), (2, .int v2), (3, .int v3)] → owp (f_X9_bestPolicy_L6 v0 k46 n v1 v2 v3 N) P → W p l e rm_X9_bestPolicy s m args below meth c H locs 0 0 Q (F0 m 6 ls []) := by
  have hx := X.1.1
  have hb := X.1.2.1
  intro n
  induction n with
  | zero =>
    intro v1 v2 v3 N H locs ls hR hS hl hp
    exact (show False from hp).elim
  | succ n ih =>
    intro v1 v2 v3 N H locs ls hR hS hl hp
    rw [f_X9_bestPolicy_L6] at hp
    refine lv_iload_n hx hb dX9_bestPolicy_6 rfl (lv_at hl 3 rfl) ?_
    refine lv_bipush (v := (6)) hx hb dX9_bestPolicy_7 (by decide) ?_
    refine lv_icmp_ge (tgt := 46) hx hb dX9_bestPolicy_9 (by decide) (fun k1 => ?_) (fun k1 => ?_)
    · have hp := owp_t k1 hp
      exact hk46 _ _ _ _ _ hR hS (lv_sub hl [1] rfl) hp
    · have hp := owp_f k1 hp
      refine lv_aload_n hx hb dX9_bestPolicy_12 rfl (lv_at hl 0 rfl) ?_
      obtain ⟨x2, e_x2, hp⟩ := owp_ob hp
      refine gf_X9_47 X hR e_x2 dX9_bestPolicy_13 ?_
      refine lv_aload_n hx hb dX9_bestPolicy_16 rfl (lv_at hl 0 rfl) ?_
      obtain ⟨x3, e_x3, hp⟩ := owp_ob hp
      refine gf_X9_19 X hR e_x3 dX9_bestPolicy_17 ?_
      refine lv_iload_n hx hb dX9_bestPolicy_20 rfl (lv_at hl 3 rfl) ?_
      obtain ⟨x5, N4, e_N4, hp⟩ := owp_ob2 hp
      refine iv_X3_totalOf (rest := []) mw_X9_208 X hR hS e_N4 hl.1 (Nat.le_of_ble_eq_true rfl) ⟨Nat.le_of_ble_eq_true rfl, Nat.le_of_ble_eq_true rfl⟩ ⟨Nat.le_of_ble_eq_true rfl, Nat.le_of_ble_eq_true rfl⟩ dX9_bestPolicy_21 (fun H locs hR hS => ?_)
      refine lv_istore (lv' := [(4, .int x5), (0, .ref v0), (1, .int v1), (2, .int v2), (3, .int v3)]) hx hb dX9_bestPolicy_24 hl (by decide) rfl (fun ls hl => ?_)
      refine lv_iload hx hb dX9_bestPolicy_26 (lv_at hl 0 rfl) ?_
      refine lv_iload_n hx hb dX9_bestPolicy_28 rfl (lv_at hl 3 rfl) ?_
      obtain ⟨x7, N6, e_N6, hp⟩ := owp_ob2 hp
      refine iv_X9_isLess (rest := []) mw_X9_211 X hR hS e_N6 hl.1 (Nat.le_of_ble_eq_true rfl) ⟨Nat.le_of_ble_eq_true rfl, Nat.le_of_ble_eq_true rfl⟩ ⟨Nat.le_of_ble_eq_true rfl, Nat.le_of_ble_eq_true rfl⟩ dX9_bestPolicy_29 (fun H locs hR hS => ?_)
      refine lv_if_eq (tgt := 40) hx hb dX9_bestPolicy_32 (by decide) (fun k8 => ?_) (fun k8 => ?_)
      · have hp := owp_t k8 hp
        refine lv_iinc (v := v3 + 1) (lv' := [(3, .int (v3 + 1)), (4, .int x5), (0, .ref v0), (1, .int v1), (2, .int v2)]) hx hb dX9_bestPolicy_40 hl (k := 4) rfl rfl (by decide) rfl (fun ls hl => ?_)
        refine lv_goto (tgt := 6) hx hb dX9_bestPolicy_43 (by decide) ?_
        exact ih _ _ _ _ _ _ _ hR hS (lv_sub hl [2, 3, 4, 0] rfl) hp
      · have hp := owp_f k8 hp
        refine lv_iload hx hb dX9_bestPolicy_35 (lv_at hl 0 rfl) ?_
        refine lv_istore_n (lv' := [(2, .int x5), (4, .int x5), (0, .ref v0), (1, .int v1), (3, .int v3)]) hx hb dX9_bestPolicy_37 rfl hl (by decide) rfl (fun ls hl => ?_)
        refine lv_iload_n hx hb dX9_bestPolicy_38 rfl (lv_at hl 4 rfl) ?_
        refine lv_istore_n (lv' := [(1, .int v3), (2, .int x5), (4, .int x5), (0, .ref v0), (3, .int v3)]) hx hb dX9_bestPolicy_39 rfl hl (by decide) rfl (fun ls hl => ?_)
        refine lv_iinc (v := v3 + 1) (lv' := [(3, .int (v3 + 1)), (1, .int v3), (2, .int x5), (4, .int x5), (0, .ref v0)]) hx hb dX9_bestPolicy_40 hl (k := 4) rfl rfl (by decide) rfl (fun ls hl => ?_)
        refine lv_goto (tgt := 6) hx hb dX9_bestPolicy_43 (by decide) ?_
        exact ih _ _ _ _ _ _ _ hR hS (lv_sub hl [4, 1, 2, 0] rfl) hp
def f_X9_bestPolicy (v0 : Nat) (N : AH) : Option (Int32 × AH) := ob (iO N v0 9) (fun _ => f_X9_bestPolicy_L6 v0 (fun v9 N10 => some (v9, N10)) FU (-1 : Int32) (-1 : Int32) (0 : Int32) N)
set_option maxHeartbeats 4000000 in
set_option maxRecDepth 100000 in
theorem wk_X9_bestPolicy {P : Int32 × AH → Prop} (X : CX cX9_bestPolicy RX9 5 G aC t b0 p s m args c) (hr : RtI p l e rm_X9_bestPolicy s m args below meth c 0 0 Q cX9_bestPolicy G aC b0 P) (v0 : Nat) (N : AH) (H : Heap) (locs : List Loc) (ls : Array Slot) (hR : Rp G aC b0 N H) (hS : va_S (fun q => b0 ≤ q) s.heap H locs) (hl : lv_has ls 5 [(0, .ref v0)]) (hp : owp (f_X9_bestPolicy v0 N) P) : W p l e rm_X9_bestPolicy s m args below meth c H locs 0 0 Q (F0 m 0 ls []) := by
  have hx := X.1.1
  have hb := X.1.2.1
  unfold f_X9_bestPolicy at hp
  obtain ⟨_, _, hp⟩ := owp_ob hp
  refine lv_iconst (v := (-1)) hx hb dX9_bestPolicy_0 (by decide) ?_
  refine lv_istore_n (lv' := [(1, .int (-1 : Int32)), (0, .ref v0)]) hx hb dX9_bestPolicy_1 rfl hl (by decide) rfl (fun ls hl => ?_)
  refine lv_iconst (v := (-1)) hx hb dX9_bestPolicy_2 (by decide) ?_
  refine lv_istore_n (lv' := [(2, .int (-1 : Int32)), (1, .int (-1 : Int32)), (0, .ref v0)]) hx hb dX9_bestPolicy_3 rfl hl (by decide) rfl (fun ls hl => ?_)
  refine lv_iconst (v := (0)) hx hb dX9_bestPolicy_4 (by decide) ?_
  refine lv_istore_n (lv' := [(3, .int (0 : Int32)), (2, .int (-1 : Int32)), (1, .int (-1 : Int32)), (0, .ref v0)]) hx hb dX9_bestPolicy_5 rfl hl (by decide) rfl (fun ls hl => ?_)
  refine w_X9_bestPolicy_L6 X hr _ (fun v9 N10 H locs ls hR hS hl hp => ?_) _ _ _ _ _ _ _ _ hR hS (lv_sub hl [3, 2, 1, 0] rfl) hp
  refine lv_iload_n hx hb dX9_bestPolicy_46 rfl (lv_at hl 0 rfl) ?_
  exact hr _ _ _ _ _ _ hR hS dX9_bestPolicy_47 hp
end
theorem ct_X9_bestPolicy {v0 : Nat} {N N1 : AH} {r : Int32} (h : f_X9_bestPolicy v0 N = some (r, N1)) : Ct yX9_bestPolicy cX9_bestPolicy 5 (some .int) rm_X9_bestPolicy [.ref v0] N (some (.int r)) N1 :=
  ab_met (own := RX9) (by decide +kernel) rfl (Nat.le_of_ble_eq_true rfl) (fun l G aC t b0 p e s m below meth c ls X hr hlk hnm hR hS hl => wk_X9_bestPolicy X (RtI_met X.1.1 X.1.2.1 hr hlk) _ _ _ _ _ hR hS hl (owp_of h))
theorem cw_X9_bestPolicy : Cond.code yX9_bestPolicy cX9_bestPolicy 5 (some .int) ∈ WT := WT_of 854 (by decide +kernel) (by decide +kernel)
theorem iv_X9_bestPolicy {p : Program} {l : Launch} {e : Env} {R : Room} {s : State} {m : MethodId} {args : Array Value} {below : List Frame} {meth : Method} {c : Code} {H : Heap} {locs : List Loc} {cells slots : Nat} {Q : State → Prop} {cc : ByteArray} {own : String} {nL : Nat} {G : va_G} {aC : Nat → ClassId} {t b0 : Nat} {N N1 : AH} {pc index : Nat} {ls : Array Slot} {rest : List Value} {v0 : Nat} {r : Int32} (w1 : Cond.methodLink own index yX9_bestPolicy ∈ WT) (X : CX cc own nL G aC t b0 p s m args c) (hR : Rp G aC b0 N H) (hS : va_S (fun q => b0 ≤ q) s.heap H locs) (h : f_X9_bestPolicy v0 N = some (r, N1)) (hls : ls.size = nL) (hW : (rest.map fun v => v.category).sum ≤ 8) (hR1 : 8 ≤ R.frames ∧ 192 ≤ R.locals) (hcs : cells + 0 ≤ R.cells ∧ slots + 0 ≤ R.slots) (hdg : decode cc pc = .ok (.invokevirtual index, 3)) (kk : ∀ (H1 : Heap) (locs1 : List Loc), Rp G aC b0 N1 H1 → va_S (fun q => b0 ≤ q) s.heap H1 locs1 → W p l e R s m args below meth c H1 locs1 cells slots Q (F0 m (pc + 3) ls (.int r :: rest))) : W p l e R s m args below meth c H locs cells slots Q (F0 m pc ls (.ref v0 :: rest)) :=
  ab_callV (n := 0) (As := []) X hR hS (ct_X9_bestPolicy h) (ob_rc (c := 9) (N := N) (a := v0) h) (T := TX9) (k := 6) (C := RX9) rfl w1 (WT_of 852 (by decide +kernel) (by decide +kernel)) (WT_of 853 (by decide +kernel) (by decide +kernel)) (WT_of 81 (by decide +kernel) (by decide +kernel)) cw_X9_bestPolicy ⟨rfl, by decide +kernel, by decide +kernel, by decide +kernel⟩ rfl hls hW hR1 hcs rfl hdg kk
-- X9_canBeOrdered
theorem mw_X9_224 : Cond.methodLink RX9 224 yX7_countOpen ∈ WT := WT_of 866 (by decide +kernel) (by decide +kernel)
theorem dX9_canBeOrdered_0 : decode cX9_canBeOrdered 0 = .ok (.aload_n 0, 1) := by decide +kernel
theorem dX9_canBeOrdered_1 : decode cX9_canBeOrdered 1 = .ok (.getfield 19, 3) := by decide +kernel
theorem dX9_canBeOrdered_4 : decode cX9_canBeOrdered 4 = .ok (.invokevirtual 224, 3) := by decide +kernel
theorem dX9_canBeOrdered_7 : decode cX9_canBeOrdered 7 = .ok (.istore_n 1, 1) := by decide +kernel
theorem dX9_canBeOrdered_8 : decode cX9_canBeOrdered 8 = .ok (.iload_n 1, 1) := by decide +kernel
theorem dX9_canBeOrdered_9 : decode cX9_canBeOrdered 9 = .ok (.iconst 1, 1) := by decide +kernel
theorem dX9_canBeOrdered_10 : decode cX9_canBeOrdered 10 = .ok (.if_icmp .lt 12, 3) := by decide +kernel
theorem dX9_canBeOrdered_13 : decode cX9_canBeOrdered 13 = .ok (.iload_n 1, 1) := by decide +kernel
theorem dX9_canBeOrdered_14 : decode cX9_canBeOrdered 14 = .ok (.iconst 4, 1) := by decide +kernel
theorem dX9_canBeOrdered_15 : decode cX9_canBeOrdered 15 = .ok (.if_icmp .gt 7, 3) := by decide +kernel
theorem dX9_canBeOrdered_18 : decode cX9_canBeOrdered 18 = .ok (.iconst 1, 1) := by decide +kernel
theorem dX9_canBeOrdered_19 : decode cX9_canBeOrdered 19 = .ok (.goto 4, 3) := by decide +kernel
theorem dX9_canBeOrdered_22 : decode cX9_canBeOrdered 22 = .ok (.iconst 0, 1) := by decide +kernel
theorem dX9_canBeOrdered_23 : decode cX9_canBeOrdered 23 = .ok (.ireturn, 1) := by decide +kernel
def rm_X9_canBeOrdered : Room := { frames := 2, cells := 0, slots := 0, locals := 42 }
section
variable {p : Program} {l : Launch} {e : Env} {s : State} {m : MethodId} {args : Array Value} {below : List Frame} {meth : Method} {c : Code} {Q : State → Prop} {G : va_G} {aC : Nat → ClassId} {t b0 : Nat}
def f_X9_canBeOrdered (v0 : Nat) (N : AH) : Option (Int32 × AH) := ob (iO N v0 9) (fun _ => ob (hR N v0 9 1) (fun x1 => ob2 (f_X7_countOpen x1 N) (fun x3 N2 => if x3 < (1 : Int32) then some ((0 : Int32), N2) else if (4 : Int32) < x3 then some ((0 : Int32), N2) else some ((1 : Int32), N2))))
set_option maxHeartbeats 4000000 in
set_option maxRecDepth 100000 in
theorem wk_X9_canBeOrdered {P : Int32 × AH → Prop} (X : CX cX9_canBeOrdered RX9 2 G aC t b0 p s m args c) (hr : RtZ p l e rm_X9_canBeOrdered s m args below meth c 0 0 Q cX9_canBeOrdered G aC b0 P) (v0 : Nat) (N : AH) (H : Heap) (locs : List Loc) (ls : Array Slot) (hR : Rp G aC b0 N H) (hS : va_S (fun q => b0 ≤ q) s.heap H locs) (hl : lv_has ls 2 [(0, .ref v0)]) (hp : owp (f_X9_canBeOrdered v0 N) P) : W p l e rm_X9_canBeOrdered s m args below meth c H locs 0 0 Q (F0 m 0 ls []) := by
  have hx := X.1.1
  have hb := X.1.2.1
  unfold f_X9_canBeOrdered at hp
  obtain ⟨_, _, hp⟩ := owp_ob hp
  refine lv_aload_n hx hb dX9_canBeOrdered_0 rfl (lv_at hl 0 rfl) ?_
  obtain ⟨x1, e_x1, hp⟩ := owp_ob hp
  refine gf_X9_19 X hR e_x1 dX9_canBeOrdered_1 ?_
  obtain ⟨x3, N2, e_N2, hp⟩ := owp_ob2 hp
  refine iv_X7_countOpen (rest := []) mw_X9_224 X hR hS e_N2 hl.1 (Nat.le_of_ble_eq_true rfl) ⟨Nat.le_of_ble_eq_true rfl, Nat.le_of_ble_eq_true rfl⟩ ⟨Nat.le_of_ble_eq_true rfl, Nat.le_of_ble_eq_true rfl⟩ dX9_canBeOrdered_4 (fun H locs hR hS => ?_)
  refine lv_istore_n (lv' := [(1, .int x3), (0, .ref v0)]) hx hb dX9_canBeOrdered_7 rfl hl (by decide) rfl (fun ls hl => ?_)
  refine lv_iload_n hx hb dX9_canBeOrdered_8 rfl (lv_at hl 0 rfl) ?_
  refine lv_iconst (v := (1)) hx hb dX9_canBeOrdered_9 (by decide) ?_
  refine lv_icmp_lt (tgt := 22) hx hb dX9_canBeOrdered_10 (by decide) (fun k4 => ?_) (fun k4 => ?_)
  · have hp := owp_t k4 hp
    refine lv_iconst (v := (0)) hx hb dX9_canBeOrdered_22 (by decide) ?_
    exact hr _ _ _ _ _ _ hR hS dX9_canBeOrdered_23 (rZ_0 hp)
  · have hp := owp_f k4 hp
    refine lv_iload_n hx hb dX9_canBeOrdered_13 rfl (lv_at hl 0 rfl) ?_
    refine lv_iconst (v := (4)) hx hb dX9_canBeOrdered_14 (by decide) ?_
    refine lv_icmp_gt (tgt := 22) hx hb dX9_canBeOrdered_15 (by decide) (fun k5 => ?_) (fun k5 => ?_)
    · have hp := owp_t k5 hp
      refine lv_iconst (v := (0)) hx hb dX9_canBeOrdered_22 (by decide) ?_
      exact hr _ _ _ _ _ _ hR hS dX9_canBeOrdered_23 (rZ_0 hp)
    · have hp := owp_f k5 hp
      refine lv_iconst (v := (1)) hx hb dX9_canBeOrdered_18 (by decide) ?_
      refine lv_goto (tgt := 23) hx hb dX9_canBeOrdered_19 (by decide) ?_
      exact hr _ _ _ _ _ _ hR hS dX9_canBeOrdered_23 (rZ_1 hp)
end
theorem ct_X9_canBeOrdered {v0 : Nat} {N N1 : AH} {r : Int32} (h : f_X9_canBeOrdered v0 N = some (r, N1)) : Ct yX9_canBeOrdered cX9_canBeOrdered 2 (some .boolean) rm_X9_canBeOrdered [.ref v0] N (some (.int r)) N1 :=
  ab_met (own := RX9) (by decide +kernel) rfl (Nat.le_of_ble_eq_true rfl) (fun l G aC t b0 p e s m below meth c ls X hr hlk hnm hR hS hl => wk_X9_canBeOrdered X (RtZ_met X.1.1 X.1.2.1 hr hlk) _ _ _ _ _ hR hS hl (owp_of h))
theorem cw_X9_canBeOrdered : Cond.code yX9_canBeOrdered cX9_canBeOrdered 2 (some .boolean) ∈ WT := WT_of 865 (by decide +kernel) (by decide +kernel)
theorem iv_X9_canBeOrdered {p : Program} {l : Launch} {e : Env} {R : Room} {s : State} {m : MethodId} {args : Array Value} {below : List Frame} {meth : Method} {c : Code} {H : Heap} {locs : List Loc} {cells slots : Nat} {Q : State → Prop} {cc : ByteArray} {own : String} {nL : Nat} {G : va_G} {aC : Nat → ClassId} {t b0 : Nat} {N N1 : AH} {pc index : Nat} {ls : Array Slot} {rest : List Value} {v0 : Nat} {r : Int32} (w1 : Cond.methodLink own index yX9_canBeOrdered ∈ WT) (X : CX cc own nL G aC t b0 p s m args c) (hR : Rp G aC b0 N H) (hS : va_S (fun q => b0 ≤ q) s.heap H locs) (h : f_X9_canBeOrdered v0 N = some (r, N1)) (hls : ls.size = nL) (hW : (rest.map fun v => v.category).sum ≤ 8) (hR1 : 3 ≤ R.frames ∧ 63 ≤ R.locals) (hcs : cells + 0 ≤ R.cells ∧ slots + 0 ≤ R.slots) (hdg : decode cc pc = .ok (.invokevirtual index, 3)) (kk : ∀ (H1 : Heap) (locs1 : List Loc), Rp G aC b0 N1 H1 → va_S (fun q => b0 ≤ q) s.heap H1 locs1 → W p l e R s m args below meth c H1 locs1 cells slots Q (F0 m (pc + 3) ls (.int r :: rest))) : W p l e R s m args below meth c H locs cells slots Q (F0 m pc ls (.ref v0 :: rest)) :=
  ab_callV (n := 0) (As := []) X hR hS (ct_X9_canBeOrdered h) (ob_rc (c := 9) (N := N) (a := v0) h) (T := TX9) (k := 6) (C := RX9) rfl w1 (WT_of 864 (by decide +kernel) (by decide +kernel)) (WT_of 25 (by decide +kernel) (by decide +kernel)) (WT_of 81 (by decide +kernel) (by decide +kernel)) cw_X9_canBeOrdered ⟨rfl, by decide +kernel, by decide +kernel, by decide +kernel⟩ rfl hls hW hR1 hcs rfl hdg kk
-- X9_bestOrder
theorem gf_X9_221 {p : Program} {l : Launch} {e : Env} {R : Room} {s : State} {m : MethodId} {args : Array Value} {below : List Frame} {meth : Method} {c : Code} {H : Heap} {locs : List Loc} {cells slots : Nat} {Q : State → Prop} {cc : ByteArray} {nL : Nat} {G : va_G} {aC : Nat → ClassId} {t b0 : Nat} {N : AH} {pc : Nat} {ls : Array Slot} {rest : List Value} {a : Nat} {v : Int32} (X : CX cc RX9 nL G aC t b0 p s m args c) (hR0 : Rp G aC b0 N H) (hv : hI N a 3 3 = some v) (hdg : decode cc pc = .ok (.getfield 221, 3)) (kk : W p l e R s m args below meth c H locs cells slots Q (F0 m (pc + 3) ls (.int v :: rest))) : W p l e R s m args below meth c H locs cells slots Q (F0 m pc ls (.ref a :: rest)) := by
  obtain ⟨fs, h1, h2⟩ := hI_ok hv
  exact ab_get (C := RX3) (T := TX3) (n := 7) X hR0 h1 h2 rfl inX3 (by decide) (WT_of 413 (by decide +kernel) (by decide +kernel)) hdg kk
theorem mw_X9_214 : Cond.methodLink RX9 214 yX9_canBeOrdered ∈ WT := WT_of 862 (by decide +kernel) (by decide +kernel)
theorem mw_X9_218 : Cond.methodLink RX9 218 yX3_findBestOrder ∈ WT := WT_of 867 (by decide +kernel) (by decide +kernel)
theorem dX9_bestOrder_0 : decode cX9_bestOrder 0 = .ok (.aload_n 0, 1) := by decide +kernel
theorem dX9_bestOrder_1 : decode cX9_bestOrder 1 = .ok (.invokevirtual 214, 3) := by decide +kernel
theorem dX9_bestOrder_4 : decode cX9_bestOrder 4 = .ok (.ifCond .ne 6, 3) := by decide +kernel
theorem dX9_bestOrder_7 : decode cX9_bestOrder 7 = .ok (.bipush (-4), 2) := by decide +kernel
theorem dX9_bestOrder_9 : decode cX9_bestOrder 9 = .ok (.ireturn, 1) := by decide +kernel
theorem dX9_bestOrder_10 : decode cX9_bestOrder 10 = .ok (.aload_n 0, 1) := by decide +kernel
theorem dX9_bestOrder_11 : decode cX9_bestOrder 11 = .ok (.getfield 47, 3) := by decide +kernel
theorem dX9_bestOrder_14 : decode cX9_bestOrder 14 = .ok (.aload_n 0, 1) := by decide +kernel
theorem dX9_bestOrder_15 : decode cX9_bestOrder 15 = .ok (.getfield 19, 3) := by decide +kernel
theorem dX9_bestOrder_18 : decode cX9_bestOrder 18 = .ok (.invokevirtual 218, 3) := by decide +kernel
theorem dX9_bestOrder_21 : decode cX9_bestOrder 21 = .ok (.aload_n 0, 1) := by decide +kernel
theorem dX9_bestOrder_22 : decode cX9_bestOrder 22 = .ok (.getfield 47, 3) := by decide +kernel
theorem dX9_bestOrder_25 : decode cX9_bestOrder 25 = .ok (.getfield 221, 3) := by decide +kernel
theorem dX9_bestOrder_28 : decode cX9_bestOrder 28 = .ok (.ireturn, 1) := by decide +kernel
def rm_X9_bestOrder : Room := { frames := 7, cells := 0, slots := 0, locals := 171 }
section
variable {p : Program} {l : Launch} {e : Env} {s : State} {m : MethodId} {args : Array Value} {below : List Frame} {meth : Method} {c : Code} {Q : State → Prop} {G : va_G} {aC : Nat → ClassId} {t b0 : Nat}
def f_X9_bestOrder (v0 : Nat) (N : AH) : Option (Int32 × AH) := ob (iO N v0 9) (fun _ => ob2 (f_X9_canBeOrdered v0 N) (fun x2 N1 => if ¬ x2 = 0 then ob (hR N1 v0 9 5) (fun x4 => ob (hR N1 v0 9 1) (fun x5 => ob2 (f_X3_findBestOrder x4 x5 N1) (fun _ N6 => ob (hR N6 v0 9 5) (fun x7 => ob (hI N6 x7 3 3) (fun x8 => some (x8, N6)))))) else some ((-4 : Int32), N1)))
set_option maxHeartbeats 4000000 in
set_option maxRecDepth 100000 in
theorem wk_X9_bestOrder {P : Int32 × AH → Prop} (X : CX cX9_bestOrder RX9 1 G aC t b0 p s m args c) (hr : RtI p l e rm_X9_bestOrder s m args below meth c 0 0 Q cX9_bestOrder G aC b0 P) (v0 : Nat) (N : AH) (H : Heap) (locs : List Loc) (ls : Array Slot) (hR : Rp G aC b0 N H) (hS : va_S (fun q => b0 ≤ q) s.heap H locs) (hl : lv_has ls 1 [(0, .ref v0)]) (hp : owp (f_X9_bestOrder v0 N) P) : W p l e rm_X9_bestOrder s m args below meth c H locs 0 0 Q (F0 m 0 ls []) := by
  have hx := X.1.1
  have hb := X.1.2.1
  unfold f_X9_bestOrder at hp
  obtain ⟨_, _, hp⟩ := owp_ob hp
  refine lv_aload_n hx hb dX9_bestOrder_0 rfl (lv_at hl 0 rfl) ?_
  obtain ⟨x2, N1, e_N1, hp⟩ := owp_ob2 hp
  refine iv_X9_canBeOrdered (rest := []) mw_X9_214 X hR hS e_N1 hl.1 (Nat.le_of_ble_eq_true rfl) ⟨Nat.le_of_ble_eq_true rfl, Nat.le_of_ble_eq_true rfl⟩ ⟨Nat.le_of_ble_eq_true rfl, Nat.le_of_ble_eq_true rfl⟩ dX9_bestOrder_1 (fun H locs hR hS => ?_)
  refine lv_if_ne (tgt := 10) hx hb dX9_bestOrder_4 (by decide) (fun k3 => ?_) (fun k3 => ?_)
  · have hp := owp_t k3 hp
    refine lv_aload_n hx hb dX9_bestOrder_10 rfl (lv_at hl 0 rfl) ?_
    obtain ⟨x4, e_x4, hp⟩ := owp_ob hp
    refine gf_X9_47 X hR e_x4 dX9_bestOrder_11 ?_
    refine lv_aload_n hx hb dX9_bestOrder_14 rfl (lv_at hl 0 rfl) ?_
    obtain ⟨x5, e_x5, hp⟩ := owp_ob hp
    refine gf_X9_19 X hR e_x5 dX9_bestOrder_15 ?_
    obtain ⟨_, N6, e_N6, hp⟩ := owp_ob2 hp
    refine iv_X3_findBestOrder (rest := []) mw_X9_218 X hR hS e_N6 hl.1 (Nat.le_of_ble_eq_true rfl) ⟨Nat.le_of_ble_eq_true rfl, Nat.le_of_ble_eq_true rfl⟩ ⟨Nat.le_of_ble_eq_true rfl, Nat.le_of_ble_eq_true rfl⟩ dX9_bestOrder_18 (fun H locs hR hS => ?_)
    refine lv_aload_n hx hb dX9_bestOrder_21 rfl (lv_at hl 0 rfl) ?_
    obtain ⟨x7, e_x7, hp⟩ := owp_ob hp
    refine gf_X9_47 X hR e_x7 dX9_bestOrder_22 ?_
    obtain ⟨x8, e_x8, hp⟩ := owp_ob hp
    refine gf_X9_221 X hR e_x8 dX9_bestOrder_25 ?_
    exact hr _ _ _ _ _ _ hR hS dX9_bestOrder_28 hp
  · have hp := owp_f (fun q => q k3) hp
    refine lv_bipush (v := (-4)) hx hb dX9_bestOrder_7 (by decide) ?_
    exact hr _ _ _ _ _ _ hR hS dX9_bestOrder_9 hp
end
theorem ct_X9_bestOrder {v0 : Nat} {N N1 : AH} {r : Int32} (h : f_X9_bestOrder v0 N = some (r, N1)) : Ct yX9_bestOrder cX9_bestOrder 1 (some .int) rm_X9_bestOrder [.ref v0] N (some (.int r)) N1 :=
  ab_met (own := RX9) (by decide +kernel) rfl (Nat.le_of_ble_eq_true rfl) (fun l G aC t b0 p e s m below meth c ls X hr hlk hnm hR hS hl => wk_X9_bestOrder X (RtI_met X.1.1 X.1.2.1 hr hlk) _ _ _ _ _ hR hS hl (owp_of h))
theorem cw_X9_bestOrder : Cond.code yX9_bestOrder cX9_bestOrder 1 (some .int) ∈ WT := WT_of 861 (by decide +kernel) (by decide +kernel)
theorem iv_X9_bestOrder {p : Program} {l : Launch} {e : Env} {R : Room} {s : State} {m : MethodId} {args : Array Value} {below : List Frame} {meth : Method} {c : Code} {H : Heap} {locs : List Loc} {cells slots : Nat} {Q : State → Prop} {cc : ByteArray} {own : String} {nL : Nat} {G : va_G} {aC : Nat → ClassId} {t b0 : Nat} {N N1 : AH} {pc index : Nat} {ls : Array Slot} {rest : List Value} {v0 : Nat} {r : Int32} (w1 : Cond.methodLink own index yX9_bestOrder ∈ WT) (X : CX cc own nL G aC t b0 p s m args c) (hR : Rp G aC b0 N H) (hS : va_S (fun q => b0 ≤ q) s.heap H locs) (h : f_X9_bestOrder v0 N = some (r, N1)) (hls : ls.size = nL) (hW : (rest.map fun v => v.category).sum ≤ 8) (hR1 : 8 ≤ R.frames ∧ 191 ≤ R.locals) (hcs : cells + 0 ≤ R.cells ∧ slots + 0 ≤ R.slots) (hdg : decode cc pc = .ok (.invokevirtual index, 3)) (kk : ∀ (H1 : Heap) (locs1 : List Loc), Rp G aC b0 N1 H1 → va_S (fun q => b0 ≤ q) s.heap H1 locs1 → W p l e R s m args below meth c H1 locs1 cells slots Q (F0 m (pc + 3) ls (.int r :: rest))) : W p l e R s m args below meth c H locs cells slots Q (F0 m pc ls (.ref v0 :: rest)) :=
  ab_callV (n := 0) (As := []) X hR hS (ct_X9_bestOrder h) (ob_rc (c := 9) (N := N) (a := v0) h) (T := TX9) (k := 6) (C := RX9) rfl w1 (WT_of 859 (by decide +kernel) (by decide +kernel)) (WT_of 860 (by decide +kernel) (by decide +kernel)) (WT_of 81 (by decide +kernel) (by decide +kernel)) cw_X9_bestOrder ⟨rfl, by decide +kernel, by decide +kernel, by decide +kernel⟩ rfl hls hW hR1 hcs rfl hdg kk
-- X9_bestOrderAt
theorem gf_X9_227 {p : Program} {l : Launch} {e : Env} {R : Room} {s : State} {m : MethodId} {args : Array Value} {below : List Frame} {meth : Method} {c : Code} {H : Heap} {locs : List Loc} {cells slots : Nat} {Q : State → Prop} {cc : ByteArray} {nL : Nat} {G : va_G} {aC : Nat → ClassId} {t b0 : Nat} {N : AH} {pc : Nat} {ls : Array Slot} {rest : List Value} {a : Nat} {v : Nat} (X : CX cc RX9 nL G aC t b0 p s m args c) (hR0 : Rp G aC b0 N H) (hv : hR N a 3 4 = some v) (hdg : decode cc pc = .ok (.getfield 227, 3)) (kk : W p l e R s m args below meth c H locs cells slots Q (F0 m (pc + 3) ls (.ref v :: rest))) : W p l e R s m args below meth c H locs cells slots Q (F0 m pc ls (.ref a :: rest)) := by
  obtain ⟨fs, h1, h2⟩ := hR_ok hv
  exact ab_get (C := RX3) (T := TX3) (n := 7) X hR0 h1 h2 rfl inX3 (by decide) (WT_of 415 (by decide +kernel) (by decide +kernel)) hdg kk
theorem dX9_bestOrderAt_0 : decode cX9_bestOrderAt 0 = .ok (.iload_n 1, 1) := by decide +kernel
theorem dX9_bestOrderAt_1 : decode cX9_bestOrderAt 1 = .ok (.aload_n 0, 1) := by decide +kernel
theorem dX9_bestOrderAt_2 : decode cX9_bestOrderAt 2 = .ok (.getfield 19, 3) := by decide +kernel
theorem dX9_bestOrderAt_5 : decode cX9_bestOrderAt 5 = .ok (.invokevirtual 224, 3) := by decide +kernel
theorem dX9_bestOrderAt_8 : decode cX9_bestOrderAt 8 = .ok (.invokestatic 72, 3) := by decide +kernel
theorem dX9_bestOrderAt_11 : decode cX9_bestOrderAt 11 = .ok (.ifCond .ne 6, 3) := by decide +kernel
theorem dX9_bestOrderAt_14 : decode cX9_bestOrderAt 14 = .ok (.bipush (-2), 2) := by decide +kernel
theorem dX9_bestOrderAt_16 : decode cX9_bestOrderAt 16 = .ok (.ireturn, 1) := by decide +kernel
theorem dX9_bestOrderAt_17 : decode cX9_bestOrderAt 17 = .ok (.aload_n 0, 1) := by decide +kernel
theorem dX9_bestOrderAt_18 : decode cX9_bestOrderAt 18 = .ok (.invokevirtual 214, 3) := by decide +kernel
theorem dX9_bestOrderAt_21 : decode cX9_bestOrderAt 21 = .ok (.ifCond .ne 6, 3) := by decide +kernel
theorem dX9_bestOrderAt_24 : decode cX9_bestOrderAt 24 = .ok (.bipush (-4), 2) := by decide +kernel
theorem dX9_bestOrderAt_26 : decode cX9_bestOrderAt 26 = .ok (.ireturn, 1) := by decide +kernel
theorem dX9_bestOrderAt_27 : decode cX9_bestOrderAt 27 = .ok (.aload_n 0, 1) := by decide +kernel
theorem dX9_bestOrderAt_28 : decode cX9_bestOrderAt 28 = .ok (.getfield 47, 3) := by decide +kernel
theorem dX9_bestOrderAt_31 : decode cX9_bestOrderAt 31 = .ok (.aload_n 0, 1) := by decide +kernel
theorem dX9_bestOrderAt_32 : decode cX9_bestOrderAt 32 = .ok (.getfield 19, 3) := by decide +kernel
theorem dX9_bestOrderAt_35 : decode cX9_bestOrderAt 35 = .ok (.invokevirtual 218, 3) := by decide +kernel
theorem dX9_bestOrderAt_38 : decode cX9_bestOrderAt 38 = .ok (.iload_n 1, 1) := by decide +kernel
theorem dX9_bestOrderAt_39 : decode cX9_bestOrderAt 39 = .ok (.iconst 4, 1) := by decide +kernel
theorem dX9_bestOrderAt_40 : decode cX9_bestOrderAt 40 = .ok (.invokestatic 72, 3) := by decide +kernel
theorem dX9_bestOrderAt_43 : decode cX9_bestOrderAt 43 = .ok (.ifCond .eq 15, 3) := by decide +kernel
theorem dX9_bestOrderAt_46 : decode cX9_bestOrderAt 46 = .ok (.aload_n 0, 1) := by decide +kernel
theorem dX9_bestOrderAt_47 : decode cX9_bestOrderAt 47 = .ok (.getfield 47, 3) := by decide +kernel
theorem dX9_bestOrderAt_50 : decode cX9_bestOrderAt 50 = .ok (.getfield 227, 3) := by decide +kernel
theorem dX9_bestOrderAt_53 : decode cX9_bestOrderAt 53 = .ok (.iload_n 1, 1) := by decide +kernel
theorem dX9_bestOrderAt_54 : decode cX9_bestOrderAt 54 = .ok (.iaload, 1) := by decide +kernel
theorem dX9_bestOrderAt_55 : decode cX9_bestOrderAt 55 = .ok (.goto 5, 3) := by decide +kernel
theorem dX9_bestOrderAt_58 : decode cX9_bestOrderAt 58 = .ok (.bipush (-4), 2) := by decide +kernel
theorem dX9_bestOrderAt_60 : decode cX9_bestOrderAt 60 = .ok (.ireturn, 1) := by decide +kernel
def rm_X9_bestOrderAt : Room := { frames := 7, cells := 0, slots := 0, locals := 171 }
section
variable {p : Program} {l : Launch} {e : Env} {s : State} {m : MethodId} {args : Array Value} {below : List Frame} {meth : Method} {c : Code} {Q : State → Prop} {G : va_G} {aC : Nat → ClassId} {t b0 : Nat}
def f_X9_bestOrderAt (v0 : Nat) (v1 : Int32) (N : AH) : Option (Int32 × AH) := ob (iO N v0 9) (fun _ => ob (hR N v0 9 1) (fun x1 => ob2 (f_X7_countOpen x1 N) (fun x3 N2 => ob2 (f_X9_isOneOf v1 x3 N2) (fun x5 N4 => if ¬ x5 = 0 then ob2 (f_X9_canBeOrdered v0 N4) (fun x8 N7 => if ¬ x8 = 0 then ob (hR N7 v0 9 5) (fun x10 => ob (hR N7 v0 9 1) (fun x11 => ob2 (f_X3_findBestOrder x10 x11 N7) (fun _ N12 => ob2 (f_X9_isOneOf v1 (4 : Int32) N12) (fun x14 N13 => if x14 = 0 then some ((-4 : Int32), N13) else ob (hR N13 v0 9 5) (fun x16 => ob (hR N13 x16 3 4) (fun x17 => ob (aI N13 x17 v1) (fun x18 => some (x18, N13)))))))) else some ((-4 : Int32), N7)) else some ((-2 : Int32), N4)))))
set_option maxHeartbeats 4000000 in
set_option maxRecDepth 100000 in
theorem wk_X9_bestOrderAt {P : Int32 × AH → Prop} (X : CX cX9_bestOrderAt RX9 2 G aC t b0 p s m args c) (hr : RtI p l e rm_X9_bestOrderAt s m args below meth c 0 0 Q cX9_bestOrderAt G aC b0 P) (v0 : Nat) (v1 : Int32) (N : AH) (H : Heap) (locs : List Loc) (ls : Array Slot) (hR : Rp G aC b0 N H) (hS : va_S (fun q => b0 ≤ q) s.heap H locs) (hl : lv_has ls 2 [(0, .ref v0), (1, .int v1)]) (hp : owp (f_X9_bestOrderAt v0 v1 N) P) : W p l e rm_X9_bestOrderAt s m args below meth c H locs 0 0 Q (F0 m 0 ls []) := by
  have hx := X.1.1
  have hb := X.1.2.1
  unfold f_X9_bestOrderAt at hp
  obtain ⟨_, _, hp⟩ := owp_ob hp
  refine lv_iload_n hx hb dX9_bestOrderAt_0 rfl (lv_at hl 1 rfl) ?_
  refine lv_aload_n hx hb dX9_bestOrderAt_1 rfl (lv_at hl 0 rfl) ?_
  obtain ⟨x1, e_x1, hp⟩ := owp_ob hp
  refine gf_X9_19 X hR e_x1 dX9_bestOrderAt_2 ?_
  obtain ⟨x3, N2, e_N2, hp⟩ := owp_ob2 hp
  refine iv_X7_countOpen (rest := [.int v1]) mw_X9_224 X hR hS e_N2 hl.1 (Nat.le_of_ble_eq_true rfl) ⟨Nat.le_of_ble_eq_true rfl, Nat.le_of_ble_eq_true rfl⟩ ⟨Nat.le_of_ble_eq_true rfl, Nat.le_of_ble_eq_true rfl⟩ dX9_bestOrderAt_5 (fun H locs hR hS => ?_)
  obtain ⟨x5, N4, e_N4, hp⟩ := owp_ob2 hp
  refine iv_X9_isOneOf (rest := []) mw_X9_72 X hR hS e_N4 hl.1 (Nat.le_of_ble_eq_true rfl) ⟨Nat.le_of_ble_eq_true rfl, Nat.le_of_ble_eq_true rfl⟩ ⟨Nat.le_of_ble_eq_true rfl, Nat.le_of_ble_eq_true rfl⟩ dX9_bestOrderAt_8 (fun H locs hR hS => ?_)
  refine lv_if_ne (tgt := 17) hx hb dX9_bestOrderAt_11 (by decide) (fun k6 => ?_) (fun k6 => ?_)
  · have hp := owp_t k6 hp
    refine lv_aload_n hx hb dX9_bestOrderAt_17 rfl (lv_at hl 0 rfl) ?_
    obtain ⟨x8, N7, e_N7, hp⟩ := owp_ob2 hp
    refine iv_X9_canBeOrdered (rest := []) mw_X9_214 X hR hS e_N7 hl.1 (Nat.le_of_ble_eq_true rfl) ⟨Nat.le_of_ble_eq_true rfl, Nat.le_of_ble_eq_true rfl⟩ ⟨Nat.le_of_ble_eq_true rfl, Nat.le_of_ble_eq_true rfl⟩ dX9_bestOrderAt_18 (fun H locs hR hS => ?_)
    refine lv_if_ne (tgt := 27) hx hb dX9_bestOrderAt_21 (by decide) (fun k9 => ?_) (fun k9 => ?_)
    · have hp := owp_t k9 hp
      refine lv_aload_n hx hb dX9_bestOrderAt_27 rfl (lv_at hl 0 rfl) ?_
      obtain ⟨x10, e_x10, hp⟩ := owp_ob hp
      refine gf_X9_47 X hR e_x10 dX9_bestOrderAt_28 ?_
      refine lv_aload_n hx hb dX9_bestOrderAt_31 rfl (lv_at hl 0 rfl) ?_
      obtain ⟨x11, e_x11, hp⟩ := owp_ob hp
      refine gf_X9_19 X hR e_x11 dX9_bestOrderAt_32 ?_
      obtain ⟨_, N12, e_N12, hp⟩ := owp_ob2 hp
      refine iv_X3_findBestOrder (rest := []) mw_X9_218 X hR hS e_N12 hl.1 (Nat.le_of_ble_eq_true rfl) ⟨Nat.le_of_ble_eq_true rfl, Nat.le_of_ble_eq_true rfl⟩ ⟨Nat.le_of_ble_eq_true rfl, Nat.le_of_ble_eq_true rfl⟩ dX9_bestOrderAt_35 (fun H locs hR hS => ?_)
      refine lv_iload_n hx hb dX9_bestOrderAt_38 rfl (lv_at hl 1 rfl) ?_
      refine lv_iconst (v := (4)) hx hb dX9_bestOrderAt_39 (by decide) ?_
      obtain ⟨x14, N13, e_N13, hp⟩ := owp_ob2 hp
      refine iv_X9_isOneOf (rest := []) mw_X9_72 X hR hS e_N13 hl.1 (Nat.le_of_ble_eq_true rfl) ⟨Nat.le_of_ble_eq_true rfl, Nat.le_of_ble_eq_true rfl⟩ ⟨Nat.le_of_ble_eq_true rfl, Nat.le_of_ble_eq_true rfl⟩ dX9_bestOrderAt_40 (fun H locs hR hS => ?_)
      refine lv_if_eq (tgt := 58) hx hb dX9_bestOrderAt_43 (by decide) (fun k15 => ?_) (fun k15 => ?_)
      · have hp := owp_t k15 hp
        refine lv_bipush (v := (-4)) hx hb dX9_bestOrderAt_58 (by decide) ?_
        exact hr _ _ _ _ _ _ hR hS dX9_bestOrderAt_60 hp
      · have hp := owp_f k15 hp
        refine lv_aload_n hx hb dX9_bestOrderAt_46 rfl (lv_at hl 0 rfl) ?_
        obtain ⟨x16, e_x16, hp⟩ := owp_ob hp
        refine gf_X9_47 X hR e_x16 dX9_bestOrderAt_47 ?_
        obtain ⟨x17, e_x17, hp⟩ := owp_ob hp
        refine gf_X9_227 X hR e_x17 dX9_bestOrderAt_50 ?_
        refine lv_iload_n hx hb dX9_bestOrderAt_53 rfl (lv_at hl 1 rfl) ?_
        obtain ⟨x18, e_x18, hp⟩ := owp_ob hp
        refine ab_iald X hR e_x18 dX9_bestOrderAt_54 ?_
        refine lv_goto (tgt := 60) hx hb dX9_bestOrderAt_55 (by decide) ?_
        exact hr _ _ _ _ _ _ hR hS dX9_bestOrderAt_60 hp
    · have hp := owp_f (fun q => q k9) hp
      refine lv_bipush (v := (-4)) hx hb dX9_bestOrderAt_24 (by decide) ?_
      exact hr _ _ _ _ _ _ hR hS dX9_bestOrderAt_26 hp
  · have hp := owp_f (fun q => q k6) hp
    refine lv_bipush (v := (-2)) hx hb dX9_bestOrderAt_14 (by decide) ?_
    exact hr _ _ _ _ _ _ hR hS dX9_bestOrderAt_16 hp
end
theorem ct_X9_bestOrderAt {v0 : Nat} {v1 : Int32} {N N1 : AH} {r : Int32} (h : f_X9_bestOrderAt v0 v1 N = some (r, N1)) : Ct yX9_bestOrderAt cX9_bestOrderAt 2 (some .int) rm_X9_bestOrderAt [.ref v0, .int v1] N (some (.int r)) N1 :=
  ab_met (own := RX9) (by decide +kernel) rfl (Nat.le_of_ble_eq_true rfl) (fun l G aC t b0 p e s m below meth c ls X hr hlk hnm hR hS hl => wk_X9_bestOrderAt X (RtI_met X.1.1 X.1.2.1 hr hlk) _ _ _ _ _ _ hR hS hl (owp_of h))
theorem cw_X9_bestOrderAt : Cond.code yX9_bestOrderAt cX9_bestOrderAt 2 (some .int) ∈ WT := WT_of 892 (by decide +kernel) (by decide +kernel)
theorem iv_X9_bestOrderAt {p : Program} {l : Launch} {e : Env} {R : Room} {s : State} {m : MethodId} {args : Array Value} {below : List Frame} {meth : Method} {c : Code} {H : Heap} {locs : List Loc} {cells slots : Nat} {Q : State → Prop} {cc : ByteArray} {own : String} {nL : Nat} {G : va_G} {aC : Nat → ClassId} {t b0 : Nat} {N N1 : AH} {pc index : Nat} {ls : Array Slot} {rest : List Value} {v0 : Nat} {v1 : Int32} {r : Int32} (w1 : Cond.methodLink own index yX9_bestOrderAt ∈ WT) (X : CX cc own nL G aC t b0 p s m args c) (hR : Rp G aC b0 N H) (hS : va_S (fun q => b0 ≤ q) s.heap H locs) (h : f_X9_bestOrderAt v0 v1 N = some (r, N1)) (hls : ls.size = nL) (hW : (rest.map fun v => v.category).sum ≤ 8) (hR1 : 8 ≤ R.frames ∧ 192 ≤ R.locals) (hcs : cells + 0 ≤ R.cells ∧ slots + 0 ≤ R.slots) (hdg : decode cc pc = .ok (.invokevirtual index, 3)) (kk : ∀ (H1 : Heap) (locs1 : List Loc), Rp G aC b0 N1 H1 → va_S (fun q => b0 ≤ q) s.heap H1 locs1 → W p l e R s m args below meth c H1 locs1 cells slots Q (F0 m (pc + 3) ls (.int r :: rest))) : W p l e R s m args below meth c H locs cells slots Q (F0 m pc ls (.int v1 :: .ref v0 :: rest)) :=
  ab_callV (n := 1) (As := [.int v1]) X hR hS (ct_X9_bestOrderAt h) (ob_rc (c := 9) (N := N) (a := v0) h) (T := TX9) (k := 6) (C := RX9) rfl w1 (WT_of 890 (by decide +kernel) (by decide +kernel)) (WT_of 891 (by decide +kernel) (by decide +kernel)) (WT_of 81 (by decide +kernel) (by decide +kernel)) cw_X9_bestOrderAt ⟨rfl, by decide +kernel, by decide +kernel, by decide +kernel⟩ rfl hls hW hR1 hcs rfl hdg kk
-- X9_bound
theorem mw_X9_230 : Cond.methodLink RX9 230 yX6_boundOf ∈ WT := WT_of 897 (by decide +kernel) (by decide +kernel)
theorem dX9_bound_0 : decode cX9_bound 0 = .ok (.aload_n 0, 1) := by decide +kernel
theorem dX9_bound_1 : decode cX9_bound 1 = .ok (.getfield 40, 3) := by decide +kernel
theorem dX9_bound_4 : decode cX9_bound 4 = .ok (.aload_n 0, 1) := by decide +kernel
theorem dX9_bound_5 : decode cX9_bound 5 = .ok (.getfield 19, 3) := by decide +kernel
theorem dX9_bound_8 : decode cX9_bound 8 = .ok (.invokevirtual 230, 3) := by decide +kernel
theorem dX9_bound_11 : decode cX9_bound 11 = .ok (.ireturn, 1) := by decide +kernel
def rm_X9_bound : Room := { frames := 3, cells := 0, slots := 0, locals := 68 }
section
variable {p : Program} {l : Launch} {e : Env} {s : State} {m : MethodId} {args : Array Value} {below : List Frame} {meth : Method} {c : Code} {Q : State → Prop} {G : va_G} {aC : Nat → ClassId} {t b0 : Nat}
def f_X9_bound (v0 : Nat) (N : AH) : Option (Int32 × AH) := ob (iO N v0 9) (fun _ => ob (hR N v0 9 4) (fun x1 => ob (hR N v0 9 1) (fun x2 => ob2 (f_X6_boundOf x1 x2 N) (fun x4 N3 => some (x4, N3)))))
set_option maxHeartbeats 4000000 in
set_option maxRecDepth 100000 in
theorem wk_X9_bound {P : Int32 × AH → Prop} (X : CX cX9_bound RX9 1 G aC t b0 p s m args c) (hr : RtI p l e rm_X9_bound s m args below meth c 0 0 Q cX9_bound G aC b0 P) (v0 : Nat) (N : AH) (H : Heap) (locs : List Loc) (ls : Array Slot) (hR : Rp G aC b0 N H) (hS : va_S (fun q => b0 ≤ q) s.heap H locs) (hl : lv_has ls 1 [(0, .ref v0)]) (hp : owp (f_X9_bound v0 N) P) : W p l e rm_X9_bound s m args below meth c H locs 0 0 Q (F0 m 0 ls []) := by
  have hx := X.1.1
  have hb := X.1.2.1
  unfold f_X9_bound at hp
  obtain ⟨_, _, hp⟩ := owp_ob hp
  refine lv_aload_n hx hb dX9_bound_0 rfl (lv_at hl 0 rfl) ?_
  obtain ⟨x1, e_x1, hp⟩ := owp_ob hp
  refine gf_X9_40 X hR e_x1 dX9_bound_1 ?_
  refine lv_aload_n hx hb dX9_bound_4 rfl (lv_at hl 0 rfl) ?_
  obtain ⟨x2, e_x2, hp⟩ := owp_ob hp
  refine gf_X9_19 X hR e_x2 dX9_bound_5 ?_
  obtain ⟨x4, N3, e_N3, hp⟩ := owp_ob2 hp
  refine iv_X6_boundOf (rest := []) mw_X9_230 X hR hS e_N3 hl.1 (Nat.le_of_ble_eq_true rfl) ⟨Nat.le_of_ble_eq_true rfl, Nat.le_of_ble_eq_true rfl⟩ ⟨Nat.le_of_ble_eq_true rfl, Nat.le_of_ble_eq_true rfl⟩ dX9_bound_8 (fun H locs hR hS => ?_)
  exact hr _ _ _ _ _ _ hR hS dX9_bound_11 hp
end
theorem ct_X9_bound {v0 : Nat} {N N1 : AH} {r : Int32} (h : f_X9_bound v0 N = some (r, N1)) : Ct yX9_bound cX9_bound 1 (some .int) rm_X9_bound [.ref v0] N (some (.int r)) N1 :=
  ab_met (own := RX9) (by decide +kernel) rfl (Nat.le_of_ble_eq_true rfl) (fun l G aC t b0 p e s m below meth c ls X hr hlk hnm hR hS hl => wk_X9_bound X (RtI_met X.1.1 X.1.2.1 hr hlk) _ _ _ _ _ hR hS hl (owp_of h))
theorem cw_X9_bound : Cond.code yX9_bound cX9_bound 1 (some .int) ∈ WT := WT_of 896 (by decide +kernel) (by decide +kernel)
theorem iv_X9_bound {p : Program} {l : Launch} {e : Env} {R : Room} {s : State} {m : MethodId} {args : Array Value} {below : List Frame} {meth : Method} {c : Code} {H : Heap} {locs : List Loc} {cells slots : Nat} {Q : State → Prop} {cc : ByteArray} {own : String} {nL : Nat} {G : va_G} {aC : Nat → ClassId} {t b0 : Nat} {N N1 : AH} {pc index : Nat} {ls : Array Slot} {rest : List Value} {v0 : Nat} {r : Int32} (w1 : Cond.methodLink own index yX9_bound ∈ WT) (X : CX cc own nL G aC t b0 p s m args c) (hR : Rp G aC b0 N H) (hS : va_S (fun q => b0 ≤ q) s.heap H locs) (h : f_X9_bound v0 N = some (r, N1)) (hls : ls.size = nL) (hW : (rest.map fun v => v.category).sum ≤ 8) (hR1 : 4 ≤ R.frames ∧ 88 ≤ R.locals) (hcs : cells + 0 ≤ R.cells ∧ slots + 0 ≤ R.slots) (hdg : decode cc pc = .ok (.invokevirtual index, 3)) (kk : ∀ (H1 : Heap) (locs1 : List Loc), Rp G aC b0 N1 H1 → va_S (fun q => b0 ≤ q) s.heap H1 locs1 → W p l e R s m args below meth c H1 locs1 cells slots Q (F0 m (pc + 3) ls (.int r :: rest))) : W p l e R s m args below meth c H locs cells slots Q (F0 m pc ls (.ref v0 :: rest)) :=
  ab_callV (n := 0) (As := []) X hR hS (ct_X9_bound h) (ob_rc (c := 9) (N := N) (a := v0) h) (T := TX9) (k := 6) (C := RX9) rfl w1 (WT_of 894 (by decide +kernel) (by decide +kernel)) (WT_of 895 (by decide +kernel) (by decide +kernel)) (WT_of 81 (by decide +kernel) (by decide +kernel)) cw_X9_bound ⟨rfl, by decide +kernel, by decide +kernel, by decide +kernel⟩ rfl hls hW hR1 hcs rfl hdg kk
-- X9_moved
theorem gf_X9_234 {p : Program} {l : Launch} {e : Env} {R : Room} {s : State} {m : MethodId} {args : Array Value} {below : List Frame} {meth : Method} {c : Code} {H : Heap} {locs : List Loc} {cells slots : Nat} {Q : State → Prop} {cc : ByteArray} {nL : Nat} {G : va_G} {aC : Nat → ClassId} {t b0 : Nat} {N : AH} {pc : Nat} {ls : Array Slot} {rest : List Value} {a : Nat} {v : Nat} (X : CX cc RX9 nL G aC t b0 p s m args c) (hR0 : Rp G aC b0 N H) (hv : hR N a 7 8 = some v) (hdg : decode cc pc = .ok (.getfield 234, 3)) (kk : W p l e R s m args below meth c H locs cells slots Q (F0 m (pc + 3) ls (.ref v :: rest))) : W p l e R s m args below meth c H locs cells slots Q (F0 m pc ls (.ref a :: rest)) := by
  obtain ⟨fs, h1, h2⟩ := hR_ok hv
  exact ab_get (C := RX7) (T := TX7) (n := 12) X hR0 h1 h2 rfl inX7 (by decide) (WT_of 284 (by decide +kernel) (by decide +kernel)) hdg kk
theorem dX9_moved_0 : decode cX9_moved 0 = .ok (.iload_n 1, 1) := by decide +kernel
theorem dX9_moved_1 : decode cX9_moved 1 = .ok (.bipush 16, 2) := by decide +kernel
theorem dX9_moved_3 : decode cX9_moved 3 = .ok (.invokestatic 72, 3) := by decide +kernel
theorem dX9_moved_6 : decode cX9_moved 6 = .ok (.ifCond .eq 15, 3) := by decide +kernel
theorem dX9_moved_9 : decode cX9_moved 9 = .ok (.aload_n 0, 1) := by decide +kernel
theorem dX9_moved_10 : decode cX9_moved 10 = .ok (.getfield 19, 3) := by decide +kernel
theorem dX9_moved_13 : decode cX9_moved 13 = .ok (.getfield 234, 3) := by decide +kernel
theorem dX9_moved_16 : decode cX9_moved 16 = .ok (.iload_n 1, 1) := by decide +kernel
theorem dX9_moved_17 : decode cX9_moved 17 = .ok (.iaload, 1) := by decide +kernel
theorem dX9_moved_18 : decode cX9_moved 18 = .ok (.goto 5, 3) := by decide +kernel
theorem dX9_moved_21 : decode cX9_moved 21 = .ok (.bipush (-2), 2) := by decide +kernel
theorem dX9_moved_23 : decode cX9_moved 23 = .ok (.ireturn, 1) := by decide +kernel
def rm_X9_moved : Room := { frames := 1, cells := 0, slots := 0, locals := 21 }
section
variable {p : Program} {l : Launch} {e : Env} {s : State} {m : MethodId} {args : Array Value} {below : List Frame} {meth : Method} {c : Code} {Q : State → Prop} {G : va_G} {aC : Nat → ClassId} {t b0 : Nat}
def f_X9_moved (v0 : Nat) (v1 : Int32) (N : AH) : Option (Int32 × AH) := ob (iO N v0 9) (fun _ => ob2 (f_X9_isOneOf v1 (16 : Int32) N) (fun x2 N1 => if x2 = 0 then some ((-2 : Int32), N1) else ob (hR N1 v0 9 1) (fun x4 => ob (hR N1 x4 7 8) (fun x5 => ob (aI N1 x5 v1) (fun x6 => some (x6, N1))))))
set_option maxHeartbeats 4000000 in
set_option maxRecDepth 100000 in
theorem wk_X9_moved {P : Int32 × AH → Prop} (X : CX cX9_moved RX9 2 G aC t b0 p s m args c) (hr : RtI p l e rm_X9_moved s m args below meth c 0 0 Q cX9_moved G aC b0 P) (v0 : Nat) (v1 : Int32) (N : AH) (H : Heap) (locs : List Loc) (ls : Array Slot) (hR : Rp G aC b0 N H) (hS : va_S (fun q => b0 ≤ q) s.heap H locs) (hl : lv_has ls 2 [(0, .ref v0), (1, .int v1)]) (hp : owp (f_X9_moved v0 v1 N) P) : W p l e rm_X9_moved s m args below meth c H locs 0 0 Q (F0 m 0 ls []) := by
  have hx := X.1.1
  have hb := X.1.2.1
  unfold f_X9_moved at hp
  obtain ⟨_, _, hp⟩ := owp_ob hp
  refine lv_iload_n hx hb dX9_moved_0 rfl (lv_at hl 1 rfl) ?_
  refine lv_bipush (v := (16)) hx hb dX9_moved_1 (by decide) ?_
  obtain ⟨x2, N1, e_N1, hp⟩ := owp_ob2 hp
  refine iv_X9_isOneOf (rest := []) mw_X9_72 X hR hS e_N1 hl.1 (Nat.le_of_ble_eq_true rfl) ⟨Nat.le_of_ble_eq_true rfl, Nat.le_of_ble_eq_true rfl⟩ ⟨Nat.le_of_ble_eq_true rfl, Nat.le_of_ble_eq_true rfl⟩ dX9_moved_3 (fun H locs hR hS => ?_)
  refine lv_if_eq (tgt := 21) hx hb dX9_moved_6 (by decide) (fun k3 => ?_) (fun k3 => ?_)
  · have hp := owp_t k3 hp
    refine lv_bipush (v := (-2)) hx hb dX9_moved_21 (by decide) ?_
    exact hr _ _ _ _ _ _ hR hS dX9_moved_23 hp
  · have hp := owp_f k3 hp
    refine lv_aload_n hx hb dX9_moved_9 rfl (lv_at hl 0 rfl) ?_
    obtain ⟨x4, e_x4, hp⟩ := owp_ob hp
    refine gf_X9_19 X hR e_x4 dX9_moved_10 ?_
    obtain ⟨x5, e_x5, hp⟩ := owp_ob hp
    refine gf_X9_234 X hR e_x5 dX9_moved_13 ?_
    refine lv_iload_n hx hb dX9_moved_16 rfl (lv_at hl 1 rfl) ?_
    obtain ⟨x6, e_x6, hp⟩ := owp_ob hp
    refine ab_iald X hR e_x6 dX9_moved_17 ?_
    refine lv_goto (tgt := 23) hx hb dX9_moved_18 (by decide) ?_
    exact hr _ _ _ _ _ _ hR hS dX9_moved_23 hp
end
theorem ct_X9_moved {v0 : Nat} {v1 : Int32} {N N1 : AH} {r : Int32} (h : f_X9_moved v0 v1 N = some (r, N1)) : Ct yX9_moved cX9_moved 2 (some .int) rm_X9_moved [.ref v0, .int v1] N (some (.int r)) N1 :=
  ab_met (own := RX9) (by decide +kernel) rfl (Nat.le_of_ble_eq_true rfl) (fun l G aC t b0 p e s m below meth c ls X hr hlk hnm hR hS hl => wk_X9_moved X (RtI_met X.1.1 X.1.2.1 hr hlk) _ _ _ _ _ _ hR hS hl (owp_of h))
theorem cw_X9_moved : Cond.code yX9_moved cX9_moved 2 (some .int) ∈ WT := WT_of 901 (by decide +kernel) (by decide +kernel)
theorem iv_X9_moved {p : Program} {l : Launch} {e : Env} {R : Room} {s : State} {m : MethodId} {args : Array Value} {below : List Frame} {meth : Method} {c : Code} {H : Heap} {locs : List Loc} {cells slots : Nat} {Q : State → Prop} {cc : ByteArray} {own : String} {nL : Nat} {G : va_G} {aC : Nat → ClassId} {t b0 : Nat} {N N1 : AH} {pc index : Nat} {ls : Array Slot} {rest : List Value} {v0 : Nat} {v1 : Int32} {r : Int32} (w1 : Cond.methodLink own index yX9_moved ∈ WT) (X : CX cc own nL G aC t b0 p s m args c) (hR : Rp G aC b0 N H) (hS : va_S (fun q => b0 ≤ q) s.heap H locs) (h : f_X9_moved v0 v1 N = some (r, N1)) (hls : ls.size = nL) (hW : (rest.map fun v => v.category).sum ≤ 8) (hR1 : 2 ≤ R.frames ∧ 42 ≤ R.locals) (hcs : cells + 0 ≤ R.cells ∧ slots + 0 ≤ R.slots) (hdg : decode cc pc = .ok (.invokevirtual index, 3)) (kk : ∀ (H1 : Heap) (locs1 : List Loc), Rp G aC b0 N1 H1 → va_S (fun q => b0 ≤ q) s.heap H1 locs1 → W p l e R s m args below meth c H1 locs1 cells slots Q (F0 m (pc + 3) ls (.int r :: rest))) : W p l e R s m args below meth c H locs cells slots Q (F0 m pc ls (.int v1 :: .ref v0 :: rest)) :=
  ab_callV (n := 1) (As := [.int v1]) X hR hS (ct_X9_moved h) (ob_rc (c := 9) (N := N) (a := v0) h) (T := TX9) (k := 6) (C := RX9) rfl w1 (WT_of 899 (by decide +kernel) (by decide +kernel)) (WT_of 900 (by decide +kernel) (by decide +kernel)) (WT_of 81 (by decide +kernel) (by decide +kernel)) cw_X9_moved ⟨rfl, by decide +kernel, by decide +kernel, by decide +kernel⟩ rfl hls hW hR1 hcs rfl hdg kk
-- X9_preemptions
theorem gf_X9_237 {p : Program} {l : Launch} {e : Env} {R : Room} {s : State} {m : MethodId} {args : Array Value} {below : List Frame} {meth : Method} {c : Code} {H : Heap} {locs : List Loc} {cells slots : Nat} {Q : State → Prop} {cc : ByteArray} {nL : Nat} {G : va_G} {aC : Nat → ClassId} {t b0 : Nat} {N : AH} {pc : Nat} {ls : Array Slot} {rest : List Value} {a : Nat} {v : Int32} (X : CX cc RX9 nL G aC t b0 p s m args c) (hR0 : Rp G aC b0 N H) (hv : hI N a 7 4 = some v) (hdg : decode cc pc = .ok (.getfield 237, 3)) (kk : W p l e R s m args below meth c H locs cells slots Q (F0 m (pc + 3) ls (.int v :: rest))) : W p l e R s m args below meth c H locs cells slots Q (F0 m pc ls (.ref a :: rest)) := by
  obtain ⟨fs, h1, h2⟩ := hI_ok hv
  exact ab_get (C := RX7) (T := TX7) (n := 12) X hR0 h1 h2 rfl inX7 (by decide) (WT_of 270 (by decide +kernel) (by decide +kernel)) hdg kk
theorem dX9_preemptions_0 : decode cX9_preemptions 0 = .ok (.aload_n 0, 1) := by decide +kernel
theorem dX9_preemptions_1 : decode cX9_preemptions 1 = .ok (.getfield 19, 3) := by decide +kernel
theorem dX9_preemptions_4 : decode cX9_preemptions 4 = .ok (.getfield 237, 3) := by decide +kernel
theorem dX9_preemptions_7 : decode cX9_preemptions 7 = .ok (.ireturn, 1) := by decide +kernel
def rm_X9_preemptions : Room := { frames := 0, cells := 0, slots := 0, locals := 0 }
section
variable {p : Program} {l : Launch} {e : Env} {s : State} {m : MethodId} {args : Array Value} {below : List Frame} {meth : Method} {c : Code} {Q : State → Prop} {G : va_G} {aC : Nat → ClassId} {t b0 : Nat}
def f_X9_preemptions (v0 : Nat) (N : AH) : Option (Int32 × AH) := ob (iO N v0 9) (fun _ => ob (hR N v0 9 1) (fun x1 => ob (hI N x1 7 4) (fun x2 => some (x2, N))))
set_option maxHeartbeats 4000000 in
set_option maxRecDepth 100000 in
theorem wk_X9_preemptions {P : Int32 × AH → Prop} (X : CX cX9_preemptions RX9 1 G aC t b0 p s m args c) (hr : RtI p l e rm_X9_preemptions s m args below meth c 0 0 Q cX9_preemptions G aC b0 P) (v0 : Nat) (N : AH) (H : Heap) (locs : List Loc) (ls : Array Slot) (hR : Rp G aC b0 N H) (hS : va_S (fun q => b0 ≤ q) s.heap H locs) (hl : lv_has ls 1 [(0, .ref v0)]) (hp : owp (f_X9_preemptions v0 N) P) : W p l e rm_X9_preemptions s m args below meth c H locs 0 0 Q (F0 m 0 ls []) := by
  have hx := X.1.1
  have hb := X.1.2.1
  unfold f_X9_preemptions at hp
  obtain ⟨_, _, hp⟩ := owp_ob hp
  refine lv_aload_n hx hb dX9_preemptions_0 rfl (lv_at hl 0 rfl) ?_
  obtain ⟨x1, e_x1, hp⟩ := owp_ob hp
  refine gf_X9_19 X hR e_x1 dX9_preemptions_1 ?_
  obtain ⟨x2, e_x2, hp⟩ := owp_ob hp
  refine gf_X9_237 X hR e_x2 dX9_preemptions_4 ?_
  exact hr _ _ _ _ _ _ hR hS dX9_preemptions_7 hp
end
theorem ct_X9_preemptions {v0 : Nat} {N N1 : AH} {r : Int32} (h : f_X9_preemptions v0 N = some (r, N1)) : Ct yX9_preemptions cX9_preemptions 1 (some .int) rm_X9_preemptions [.ref v0] N (some (.int r)) N1 :=
  ab_met (own := RX9) (by decide +kernel) rfl (Nat.le_of_ble_eq_true rfl) (fun l G aC t b0 p e s m below meth c ls X hr hlk hnm hR hS hl => wk_X9_preemptions X (RtI_met X.1.1 X.1.2.1 hr hlk) _ _ _ _ _ hR hS hl (owp_of h))
theorem cw_X9_preemptions : Cond.code yX9_preemptions cX9_preemptions 1 (some .int) ∈ WT := WT_of 905 (by decide +kernel) (by decide +kernel)
theorem iv_X9_preemptions {p : Program} {l : Launch} {e : Env} {R : Room} {s : State} {m : MethodId} {args : Array Value} {below : List Frame} {meth : Method} {c : Code} {H : Heap} {locs : List Loc} {cells slots : Nat} {Q : State → Prop} {cc : ByteArray} {own : String} {nL : Nat} {G : va_G} {aC : Nat → ClassId} {t b0 : Nat} {N N1 : AH} {pc index : Nat} {ls : Array Slot} {rest : List Value} {v0 : Nat} {r : Int32} (w1 : Cond.methodLink own index yX9_preemptions ∈ WT) (X : CX cc own nL G aC t b0 p s m args c) (hR : Rp G aC b0 N H) (hS : va_S (fun q => b0 ≤ q) s.heap H locs) (h : f_X9_preemptions v0 N = some (r, N1)) (hls : ls.size = nL) (hW : (rest.map fun v => v.category).sum ≤ 8) (hR1 : 1 ≤ R.frames ∧ 20 ≤ R.locals) (hcs : cells + 0 ≤ R.cells ∧ slots + 0 ≤ R.slots) (hdg : decode cc pc = .ok (.invokevirtual index, 3)) (kk : ∀ (H1 : Heap) (locs1 : List Loc), Rp G aC b0 N1 H1 → va_S (fun q => b0 ≤ q) s.heap H1 locs1 → W p l e R s m args below meth c H1 locs1 cells slots Q (F0 m (pc + 3) ls (.int r :: rest))) : W p l e R s m args below meth c H locs cells slots Q (F0 m pc ls (.ref v0 :: rest)) :=
  ab_callV (n := 0) (As := []) X hR hS (ct_X9_preemptions h) (ob_rc (c := 9) (N := N) (a := v0) h) (T := TX9) (k := 6) (C := RX9) rfl w1 (WT_of 903 (by decide +kernel) (by decide +kernel)) (WT_of 904 (by decide +kernel) (by decide +kernel)) (WT_of 81 (by decide +kernel) (by decide +kernel)) cw_X9_preemptions ⟨rfl, by decide +kernel, by decide +kernel, by decide +kernel⟩ rfl hls hW hR1 hcs rfl hdg kk
-- X9_eventCount
theorem gf_X9_240 {p : Program} {l : Launch} {e : Env} {R : Room} {s : State} {m : MethodId} {args : Array Value} {below : List Frame} {meth : Method} {c : Code} {H : Heap} {locs : List Loc} {cells slots : Nat} {Q : State → Prop} {cc : ByteArray} {nL : Nat} {G : va_G} {aC : Nat → ClassId} {t b0 : Nat} {N : AH} {pc : Nat} {ls : Array Slot} {rest : List Value} {a : Nat} {v : Nat} (X : CX cc RX9 nL G aC t b0 p s m args c) (hR0 : Rp G aC b0 N H) (hv : hR N a 7 11 = some v) (hdg : decode cc pc = .ok (.getfield 240, 3)) (kk : W p l e R s m args below meth c H locs cells slots Q (F0 m (pc + 3) ls (.ref v :: rest))) : W p l e R s m args below meth c H locs cells slots Q (F0 m pc ls (.ref a :: rest)) := by
  obtain ⟨fs, h1, h2⟩ := hR_ok hv
  exact ab_get (C := RX7) (T := TX7) (n := 12) X hR0 h1 h2 rfl inX7 (by decide) (WT_of 295 (by decide +kernel) (by decide +kernel)) hdg kk
theorem gf_X9_244 {p : Program} {l : Launch} {e : Env} {R : Room} {s : State} {m : MethodId} {args : Array Value} {below : List Frame} {meth : Method} {c : Code} {H : Heap} {locs : List Loc} {cells slots : Nat} {Q : State → Prop} {cc : ByteArray} {nL : Nat} {G : va_G} {aC : Nat → ClassId} {t b0 : Nat} {N : AH} {pc : Nat} {ls : Array Slot} {rest : List Value} {a : Nat} {v : Int32} (X : CX cc RX9 nL G aC t b0 p s m args c) (hR0 : Rp G aC b0 N H) (hv : hI N a 0 0 = some v) (hdg : decode cc pc = .ok (.getfield 244, 3)) (kk : W p l e R s m args below meth c H locs cells slots Q (F0 m (pc + 3) ls (.int v :: rest))) : W p l e R s m args below meth c H locs cells slots Q (F0 m pc ls (.ref a :: rest)) := by
  obtain ⟨fs, h1, h2⟩ := hI_ok hv
  exact ab_get (C := RX0) (T := TX0) (n := 5) X hR0 h1 h2 rfl inX0 (by decide) (WT_of 234 (by decide +kernel) (by decide +kernel)) hdg kk
theorem dX9_eventCount_0 : decode cX9_eventCount 0 = .ok (.aload_n 0, 1) := by decide +kernel
theorem dX9_eventCount_1 : decode cX9_eventCount 1 = .ok (.getfield 19, 3) := by decide +kernel
theorem dX9_eventCount_4 : decode cX9_eventCount 4 = .ok (.getfield 240, 3) := by decide +kernel
theorem dX9_eventCount_7 : decode cX9_eventCount 7 = .ok (.getfield 244, 3) := by decide +kernel
theorem dX9_eventCount_10 : decode cX9_eventCount 10 = .ok (.ireturn, 1) := by decide +kernel
def rm_X9_eventCount : Room := { frames := 0, cells := 0, slots := 0, locals := 0 }
section
variable {p : Program} {l : Launch} {e : Env} {s : State} {m : MethodId} {args : Array Value} {below : List Frame} {meth : Method} {c : Code} {Q : State → Prop} {G : va_G} {aC : Nat → ClassId} {t b0 : Nat}
def f_X9_eventCount (v0 : Nat) (N : AH) : Option (Int32 × AH) := ob (iO N v0 9) (fun _ => ob (hR N v0 9 1) (fun x1 => ob (hR N x1 7 11) (fun x2 => ob (hI N x2 0 0) (fun x3 => some (x3, N)))))
set_option maxHeartbeats 4000000 in
set_option maxRecDepth 100000 in
theorem wk_X9_eventCount {P : Int32 × AH → Prop} (X : CX cX9_eventCount RX9 1 G aC t b0 p s m args c) (hr : RtI p l e rm_X9_eventCount s m args below meth c 0 0 Q cX9_eventCount G aC b0 P) (v0 : Nat) (N : AH) (H : Heap) (locs : List Loc) (ls : Array Slot) (hR : Rp G aC b0 N H) (hS : va_S (fun q => b0 ≤ q) s.heap H locs) (hl : lv_has ls 1 [(0, .ref v0)]) (hp : owp (f_X9_eventCount v0 N) P) : W p l e rm_X9_eventCount s m args below meth c H locs 0 0 Q (F0 m 0 ls []) := by
  have hx := X.1.1
  have hb := X.1.2.1
  unfold f_X9_eventCount at hp
  obtain ⟨_, _, hp⟩ := owp_ob hp
  refine lv_aload_n hx hb dX9_eventCount_0 rfl (lv_at hl 0 rfl) ?_
  obtain ⟨x1, e_x1, hp⟩ := owp_ob hp
  refine gf_X9_19 X hR e_x1 dX9_eventCount_1 ?_
  obtain ⟨x2, e_x2, hp⟩ := owp_ob hp
  refine gf_X9_240 X hR e_x2 dX9_eventCount_4 ?_
  obtain ⟨x3, e_x3, hp⟩ := owp_ob hp
  refine gf_X9_244 X hR e_x3 dX9_eventCount_7 ?_
  exact hr _ _ _ _ _ _ hR hS dX9_eventCount_10 hp
end
theorem ct_X9_eventCount {v0 : Nat} {N N1 : AH} {r : Int32} (h : f_X9_eventCount v0 N = some (r, N1)) : Ct yX9_eventCount cX9_eventCount 1 (some .int) rm_X9_eventCount [.ref v0] N (some (.int r)) N1 :=
  ab_met (own := RX9) (by decide +kernel) rfl (Nat.le_of_ble_eq_true rfl) (fun l G aC t b0 p e s m below meth c ls X hr hlk hnm hR hS hl => wk_X9_eventCount X (RtI_met X.1.1 X.1.2.1 hr hlk) _ _ _ _ _ hR hS hl (owp_of h))
theorem cw_X9_eventCount : Cond.code yX9_eventCount cX9_eventCount 1 (some .int) ∈ WT := WT_of 909 (by decide +kernel) (by decide +kernel)
theorem iv_X9_eventCount {p : Program} {l : Launch} {e : Env} {R : Room} {s : State} {m : MethodId} {args : Array Value} {below : List Frame} {meth : Method} {c : Code} {H : Heap} {locs : List Loc} {cells slots : Nat} {Q : State → Prop} {cc : ByteArray} {own : String} {nL : Nat} {G : va_G} {aC : Nat → ClassId} {t b0 : Nat} {N N1 : AH} {pc index : Nat} {ls : Array Slot} {rest : List Value} {v0 : Nat} {r : Int32} (w1 : Cond.methodLink own index yX9_eventCount ∈ WT) (X : CX cc own nL G aC t b0 p s m args c) (hR : Rp G aC b0 N H) (hS : va_S (fun q => b0 ≤ q) s.heap H locs) (h : f_X9_eventCount v0 N = some (r, N1)) (hls : ls.size = nL) (hW : (rest.map fun v => v.category).sum ≤ 8) (hR1 : 1 ≤ R.frames ∧ 20 ≤ R.locals) (hcs : cells + 0 ≤ R.cells ∧ slots + 0 ≤ R.slots) (hdg : decode cc pc = .ok (.invokevirtual index, 3)) (kk : ∀ (H1 : Heap) (locs1 : List Loc), Rp G aC b0 N1 H1 → va_S (fun q => b0 ≤ q) s.heap H1 locs1 → W p l e R s m args below meth c H1 locs1 cells slots Q (F0 m (pc + 3) ls (.int r :: rest))) : W p l e R s m args below meth c H locs cells slots Q (F0 m pc ls (.ref v0 :: rest)) :=
  ab_callV (n := 0) (As := []) X hR hS (ct_X9_eventCount h) (ob_rc (c := 9) (N := N) (a := v0) h) (T := TX9) (k := 6) (C := RX9) rfl w1 (WT_of 907 (by decide +kernel) (by decide +kernel)) (WT_of 908 (by decide +kernel) (by decide +kernel)) (WT_of 81 (by decide +kernel) (by decide +kernel)) cw_X9_eventCount ⟨rfl, by decide +kernel, by decide +kernel, by decide +kernel⟩ rfl hls hW hR1 hcs rfl hdg kk
-- X9_event
theorem gf_X9_250 {p : Program} {l : Launch} {e : Env} {R : Room} {s : State} {m : MethodId} {args : Array Value} {below : List Frame} {meth : Method} {c : Code} {H : Heap} {locs : List Loc} {cells slots : Nat} {Q : State → Prop} {cc : ByteArray} {nL : Nat} {G : va_G} {aC : Nat → ClassId} {t b0 : Nat} {N : AH} {pc : Nat} {ls : Array Slot} {rest : List Value} {a : Nat} {v : Nat} (X : CX cc RX9 nL G aC t b0 p s m args c) (hR0 : Rp G aC b0 N H) (hv : hR N a 0 2 = some v) (hdg : decode cc pc = .ok (.getfield 250, 3)) (kk : W p l e R s m args below meth c H locs cells slots Q (F0 m (pc + 3) ls (.ref v :: rest))) : W p l e R s m args below meth c H locs cells slots Q (F0 m pc ls (.ref a :: rest)) := by
  obtain ⟨fs, h1, h2⟩ := hR_ok hv
  exact ab_get (C := RX0) (T := TX0) (n := 5) X hR0 h1 h2 rfl inX0 (by decide) (WT_of 237 (by decide +kernel) (by decide +kernel)) hdg kk
theorem gf_X9_253 {p : Program} {l : Launch} {e : Env} {R : Room} {s : State} {m : MethodId} {args : Array Value} {below : List Frame} {meth : Method} {c : Code} {H : Heap} {locs : List Loc} {cells slots : Nat} {Q : State → Prop} {cc : ByteArray} {nL : Nat} {G : va_G} {aC : Nat → ClassId} {t b0 : Nat} {N : AH} {pc : Nat} {ls : Array Slot} {rest : List Value} {a : Nat} {v : Nat} (X : CX cc RX9 nL G aC t b0 p s m args c) (hR0 : Rp G aC b0 N H) (hv : hR N a 0 3 = some v) (hdg : decode cc pc = .ok (.getfield 253, 3)) (kk : W p l e R s m args below meth c H locs cells slots Q (F0 m (pc + 3) ls (.ref v :: rest))) : W p l e R s m args below meth c H locs cells slots Q (F0 m pc ls (.ref a :: rest)) := by
  obtain ⟨fs, h1, h2⟩ := hR_ok hv
  exact ab_get (C := RX0) (T := TX0) (n := 5) X hR0 h1 h2 rfl inX0 (by decide) (WT_of 239 (by decide +kernel) (by decide +kernel)) hdg kk
theorem gf_X9_256 {p : Program} {l : Launch} {e : Env} {R : Room} {s : State} {m : MethodId} {args : Array Value} {below : List Frame} {meth : Method} {c : Code} {H : Heap} {locs : List Loc} {cells slots : Nat} {Q : State → Prop} {cc : ByteArray} {nL : Nat} {G : va_G} {aC : Nat → ClassId} {t b0 : Nat} {N : AH} {pc : Nat} {ls : Array Slot} {rest : List Value} {a : Nat} {v : Nat} (X : CX cc RX9 nL G aC t b0 p s m args c) (hR0 : Rp G aC b0 N H) (hv : hR N a 0 4 = some v) (hdg : decode cc pc = .ok (.getfield 256, 3)) (kk : W p l e R s m args below meth c H locs cells slots Q (F0 m (pc + 3) ls (.ref v :: rest))) : W p l e R s m args below meth c H locs cells slots Q (F0 m pc ls (.ref a :: rest)) := by
  obtain ⟨fs, h1, h2⟩ := hR_ok hv
  exact ab_get (C := RX0) (T := TX0) (n := 5) X hR0 h1 h2 rfl inX0 (by decide) (WT_of 241 (by decide +kernel) (by decide +kernel)) hdg kk
theorem mw_X9_247 : Cond.methodLink RX9 247 yX0_slotOf ∈ WT := WT_of 914 (by decide +kernel) (by decide +kernel)
theorem dX9_event_0 : decode cX9_event 0 = .ok (.iload_n 1, 1) := by decide +kernel
theorem dX9_event_1 : decode cX9_event 1 = .ok (.aload_n 0, 1) := by decide +kernel
theorem dX9_event_2 : decode cX9_event 2 = .ok (.getfield 19, 3) := by decide +kernel
theorem dX9_event_5 : decode cX9_event 5 = .ok (.getfield 240, 3) := by decide +kernel
theorem dX9_event_8 : decode cX9_event 8 = .ok (.getfield 244, 3) := by decide +kernel
theorem dX9_event_11 : decode cX9_event 11 = .ok (.invokestatic 72, 3) := by decide +kernel
theorem dX9_event_14 : decode cX9_event 14 = .ok (.ifCond .ne 6, 3) := by decide +kernel
theorem dX9_event_17 : decode cX9_event 17 = .ok (.bipush (-2), 2) := by decide +kernel
theorem dX9_event_19 : decode cX9_event 19 = .ok (.ireturn, 1) := by decide +kernel
theorem dX9_event_20 : decode cX9_event 20 = .ok (.aload_n 0, 1) := by decide +kernel
theorem dX9_event_21 : decode cX9_event 21 = .ok (.getfield 19, 3) := by decide +kernel
theorem dX9_event_24 : decode cX9_event 24 = .ok (.getfield 240, 3) := by decide +kernel
theorem dX9_event_27 : decode cX9_event 27 = .ok (.iload_n 1, 1) := by decide +kernel
theorem dX9_event_28 : decode cX9_event 28 = .ok (.invokevirtual 247, 3) := by decide +kernel
theorem dX9_event_31 : decode cX9_event 31 = .ok (.istore_n 3, 1) := by decide +kernel
theorem dX9_event_32 : decode cX9_event 32 = .ok (.iload_n 2, 1) := by decide +kernel
theorem dX9_event_33 : decode cX9_event 33 = .ok (.tableswitch 66 0 2 #[27, 40, 53], 27) := by decide +kernel
theorem dX9_event_60 : decode cX9_event 60 = .ok (.aload_n 0, 1) := by decide +kernel
theorem dX9_event_61 : decode cX9_event 61 = .ok (.getfield 19, 3) := by decide +kernel
theorem dX9_event_64 : decode cX9_event 64 = .ok (.getfield 240, 3) := by decide +kernel
theorem dX9_event_67 : decode cX9_event 67 = .ok (.getfield 250, 3) := by decide +kernel
theorem dX9_event_70 : decode cX9_event 70 = .ok (.iload_n 3, 1) := by decide +kernel
theorem dX9_event_71 : decode cX9_event 71 = .ok (.iaload, 1) := by decide +kernel
theorem dX9_event_72 : decode cX9_event 72 = .ok (.ireturn, 1) := by decide +kernel
theorem dX9_event_73 : decode cX9_event 73 = .ok (.aload_n 0, 1) := by decide +kernel
theorem dX9_event_74 : decode cX9_event 74 = .ok (.getfield 19, 3) := by decide +kernel
theorem dX9_event_77 : decode cX9_event 77 = .ok (.getfield 240, 3) := by decide +kernel
theorem dX9_event_80 : decode cX9_event 80 = .ok (.getfield 253, 3) := by decide +kernel
theorem dX9_event_83 : decode cX9_event 83 = .ok (.iload_n 3, 1) := by decide +kernel
theorem dX9_event_84 : decode cX9_event 84 = .ok (.iaload, 1) := by decide +kernel
theorem dX9_event_85 : decode cX9_event 85 = .ok (.ireturn, 1) := by decide +kernel
theorem dX9_event_86 : decode cX9_event 86 = .ok (.aload_n 0, 1) := by decide +kernel
theorem dX9_event_87 : decode cX9_event 87 = .ok (.getfield 19, 3) := by decide +kernel
theorem dX9_event_90 : decode cX9_event 90 = .ok (.getfield 240, 3) := by decide +kernel
theorem dX9_event_93 : decode cX9_event 93 = .ok (.getfield 256, 3) := by decide +kernel
theorem dX9_event_96 : decode cX9_event 96 = .ok (.iload_n 3, 1) := by decide +kernel
theorem dX9_event_97 : decode cX9_event 97 = .ok (.iaload, 1) := by decide +kernel
theorem dX9_event_98 : decode cX9_event 98 = .ok (.ireturn, 1) := by decide +kernel
theorem dX9_event_99 : decode cX9_event 99 = .ok (.bipush (-3), 2) := by decide +kernel
theorem dX9_event_101 : decode cX9_event 101 = .ok (.ireturn, 1) := by decide +kernel
def rm_X9_event : Room := { frames := 2, cells := 0, slots := 0, locals := 43 }
section
variable {p : Program} {l : Launch} {e : Env} {s : State} {m : MethodId} {args : Array Value} {below : List Frame} {meth : Method} {c : Code} {Q : State → Prop} {G : va_G} {aC : Nat → ClassId} {t b0 : Nat}
def f_X9_event (v0 : Nat) (v1 : Int32) (v2 : Int32) (N : AH) : Option (Int32 × AH) := ob (iO N v0 9) (fun _ => ob (hR N v0 9 1) (fun x1 => ob (hR N x1 7 11) (fun x2 => ob (hI N x2 0 0) (fun x3 => ob2 (f_X9_isOneOf v1 x3 N) (fun x5 N4 => if ¬ x5 = 0 then ob (hR N4 v0 9 1) (fun x7 => ob (hR N4 x7 7 11) (fun x8 => ob2 (f_X0_slotOf x8 v1 N4) (fun x10 N9 => if v2 = 0 then ob (hR N9 v0 9 1) (fun x11 => ob (hR N9 x11 7 11) (fun x12 => ob (hR N9 x12 0 2) (fun x13 => ob (aI N9 x13 x10) (fun x14 => some (x14, N9))))) else if v2 = 1 then ob (hR N9 v0 9 1) (fun x16 => ob (hR N9 x16 7 11) (fun x17 => ob (hR N9 x17 0 3) (fun x18 => ob (aI N9 x18 x10) (fun x19 => some (x19, N9))))) else if v2 = 2 then ob (hR N9 v0 9 1) (fun x21 => ob (hR N9 x21 7 11) (fun x22 => ob (hR N9 x22 0 4) (fun x23 => ob (aI N9 x23 x10) (fun x24 => some (x24, N9))))) else some ((-3 : Int32), N9)))) else some ((-2 : Int32), N4))))))
set_option maxHeartbeats 4000000 in
set_option maxRecDepth 100000 in
theorem wk_X9_event {P : Int32 × AH → Prop} (X : CX cX9_event RX9 4 G aC t b0 p s m args c) (hr : RtI p l e rm_X9_event s m args below meth c 0 0 Q cX9_event G aC b0 P) (v0 : Nat) (v1 : Int32) (v2 : Int32) (N : AH) (H : Heap) (locs : List Loc) (ls : Array Slot) (hR : Rp G aC b0 N H) (hS : va_S (fun q => b0 ≤ q) s.heap H locs) (hl : lv_has ls 4 [(0, .ref v0), (1, .int v1), (2, .int v2)]) (hp : owp (f_X9_event v0 v1 v2 N) P) : W p l e rm_X9_event s m args below meth c H locs 0 0 Q (F0 m 0 ls []) := by
  have hx := X.1.1
  have hb := X.1.2.1
  unfold f_X9_event at hp
  obtain ⟨_, _, hp⟩ := owp_ob hp
  refine lv_iload_n hx hb dX9_event_0 rfl (lv_at hl 1 rfl) ?_
  refine lv_aload_n hx hb dX9_event_1 rfl (lv_at hl 0 rfl) ?_
  obtain ⟨x1, e_x1, hp⟩ := owp_ob hp
  refine gf_X9_19 X hR e_x1 dX9_event_2 ?_
  obtain ⟨x2, e_x2, hp⟩ := owp_ob hp
  refine gf_X9_240 X hR e_x2 dX9_event_5 ?_
  obtain ⟨x3, e_x3, hp⟩ := owp_ob hp
  refine gf_X9_244 X hR e_x3 dX9_event_8 ?_
  obtain ⟨x5, N4, e_N4, hp⟩ := owp_ob2 hp
  refine iv_X9_isOneOf (rest := []) mw_X9_72 X hR hS e_N4 hl.1 (Nat.le_of_ble_eq_true rfl) ⟨Nat.le_of_ble_eq_true rfl, Nat.le_of_ble_eq_true rfl⟩ ⟨Nat.le_of_ble_eq_true rfl, Nat.le_of_ble_eq_true rfl⟩ dX9_event_11 (fun H locs hR hS => ?_)
  refine lv_if_ne (tgt := 20) hx hb dX9_event_14 (by decide) (fun k6 => ?_) (fun k6 => ?_)
  · have hp := owp_t k6 hp
    refine lv_aload_n hx hb dX9_event_20 rfl (lv_at hl 0 rfl) ?_
    obtain ⟨x7, e_x7, hp⟩ := owp_ob hp
    refine gf_X9_19 X hR e_x7 dX9_event_21 ?_
    obtain ⟨x8, e_x8, hp⟩ := owp_ob hp
    refine gf_X9_240 X hR e_x8 dX9_event_24 ?_
    refine lv_iload_n hx hb dX9_event_27 rfl (lv_at hl 1 rfl) ?_
    obtain ⟨x10, N9, e_N9, hp⟩ := owp_ob2 hp
    refine iv_X0_slotOf (rest := []) mw_X9_247 X hR hS e_N9 hl.1 (Nat.le_of_ble_eq_true rfl) ⟨Nat.le_of_ble_eq_true rfl, Nat.le_of_ble_eq_true rfl⟩ ⟨Nat.le_of_ble_eq_true rfl, Nat.le_of_ble_eq_true rfl⟩ dX9_event_28 (fun H locs hR hS => ?_)
    refine lv_istore_n (lv' := [(3, .int x10), (0, .ref v0), (1, .int v1), (2, .int v2)]) hx hb dX9_event_31 rfl hl (by decide) rfl (fun ls hl => ?_)
    refine lv_iload_n hx hb dX9_event_32 rfl (lv_at hl 3 rfl) ?_
    by_cases k15 : v2 = 0
    · have hp := owp_t k15 hp
      refine lv_tableIn (tgt := 60) (off := 27) hx hb dX9_event_33 (by rw [k15]; decide) (by rw [k15]; decide) (by rw [k15]; rfl) (by decide) ?_
      refine lv_aload_n hx hb dX9_event_60 rfl (lv_at hl 1 rfl) ?_
      obtain ⟨x11, e_x11, hp⟩ := owp_ob hp
      refine gf_X9_19 X hR e_x11 dX9_event_61 ?_
      obtain ⟨x12, e_x12, hp⟩ := owp_ob hp
      refine gf_X9_240 X hR e_x12 dX9_event_64 ?_
      obtain ⟨x13, e_x13, hp⟩ := owp_ob hp
      refine gf_X9_250 X hR e_x13 dX9_event_67 ?_
      refine lv_iload_n hx hb dX9_event_70 rfl (lv_at hl 0 rfl) ?_
      obtain ⟨x14, e_x14, hp⟩ := owp_ob hp
      refine ab_iald X hR e_x14 dX9_event_71 ?_
      exact hr _ _ _ _ _ _ hR hS dX9_event_72 hp
    have hp := owp_f k15 hp
    by_cases k20 : v2 = 1
    · have hp := owp_t k20 hp
      refine lv_tableIn (tgt := 73) (off := 40) hx hb dX9_event_33 (by rw [k20]; decide) (by rw [k20]; decide) (by rw [k20]; rfl) (by decide) ?_
      refine lv_aload_n hx hb dX9_event_73 rfl (lv_at hl 1 rfl) ?_
      obtain ⟨x16, e_x16, hp⟩ := owp_ob hp
      refine gf_X9_19 X hR e_x16 dX9_event_74 ?_
      obtain ⟨x17, e_x17, hp⟩ := owp_ob hp
      refine gf_X9_240 X hR e_x17 dX9_event_77 ?_
      obtain ⟨x18, e_x18, hp⟩ := owp_ob hp
      refine gf_X9_253 X hR e_x18 dX9_event_80 ?_
      refine lv_iload_n hx hb dX9_event_83 rfl (lv_at hl 0 rfl) ?_
      obtain ⟨x19, e_x19, hp⟩ := owp_ob hp
      refine ab_iald X hR e_x19 dX9_event_84 ?_
      exact hr _ _ _ _ _ _ hR hS dX9_event_85 hp
    have hp := owp_f k20 hp
    by_cases k25 : v2 = 2
    · have hp := owp_t k25 hp
      refine lv_tableIn (tgt := 86) (off := 53) hx hb dX9_event_33 (by rw [k25]; decide) (by rw [k25]; decide) (by rw [k25]; rfl) (by decide) ?_
      refine lv_aload_n hx hb dX9_event_86 rfl (lv_at hl 1 rfl) ?_
      obtain ⟨x21, e_x21, hp⟩ := owp_ob hp
      refine gf_X9_19 X hR e_x21 dX9_event_87 ?_
      obtain ⟨x22, e_x22, hp⟩ := owp_ob hp
      refine gf_X9_240 X hR e_x22 dX9_event_90 ?_
      obtain ⟨x23, e_x23, hp⟩ := owp_ob hp
      refine gf_X9_256 X hR e_x23 dX9_event_93 ?_
      refine lv_iload_n hx hb dX9_event_96 rfl (lv_at hl 0 rfl) ?_
      obtain ⟨x24, e_x24, hp⟩ := owp_ob hp
      refine ab_iald X hR e_x24 dX9_event_97 ?_
      exact hr _ _ _ _ _ _ hR hS dX9_event_98 hp
    have hp := owp_f k25 hp
    have hout : Int32.toInt v2 < 0 ∨ 2 < Int32.toInt v2 := by
      have qk15 := lv_neT (a := 0) k15 (by decide)
      have qk20 := lv_neT (a := 1) k20 (by decide)
      have qk25 := lv_neT (a := 2) k25 (by decide)
      omega
    refine lv_tableOut (tgt := 99) hx hb dX9_event_33 hout (by decide) ?_
    refine lv_bipush (v := (-3)) hx hb dX9_event_99 (by decide) ?_
    exact hr _ _ _ _ _ _ hR hS dX9_event_101 hp
  · have hp := owp_f (fun q => q k6) hp
    refine lv_bipush (v := (-2)) hx hb dX9_event_17 (by decide) ?_
    exact hr _ _ _ _ _ _ hR hS dX9_event_19 hp
end
theorem ct_X9_event {v0 : Nat} {v1 : Int32} {v2 : Int32} {N N1 : AH} {r : Int32} (h : f_X9_event v0 v1 v2 N = some (r, N1)) : Ct yX9_event cX9_event 4 (some .int) rm_X9_event [.ref v0, .int v1, .int v2] N (some (.int r)) N1 :=
  ab_met (own := RX9) (by decide +kernel) rfl (Nat.le_of_ble_eq_true rfl) (fun l G aC t b0 p e s m below meth c ls X hr hlk hnm hR hS hl => wk_X9_event X (RtI_met X.1.1 X.1.2.1 hr hlk) _ _ _ _ _ _ _ hR hS hl (owp_of h))
theorem cw_X9_event : Cond.code yX9_event cX9_event 4 (some .int) ∈ WT := WT_of 913 (by decide +kernel) (by decide +kernel)
theorem iv_X9_event {p : Program} {l : Launch} {e : Env} {R : Room} {s : State} {m : MethodId} {args : Array Value} {below : List Frame} {meth : Method} {c : Code} {H : Heap} {locs : List Loc} {cells slots : Nat} {Q : State → Prop} {cc : ByteArray} {own : String} {nL : Nat} {G : va_G} {aC : Nat → ClassId} {t b0 : Nat} {N N1 : AH} {pc index : Nat} {ls : Array Slot} {rest : List Value} {v0 : Nat} {v1 : Int32} {v2 : Int32} {r : Int32} (w1 : Cond.methodLink own index yX9_event ∈ WT) (X : CX cc own nL G aC t b0 p s m args c) (hR : Rp G aC b0 N H) (hS : va_S (fun q => b0 ≤ q) s.heap H locs) (h : f_X9_event v0 v1 v2 N = some (r, N1)) (hls : ls.size = nL) (hW : (rest.map fun v => v.category).sum ≤ 8) (hR1 : 3 ≤ R.frames ∧ 66 ≤ R.locals) (hcs : cells + 0 ≤ R.cells ∧ slots + 0 ≤ R.slots) (hdg : decode cc pc = .ok (.invokevirtual index, 3)) (kk : ∀ (H1 : Heap) (locs1 : List Loc), Rp G aC b0 N1 H1 → va_S (fun q => b0 ≤ q) s.heap H1 locs1 → W p l e R s m args below meth c H1 locs1 cells slots Q (F0 m (pc + 3) ls (.int r :: rest))) : W p l e R s m args below meth c H locs cells slots Q (F0 m pc ls (.int v2 :: .int v1 :: .ref v0 :: rest)) :=
  ab_callV (n := 2) (As := [.int v1, .int v2]) X hR hS (ct_X9_event h) (ob_rc (c := 9) (N := N) (a := v0) h) (T := TX9) (k := 6) (C := RX9) rfl w1 (WT_of 911 (by decide +kernel) (by decide +kernel)) (WT_of 912 (by decide +kernel) (by decide +kernel)) (WT_of 81 (by decide +kernel) (by decide +kernel)) cw_X9_event ⟨rfl, by decide +kernel, by decide +kernel, by decide +kernel⟩ rfl hls hW hR1 hcs rfl hdg kk
-- X9_mixed
theorem dX9_mixed_0 : decode cX9_mixed 0 = .ok (.ldc2_w 281, 3) := by decide +kernel
theorem dX9_mixed_3 : decode cX9_mixed 3 = .ok (.lload_n 0, 1) := by decide +kernel
theorem dX9_mixed_4 : decode cX9_mixed 4 = .ok (.lmul, 1) := by decide +kernel
theorem dX9_mixed_5 : decode cX9_mixed 5 = .ok (.lload_n 2, 1) := by decide +kernel
theorem dX9_mixed_6 : decode cX9_mixed 6 = .ok (.ladd, 1) := by decide +kernel
theorem dX9_mixed_7 : decode cX9_mixed 7 = .ok (.lreturn, 1) := by decide +kernel
def rm_X9_mixed : Room := { frames := 0, cells := 0, slots := 0, locals := 0 }
section
variable {p : Program} {l : Launch} {e : Env} {s : State} {m : MethodId} {args : Array Value} {below : List Frame} {meth : Method} {c : Code} {Q : State → Prop} {G : va_G} {aC : Nat → ClassId} {t b0 : Nat}
def f_X9_mixed (v0 : Int64) (v2 : Int64) (N : AH) : Option (Int64 × AH) := some (((31 : Int64) * v0) + v2, N)
set_option maxHeartbeats 4000000 in
set_option maxRecDepth 100000 in
theorem wk_X9_mixed {P : Int64 × AH → Prop} (X : CX cX9_mixed RX9 4 G aC t b0 p s m args c) (hr : RtJ p l e rm_X9_mixed s m args below meth c 0 0 Q cX9_mixed G aC b0 P) (v0 : Int64) (v2 : Int64) (N : AH) (H : Heap) (locs : List Loc) (ls : Array Slot) (hR : Rp G aC b0 N H) (hS : va_S (fun q => b0 ≤ q) s.heap H locs) (hl : lv_has ls 4 [(0, .long v0), (2, .long v2)]) (hp : owp (f_X9_mixed v0 v2 N) P) : W p l e rm_X9_mixed s m args below meth c H locs 0 0 Q (F0 m 0 ls []) := by
  have hx := X.1.1
  have hb := X.1.2.1
  unfold f_X9_mixed at hp
  refine lv_ldc2 (own := RX9) (v := 31) hx hb X.1.2.2.2.1 (X.1.2.2.2.2 _ (WT_of 929 (by decide +kernel) (by decide +kernel))) dX9_mixed_0 ?_
  refine lv_lload_n hx hb dX9_mixed_3 rfl (lv_at hl 0 rfl) ?_
  refine lv_lmul hx hb dX9_mixed_4 ?_
  refine lv_lload_n hx hb dX9_mixed_5 rfl (lv_at hl 1 rfl) ?_
  refine lv_ladd hx hb dX9_mixed_6 ?_
  exact hr _ _ _ _ _ _ hR hS dX9_mixed_7 hp
end
theorem ct_X9_mixed {v0 : Int64} {v2 : Int64} {N N1 : AH} {r : Int64} (h : f_X9_mixed v0 v2 N = some (r, N1)) : Ct yX9_mixed cX9_mixed 4 (some .long) rm_X9_mixed [.long v0, .long v2] N (some (.long r)) N1 :=
  ab_met (own := RX9) (by decide +kernel) rfl (Nat.le_of_ble_eq_true rfl) (fun l G aC t b0 p e s m below meth c ls X hr hlk hnm hR hS hl => wk_X9_mixed X (RtJ_met X.1.1 X.1.2.1 hr hlk) _ _ _ _ _ _ hR hS hl (owp_of h))
theorem cw_X9_mixed : Cond.code yX9_mixed cX9_mixed 4 (some .long) ∈ WT := WT_of 928 (by decide +kernel) (by decide +kernel)
theorem iv_X9_mixed {p : Program} {l : Launch} {e : Env} {R : Room} {s : State} {m : MethodId} {args : Array Value} {below : List Frame} {meth : Method} {c : Code} {H : Heap} {locs : List Loc} {cells slots : Nat} {Q : State → Prop} {cc : ByteArray} {own : String} {nL : Nat} {G : va_G} {aC : Nat → ClassId} {t b0 : Nat} {N N1 : AH} {pc index : Nat} {ls : Array Slot} {rest : List Value} {v0 : Int64} {v2 : Int64} {r : Int64} (w1 : Cond.methodLink own index yX9_mixed ∈ WT) (X : CX cc own nL G aC t b0 p s m args c) (hR : Rp G aC b0 N H) (hS : va_S (fun q => b0 ≤ q) s.heap H locs) (h : f_X9_mixed v0 v2 N = some (r, N1)) (hls : ls.size = nL) (hW : (rest.map fun v => v.category).sum ≤ 8) (hR1 : 1 ≤ R.frames ∧ 23 ≤ R.locals) (hcs : cells + 0 ≤ R.cells ∧ slots + 0 ≤ R.slots) (hdg : decode cc pc = .ok (.invokestatic index, 3)) (kk : ∀ (H1 : Heap) (locs1 : List Loc), Rp G aC b0 N1 H1 → va_S (fun q => b0 ≤ q) s.heap H1 locs1 → W p l e R s m args below meth c H1 locs1 cells slots Q (F0 m (pc + 3) ls (.long r :: rest))) : W p l e R s m args below meth c H locs cells slots Q (F0 m pc ls (.long v2 :: .long v0 :: rest)) :=
  ab_callS (n := 2) (As := [.long v0, .long v2]) X hR hS (ct_X9_mixed h) w1 (WT_of 927 (by decide +kernel) (by decide +kernel)) (WT_of 81 (by decide +kernel) (by decide +kernel)) cw_X9_mixed ⟨by decide +kernel, by decide +kernel, by decide +kernel⟩ rfl hls hW hR1 hcs rfl hdg kk
-- X9_withDraft
theorem mw_X9_260 : Cond.methodLink RX9 260 yX9_mixed ∈ WT := WT_of 926 (by decide +kernel) (by decide +kernel)
theorem dX9_withDraft_0 : decode cX9_withDraft 0 = .ok (.aload_n 0, 1) := by decide +kernel
theorem dX9_withDraft_1 : decode cX9_withDraft 1 = .ok (.getfield 19, 3) := by decide +kernel
theorem dX9_withDraft_4 : decode cX9_withDraft 4 = .ok (.getfield 59, 3) := by decide +kernel
theorem dX9_withDraft_7 : decode cX9_withDraft 7 = .ok (.astore_n 3, 1) := by decide +kernel
theorem dX9_withDraft_8 : decode cX9_withDraft 8 = .ok (.lload_n 1, 1) := by decide +kernel
theorem dX9_withDraft_9 : decode cX9_withDraft 9 = .ok (.aload_n 3, 1) := by decide +kernel
theorem dX9_withDraft_10 : decode cX9_withDraft 10 = .ok (.getfield 63, 3) := by decide +kernel
theorem dX9_withDraft_13 : decode cX9_withDraft 13 = .ok (.i2l, 1) := by decide +kernel
theorem dX9_withDraft_14 : decode cX9_withDraft 14 = .ok (.invokestatic 260, 3) := by decide +kernel
theorem dX9_withDraft_17 : decode cX9_withDraft 17 = .ok (.lstore 4, 2) := by decide +kernel
theorem dX9_withDraft_19 : decode cX9_withDraft 19 = .ok (.iconst 0, 1) := by decide +kernel
theorem dX9_withDraft_20 : decode cX9_withDraft 20 = .ok (.istore 6, 2) := by decide +kernel
theorem dX9_withDraft_22 : decode cX9_withDraft 22 = .ok (.iload 6, 2) := by decide +kernel
theorem dX9_withDraft_24 : decode cX9_withDraft 24 = .ok (.aload_n 3, 1) := by decide +kernel
theorem dX9_withDraft_25 : decode cX9_withDraft 25 = .ok (.getfield 63, 3) := by decide +kernel
theorem dX9_withDraft_28 : decode cX9_withDraft 28 = .ok (.if_icmp .ge 54, 3) := by decide +kernel
theorem dX9_withDraft_31 : decode cX9_withDraft 31 = .ok (.lload 4, 2) := by decide +kernel
theorem dX9_withDraft_33 : decode cX9_withDraft 33 = .ok (.aload_n 3, 1) := by decide +kernel
theorem dX9_withDraft_34 : decode cX9_withDraft 34 = .ok (.getfield 159, 3) := by decide +kernel
theorem dX9_withDraft_37 : decode cX9_withDraft 37 = .ok (.iload 6, 2) := by decide +kernel
theorem dX9_withDraft_39 : decode cX9_withDraft 39 = .ok (.iaload, 1) := by decide +kernel
theorem dX9_withDraft_40 : decode cX9_withDraft 40 = .ok (.i2l, 1) := by decide +kernel
theorem dX9_withDraft_41 : decode cX9_withDraft 41 = .ok (.invokestatic 260, 3) := by decide +kernel
theorem dX9_withDraft_44 : decode cX9_withDraft 44 = .ok (.lstore 4, 2) := by decide +kernel
theorem dX9_withDraft_46 : decode cX9_withDraft 46 = .ok (.lload 4, 2) := by decide +kernel
theorem dX9_withDraft_48 : decode cX9_withDraft 48 = .ok (.aload_n 3, 1) := by decide +kernel
theorem dX9_withDraft_49 : decode cX9_withDraft 49 = .ok (.getfield 162, 3) := by decide +kernel
theorem dX9_withDraft_52 : decode cX9_withDraft 52 = .ok (.iload 6, 2) := by decide +kernel
theorem dX9_withDraft_54 : decode cX9_withDraft 54 = .ok (.iaload, 1) := by decide +kernel
theorem dX9_withDraft_55 : decode cX9_withDraft 55 = .ok (.i2l, 1) := by decide +kernel
theorem dX9_withDraft_56 : decode cX9_withDraft 56 = .ok (.invokestatic 260, 3) := by decide +kernel
theorem dX9_withDraft_59 : decode cX9_withDraft 59 = .ok (.lstore 4, 2) := by decide +kernel
theorem dX9_withDraft_61 : decode cX9_withDraft 61 = .ok (.lload 4, 2) := by decide +kernel
theorem dX9_withDraft_63 : decode cX9_withDraft 63 = .ok (.aload_n 3, 1) := by decide +kernel
theorem dX9_withDraft_64 : decode cX9_withDraft 64 = .ok (.getfield 165, 3) := by decide +kernel
theorem dX9_withDraft_67 : decode cX9_withDraft 67 = .ok (.iload 6, 2) := by decide +kernel
theorem dX9_withDraft_69 : decode cX9_withDraft 69 = .ok (.iaload, 1) := by decide +kernel
theorem dX9_withDraft_70 : decode cX9_withDraft 70 = .ok (.i2l, 1) := by decide +kernel
theorem dX9_withDraft_71 : decode cX9_withDraft 71 = .ok (.invokestatic 260, 3) := by decide +kernel
theorem dX9_withDraft_74 : decode cX9_withDraft 74 = .ok (.lstore 4, 2) := by decide +kernel
theorem dX9_withDraft_76 : decode cX9_withDraft 76 = .ok (.iinc 6 1, 3) := by decide +kernel
theorem dX9_withDraft_79 : decode cX9_withDraft 79 = .ok (.goto (-57), 3) := by decide +kernel
theorem dX9_withDraft_82 : decode cX9_withDraft 82 = .ok (.lload 4, 2) := by decide +kernel
theorem dX9_withDraft_84 : decode cX9_withDraft 84 = .ok (.lreturn, 1) := by decide +kernel
def rm_X9_withDraft : Room := { frames := 1, cells := 0, slots := 0, locals := 23 }
section
variable {p : Program} {l : Launch} {e : Env} {s : State} {m : MethodId} {args : Array Value} {below : List Frame} {meth : Method} {c : Code} {Q : State → Prop} {G : va_G} {aC : Nat → ClassId} {t b0 : Nat}
def f_X9_withDraft_L22 (v3 : Nat) (k82 : Int64 → AH → Option (Int64 × AH)) : Nat → Int64 → Int32 → AH → Option (Int64 × AH)
  | 0, _, _, _ => none
  | n + 1, v4, v6, N => ob (hI N v3 1 0) (fun x6 => if x6 ≤ v6 then k82 v4 N else ob (hR N v3 1 1) (fun x8 => ob (aI N x8 v6) (fun x9 => ob2 (f_X9_mixed v4 (Int32.toInt64 x9) N) (fun x11 N10 => ob (hR N10 v3 1 2) (fun x12 => ob (aI N10 x12 v6) (fun x13 => ob2 (f_X9_mixed x11 (Int32.toInt64 x13) N10) (fun x15 N14 => ob (hR N14 v3 1 3) (fun x16 => ob (aI N14 x16 v6) (fun x17 => ob2 (f_X9_mixed x15 (Int32.toInt64 x17) N14) (fun x19 N18 => f_X9_withDraft_L22 v3 k82 n x19 (v6 + 1) N18))))))))))
set_option maxHeartbeats 4000000 in
set_option maxRecDepth 100000 in
theorem w_X9_withDraft_L22 {P : Int64 × AH → Prop} (X : CX cX9_withDraft RX9 7 G aC t b0 p s m args c) (hr : RtJ p l e rm_X9_withDraft s m args below meth c 0 0 Q cX9_withDraft G aC b0 P) (v3 : Nat) {k82 : Int64 → AH → Option (Int64 × AH)}
    (hk82 : ∀ (v4 : Int64) (N : AH) (H : Heap) (locs : List Loc) (ls : Array Slot), Rp G aC b0 N H → va_S (fun q => b0 ≤ q) s.heap H locs → lv_has ls 7 [(4, .long v4)] → owp (k82 v4 N) P → W p l e rm_X9_withDraft s m args below meth c H locs 0 0 Q (F0 m 82 ls [])) :
    ∀ (n : Nat) (v4 : Int64) (v6 : Int32) (N : AH) (H : Heap) (locs : List Loc) (ls : Array Slot), Rp G aC b0 N H → va_S (fun q => b0 ≤ q) s.heap H locs → lv_has ls 7 [(3, .ref v3), (4, .long v4), (6, .int v6)] → owp (f_X9_withDraft_L22 v3 k82 n v4 v6 N) P → W p l e rm_X9_withDraft s m args below meth c H locs 0 0 Q (F0 m 22 ls []) := by
  have hx := X.1.1
  have hb := X.1.2.1
  intro n
  induction n with
  | zero =>
    intro v4 v6 N H locs ls hR hS hl hp
    exact (show False from hp).elim
  | succ n ih =>
    intro v4 v6 N H locs ls hR hS hl hp
    rw [f_X9_withDraft_L22] at hp
    refine lv_iload hx hb dX9_withDraft_22 (lv_at hl 2 rfl) ?_
    refine lv_aload_n hx hb dX9_withDraft_24 rfl (lv_at hl 0 rfl) ?_
    obtain ⟨x6, e_x6, hp⟩ := owp_ob hp
    refine gf_X9_63 X hR e_x6 dX9_withDraft_25 ?_
    refine lv_icmp_ge (tgt := 82) hx hb dX9_withDraft_28 (by decide) (fun k7 => ?_) (fun k7 => ?_)
    · have hp := owp_t k7 hp
      exact hk82 _ _ _ _ _ hR hS (lv_sub hl [1] rfl) hp
    · have hp := owp_f k7 hp
      refine lv_lload hx hb dX9_withDraft_31 (lv_at hl 1 rfl) ?_
      refine lv_aload_n hx hb dX9_withDraft_33 rfl (lv_at hl 0 rfl) ?_
      obtain ⟨x8, e_x8, hp⟩ := owp_ob hp
      refine gf_X9_159 X hR e_x8 dX9_withDraft_34 ?_
      refine lv_iload hx hb dX9_withDraft_37 (lv_at hl 2 rfl) ?_
      obtain ⟨x9, e_x9, hp⟩ := owp_ob hp
      refine ab_iald X hR e_x9 dX9_withDraft_39 ?_
      refine lv_i2l (v := Int32.toInt64 x9) hx hb dX9_withDraft_40 rfl ?_
      obtain ⟨x11, N10, e_N10, hp⟩ := owp_ob2 hp
      refine iv_X9_mixed (rest := []) mw_X9_260 X hR hS e_N10 hl.1 (Nat.le_of_ble_eq_true rfl) ⟨Nat.le_of_ble_eq_true rfl, Nat.le_of_ble_eq_true rfl⟩ ⟨Nat.le_of_ble_eq_true rfl, Nat.le_of_ble_eq_true rfl⟩ dX9_withDraft_41 (fun H locs hR hS => ?_)
      refine lv_lstore (lv' := [(4, .long x11), (3, .ref v3), (6, .int v6)]) hx hb dX9_withDraft_44 hl (by decide) rfl (fun ls hl => ?_)
      refine lv_lload hx hb dX9_withDraft_46 (lv_at hl 0 rfl) ?_
      refine lv_aload_n hx hb dX9_withDraft_48 rfl (lv_at hl 1 rfl) ?_
      obtain ⟨x12, e_x12, hp⟩ := owp_ob hp
      refine gf_X9_162 X hR e_x12 dX9_withDraft_49 ?_
      refine lv_iload hx hb dX9_withDraft_52 (lv_at hl 2 rfl) ?_
      obtain ⟨x13, e_x13, hp⟩ := owp_ob hp
      refine ab_iald X hR e_x13 dX9_withDraft_54 ?_
      refine lv_i2l (v := Int32.toInt64 x13) hx hb dX9_withDraft_55 rfl ?_
      obtain ⟨x15, N14, e_N14, hp⟩ := owp_ob2 hp
      refine iv_X9_mixed (rest := []) mw_X9_260 X hR hS e_N14 hl.1 (Nat.le_of_ble_eq_true rfl) ⟨Nat.le_of_ble_eq_true rfl, Nat.le_of_ble_eq_true rfl⟩ ⟨Nat.le_of_ble_eq_true rfl, Nat.le_of_ble_eq_true rfl⟩ dX9_withDraft_56 (fun H locs hR hS => ?_)
      refine lv_lstore (lv' := [(4, .long x15), (3, .ref v3), (6, .int v6)]) hx hb dX9_withDraft_59 hl (by decide) rfl (fun ls hl => ?_)
      refine lv_lload hx hb dX9_withDraft_61 (lv_at hl 0 rfl) ?_
      refine lv_aload_n hx hb dX9_withDraft_63 rfl (lv_at hl 1 rfl) ?_
      obtain ⟨x16, e_x16, hp⟩ := owp_ob hp
      refine gf_X9_165 X hR e_x16 dX9_withDraft_64 ?_
      refine lv_iload hx hb dX9_withDraft_67 (lv_at hl 2 rfl) ?_
      obtain ⟨x17, e_x17, hp⟩ := owp_ob hp
      refine ab_iald X hR e_x17 dX9_withDraft_69 ?_
      refine lv_i2l (v := Int32.toInt64 x17) hx hb dX9_withDraft_70 rfl ?_
      obtain ⟨x19, N18, e_N18, hp⟩ := owp_ob2 hp
      refine iv_X9_mixed (rest := []) mw_X9_260 X hR hS e_N18 hl.1 (Nat.le_of_ble_eq_true rfl) ⟨Nat.le_of_ble_eq_true rfl, Nat.le_of_ble_eq_true rfl⟩ ⟨Nat.le_of_ble_eq_true rfl, Nat.le_of_ble_eq_true rfl⟩ dX9_withDraft_71 (fun H locs hR hS => ?_)
      refine lv_lstore (lv' := [(4, .long x19), (3, .ref v3), (6, .int v6)]) hx hb dX9_withDraft_74 hl (by decide) rfl (fun ls hl => ?_)
      refine lv_iinc (v := v6 + 1) (lv' := [(6, .int (v6 + 1)), (4, .long x19), (3, .ref v3)]) hx hb dX9_withDraft_76 hl (k := 2) rfl rfl (by decide) rfl (fun ls hl => ?_)
      refine lv_goto (tgt := 22) hx hb dX9_withDraft_79 (by decide) ?_
      exact ih _ _ _ _ _ _ hR hS (lv_sub hl [2, 1, 0] rfl) hp
def f_X9_withDraft (v0 : Nat) (v1 : Int64) (N : AH) : Option (Int64 × AH) := ob (iO N v0 9) (fun _ => ob (hR N v0 9 1) (fun x1 => ob (hR N x1 7 9) (fun x2 => ob (hI N x2 1 0) (fun x3 => ob2 (f_X9_mixed v1 (Int32.toInt64 x3) N) (fun x5 N4 => f_X9_withDraft_L22 x2 (fun v20 N21 => some (v20, N21)) FU x5 (0 : Int32) N4)))))
set_option maxHeartbeats 4000000 in
set_option maxRecDepth 100000 in
theorem wk_X9_withDraft {P : Int64 × AH → Prop} (X : CX cX9_withDraft RX9 7 G aC t b0 p s m args c) (hr : RtJ p l e rm_X9_withDraft s m args below meth c 0 0 Q cX9_withDraft G aC b0 P) (v0 : Nat) (v1 : Int64) (N : AH) (H : Heap) (locs : List Loc) (ls : Array Slot) (hR : Rp G aC b0 N H) (hS : va_S (fun q => b0 ≤ q) s.heap H locs) (hl : lv_has ls 7 [(0, .ref v0), (1, .long v1)]) (hp : owp (f_X9_withDraft v0 v1 N) P) : W p l e rm_X9_withDraft s m args below meth c H locs 0 0 Q (F0 m 0 ls []) := by
  have hx := X.1.1
  have hb := X.1.2.1
  unfold f_X9_withDraft at hp
  obtain ⟨_, _, hp⟩ := owp_ob hp
  refine lv_aload_n hx hb dX9_withDraft_0 rfl (lv_at hl 0 rfl) ?_
  obtain ⟨x1, e_x1, hp⟩ := owp_ob hp
  refine gf_X9_19 X hR e_x1 dX9_withDraft_1 ?_
  obtain ⟨x2, e_x2, hp⟩ := owp_ob hp
  refine gf_X9_59 X hR e_x2 dX9_withDraft_4 ?_
  refine lv_astore_n (lv' := [(3, .ref x2), (0, .ref v0), (1, .long v1)]) hx hb dX9_withDraft_7 rfl hl (by decide) rfl (fun ls hl => ?_)
  refine lv_lload_n hx hb dX9_withDraft_8 rfl (lv_at hl 2 rfl) ?_
  refine lv_aload_n hx hb dX9_withDraft_9 rfl (lv_at hl 0 rfl) ?_
  obtain ⟨x3, e_x3, hp⟩ := owp_ob hp
  refine gf_X9_63 X hR e_x3 dX9_withDraft_10 ?_
  refine lv_i2l (v := Int32.toInt64 x3) hx hb dX9_withDraft_13 rfl ?_
  obtain ⟨x5, N4, e_N4, hp⟩ := owp_ob2 hp
  refine iv_X9_mixed (rest := []) mw_X9_260 X hR hS e_N4 hl.1 (Nat.le_of_ble_eq_true rfl) ⟨Nat.le_of_ble_eq_true rfl, Nat.le_of_ble_eq_true rfl⟩ ⟨Nat.le_of_ble_eq_true rfl, Nat.le_of_ble_eq_true rfl⟩ dX9_withDraft_14 (fun H locs hR hS => ?_)
  refine lv_lstore (lv' := [(4, .long x5), (3, .ref x2), (0, .ref v0), (1, .long v1)]) hx hb dX9_withDraft_17 hl (by decide) rfl (fun ls hl => ?_)
  refine lv_iconst (v := (0)) hx hb dX9_withDraft_19 (by decide) ?_
  refine lv_istore (lv' := [(6, .int (0 : Int32)), (4, .long x5), (3, .ref x2), (0, .ref v0), (1, .long v1)]) hx hb dX9_withDraft_20 hl (by decide) rfl (fun ls hl => ?_)
  refine w_X9_withDraft_L22 X hr _ (fun v20 N21 H locs ls hR hS hl hp => ?_) _ _ _ _ _ _ _ hR hS (lv_sub hl [2, 1, 0] rfl) hp
  refine lv_lload hx hb dX9_withDraft_82 (lv_at hl 0 rfl) ?_
  exact hr _ _ _ _ _ _ hR hS dX9_withDraft_84 hp
end
theorem ct_X9_withDraft {v0 : Nat} {v1 : Int64} {N N1 : AH} {r : Int64} (h : f_X9_withDraft v0 v1 N = some (r, N1)) : Ct yX9_withDraft cX9_withDraft 7 (some .long) rm_X9_withDraft [.ref v0, .long v1] N (some (.long r)) N1 :=
  ab_met (own := RX9) (by decide +kernel) rfl (Nat.le_of_ble_eq_true rfl) (fun l G aC t b0 p e s m below meth c ls X hr hlk hnm hR hS hl => wk_X9_withDraft X (RtJ_met X.1.1 X.1.2.1 hr hlk) _ _ _ _ _ _ hR hS hl (owp_of h))
theorem cw_X9_withDraft : Cond.code yX9_withDraft cX9_withDraft 7 (some .long) ∈ WT := WT_of 933 (by decide +kernel) (by decide +kernel)
theorem iv_X9_withDraft {p : Program} {l : Launch} {e : Env} {R : Room} {s : State} {m : MethodId} {args : Array Value} {below : List Frame} {meth : Method} {c : Code} {H : Heap} {locs : List Loc} {cells slots : Nat} {Q : State → Prop} {cc : ByteArray} {own : String} {nL : Nat} {G : va_G} {aC : Nat → ClassId} {t b0 : Nat} {N N1 : AH} {pc index : Nat} {ls : Array Slot} {rest : List Value} {v0 : Nat} {v1 : Int64} {r : Int64} (w1 : Cond.methodLink own index yX9_withDraft ∈ WT) (X : CX cc own nL G aC t b0 p s m args c) (hR : Rp G aC b0 N H) (hS : va_S (fun q => b0 ≤ q) s.heap H locs) (h : f_X9_withDraft v0 v1 N = some (r, N1)) (hls : ls.size = nL) (hW : (rest.map fun v => v.category).sum ≤ 8) (hR1 : 2 ≤ R.frames ∧ 49 ≤ R.locals) (hcs : cells + 0 ≤ R.cells ∧ slots + 0 ≤ R.slots) (hdg : decode cc pc = .ok (.invokevirtual index, 3)) (kk : ∀ (H1 : Heap) (locs1 : List Loc), Rp G aC b0 N1 H1 → va_S (fun q => b0 ≤ q) s.heap H1 locs1 → W p l e R s m args below meth c H1 locs1 cells slots Q (F0 m (pc + 3) ls (.long r :: rest))) : W p l e R s m args below meth c H locs cells slots Q (F0 m pc ls (.long v1 :: .ref v0 :: rest)) :=
  ab_callV (n := 1) (As := [.long v1]) X hR hS (ct_X9_withDraft h) (ob_rc (c := 9) (N := N) (a := v0) h) (T := TX9) (k := 6) (C := RX9) rfl w1 (WT_of 932 (by decide +kernel) (by decide +kernel)) (WT_of 30 (by decide +kernel) (by decide +kernel)) (WT_of 81 (by decide +kernel) (by decide +kernel)) cw_X9_withDraft ⟨rfl, by decide +kernel, by decide +kernel, by decide +kernel⟩ rfl hls hW hR1 hcs rfl hdg kk
-- X9_withGroup
theorem gf_X9_275 {p : Program} {l : Launch} {e : Env} {R : Room} {s : State} {m : MethodId} {args : Array Value} {below : List Frame} {meth : Method} {c : Code} {H : Heap} {locs : List Loc} {cells slots : Nat} {Q : State → Prop} {cc : ByteArray} {nL : Nat} {G : va_G} {aC : Nat → ClassId} {t b0 : Nat} {N : AH} {pc : Nat} {ls : Array Slot} {rest : List Value} {a : Nat} {v : Int32} (X : CX cc RX9 nL G aC t b0 p s m args c) (hR0 : Rp G aC b0 N H) (hv : hI N a 4 1 = some v) (hdg : decode cc pc = .ok (.getfield 275, 3)) (kk : W p l e R s m args below meth c H locs cells slots Q (F0 m (pc + 3) ls (.int v :: rest))) : W p l e R s m args below meth c H locs cells slots Q (F0 m pc ls (.ref a :: rest)) := by
  obtain ⟨fs, h1, h2⟩ := hI_ok hv
  exact ab_get (C := RX4) (T := TX4) (n := 6) X hR0 h1 h2 rfl inX4 (by decide) (WT_of 196 (by decide +kernel) (by decide +kernel)) hdg kk
theorem gf_X9_278 {p : Program} {l : Launch} {e : Env} {R : Room} {s : State} {m : MethodId} {args : Array Value} {below : List Frame} {meth : Method} {c : Code} {H : Heap} {locs : List Loc} {cells slots : Nat} {Q : State → Prop} {cc : ByteArray} {nL : Nat} {G : va_G} {aC : Nat → ClassId} {t b0 : Nat} {N : AH} {pc : Nat} {ls : Array Slot} {rest : List Value} {a : Nat} {v : Int32} (X : CX cc RX9 nL G aC t b0 p s m args c) (hR0 : Rp G aC b0 N H) (hv : hI N a 4 2 = some v) (hdg : decode cc pc = .ok (.getfield 278, 3)) (kk : W p l e R s m args below meth c H locs cells slots Q (F0 m (pc + 3) ls (.int v :: rest))) : W p l e R s m args below meth c H locs cells slots Q (F0 m pc ls (.ref a :: rest)) := by
  obtain ⟨fs, h1, h2⟩ := hI_ok hv
  exact ab_get (C := RX4) (T := TX4) (n := 6) X hR0 h1 h2 rfl inX4 (by decide) (WT_of 201 (by decide +kernel) (by decide +kernel)) hdg kk
theorem dX9_withGroup_0 : decode cX9_withGroup 0 = .ok (.lload_n 1, 1) := by decide +kernel
theorem dX9_withGroup_1 : decode cX9_withGroup 1 = .ok (.aload_n 3, 1) := by decide +kernel
theorem dX9_withGroup_2 : decode cX9_withGroup 2 = .ok (.aload_n 0, 1) := by decide +kernel
theorem dX9_withGroup_3 : decode cX9_withGroup 3 = .ok (.getfield 19, 3) := by decide +kernel
theorem dX9_withGroup_6 : decode cX9_withGroup 6 = .ok (.getfield 132, 3) := by decide +kernel
theorem dX9_withGroup_9 : decode cX9_withGroup 9 = .ok (.invokevirtual 142, 3) := by decide +kernel
theorem dX9_withGroup_12 : decode cX9_withGroup 12 = .ok (.i2l, 1) := by decide +kernel
theorem dX9_withGroup_13 : decode cX9_withGroup 13 = .ok (.invokestatic 260, 3) := by decide +kernel
theorem dX9_withGroup_16 : decode cX9_withGroup 16 = .ok (.lstore 4, 2) := by decide +kernel
theorem dX9_withGroup_18 : decode cX9_withGroup 18 = .ok (.lload 4, 2) := by decide +kernel
theorem dX9_withGroup_20 : decode cX9_withGroup 20 = .ok (.aload_n 3, 1) := by decide +kernel
theorem dX9_withGroup_21 : decode cX9_withGroup 21 = .ok (.getfield 147, 3) := by decide +kernel
theorem dX9_withGroup_24 : decode cX9_withGroup 24 = .ok (.i2l, 1) := by decide +kernel
theorem dX9_withGroup_25 : decode cX9_withGroup 25 = .ok (.invokestatic 260, 3) := by decide +kernel
theorem dX9_withGroup_28 : decode cX9_withGroup 28 = .ok (.lstore 4, 2) := by decide +kernel
theorem dX9_withGroup_30 : decode cX9_withGroup 30 = .ok (.lload 4, 2) := by decide +kernel
theorem dX9_withGroup_32 : decode cX9_withGroup 32 = .ok (.aload_n 3, 1) := by decide +kernel
theorem dX9_withGroup_33 : decode cX9_withGroup 33 = .ok (.getfield 275, 3) := by decide +kernel
theorem dX9_withGroup_36 : decode cX9_withGroup 36 = .ok (.i2l, 1) := by decide +kernel
theorem dX9_withGroup_37 : decode cX9_withGroup 37 = .ok (.invokestatic 260, 3) := by decide +kernel
theorem dX9_withGroup_40 : decode cX9_withGroup 40 = .ok (.lstore 4, 2) := by decide +kernel
theorem dX9_withGroup_42 : decode cX9_withGroup 42 = .ok (.lload 4, 2) := by decide +kernel
theorem dX9_withGroup_44 : decode cX9_withGroup 44 = .ok (.aload_n 3, 1) := by decide +kernel
theorem dX9_withGroup_45 : decode cX9_withGroup 45 = .ok (.getfield 278, 3) := by decide +kernel
theorem dX9_withGroup_48 : decode cX9_withGroup 48 = .ok (.i2l, 1) := by decide +kernel
theorem dX9_withGroup_49 : decode cX9_withGroup 49 = .ok (.invokestatic 260, 3) := by decide +kernel
theorem dX9_withGroup_52 : decode cX9_withGroup 52 = .ok (.lstore 4, 2) := by decide +kernel
theorem dX9_withGroup_54 : decode cX9_withGroup 54 = .ok (.lload 4, 2) := by decide +kernel
theorem dX9_withGroup_56 : decode cX9_withGroup 56 = .ok (.aload_n 3, 1) := by decide +kernel
theorem dX9_withGroup_57 : decode cX9_withGroup 57 = .ok (.getfield 150, 3) := by decide +kernel
theorem dX9_withGroup_60 : decode cX9_withGroup 60 = .ok (.i2l, 1) := by decide +kernel
theorem dX9_withGroup_61 : decode cX9_withGroup 61 = .ok (.invokestatic 260, 3) := by decide +kernel
theorem dX9_withGroup_64 : decode cX9_withGroup 64 = .ok (.lstore 4, 2) := by decide +kernel
theorem dX9_withGroup_66 : decode cX9_withGroup 66 = .ok (.aload_n 3, 1) := by decide +kernel
theorem dX9_withGroup_67 : decode cX9_withGroup 67 = .ok (.getfield 153, 3) := by decide +kernel
theorem dX9_withGroup_70 : decode cX9_withGroup 70 = .ok (.astore 6, 2) := by decide +kernel
theorem dX9_withGroup_72 : decode cX9_withGroup 72 = .ok (.iconst 0, 1) := by decide +kernel
theorem dX9_withGroup_73 : decode cX9_withGroup 73 = .ok (.istore 7, 2) := by decide +kernel
theorem dX9_withGroup_75 : decode cX9_withGroup 75 = .ok (.iload 7, 2) := by decide +kernel
theorem dX9_withGroup_77 : decode cX9_withGroup 77 = .ok (.aload 6, 2) := by decide +kernel
theorem dX9_withGroup_79 : decode cX9_withGroup 79 = .ok (.getfield 63, 3) := by decide +kernel
theorem dX9_withGroup_82 : decode cX9_withGroup 82 = .ok (.if_icmp .ge 89, 3) := by decide +kernel
theorem dX9_withGroup_85 : decode cX9_withGroup 85 = .ok (.lload 4, 2) := by decide +kernel
theorem dX9_withGroup_87 : decode cX9_withGroup 87 = .ok (.aload 6, 2) := by decide +kernel
theorem dX9_withGroup_89 : decode cX9_withGroup 89 = .ok (.getfield 159, 3) := by decide +kernel
theorem dX9_withGroup_92 : decode cX9_withGroup 92 = .ok (.iload 7, 2) := by decide +kernel
theorem dX9_withGroup_94 : decode cX9_withGroup 94 = .ok (.iaload, 1) := by decide +kernel
theorem dX9_withGroup_95 : decode cX9_withGroup 95 = .ok (.i2l, 1) := by decide +kernel
theorem dX9_withGroup_96 : decode cX9_withGroup 96 = .ok (.invokestatic 260, 3) := by decide +kernel
theorem dX9_withGroup_99 : decode cX9_withGroup 99 = .ok (.lstore 4, 2) := by decide +kernel
theorem dX9_withGroup_101 : decode cX9_withGroup 101 = .ok (.lload 4, 2) := by decide +kernel
theorem dX9_withGroup_103 : decode cX9_withGroup 103 = .ok (.aload 6, 2) := by decide +kernel
theorem dX9_withGroup_105 : decode cX9_withGroup 105 = .ok (.getfield 162, 3) := by decide +kernel
theorem dX9_withGroup_108 : decode cX9_withGroup 108 = .ok (.iload 7, 2) := by decide +kernel
theorem dX9_withGroup_110 : decode cX9_withGroup 110 = .ok (.iaload, 1) := by decide +kernel
theorem dX9_withGroup_111 : decode cX9_withGroup 111 = .ok (.i2l, 1) := by decide +kernel
theorem dX9_withGroup_112 : decode cX9_withGroup 112 = .ok (.invokestatic 260, 3) := by decide +kernel
theorem dX9_withGroup_115 : decode cX9_withGroup 115 = .ok (.lstore 4, 2) := by decide +kernel
theorem dX9_withGroup_117 : decode cX9_withGroup 117 = .ok (.lload 4, 2) := by decide +kernel
theorem dX9_withGroup_119 : decode cX9_withGroup 119 = .ok (.aload 6, 2) := by decide +kernel
theorem dX9_withGroup_121 : decode cX9_withGroup 121 = .ok (.getfield 165, 3) := by decide +kernel
theorem dX9_withGroup_124 : decode cX9_withGroup 124 = .ok (.iload 7, 2) := by decide +kernel
theorem dX9_withGroup_126 : decode cX9_withGroup 126 = .ok (.iaload, 1) := by decide +kernel
theorem dX9_withGroup_127 : decode cX9_withGroup 127 = .ok (.i2l, 1) := by decide +kernel
theorem dX9_withGroup_128 : decode cX9_withGroup 128 = .ok (.invokestatic 260, 3) := by decide +kernel
theorem dX9_withGroup_131 : decode cX9_withGroup 131 = .ok (.lstore 4, 2) := by decide +kernel
theorem dX9_withGroup_133 : decode cX9_withGroup 133 = .ok (.lload 4, 2) := by decide +kernel
theorem dX9_withGroup_135 : decode cX9_withGroup 135 = .ok (.aload 6, 2) := by decide +kernel
theorem dX9_withGroup_137 : decode cX9_withGroup 137 = .ok (.getfield 168, 3) := by decide +kernel
theorem dX9_withGroup_140 : decode cX9_withGroup 140 = .ok (.iload 7, 2) := by decide +kernel
theorem dX9_withGroup_142 : decode cX9_withGroup 142 = .ok (.iaload, 1) := by decide +kernel
theorem dX9_withGroup_143 : decode cX9_withGroup 143 = .ok (.i2l, 1) := by decide +kernel
theorem dX9_withGroup_144 : decode cX9_withGroup 144 = .ok (.invokestatic 260, 3) := by decide +kernel
theorem dX9_withGroup_147 : decode cX9_withGroup 147 = .ok (.lstore 4, 2) := by decide +kernel
theorem dX9_withGroup_149 : decode cX9_withGroup 149 = .ok (.lload 4, 2) := by decide +kernel
theorem dX9_withGroup_151 : decode cX9_withGroup 151 = .ok (.aload 6, 2) := by decide +kernel
theorem dX9_withGroup_153 : decode cX9_withGroup 153 = .ok (.getfield 171, 3) := by decide +kernel
theorem dX9_withGroup_156 : decode cX9_withGroup 156 = .ok (.iload 7, 2) := by decide +kernel
theorem dX9_withGroup_158 : decode cX9_withGroup 158 = .ok (.iaload, 1) := by decide +kernel
theorem dX9_withGroup_159 : decode cX9_withGroup 159 = .ok (.i2l, 1) := by decide +kernel
theorem dX9_withGroup_160 : decode cX9_withGroup 160 = .ok (.invokestatic 260, 3) := by decide +kernel
theorem dX9_withGroup_163 : decode cX9_withGroup 163 = .ok (.lstore 4, 2) := by decide +kernel
theorem dX9_withGroup_165 : decode cX9_withGroup 165 = .ok (.iinc 7 1, 3) := by decide +kernel
theorem dX9_withGroup_168 : decode cX9_withGroup 168 = .ok (.goto (-93), 3) := by decide +kernel
theorem dX9_withGroup_171 : decode cX9_withGroup 171 = .ok (.lload 4, 2) := by decide +kernel
theorem dX9_withGroup_173 : decode cX9_withGroup 173 = .ok (.lreturn, 1) := by decide +kernel
def rm_X9_withGroup : Room := { frames := 1, cells := 0, slots := 0, locals := 23 }
section
variable {p : Program} {l : Launch} {e : Env} {s : State} {m : MethodId} {args : Array Value} {below : List Frame} {meth : Method} {c : Code} {Q : State → Prop} {G : va_G} {aC : Nat → ClassId} {t b0 : Nat}
def f_X9_withGroup_L75 (v6 : Nat) (k171 : Int64 → AH → Option (Int64 × AH)) : Nat → Int64 → Int32 → AH → Option (Int64 × AH)
  | 0, _, _, _ => none
  | n + 1, v4, v7, N => ob (hI N v6 1 0) (fun x20 => if x20 ≤ v7 then k171 v4 N else ob (hR N v6 1 1) (fun x22 => ob (aI N x22 v7) (fun x23 => ob2 (f_X9_mixed v4 (Int32.toInt64 x23) N) (fun x25 N24 => ob (hR N24 v6 1 2) (fun x26 => ob (aI N24 x26 v7) (fun x27 => ob2 (f_X9_mixed x25 (Int32.toInt64 x27) N24) (fun x29 N28 => ob (hR N28 v6 1 3) (fun x30 => ob (aI N28 x30 v7) (fun x31 => ob2 (f_X9_mixed x29 (Int32.toInt64 x31) N28) (fun x33 N32 => ob (hR N32 v6 1 4) (fun x34 => ob (aI N32 x34 v7) (fun x35 => ob2 (f_X9_mixed x33 (Int32.toInt64 x35) N32) (fun x37 N36 => ob (hR N36 v6 1 5) (fun x38 => ob (aI N36 x38 v7) (fun x39 => ob2 (f_X9_mixed x37 (Int32.toInt64 x39) N36) (fun x41 N40 => f_X9_withGroup_L75 v6 k171 n x41 (v7 + 1) N40))))))))))))))))
set_option maxHeartbeats 4000000 in
set_option maxRecDepth 100000 in
theorem w_X9_withGroup_L75 {P : Int64 × AH → Prop} (X : CX cX9_withGroup RX9 8 G aC t b0 p s m args c) (hr : RtJ p l e rm_X9_withGroup s m args below meth c 0 0 Q cX9_withGroup G aC b0 P) (v6 : Nat) {k171 : Int64 → AH → Option (Int64 × AH)}
    (hk171 : ∀ (v4 : Int64) (N : AH) (H : Heap) (locs : List Loc) (ls : Array Slot), Rp G aC b0 N H → va_S (fun q => b0 ≤ q) s.heap H locs → lv_has ls 8 [(4, .long v4)] → owp (k171 v4 N) P → W p l e rm_X9_withGroup s m args below meth c H locs 0 0 Q (F0 m 171 ls [])) :
    ∀ (n : Nat) (v4 : Int64) (v7 : Int32) (N : AH) (H : Heap) (locs : List Loc) (ls : Array Slot), Rp G aC b0 N H → va_S (fun q => b0 ≤ q) s.heap H locs → lv_has ls 8 [(4, .long v4), (6, .ref v6), (7, .int v7)] → owp (f_X9_withGroup_L75 v6 k171 n v4 v7 N) P → W p l e rm_X9_withGroup s m args below meth c H locs 0 0 Q (F0 m 75 ls []) := by
  have hx := X.1.1
  have hb := X.1.2.1
  intro n
  induction n with
  | zero =>
    intro v4 v7 N H locs ls hR hS hl hp
    exact (show False from hp).elim
  | succ n ih =>
    intro v4 v7 N H locs ls hR hS hl hp
    rw [f_X9_withGroup_L75] at hp
    refine lv_iload hx hb dX9_withGroup_75 (lv_at hl 2 rfl) ?_
    refine lv_aload hx hb dX9_withGroup_77 (lv_at hl 1 rfl) ?_
    obtain ⟨x20, e_x20, hp⟩ := owp_ob hp
    refine gf_X9_63 X hR e_x20 dX9_withGroup_79 ?_
    refine lv_icmp_ge (tgt := 171) hx hb dX9_withGroup_82 (by decide) (fun k21 => ?_) (fun k21 => ?_)
    · have hp := owp_t k21 hp
      exact hk171 _ _ _ _ _ hR hS (lv_sub hl [0] rfl) hp
    · have hp := owp_f k21 hp
      refine lv_lload hx hb dX9_withGroup_85 (lv_at hl 0 rfl) ?_
      refine lv_aload hx hb dX9_withGroup_87 (lv_at hl 1 rfl) ?_
      obtain ⟨x22, e_x22, hp⟩ := owp_ob hp
      refine gf_X9_159 X hR e_x22 dX9_withGroup_89 ?_
      refine lv_iload hx hb dX9_withGroup_92 (lv_at hl 2 rfl) ?_
      obtain ⟨x23, e_x23, hp⟩ := owp_ob hp
      refine ab_iald X hR e_x23 dX9_withGroup_94 ?_
      refine lv_i2l (v := Int32.toInt64 x23) hx hb dX9_withGroup_95 rfl ?_
      obtain ⟨x25, N24, e_N24, hp⟩ := owp_ob2 hp
      refine iv_X9_mixed (rest := []) mw_X9_260 X hR hS e_N24 hl.1 (Nat.le_of_ble_eq_true rfl) ⟨Nat.le_of_ble_eq_true rfl, Nat.le_of_ble_eq_true rfl⟩ ⟨Nat.le_of_ble_eq_true rfl, Nat.le_of_ble_eq_true rfl⟩ dX9_withGroup_96 (fun H locs hR hS => ?_)
      refine lv_lstore (lv' := [(4, .long x25), (6, .ref v6), (7, .int v7)]) hx hb dX9_withGroup_99 hl (by decide) rfl (fun ls hl => ?_)
      refine lv_lload hx hb dX9_withGroup_101 (lv_at hl 0 rfl) ?_
      refine lv_aload hx hb dX9_withGroup_103 (lv_at hl 1 rfl) ?_
      obtain ⟨x26, e_x26, hp⟩ := owp_ob hp
      refine gf_X9_162 X hR e_x26 dX9_withGroup_105 ?_
      refine lv_iload hx hb dX9_withGroup_108 (lv_at hl 2 rfl) ?_
      obtain ⟨x27, e_x27, hp⟩ := owp_ob hp
      refine ab_iald X hR e_x27 dX9_withGroup_110 ?_
      refine lv_i2l (v := Int32.toInt64 x27) hx hb dX9_withGroup_111 rfl ?_
      obtain ⟨x29, N28, e_N28, hp⟩ := owp_ob2 hp
      refine iv_X9_mixed (rest := []) mw_X9_260 X hR hS e_N28 hl.1 (Nat.le_of_ble_eq_true rfl) ⟨Nat.le_of_ble_eq_true rfl, Nat.le_of_ble_eq_true rfl⟩ ⟨Nat.le_of_ble_eq_true rfl, Nat.le_of_ble_eq_true rfl⟩ dX9_withGroup_112 (fun H locs hR hS => ?_)
      refine lv_lstore (lv' := [(4, .long x29), (6, .ref v6), (7, .int v7)]) hx hb dX9_withGroup_115 hl (by decide) rfl (fun ls hl => ?_)
      refine lv_lload hx hb dX9_withGroup_117 (lv_at hl 0 rfl) ?_
      refine lv_aload hx hb dX9_withGroup_119 (lv_at hl 1 rfl) ?_
      obtain ⟨x30, e_x30, hp⟩ := owp_ob hp
      refine gf_X9_165 X hR e_x30 dX9_withGroup_121 ?_
      refine lv_iload hx hb dX9_withGroup_124 (lv_at hl 2 rfl) ?_
      obtain ⟨x31, e_x31, hp⟩ := owp_ob hp
      refine ab_iald X hR e_x31 dX9_withGroup_126 ?_
      refine lv_i2l (v := Int32.toInt64 x31) hx hb dX9_withGroup_127 rfl ?_
      obtain ⟨x33, N32, e_N32, hp⟩ := owp_ob2 hp
      refine iv_X9_mixed (rest := []) mw_X9_260 X hR hS e_N32 hl.1 (Nat.le_of_ble_eq_true rfl) ⟨Nat.le_of_ble_eq_true rfl, Nat.le_of_ble_eq_true rfl⟩ ⟨Nat.le_of_ble_eq_true rfl, Nat.le_of_ble_eq_true rfl⟩ dX9_withGroup_128 (fun H locs hR hS => ?_)
      refine lv_lstore (lv' := [(4, .long x33), (6, .ref v6), (7, .int v7)]) hx hb dX9_withGroup_131 hl (by decide) rfl (fun ls hl => ?_)
      refine lv_lload hx hb dX9_withGroup_133 (lv_at hl 0 rfl) ?_
      refine lv_aload hx hb dX9_withGroup_135 (lv_at hl 1 rfl) ?_
      obtain ⟨x34, e_x34, hp⟩ := owp_ob hp
      refine gf_X9_168 X hR e_x34 dX9_withGroup_137 ?_
      refine lv_iload hx hb dX9_withGroup_140 (lv_at hl 2 rfl) ?_
      obtain ⟨x35, e_x35, hp⟩ := owp_ob hp
      refine ab_iald X hR e_x35 dX9_withGroup_142 ?_
      refine lv_i2l (v := Int32.toInt64 x35) hx hb dX9_withGroup_143 rfl ?_
      obtain ⟨x37, N36, e_N36, hp⟩ := owp_ob2 hp
      refine iv_X9_mixed (rest := []) mw_X9_260 X hR hS e_N36 hl.1 (Nat.le_of_ble_eq_true rfl) ⟨Nat.le_of_ble_eq_true rfl, Nat.le_of_ble_eq_true rfl⟩ ⟨Nat.le_of_ble_eq_true rfl, Nat.le_of_ble_eq_true rfl⟩ dX9_withGroup_144 (fun H locs hR hS => ?_)
      refine lv_lstore (lv' := [(4, .long x37), (6, .ref v6), (7, .int v7)]) hx hb dX9_withGroup_147 hl (by decide) rfl (fun ls hl => ?_)
      refine lv_lload hx hb dX9_withGroup_149 (lv_at hl 0 rfl) ?_
      refine lv_aload hx hb dX9_withGroup_151 (lv_at hl 1 rfl) ?_
      obtain ⟨x38, e_x38, hp⟩ := owp_ob hp
      refine gf_X9_171 X hR e_x38 dX9_withGroup_153 ?_
      refine lv_iload hx hb dX9_withGroup_156 (lv_at hl 2 rfl) ?_
      obtain ⟨x39, e_x39, hp⟩ := owp_ob hp
      refine ab_iald X hR e_x39 dX9_withGroup_158 ?_
      refine lv_i2l (v := Int32.toInt64 x39) hx hb dX9_withGroup_159 rfl ?_
      obtain ⟨x41, N40, e_N40, hp⟩ := owp_ob2 hp
      refine iv_X9_mixed (rest := []) mw_X9_260 X hR hS e_N40 hl.1 (Nat.le_of_ble_eq_true rfl) ⟨Nat.le_of_ble_eq_true rfl, Nat.le_of_ble_eq_true rfl⟩ ⟨Nat.le_of_ble_eq_true rfl, Nat.le_of_ble_eq_true rfl⟩ dX9_withGroup_160 (fun H locs hR hS => ?_)
      refine lv_lstore (lv' := [(4, .long x41), (6, .ref v6), (7, .int v7)]) hx hb dX9_withGroup_163 hl (by decide) rfl (fun ls hl => ?_)
      refine lv_iinc (v := v7 + 1) (lv' := [(7, .int (v7 + 1)), (4, .long x41), (6, .ref v6)]) hx hb dX9_withGroup_165 hl (k := 2) rfl rfl (by decide) rfl (fun ls hl => ?_)
      refine lv_goto (tgt := 75) hx hb dX9_withGroup_168 (by decide) ?_
      exact ih _ _ _ _ _ _ hR hS (lv_sub hl [1, 2, 0] rfl) hp
def f_X9_withGroup (v0 : Nat) (v1 : Int64) (v3 : Nat) (N : AH) : Option (Int64 × AH) := ob (iO N v0 9) (fun _ => ob (hR N v0 9 1) (fun x1 => ob (hI N x1 7 0) (fun x2 => ob2 (f_X4_stateAt v3 x2 N) (fun x4 N3 => ob2 (f_X9_mixed v1 (Int32.toInt64 x4) N3) (fun x6 N5 => ob (hI N5 v3 4 0) (fun x7 => ob2 (f_X9_mixed x6 (Int32.toInt64 x7) N5) (fun x9 N8 => ob (hI N8 v3 4 1) (fun x10 => ob2 (f_X9_mixed x9 (Int32.toInt64 x10) N8) (fun x12 N11 => ob (hI N11 v3 4 2) (fun x13 => ob2 (f_X9_mixed x12 (Int32.toInt64 x13) N11) (fun x15 N14 => ob (hI N14 v3 4 3) (fun x16 => ob2 (f_X9_mixed x15 (Int32.toInt64 x16) N14) (fun x18 N17 => ob (hR N17 v3 4 5) (fun x19 => f_X9_withGroup_L75 x19 (fun v42 N43 => some (v42, N43)) FU x18 (0 : Int32) N17))))))))))))))
set_option maxHeartbeats 4000000 in
set_option maxRecDepth 100000 in
theorem wk_X9_withGroup {P : Int64 × AH → Prop} (X : CX cX9_withGroup RX9 8 G aC t b0 p s m args c) (hr : RtJ p l e rm_X9_withGroup s m args below meth c 0 0 Q cX9_withGroup G aC b0 P) (v0 : Nat) (v1 : Int64) (v3 : Nat) (N : AH) (H : Heap) (locs : List Loc) (ls : Array Slot) (hR : Rp G aC b0 N H) (hS : va_S (fun q => b0 ≤ q) s.heap H locs) (hl : lv_has ls 8 [(0, .ref v0), (1, .long v1), (3, .ref v3)]) (hp : owp (f_X9_withGroup v0 v1 v3 N) P) : W p l e rm_X9_withGroup s m args below meth c H locs 0 0 Q (F0 m 0 ls []) := by
  have hx := X.1.1
  have hb := X.1.2.1
  unfold f_X9_withGroup at hp
  obtain ⟨_, _, hp⟩ := owp_ob hp
  refine lv_lload_n hx hb dX9_withGroup_0 rfl (lv_at hl 1 rfl) ?_
  refine lv_aload_n hx hb dX9_withGroup_1 rfl (lv_at hl 2 rfl) ?_
  refine lv_aload_n hx hb dX9_withGroup_2 rfl (lv_at hl 0 rfl) ?_
  obtain ⟨x1, e_x1, hp⟩ := owp_ob hp
  refine gf_X9_19 X hR e_x1 dX9_withGroup_3 ?_
  obtain ⟨x2, e_x2, hp⟩ := owp_ob hp
  refine gf_X9_132 X hR e_x2 dX9_withGroup_6 ?_
  obtain ⟨x4, N3, e_N3, hp⟩ := owp_ob2 hp
  refine iv_X4_stateAt (rest := [.long v1]) mw_X9_142 X hR hS e_N3 hl.1 (Nat.le_of_ble_eq_true rfl) ⟨Nat.le_of_ble_eq_true rfl, Nat.le_of_ble_eq_true rfl⟩ ⟨Nat.le_of_ble_eq_true rfl, Nat.le_of_ble_eq_true rfl⟩ dX9_withGroup_9 (fun H locs hR hS => ?_)
  refine lv_i2l (v := Int32.toInt64 x4) hx hb dX9_withGroup_12 rfl ?_
  obtain ⟨x6, N5, e_N5, hp⟩ := owp_ob2 hp
  refine iv_X9_mixed (rest := []) mw_X9_260 X hR hS e_N5 hl.1 (Nat.le_of_ble_eq_true rfl) ⟨Nat.le_of_ble_eq_true rfl, Nat.le_of_ble_eq_true rfl⟩ ⟨Nat.le_of_ble_eq_true rfl, Nat.le_of_ble_eq_true rfl⟩ dX9_withGroup_13 (fun H locs hR hS => ?_)
  refine lv_lstore (lv' := [(4, .long x6), (0, .ref v0), (1, .long v1), (3, .ref v3)]) hx hb dX9_withGroup_16 hl (by decide) rfl (fun ls hl => ?_)
  refine lv_lload hx hb dX9_withGroup_18 (lv_at hl 0 rfl) ?_
  refine lv_aload_n hx hb dX9_withGroup_20 rfl (lv_at hl 3 rfl) ?_
  obtain ⟨x7, e_x7, hp⟩ := owp_ob hp
  refine gf_X9_147 X hR e_x7 dX9_withGroup_21 ?_
  refine lv_i2l (v := Int32.toInt64 x7) hx hb dX9_withGroup_24 rfl ?_
  obtain ⟨x9, N8, e_N8, hp⟩ := owp_ob2 hp
  refine iv_X9_mixed (rest := []) mw_X9_260 X hR hS e_N8 hl.1 (Nat.le_of_ble_eq_true rfl) ⟨Nat.le_of_ble_eq_true rfl, Nat.le_of_ble_eq_true rfl⟩ ⟨Nat.le_of_ble_eq_true rfl, Nat.le_of_ble_eq_true rfl⟩ dX9_withGroup_25 (fun H locs hR hS => ?_)
  refine lv_lstore (lv' := [(4, .long x9), (0, .ref v0), (1, .long v1), (3, .ref v3)]) hx hb dX9_withGroup_28 hl (by decide) rfl (fun ls hl => ?_)
  refine lv_lload hx hb dX9_withGroup_30 (lv_at hl 0 rfl) ?_
  refine lv_aload_n hx hb dX9_withGroup_32 rfl (lv_at hl 3 rfl) ?_
  obtain ⟨x10, e_x10, hp⟩ := owp_ob hp
  refine gf_X9_275 X hR e_x10 dX9_withGroup_33 ?_
  refine lv_i2l (v := Int32.toInt64 x10) hx hb dX9_withGroup_36 rfl ?_
  obtain ⟨x12, N11, e_N11, hp⟩ := owp_ob2 hp
  refine iv_X9_mixed (rest := []) mw_X9_260 X hR hS e_N11 hl.1 (Nat.le_of_ble_eq_true rfl) ⟨Nat.le_of_ble_eq_true rfl, Nat.le_of_ble_eq_true rfl⟩ ⟨Nat.le_of_ble_eq_true rfl, Nat.le_of_ble_eq_true rfl⟩ dX9_withGroup_37 (fun H locs hR hS => ?_)
  refine lv_lstore (lv' := [(4, .long x12), (0, .ref v0), (1, .long v1), (3, .ref v3)]) hx hb dX9_withGroup_40 hl (by decide) rfl (fun ls hl => ?_)
  refine lv_lload hx hb dX9_withGroup_42 (lv_at hl 0 rfl) ?_
  refine lv_aload_n hx hb dX9_withGroup_44 rfl (lv_at hl 3 rfl) ?_
  obtain ⟨x13, e_x13, hp⟩ := owp_ob hp
  refine gf_X9_278 X hR e_x13 dX9_withGroup_45 ?_
  refine lv_i2l (v := Int32.toInt64 x13) hx hb dX9_withGroup_48 rfl ?_
  obtain ⟨x15, N14, e_N14, hp⟩ := owp_ob2 hp
  refine iv_X9_mixed (rest := []) mw_X9_260 X hR hS e_N14 hl.1 (Nat.le_of_ble_eq_true rfl) ⟨Nat.le_of_ble_eq_true rfl, Nat.le_of_ble_eq_true rfl⟩ ⟨Nat.le_of_ble_eq_true rfl, Nat.le_of_ble_eq_true rfl⟩ dX9_withGroup_49 (fun H locs hR hS => ?_)
  refine lv_lstore (lv' := [(4, .long x15), (0, .ref v0), (1, .long v1), (3, .ref v3)]) hx hb dX9_withGroup_52 hl (by decide) rfl (fun ls hl => ?_)
  refine lv_lload hx hb dX9_withGroup_54 (lv_at hl 0 rfl) ?_
  refine lv_aload_n hx hb dX9_withGroup_56 rfl (lv_at hl 3 rfl) ?_
  obtain ⟨x16, e_x16, hp⟩ := owp_ob hp
  refine gf_X9_150 X hR e_x16 dX9_withGroup_57 ?_
  refine lv_i2l (v := Int32.toInt64 x16) hx hb dX9_withGroup_60 rfl ?_
  obtain ⟨x18, N17, e_N17, hp⟩ := owp_ob2 hp
  refine iv_X9_mixed (rest := []) mw_X9_260 X hR hS e_N17 hl.1 (Nat.le_of_ble_eq_true rfl) ⟨Nat.le_of_ble_eq_true rfl, Nat.le_of_ble_eq_true rfl⟩ ⟨Nat.le_of_ble_eq_true rfl, Nat.le_of_ble_eq_true rfl⟩ dX9_withGroup_61 (fun H locs hR hS => ?_)
  refine lv_lstore (lv' := [(4, .long x18), (0, .ref v0), (1, .long v1), (3, .ref v3)]) hx hb dX9_withGroup_64 hl (by decide) rfl (fun ls hl => ?_)
  refine lv_aload_n hx hb dX9_withGroup_66 rfl (lv_at hl 3 rfl) ?_
  obtain ⟨x19, e_x19, hp⟩ := owp_ob hp
  refine gf_X9_153 X hR e_x19 dX9_withGroup_67 ?_
  refine lv_astore (lv' := [(6, .ref x19), (4, .long x18), (0, .ref v0), (1, .long v1), (3, .ref v3)]) hx hb dX9_withGroup_70 hl (by decide) rfl (fun ls hl => ?_)
  refine lv_iconst (v := (0)) hx hb dX9_withGroup_72 (by decide) ?_
  refine lv_istore (lv' := [(7, .int (0 : Int32)), (6, .ref x19), (4, .long x18), (0, .ref v0), (1, .long v1), (3, .ref v3)]) hx hb dX9_withGroup_73 hl (by decide) rfl (fun ls hl => ?_)
  refine w_X9_withGroup_L75 X hr _ (fun v42 N43 H locs ls hR hS hl hp => ?_) _ _ _ _ _ _ _ hR hS (lv_sub hl [2, 1, 0] rfl) hp
  refine lv_lload hx hb dX9_withGroup_171 (lv_at hl 0 rfl) ?_
  exact hr _ _ _ _ _ _ hR hS dX9_withGroup_173 hp
end
theorem ct_X9_withGroup {v0 : Nat} {v1 : Int64} {v3 : Nat} {N N1 : AH} {r : Int64} (h : f_X9_withGroup v0 v1 v3 N = some (r, N1)) : Ct yX9_withGroup cX9_withGroup 8 (some .long) rm_X9_withGroup [.ref v0, .long v1, .ref v3] N (some (.long r)) N1 :=
  ab_met (own := RX9) (by decide +kernel) rfl (Nat.le_of_ble_eq_true rfl) (fun l G aC t b0 p e s m below meth c ls X hr hlk hnm hR hS hl => wk_X9_withGroup X (RtJ_met X.1.1 X.1.2.1 hr hlk) _ _ _ _ _ _ _ hR hS hl (owp_of h))
theorem cw_X9_withGroup : Cond.code yX9_withGroup cX9_withGroup 8 (some .long) ∈ WT := WT_of 937 (by decide +kernel) (by decide +kernel)
theorem iv_X9_withGroup {p : Program} {l : Launch} {e : Env} {R : Room} {s : State} {m : MethodId} {args : Array Value} {below : List Frame} {meth : Method} {c : Code} {H : Heap} {locs : List Loc} {cells slots : Nat} {Q : State → Prop} {cc : ByteArray} {own : String} {nL : Nat} {G : va_G} {aC : Nat → ClassId} {t b0 : Nat} {N N1 : AH} {pc index : Nat} {ls : Array Slot} {rest : List Value} {v0 : Nat} {v1 : Int64} {v3 : Nat} {r : Int64} (w1 : Cond.methodLink own index yX9_withGroup ∈ WT) (X : CX cc own nL G aC t b0 p s m args c) (hR : Rp G aC b0 N H) (hS : va_S (fun q => b0 ≤ q) s.heap H locs) (h : f_X9_withGroup v0 v1 v3 N = some (r, N1)) (hls : ls.size = nL) (hW : (rest.map fun v => v.category).sum ≤ 8) (hR1 : 2 ≤ R.frames ∧ 50 ≤ R.locals) (hcs : cells + 0 ≤ R.cells ∧ slots + 0 ≤ R.slots) (hdg : decode cc pc = .ok (.invokevirtual index, 3)) (kk : ∀ (H1 : Heap) (locs1 : List Loc), Rp G aC b0 N1 H1 → va_S (fun q => b0 ≤ q) s.heap H1 locs1 → W p l e R s m args below meth c H1 locs1 cells slots Q (F0 m (pc + 3) ls (.long r :: rest))) : W p l e R s m args below meth c H locs cells slots Q (F0 m pc ls (.ref v3 :: .long v1 :: .ref v0 :: rest)) :=
  ab_callV (n := 2) (As := [.long v1, .ref v3]) X hR hS (ct_X9_withGroup h) (ob_rc (c := 9) (N := N) (a := v0) h) (T := TX9) (k := 6) (C := RX9) rfl w1 (WT_of 936 (by decide +kernel) (by decide +kernel)) (WT_of 31 (by decide +kernel) (by decide +kernel)) (WT_of 81 (by decide +kernel) (by decide +kernel)) cw_X9_withGroup ⟨rfl, by decide +kernel, by decide +kernel, by decide +kernel⟩ rfl hls hW hR1 hcs rfl hdg kk
-- X9_withEvents
theorem dX9_withEvents_0 : decode cX9_withEvents 0 = .ok (.aload_n 0, 1) := by decide +kernel
theorem dX9_withEvents_1 : decode cX9_withEvents 1 = .ok (.getfield 19, 3) := by decide +kernel
theorem dX9_withEvents_4 : decode cX9_withEvents 4 = .ok (.getfield 240, 3) := by decide +kernel
theorem dX9_withEvents_7 : decode cX9_withEvents 7 = .ok (.astore_n 3, 1) := by decide +kernel
theorem dX9_withEvents_8 : decode cX9_withEvents 8 = .ok (.lload_n 1, 1) := by decide +kernel
theorem dX9_withEvents_9 : decode cX9_withEvents 9 = .ok (.lstore 4, 2) := by decide +kernel
theorem dX9_withEvents_11 : decode cX9_withEvents 11 = .ok (.aload_n 3, 1) := by decide +kernel
theorem dX9_withEvents_12 : decode cX9_withEvents 12 = .ok (.getfield 244, 3) := by decide +kernel
theorem dX9_withEvents_15 : decode cX9_withEvents 15 = .ok (.iconst 1, 1) := by decide +kernel
theorem dX9_withEvents_16 : decode cX9_withEvents 16 = .ok (.isub, 1) := by decide +kernel
theorem dX9_withEvents_17 : decode cX9_withEvents 17 = .ok (.istore 6, 2) := by decide +kernel
theorem dX9_withEvents_19 : decode cX9_withEvents 19 = .ok (.iload 6, 2) := by decide +kernel
theorem dX9_withEvents_21 : decode cX9_withEvents 21 = .ok (.ifCond .lt 62, 3) := by decide +kernel
theorem dX9_withEvents_24 : decode cX9_withEvents 24 = .ok (.aload_n 3, 1) := by decide +kernel
theorem dX9_withEvents_25 : decode cX9_withEvents 25 = .ok (.iload 6, 2) := by decide +kernel
theorem dX9_withEvents_27 : decode cX9_withEvents 27 = .ok (.invokevirtual 247, 3) := by decide +kernel
theorem dX9_withEvents_30 : decode cX9_withEvents 30 = .ok (.istore 7, 2) := by decide +kernel
theorem dX9_withEvents_32 : decode cX9_withEvents 32 = .ok (.lload 4, 2) := by decide +kernel
theorem dX9_withEvents_34 : decode cX9_withEvents 34 = .ok (.aload_n 3, 1) := by decide +kernel
theorem dX9_withEvents_35 : decode cX9_withEvents 35 = .ok (.getfield 250, 3) := by decide +kernel
theorem dX9_withEvents_38 : decode cX9_withEvents 38 = .ok (.iload 7, 2) := by decide +kernel
theorem dX9_withEvents_40 : decode cX9_withEvents 40 = .ok (.iaload, 1) := by decide +kernel
theorem dX9_withEvents_41 : decode cX9_withEvents 41 = .ok (.i2l, 1) := by decide +kernel
theorem dX9_withEvents_42 : decode cX9_withEvents 42 = .ok (.invokestatic 260, 3) := by decide +kernel
theorem dX9_withEvents_45 : decode cX9_withEvents 45 = .ok (.lstore 4, 2) := by decide +kernel
theorem dX9_withEvents_47 : decode cX9_withEvents 47 = .ok (.lload 4, 2) := by decide +kernel
theorem dX9_withEvents_49 : decode cX9_withEvents 49 = .ok (.aload_n 3, 1) := by decide +kernel
theorem dX9_withEvents_50 : decode cX9_withEvents 50 = .ok (.getfield 253, 3) := by decide +kernel
theorem dX9_withEvents_53 : decode cX9_withEvents 53 = .ok (.iload 7, 2) := by decide +kernel
theorem dX9_withEvents_55 : decode cX9_withEvents 55 = .ok (.iaload, 1) := by decide +kernel
theorem dX9_withEvents_56 : decode cX9_withEvents 56 = .ok (.i2l, 1) := by decide +kernel
theorem dX9_withEvents_57 : decode cX9_withEvents 57 = .ok (.invokestatic 260, 3) := by decide +kernel
theorem dX9_withEvents_60 : decode cX9_withEvents 60 = .ok (.lstore 4, 2) := by decide +kernel
theorem dX9_withEvents_62 : decode cX9_withEvents 62 = .ok (.lload 4, 2) := by decide +kernel
theorem dX9_withEvents_64 : decode cX9_withEvents 64 = .ok (.aload_n 3, 1) := by decide +kernel
theorem dX9_withEvents_65 : decode cX9_withEvents 65 = .ok (.getfield 256, 3) := by decide +kernel
theorem dX9_withEvents_68 : decode cX9_withEvents 68 = .ok (.iload 7, 2) := by decide +kernel
theorem dX9_withEvents_70 : decode cX9_withEvents 70 = .ok (.iaload, 1) := by decide +kernel
theorem dX9_withEvents_71 : decode cX9_withEvents 71 = .ok (.i2l, 1) := by decide +kernel
theorem dX9_withEvents_72 : decode cX9_withEvents 72 = .ok (.invokestatic 260, 3) := by decide +kernel
theorem dX9_withEvents_75 : decode cX9_withEvents 75 = .ok (.lstore 4, 2) := by decide +kernel
theorem dX9_withEvents_77 : decode cX9_withEvents 77 = .ok (.iinc 6 (-1), 3) := by decide +kernel
theorem dX9_withEvents_80 : decode cX9_withEvents 80 = .ok (.goto (-61), 3) := by decide +kernel
theorem dX9_withEvents_83 : decode cX9_withEvents 83 = .ok (.lload 4, 2) := by decide +kernel
theorem dX9_withEvents_85 : decode cX9_withEvents 85 = .ok (.lreturn, 1) := by decide +kernel
def rm_X9_withEvents : Room := { frames := 2, cells := 0, slots := 0, locals := 43 }
section
variable {p : Program} {l : Launch} {e : Env} {s : State} {m : MethodId} {args : Array Value} {below : List Frame} {meth : Method} {c : Code} {Q : State → Prop} {G : va_G} {aC : Nat → ClassId} {t b0 : Nat}
def f_X9_withEvents_L19 (v3 : Nat) (k83 : Int64 → AH → Option (Int64 × AH)) : Nat → Int64 → Int32 → AH → Option (Int64 × AH)
  | 0, _, _, _ => none
  | n + 1, v4, v6, N => if v6 < 0 then k83 v4 N else ob2 (f_X0_slotOf v3 v6 N) (fun x6 N5 => ob (hR N5 v3 0 2) (fun x7 => ob (aI N5 x7 x6) (fun x8 => ob2 (f_X9_mixed v4 (Int32.toInt64 x8) N5) (fun x10 N9 => ob (hR N9 v3 0 3) (fun x11 => ob (aI N9 x11 x6) (fun x12 => ob2 (f_X9_mixed x10 (Int32.toInt64 x12) N9) (fun x14 N13 => ob (hR N13 v3 0 4) (fun x15 => ob (aI N13 x15 x6) (fun x16 => ob2 (f_X9_mixed x14 (Int32.toInt64 x16) N13) (fun x18 N17 => f_X9_withEvents_L19 v3 k83 n x18 (v6 + (-1 : Int32)) N17))))))))))
set_option maxHeartbeats 4000000 in
set_option maxRecDepth 100000 in
theorem w_X9_withEvents_L19 {P : Int64 × AH → Prop} (X : CX cX9_withEvents RX9 8 G aC t b0 p s m args c) (hr : RtJ p l e rm_X9_withEvents s m args below meth c 0 0 Q cX9_withEvents G aC b0 P) (v3 : Nat) {k83 : Int64 → AH → Option (Int64 × AH)}
    (hk83 : ∀ (v4 : Int64) (N : AH) (H : Heap) (locs : List Loc) (ls : Array Slot), Rp G aC b0 N H → va_S (fun q => b0 ≤ q) s.heap H locs → lv_has ls 8 [(4, .long v4)] → owp (k83 v4 N) P → W p l e rm_X9_withEvents s m args below meth c H locs 0 0 Q (F0 m 83 ls [])) :
    ∀ (n : Nat) (v4 : Int64) (v6 : Int32) (N : AH) (H : Heap) (locs : List Loc) (ls : Array Slot), Rp G aC b0 N H → va_S (fun q => b0 ≤ q) s.heap H locs → lv_has ls 8 [(3, .ref v3), (4, .long v4), (6, .int v6)] → owp (f_X9_withEvents_L19 v3 k83 n v4 v6 N) P → W p l e rm_X9_withEvents s m args below meth c H locs 0 0 Q (F0 m 19 ls []) := by
  have hx := X.1.1
  have hb := X.1.2.1
  intro n
  induction n with
  | zero =>
    intro v4 v6 N H locs ls hR hS hl hp
    exact (show False from hp).elim
  | succ n ih =>
    intro v4 v6 N H locs ls hR hS hl hp
    rw [f_X9_withEvents_L19] at hp
    refine lv_iload hx hb dX9_withEvents_19 (lv_at hl 2 rfl) ?_
    refine lv_if_lt (tgt := 83) hx hb dX9_withEvents_21 (by decide) (fun k4 => ?_) (fun k4 => ?_)
    · have hp := owp_t k4 hp
      exact hk83 _ _ _ _ _ hR hS (lv_sub hl [1] rfl) hp
    · have hp := owp_f k4 hp
      refine lv_aload_n hx hb dX9_withEvents_24 rfl (lv_at hl 0 rfl) ?_
      refine lv_iload hx hb dX9_withEvents_25 (lv_at hl 2 rfl) ?_
      obtain ⟨x6, N5, e_N5, hp⟩ := owp_ob2 hp
      refine iv_X0_slotOf (rest := []) mw_X9_247 X hR hS e_N5 hl.1 (Nat.le_of_ble_eq_true rfl) ⟨Nat.le_of_ble_eq_true rfl, Nat.le_of_ble_eq_true rfl⟩ ⟨Nat.le_of_ble_eq_true rfl, Nat.le_of_ble_eq_true rfl⟩ dX9_withEvents_27 (fun H locs hR hS => ?_)
      refine lv_istore (lv' := [(7, .int x6), (3, .ref v3), (4, .long v4), (6, .int v6)]) hx hb dX9_withEvents_30 hl (by decide) rfl (fun ls hl => ?_)
      refine lv_lload hx hb dX9_withEvents_32 (lv_at hl 2 rfl) ?_
      refine lv_aload_n hx hb dX9_withEvents_34 rfl (lv_at hl 1 rfl) ?_
      obtain ⟨x7, e_x7, hp⟩ := owp_ob hp
      refine gf_X9_250 X hR e_x7 dX9_withEvents_35 ?_
      refine lv_iload hx hb dX9_withEvents_38 (lv_at hl 0 rfl) ?_
      obtain ⟨x8, e_x8, hp⟩ := owp_ob hp
      refine ab_iald X hR e_x8 dX9_withEvents_40 ?_
      refine lv_i2l (v := Int32.toInt64 x8) hx hb dX9_withEvents_41 rfl ?_
      obtain ⟨x10, N9, e_N9, hp⟩ := owp_ob2 hp
      refine iv_X9_mixed (rest := []) mw_X9_260 X hR hS e_N9 hl.1 (Nat.le_of_ble_eq_true rfl) ⟨Nat.le_of_ble_eq_true rfl, Nat.le_of_ble_eq_true rfl⟩ ⟨Nat.le_of_ble_eq_true rfl, Nat.le_of_ble_eq_true rfl⟩ dX9_withEvents_42 (fun H locs hR hS => ?_)
      refine lv_lstore (lv' := [(4, .long x10), (7, .int x6), (3, .ref v3), (6, .int v6)]) hx hb dX9_withEvents_45 hl (by decide) rfl (fun ls hl => ?_)
      refine lv_lload hx hb dX9_withEvents_47 (lv_at hl 0 rfl) ?_
      refine lv_aload_n hx hb dX9_withEvents_49 rfl (lv_at hl 2 rfl) ?_
      obtain ⟨x11, e_x11, hp⟩ := owp_ob hp
      refine gf_X9_253 X hR e_x11 dX9_withEvents_50 ?_
      refine lv_iload hx hb dX9_withEvents_53 (lv_at hl 1 rfl) ?_
      obtain ⟨x12, e_x12, hp⟩ := owp_ob hp
      refine ab_iald X hR e_x12 dX9_withEvents_55 ?_
      refine lv_i2l (v := Int32.toInt64 x12) hx hb dX9_withEvents_56 rfl ?_
      obtain ⟨x14, N13, e_N13, hp⟩ := owp_ob2 hp
      refine iv_X9_mixed (rest := []) mw_X9_260 X hR hS e_N13 hl.1 (Nat.le_of_ble_eq_true rfl) ⟨Nat.le_of_ble_eq_true rfl, Nat.le_of_ble_eq_true rfl⟩ ⟨Nat.le_of_ble_eq_true rfl, Nat.le_of_ble_eq_true rfl⟩ dX9_withEvents_57 (fun H locs hR hS => ?_)
      refine lv_lstore (lv' := [(4, .long x14), (7, .int x6), (3, .ref v3), (6, .int v6)]) hx hb dX9_withEvents_60 hl (by decide) rfl (fun ls hl => ?_)
      refine lv_lload hx hb dX9_withEvents_62 (lv_at hl 0 rfl) ?_
      refine lv_aload_n hx hb dX9_withEvents_64 rfl (lv_at hl 2 rfl) ?_
      obtain ⟨x15, e_x15, hp⟩ := owp_ob hp
      refine gf_X9_256 X hR e_x15 dX9_withEvents_65 ?_
      refine lv_iload hx hb dX9_withEvents_68 (lv_at hl 1 rfl) ?_
      obtain ⟨x16, e_x16, hp⟩ := owp_ob hp
      refine ab_iald X hR e_x16 dX9_withEvents_70 ?_
      refine lv_i2l (v := Int32.toInt64 x16) hx hb dX9_withEvents_71 rfl ?_
      obtain ⟨x18, N17, e_N17, hp⟩ := owp_ob2 hp
      refine iv_X9_mixed (rest := []) mw_X9_260 X hR hS e_N17 hl.1 (Nat.le_of_ble_eq_true rfl) ⟨Nat.le_of_ble_eq_true rfl, Nat.le_of_ble_eq_true rfl⟩ ⟨Nat.le_of_ble_eq_true rfl, Nat.le_of_ble_eq_true rfl⟩ dX9_withEvents_72 (fun H locs hR hS => ?_)
      refine lv_lstore (lv' := [(4, .long x18), (7, .int x6), (3, .ref v3), (6, .int v6)]) hx hb dX9_withEvents_75 hl (by decide) rfl (fun ls hl => ?_)
      refine lv_iinc (v := v6 + (-1 : Int32)) (lv' := [(6, .int (v6 + (-1 : Int32))), (4, .long x18), (7, .int x6), (3, .ref v3)]) hx hb dX9_withEvents_77 hl (k := 3) rfl rfl (by decide) rfl (fun ls hl => ?_)
      refine lv_goto (tgt := 19) hx hb dX9_withEvents_80 (by decide) ?_
      exact ih _ _ _ _ _ _ hR hS (lv_sub hl [3, 1, 0] rfl) hp
def f_X9_withEvents (v0 : Nat) (v1 : Int64) (N : AH) : Option (Int64 × AH) := ob (iO N v0 9) (fun _ => ob (hR N v0 9 1) (fun x1 => ob (hR N x1 7 11) (fun x2 => ob (hI N x2 0 0) (fun x3 => f_X9_withEvents_L19 x2 (fun v19 N20 => some (v19, N20)) FU v1 (x3 - (1 : Int32)) N))))
set_option maxHeartbeats 4000000 in
set_option maxRecDepth 100000 in
theorem wk_X9_withEvents {P : Int64 × AH → Prop} (X : CX cX9_withEvents RX9 8 G aC t b0 p s m args c) (hr : RtJ p l e rm_X9_withEvents s m args below meth c 0 0 Q cX9_withEvents G aC b0 P) (v0 : Nat) (v1 : Int64) (N : AH) (H : Heap) (locs : List Loc) (ls : Array Slot) (hR : Rp G aC b0 N H) (hS : va_S (fun q => b0 ≤ q) s.heap H locs) (hl : lv_has ls 8 [(0, .ref v0), (1, .long v1)]) (hp : owp (f_X9_withEvents v0 v1 N) P) : W p l e rm_X9_withEvents s m args below meth c H locs 0 0 Q (F0 m 0 ls []) := by
  have hx := X.1.1
  have hb := X.1.2.1
  unfold f_X9_withEvents at hp
  obtain ⟨_, _, hp⟩ := owp_ob hp
  refine lv_aload_n hx hb dX9_withEvents_0 rfl (lv_at hl 0 rfl) ?_
  obtain ⟨x1, e_x1, hp⟩ := owp_ob hp
  refine gf_X9_19 X hR e_x1 dX9_withEvents_1 ?_
  obtain ⟨x2, e_x2, hp⟩ := owp_ob hp
  refine gf_X9_240 X hR e_x2 dX9_withEvents_4 ?_
  refine lv_astore_n (lv' := [(3, .ref x2), (0, .ref v0), (1, .long v1)]) hx hb dX9_withEvents_7 rfl hl (by decide) rfl (fun ls hl => ?_)
  refine lv_lload_n hx hb dX9_withEvents_8 rfl (lv_at hl 2 rfl) ?_
  refine lv_lstore (lv' := [(4, .long v1), (3, .ref x2), (0, .ref v0), (1, .long v1)]) hx hb dX9_withEvents_9 hl (by decide) rfl (fun ls hl => ?_)
  refine lv_aload_n hx hb dX9_withEvents_11 rfl (lv_at hl 1 rfl) ?_
  obtain ⟨x3, e_x3, hp⟩ := owp_ob hp
  refine gf_X9_244 X hR e_x3 dX9_withEvents_12 ?_
  refine lv_iconst (v := (1)) hx hb dX9_withEvents_15 (by decide) ?_
  refine lv_isub hx hb dX9_withEvents_16 ?_
  refine lv_istore (lv' := [(6, .int (x3 - (1 : Int32))), (4, .long v1), (3, .ref x2), (0, .ref v0), (1, .long v1)]) hx hb dX9_withEvents_17 hl (by decide) rfl (fun ls hl => ?_)
  refine w_X9_withEvents_L19 X hr _ (fun v19 N20 H locs ls hR hS hl hp => ?_) _ _ _ _ _ _ _ hR hS (lv_sub hl [2, 1, 0] rfl) hp
  refine lv_lload hx hb dX9_withEvents_83 (lv_at hl 0 rfl) ?_
  exact hr _ _ _ _ _ _ hR hS dX9_withEvents_85 hp
end
theorem ct_X9_withEvents {v0 : Nat} {v1 : Int64} {N N1 : AH} {r : Int64} (h : f_X9_withEvents v0 v1 N = some (r, N1)) : Ct yX9_withEvents cX9_withEvents 8 (some .long) rm_X9_withEvents [.ref v0, .long v1] N (some (.long r)) N1 :=
  ab_met (own := RX9) (by decide +kernel) rfl (Nat.le_of_ble_eq_true rfl) (fun l G aC t b0 p e s m below meth c ls X hr hlk hnm hR hS hl => wk_X9_withEvents X (RtJ_met X.1.1 X.1.2.1 hr hlk) _ _ _ _ _ _ hR hS hl (owp_of h))
theorem cw_X9_withEvents : Cond.code yX9_withEvents cX9_withEvents 8 (some .long) ∈ WT := WT_of 941 (by decide +kernel) (by decide +kernel)
theorem iv_X9_withEvents {p : Program} {l : Launch} {e : Env} {R : Room} {s : State} {m : MethodId} {args : Array Value} {below : List Frame} {meth : Method} {c : Code} {H : Heap} {locs : List Loc} {cells slots : Nat} {Q : State → Prop} {cc : ByteArray} {own : String} {nL : Nat} {G : va_G} {aC : Nat → ClassId} {t b0 : Nat} {N N1 : AH} {pc index : Nat} {ls : Array Slot} {rest : List Value} {v0 : Nat} {v1 : Int64} {r : Int64} (w1 : Cond.methodLink own index yX9_withEvents ∈ WT) (X : CX cc own nL G aC t b0 p s m args c) (hR : Rp G aC b0 N H) (hS : va_S (fun q => b0 ≤ q) s.heap H locs) (h : f_X9_withEvents v0 v1 N = some (r, N1)) (hls : ls.size = nL) (hW : (rest.map fun v => v.category).sum ≤ 8) (hR1 : 3 ≤ R.frames ∧ 70 ≤ R.locals) (hcs : cells + 0 ≤ R.cells ∧ slots + 0 ≤ R.slots) (hdg : decode cc pc = .ok (.invokevirtual index, 3)) (kk : ∀ (H1 : Heap) (locs1 : List Loc), Rp G aC b0 N1 H1 → va_S (fun q => b0 ≤ q) s.heap H1 locs1 → W p l e R s m args below meth c H1 locs1 cells slots Q (F0 m (pc + 3) ls (.long r :: rest))) : W p l e R s m args below meth c H locs cells slots Q (F0 m pc ls (.long v1 :: .ref v0 :: rest)) :=
  ab_callV (n := 1) (As := [.long v1]) X hR hS (ct_X9_withEvents h) (ob_rc (c := 9) (N := N) (a := v0) h) (T := TX9) (k := 6) (C := RX9) rfl w1 (WT_of 940 (by decide +kernel) (by decide +kernel)) (WT_of 32 (by decide +kernel) (by decide +kernel)) (WT_of 81 (by decide +kernel) (by decide +kernel)) cw_X9_withEvents ⟨rfl, by decide +kernel, by decide +kernel, by decide +kernel⟩ rfl hls hW hR1 hcs rfl hdg kk
