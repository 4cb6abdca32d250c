-- X3_setUpTrial
theorem gf_X3_122 {p : Program} {l : Launch} {e : Env} {R : Room} {s : State} {m : MethodId} {args : Array Value} {below : List Frame} {meth : Method} {c : Code} {H : Heap} {locs : List Loc} {cells slots : Nat} {Q : State → Prop} {cc : ByteArray} {nL : Nat} {G : va_G} {aC : Nat → ClassId} {t b0 : Nat} {N : AH} {pc : Nat} {ls : Array Slot} {rest : List Value} {a : Nat} {v : Nat} (X : CX cc RX3 nL G aC t b0 p s m args c) (hR0 : Rp G aC b0 N H) (hv : hR N a 8 4 = some v) (hdg : decode cc pc = .ok (.getfield 122, 3)) (kk : W p l e R s m args below meth c H locs cells slots Q (F0 m (pc + 3) ls (.ref v :: rest))) : W p l e R s m args below meth c H locs cells slots Q (F0 m pc ls (.ref a :: rest)) := by
  obtain ⟨fs, h1, h2⟩ := hR_ok hv
  exact ab_get (C := RX8) (T := TX8) (n := 11) X hR0 h1 h2 rfl inX8 (by decide) (WT_of 354 (by decide +kernel) (by decide +kernel)) hdg kk
theorem pf_X3_119 {p : Program} {l : Launch} {e : Env} {R : Room} {s : State} {m : MethodId} {args : Array Value} {below : List Frame} {meth : Method} {c : Code} {H : Heap} {locs : List Loc} {cells slots : Nat} {Q : State → Prop} {cc : ByteArray} {nL : Nat} {G : va_G} {aC : Nat → ClassId} {t b0 : Nat} {N : AH} {pc : Nat} {ls : Array Slot} {rest : List Value} {N1 : AH} {a : Nat} {v : Int32} (X : CX cc RX3 nL G aC t b0 p s m args c) (hR0 : Rp G aC b0 N H) (hS : va_S (fun q => b0 ≤ q) s.heap H locs) (hv : pZ N a 7 3 v = some N1) (hdg : decode cc pc = .ok (.putfield 119, 3)) (kk : ∀ (H1 : Heap) (locs1 : List Loc), Rp G aC b0 N1 H1 → va_S (fun q => b0 ≤ q) s.heap H1 locs1 → W p l e R s m args below meth c H1 locs1 cells slots Q (F0 m (pc + 3) ls rest)) : W p l e R s m args below meth c H locs cells slots Q (F0 m pc ls (.int v :: .ref a :: rest)) := by
  unfold pZ at hv
  split at hv
  case isFalse => cases hv
  rename_i h01
  obtain ⟨fs, h1, h2, h3⟩ := pV_ok hv
  subst h3
  exact ab_put (C := RX7) (T := TX7) (n := 12) X hR0 hS h1 h2 rfl inX7 tyX7 tyX7_ok nmX7 (by decide) (WT_of 267 (by decide +kernel) (by decide +kernel)) rfl (by rcases h01 with rfl | rfl <;> rfl) (by rcases h01 with rfl | rfl <;> rfl) hdg kk
theorem dX3_setUpTrial_0 : decode cX3_setUpTrial 0 = .ok (.aload_n 0, 1) := by decide +kernel
theorem dX3_setUpTrial_1 : decode cX3_setUpTrial 1 = .ok (.getfield 12, 3) := by decide +kernel
theorem dX3_setUpTrial_4 : decode cX3_setUpTrial 4 = .ok (.aload_n 1, 1) := by decide +kernel
theorem dX3_setUpTrial_5 : decode cX3_setUpTrial 5 = .ok (.invokevirtual 43, 3) := by decide +kernel
theorem dX3_setUpTrial_8 : decode cX3_setUpTrial 8 = .ok (.aload_n 0, 1) := by decide +kernel
theorem dX3_setUpTrial_9 : decode cX3_setUpTrial 9 = .ok (.getfield 12, 3) := by decide +kernel
theorem dX3_setUpTrial_12 : decode cX3_setUpTrial 12 = .ok (.iconst 0, 1) := by decide +kernel
theorem dX3_setUpTrial_13 : decode cX3_setUpTrial 13 = .ok (.putfield 119, 3) := by decide +kernel
theorem dX3_setUpTrial_16 : decode cX3_setUpTrial 16 = .ok (.aload_n 0, 1) := by decide +kernel
theorem dX3_setUpTrial_17 : decode cX3_setUpTrial 17 = .ok (.getfield 12, 3) := by decide +kernel
theorem dX3_setUpTrial_20 : decode cX3_setUpTrial 20 = .ok (.bipush 6, 2) := by decide +kernel
theorem dX3_setUpTrial_22 : decode cX3_setUpTrial 22 = .ok (.putfield 78, 3) := by decide +kernel
theorem dX3_setUpTrial_25 : decode cX3_setUpTrial 25 = .ok (.iconst 0, 1) := by decide +kernel
theorem dX3_setUpTrial_26 : decode cX3_setUpTrial 26 = .ok (.istore_n 3, 1) := by decide +kernel
theorem dX3_setUpTrial_27 : decode cX3_setUpTrial 27 = .ok (.iload_n 3, 1) := by decide +kernel
theorem dX3_setUpTrial_28 : decode cX3_setUpTrial 28 = .ok (.iload_n 2, 1) := by decide +kernel
theorem dX3_setUpTrial_29 : decode cX3_setUpTrial 29 = .ok (.if_icmp .ge 24, 3) := by decide +kernel
theorem dX3_setUpTrial_32 : decode cX3_setUpTrial 32 = .ok (.aload_n 0, 1) := by decide +kernel
theorem dX3_setUpTrial_33 : decode cX3_setUpTrial 33 = .ok (.getfield 21, 3) := by decide +kernel
theorem dX3_setUpTrial_36 : decode cX3_setUpTrial 36 = .ok (.getfield 122, 3) := by decide +kernel
theorem dX3_setUpTrial_39 : decode cX3_setUpTrial 39 = .ok (.aload_n 0, 1) := by decide +kernel
theorem dX3_setUpTrial_40 : decode cX3_setUpTrial 40 = .ok (.getfield 36, 3) := by decide +kernel
theorem dX3_setUpTrial_43 : decode cX3_setUpTrial 43 = .ok (.iload_n 3, 1) := by decide +kernel
theorem dX3_setUpTrial_44 : decode cX3_setUpTrial 44 = .ok (.iaload, 1) := by decide +kernel
theorem dX3_setUpTrial_45 : decode cX3_setUpTrial 45 = .ok (.iload_n 3, 1) := by decide +kernel
theorem dX3_setUpTrial_46 : decode cX3_setUpTrial 46 = .ok (.iastore, 1) := by decide +kernel
theorem dX3_setUpTrial_47 : decode cX3_setUpTrial 47 = .ok (.iinc 3 1, 3) := by decide +kernel
theorem dX3_setUpTrial_50 : decode cX3_setUpTrial 50 = .ok (.goto (-23), 3) := by decide +kernel
theorem dX3_setUpTrial_53 : decode cX3_setUpTrial 53 = .ok (.return_, 1) := by decide +kernel
def rm_X3_setUpTrial : Room := { frames := 4, cells := 0, slots := 0, locals := 82 }
section
variable {p : Program} {l : Launch} {e : Env} {s : State} {m : MethodId} {args : Array Value} {below : List Frame} {meth : Method} {c : Code} {Q : State → Prop} {G : va_G} {aC : Nat → ClassId} {t b0 : Nat}
def f_X3_setUpTrial_L27 (v0 : Nat) (v2 : Int32) (k53 : AH → Option (Unit × AH)) : Nat → Int32 → AH → Option (Unit × AH)
  | 0, _, _ => none
  | n + 1, v3, N => if v2 ≤ v3 then k53 N else ob (hR N v0 3 1) (fun x8 => ob (hR N x8 8 4) (fun x9 => ob (hR N v0 3 6) (fun x10 => ob (aI N x10 v3) (fun x11 => ob (sI N x9 x11 v3) (fun N12 => f_X3_setUpTrial_L27 v0 v2 k53 n (v3 + 1) N12)))))
set_option maxHeartbeats 4000000 in
set_option maxRecDepth 100000 in
theorem w_X3_setUpTrial_L27 {P : Unit × AH → Prop} (X : CX cX3_setUpTrial RX3 4 G aC t b0 p s m args c) (hr : RtV p l e rm_X3_setUpTrial s m args below meth c 0 0 Q cX3_setUpTrial G aC b0 P) (v0 : Nat) (v2 : Int32) {k53 : AH → Option (Unit × AH)}
    (hk53 : ∀ (N : AH) (H : Heap) (locs : List Loc) (ls : Array Slot), Rp G aC b0 N H → va_S (fun q => b0 ≤ q) s.heap H locs → lv_has ls 4 [] → owp (k53 N) P → W p l e rm_X3_setUpTrial s m args below meth c H locs 0 0 Q (F0 m 53 ls [])) :
    ∀ (n : Nat) (v3 : Int32) (N : AH) (H : Heap) (locs : List Loc) (ls : Array Slot), Rp G aC b0 N H → va_S (fun q => b0 ≤ q) s.heap H locs → lv_has ls 4 [(0, .ref v0), (2, .int v2), (3, .int v3)] → owp (f_X3_setUpTrial_L27 v0 v2 k53 n v3 N) P → W p l e rm_X3_setUpTrial s m args below meth c H locs 0 0 Q (F0 m 27 ls []) := by
  have hx := X.1.1
  have hb := X.1.2.1
  intro n
  induction n with
  | zero =>
    intro v3 N H locs ls hR hS hl hp
    exact (show False from hp).elim
  | succ n ih =>
    intro v3 N H locs ls hR hS hl hp
    rw [f_X3_setUpTrial_L27] at hp
    refine lv_iload_n hx hb dX3_setUpTrial_27 rfl (lv_at hl 2 rfl) ?_
    refine lv_iload_n hx hb dX3_setUpTrial_28 rfl (lv_at hl 1 rfl) ?_
    refine lv_icmp_ge (tgt := 53) hx hb dX3_setUpTrial_29 (by decide) (fun k7 => ?_) (fun k7 => ?_)
    · have hp := owp_t k7 hp
      exact hk53 _ _ _ _ hR hS (lv_sub hl [] rfl) hp
    · have hp := owp_f k7 hp
      refine lv_aload_n hx hb dX3_setUpTrial_32 rfl (lv_at hl 0 rfl) ?_
      obtain ⟨x8, e_x8, hp⟩ := owp_ob hp
      refine gf_X3_21 X hR e_x8 dX3_setUpTrial_33 ?_
      obtain ⟨x9, e_x9, hp⟩ := owp_ob hp
      refine gf_X3_122 X hR e_x9 dX3_setUpTrial_36 ?_
      refine lv_aload_n hx hb dX3_setUpTrial_39 rfl (lv_at hl 0 rfl) ?_
      obtain ⟨x10, e_x10, hp⟩ := owp_ob hp
      refine gf_X3_36 X hR e_x10 dX3_setUpTrial_40 ?_
      refine lv_iload_n hx hb dX3_setUpTrial_43 rfl (lv_at hl 2 rfl) ?_
      obtain ⟨x11, e_x11, hp⟩ := owp_ob hp
      refine ab_iald X hR e_x11 dX3_setUpTrial_44 ?_
      refine lv_iload_n hx hb dX3_setUpTrial_45 rfl (lv_at hl 2 rfl) ?_
      obtain ⟨N12, e_N12, hp⟩ := owp_ob hp
      refine ab_iast X hR hS e_N12 dX3_setUpTrial_46 (fun H locs hR hS => ?_)
      refine lv_iinc (v := v3 + 1) (lv' := [(3, .int (v3 + 1)), (0, .ref v0), (2, .int v2)]) hx hb dX3_setUpTrial_47 hl (k := 2) rfl rfl (by decide) rfl (fun ls hl => ?_)
      refine lv_goto (tgt := 27) hx hb dX3_setUpTrial_50 (by decide) ?_
      exact ih _ _ _ _ _ hR hS (lv_sub hl [1, 2, 0] rfl) hp
def f_X3_setUpTrial (v0 : Nat) (v1 : Nat) (v2 : Int32) (N : AH) : Option (Unit × AH) := ob (iO N v0 3) (fun _ => ob (hR N v0 3 0) (fun x1 => ob2 (f_X7_copyFrom x1 v1 N) (fun _ N2 => ob (hR N2 v0 3 0) (fun x3 => ob (pZ N2 x3 7 3 (0 : Int32)) (fun N4 => ob (hR N4 v0 3 0) (fun x5 => ob (pI N4 x5 7 1 (6 : Int32)) (fun N6 => f_X3_setUpTrial_L27 v0 v2 (fun N13 => some ((), N13)) FU (0 : Int32) N6)))))))
set_option maxHeartbeats 4000000 in
set_option maxRecDepth 100000 in
theorem wk_X3_setUpTrial {P : Unit × AH → Prop} (X : CX cX3_setUpTrial RX3 4 G aC t b0 p s m args c) (hr : RtV p l e rm_X3_setUpTrial s m args below meth c 0 0 Q cX3_setUpTrial G aC b0 P) (v0 : Nat) (v1 : Nat) (v2 : Int32) (N : AH) (H : Heap) (locs : List Loc) (ls : Array Slot) (hR : Rp G aC b0 N H) (hS : va_S (fun q => b0 ≤ q) s.heap H locs) (hl : lv_has ls 4 [(0, .ref v0), (1, .ref v1), (2, .int v2)]) (hp : owp (f_X3_setUpTrial v0 v1 v2 N) P) : W p l e rm_X3_setUpTrial s m args below meth c H locs 0 0 Q (F0 m 0 ls []) := by
  have hx := X.1.1
  have hb := X.1.2.1
  unfold f_X3_setUpTrial at hp
  obtain ⟨_, _, hp⟩ := owp_ob hp
  refine lv_aload_n hx hb dX3_setUpTrial_0 rfl (lv_at hl 0 rfl) ?_
  obtain ⟨x1, e_x1, hp⟩ := owp_ob hp
  refine gf_X3_12 X hR e_x1 dX3_setUpTrial_1 ?_
  refine lv_aload_n hx hb dX3_setUpTrial_4 rfl (lv_at hl 1 rfl) ?_
  obtain ⟨_, N2, e_N2, hp⟩ := owp_ob2 hp
  refine iv_X7_copyFrom (rest := []) mw_X3_43 X hR hS e_N2 hl.1 (Nat.le_of_ble_eq_true rfl) ⟨Nat.le_of_ble_eq_true rfl, Nat.le_of_ble_eq_true rfl⟩ ⟨Nat.le_of_ble_eq_true rfl, Nat.le_of_ble_eq_true rfl⟩ dX3_setUpTrial_5 (fun H locs hR hS => ?_)
  refine lv_aload_n hx hb dX3_setUpTrial_8 rfl (lv_at hl 0 rfl) ?_
  obtain ⟨x3, e_x3, hp⟩ := owp_ob hp
  refine gf_X3_12 X hR e_x3 dX3_setUpTrial_9 ?_
  refine lv_iconst (v := (0)) hx hb dX3_setUpTrial_12 (by decide) ?_
  obtain ⟨N4, e_N4, hp⟩ := owp_ob hp
  refine pf_X3_119 X hR hS e_N4 dX3_setUpTrial_13 (fun H locs hR hS => ?_)
  refine lv_aload_n hx hb dX3_setUpTrial_16 rfl (lv_at hl 0 rfl) ?_
  obtain ⟨x5, e_x5, hp⟩ := owp_ob hp
  refine gf_X3_12 X hR e_x5 dX3_setUpTrial_17 ?_
  refine lv_bipush (v := (6)) hx hb dX3_setUpTrial_20 (by decide) ?_
  obtain ⟨N6, e_N6, hp⟩ := owp_ob hp
  refine pf_X3_78 X hR hS e_N6 dX3_setUpTrial_22 (fun H locs hR hS => ?_)
  refine lv_iconst (v := (0)) hx hb dX3_setUpTrial_25 (by decide) ?_
  refine lv_istore_n (lv' := [(3, .int (0 : Int32)), (0, .ref v0), (1, .ref v1), (2, .int v2)]) hx hb dX3_setUpTrial_26 rfl hl (by decide) rfl (fun ls hl => ?_)
  refine w_X3_setUpTrial_L27 X hr _ _ (fun N13 H locs ls hR hS hl hp => ?_) _ _ _ _ _ _ hR hS (lv_sub hl [1, 3, 0] rfl) hp
  exact hr _ _ _ _ _ hR hS dX3_setUpTrial_53 hp
end
theorem ct_X3_setUpTrial {v0 : Nat} {v1 : Nat} {v2 : Int32} {N N1 : AH} {r : Unit} (h : f_X3_setUpTrial v0 v1 v2 N = some (r, N1)) : Ct yX3_setUpTrial cX3_setUpTrial 4 none rm_X3_setUpTrial [.ref v0, .ref v1, .int v2] N none N1 :=
  ab_met (own := RX3) (by decide +kernel) rfl (Nat.le_of_ble_eq_true rfl) (fun l G aC t b0 p e s m below meth c ls X hr hlk hnm hR hS hl => wk_X3_setUpTrial X (RtV_met X.1.1 X.1.2.1 hr hlk) _ _ _ _ _ _ _ hR hS hl (owp_of h))
theorem cw_X3_setUpTrial : Cond.code yX3_setUpTrial cX3_setUpTrial 4 none ∈ WT := WT_of 879 (by decide +kernel) (by decide +kernel)
theorem iv_X3_setUpTrial {p : Program} {l : Launch} {e : Env} {R : Room} {s : State} {m : MethodId} {args : Array Value} {below : List Frame} {meth : Method} {c : Code} {H : Heap} {locs : List Loc} {cells slots : Nat} {Q : State → Prop} {cc : ByteArray} {own : String} {nL : Nat} {G : va_G} {aC : Nat → ClassId} {t b0 : Nat} {N N1 : AH} {pc index : Nat} {ls : Array Slot} {rest : List Value} {v0 : Nat} {v1 : Nat} {v2 : Int32} {r : Unit} (w1 : Cond.methodLink own index yX3_setUpTrial ∈ WT) (X : CX cc own nL G aC t b0 p s m args c) (hR : Rp G aC b0 N H) (hS : va_S (fun q => b0 ≤ q) s.heap H locs) (h : f_X3_setUpTrial v0 v1 v2 N = some (r, N1)) (hls : ls.size = nL) (hW : (rest.map fun v => v.category).sum ≤ 8) (hR1 : 5 ≤ R.frames ∧ 105 ≤ R.locals) (hcs : cells + 0 ≤ R.cells ∧ slots + 0 ≤ R.slots) (hdg : decode cc pc = .ok (.invokevirtual index, 3)) (kk : ∀ (H1 : Heap) (locs1 : List Loc), Rp G aC b0 N1 H1 → va_S (fun q => b0 ≤ q) s.heap H1 locs1 → W p l e R s m args below meth c H1 locs1 cells slots Q (F0 m (pc + 3) ls rest)) : W p l e R s m args below meth c H locs cells slots Q (F0 m pc ls (.int v2 :: .ref v1 :: .ref v0 :: rest)) :=
  ab_callV (n := 2) (As := [.ref v1, .int v2]) X hR hS (ct_X3_setUpTrial h) (ob_rc (c := 3) (N := N) (a := v0) h) (T := TX3) (k := 7) (C := RX3) rfl w1 (WT_of 878 (by decide +kernel) (by decide +kernel)) (WT_of 27 (by decide +kernel) (by decide +kernel)) (WT_of 91 (by decide +kernel) (by decide +kernel)) cw_X3_setUpTrial ⟨rfl, by decide +kernel, by decide +kernel, by decide +kernel⟩ rfl hls hW hR1 hcs rfl hdg kk
-- X9_isLess
theorem dX9_isLess_0 : decode cX9_isLess 0 = .ok (.iload_n 0, 1) := by decide +kernel
theorem dX9_isLess_1 : decode cX9_isLess 1 = .ok (.iconst (-1), 1) := by decide +kernel
theorem dX9_isLess_2 : decode cX9_isLess 2 = .ok (.if_icmp .eq 17, 3) := by decide +kernel
theorem dX9_isLess_5 : decode cX9_isLess 5 = .ok (.iload_n 1, 1) := by decide +kernel
theorem dX9_isLess_6 : decode cX9_isLess 6 = .ok (.iconst (-1), 1) := by decide +kernel
theorem dX9_isLess_7 : decode cX9_isLess 7 = .ok (.if_icmp .eq 8, 3) := by decide +kernel
theorem dX9_isLess_10 : decode cX9_isLess 10 = .ok (.iload_n 0, 1) := by decide +kernel
theorem dX9_isLess_11 : decode cX9_isLess 11 = .ok (.iload_n 1, 1) := by decide +kernel
theorem dX9_isLess_12 : decode cX9_isLess 12 = .ok (.if_icmp .ge 7, 3) := by decide +kernel
theorem dX9_isLess_15 : decode cX9_isLess 15 = .ok (.iconst 1, 1) := by decide +kernel
theorem dX9_isLess_16 : decode cX9_isLess 16 = .ok (.goto 4, 3) := by decide +kernel
theorem dX9_isLess_19 : decode cX9_isLess 19 = .ok (.iconst 0, 1) := by decide +kernel
theorem dX9_isLess_20 : decode cX9_isLess 20 = .ok (.ireturn, 1) := by decide +kernel
def rm_X9_isLess : Room := { frames := 0, cells := 0, slots := 0, locals := 0 }
section
variable {p : Program} {l : Launch} {e : Env} {s : State} {m : MethodId} {args : Array Value} {below : List Frame} {meth : Method} {c : Code} {Q : State → Prop} {G : va_G} {aC : Nat → ClassId} {t b0 : Nat}
def f_X9_isLess (v0 : Int32) (v1 : Int32) (N : AH) : Option (Int32 × AH) := if v0 = (-1 : Int32) then some ((0 : Int32), N) else if v1 = (-1 : Int32) then some ((1 : Int32), N) else if v1 ≤ v0 then some ((0 : Int32), N) else some ((1 : Int32), N)
set_option maxHeartbeats 4000000 in
set_option maxRecDepth 100000 in
theorem wk_X9_isLess {P : Int32 × AH → Prop} (X : CX cX9_isLess RX9 2 G aC t b0 p s m args c) (hr : RtZ p l e rm_X9_isLess s m args below meth c 0 0 Q cX9_isLess G aC b0 P) (v0 : Int32) (v1 : Int32) (N : AH) (H : Heap) (locs : List Loc) (ls : Array Slot) (hR : Rp G aC b0 N H) (hS : va_S (fun q => b0 ≤ q) s.heap H locs) (hl : lv_has ls 2 [(0, .int v0), (1, .int v1)]) (hp : owp (f_X9_isLess v0 v1 N) P) : W p l e rm_X9_isLess s m args below meth c H locs 0 0 Q (F0 m 0 ls []) := by
  have hx := X.1.1
  have hb := X.1.2.1
  unfold f_X9_isLess at hp
  refine lv_iload_n hx hb dX9_isLess_0 rfl (lv_at hl 0 rfl) ?_
  refine lv_iconst (v := (-1)) hx hb dX9_isLess_1 (by decide) ?_
  refine lv_icmp_eq (tgt := 19) hx hb dX9_isLess_2 (by decide) (fun k1 => ?_) (fun k1 => ?_)
  · have hp := owp_t k1 hp
    refine lv_iconst (v := (0)) hx hb dX9_isLess_19 (by decide) ?_
    exact hr _ _ _ _ _ _ hR hS dX9_isLess_20 (rZ_0 hp)
  · have hp := owp_f k1 hp
    refine lv_iload_n hx hb dX9_isLess_5 rfl (lv_at hl 1 rfl) ?_
    refine lv_iconst (v := (-1)) hx hb dX9_isLess_6 (by decide) ?_
    refine lv_icmp_eq (tgt := 15) hx hb dX9_isLess_7 (by decide) (fun k2 => ?_) (fun k2 => ?_)
    · have hp := owp_t k2 hp
      refine lv_iconst (v := (1)) hx hb dX9_isLess_15 (by decide) ?_
      refine lv_goto (tgt := 20) hx hb dX9_isLess_16 (by decide) ?_
      exact hr _ _ _ _ _ _ hR hS dX9_isLess_20 (rZ_1 hp)
    · have hp := owp_f k2 hp
      refine lv_iload_n hx hb dX9_isLess_10 rfl (lv_at hl 0 rfl) ?_
      refine lv_iload_n hx hb dX9_isLess_11 rfl (lv_at hl 1 rfl) ?_
      refine lv_icmp_ge (tgt := 19) hx hb dX9_isLess_12 (by decide) (fun k3 => ?_) (fun k3 => ?_)
      · have hp := owp_t k3 hp
        refine lv_iconst (v := (0)) hx hb dX9_isLess_19 (by decide) ?_
        exact hr _ _ _ _ _ _ hR hS dX9_isLess_20 (rZ_0 hp)
      · have hp := owp_f k3 hp
        refine lv_iconst (v := (1)) hx hb dX9_isLess_15 (by decide) ?_
        refine lv_goto (tgt := 20) hx hb dX9_isLess_16 (by decide) ?_
        exact hr _ _ _ _ _ _ hR hS dX9_isLess_20 (rZ_1 hp)
end
theorem ct_X9_isLess {v0 : Int32} {v1 : Int32} {N N1 : AH} {r : Int32} (h : f_X9_isLess v0 v1 N = some (r, N1)) : Ct yX9_isLess cX9_isLess 2 (some .boolean) rm_X9_isLess [.int v0, .int v1] N (some (.int r)) N1 :=
  ab_met (own := RX9) (by decide +kernel) rfl (Nat.le_of_ble_eq_true rfl) (fun l G aC t b0 p e s m below meth c ls X hr hlk hnm hR hS hl => wk_X9_isLess X (RtZ_met X.1.1 X.1.2.1 hr hlk) _ _ _ _ _ _ hR hS hl (owp_of h))
theorem cw_X9_isLess : Cond.code yX9_isLess cX9_isLess 2 (some .boolean) ∈ WT := WT_of 857 (by decide +kernel) (by decide +kernel)
theorem iv_X9_isLess {p : Program} {l : Launch} {e : Env} {R : Room} {s : State} {m : MethodId} {args : Array Value} {below : List Frame} {meth : Method} {c : Code} {H : Heap} {locs : List Loc} {cells slots : Nat} {Q : State → Prop} {cc : ByteArray} {own : String} {nL : Nat} {G : va_G} {aC : Nat → ClassId} {t b0 : Nat} {N N1 : AH} {pc index : Nat} {ls : Array Slot} {rest : List Value} {v0 : Int32} {v1 : Int32} {r : Int32} (w1 : Cond.methodLink own index yX9_isLess ∈ WT) (X : CX cc own nL G aC t b0 p s m args c) (hR : Rp G aC b0 N H) (hS : va_S (fun q => b0 ≤ q) s.heap H locs) (h : f_X9_isLess v0 v1 N = some (r, N1)) (hls : ls.size = nL) (hW : (rest.map fun v => v.category).sum ≤ 8) (hR1 : 1 ≤ R.frames ∧ 21 ≤ R.locals) (hcs : cells + 0 ≤ R.cells ∧ slots + 0 ≤ R.slots) (hdg : decode cc pc = .ok (.invokestatic index, 3)) (kk : ∀ (H1 : Heap) (locs1 : List Loc), Rp G aC b0 N1 H1 → va_S (fun q => b0 ≤ q) s.heap H1 locs1 → W p l e R s m args below meth c H1 locs1 cells slots Q (F0 m (pc + 3) ls (.int r :: rest))) : W p l e R s m args below meth c H locs cells slots Q (F0 m pc ls (.int v1 :: .int v0 :: rest)) :=
  ab_callS (n := 2) (As := [.int v0, .int v1]) X hR hS (ct_X9_isLess h) w1 (WT_of 856 (by decide +kernel) (by decide +kernel)) (WT_of 81 (by decide +kernel) (by decide +kernel)) cw_X9_isLess ⟨by decide +kernel, by decide +kernel, by decide +kernel⟩ rfl hls hW hR1 hcs rfl hdg kk
theorem ivN_X9_isLess {p : Program} {l : Launch} {e : Env} {R : Room} {s : State} {m : MethodId} {args : Array Value} {below : List Frame} {meth : Method} {c : Code} {H : Heap} {locs : List Loc} {cells slots : Nat} {Q : State → Prop} {cc : ByteArray} {own : String} {nL : Nat} {G : va_G} {aC : Nat → ClassId} {t b0 : Nat} {N N1 : AH} {pc index : Nat} {ls : Array Slot} {rest : List Value} {v0 : Int32} {v1 : Int32} {r : Int32} (w1 : Cond.methodLinkNest own index yX9_isLess RX9 ∈ NWs) (X : CX cc own nL G aC t b0 p s m args c) (hR : Rp G aC b0 N H) (hS : va_S (fun q => b0 ≤ q) s.heap H locs) (h : f_X9_isLess v0 v1 N = some (r, N1)) (hls : ls.size = nL) (hW : (rest.map fun v => v.category).sum ≤ 8) (hR1 : 1 ≤ R.frames ∧ 21 ≤ R.locals) (hcs : cells + 0 ≤ R.cells ∧ slots + 0 ≤ R.slots) (hdg : decode cc pc = .ok (.invokestatic index, 3)) (kk : ∀ (H1 : Heap) (locs1 : List Loc), Rp G aC b0 N1 H1 → va_S (fun q => b0 ≤ q) s.heap H1 locs1 → W p l e R s m args below meth c H1 locs1 cells slots Q (F0 m (pc + 3) ls (.int r :: rest))) : W p l e R s m args below meth c H locs cells slots Q (F0 m pc ls (.int v1 :: .int v0 :: rest)) :=
  ab_callSN (n := 2) (As := [.int v0, .int v1]) X hR hS (ct_X9_isLess h) w1 (WT_of 856 (by decide +kernel) (by decide +kernel)) (WT_of 81 (by decide +kernel) (by decide +kernel)) cw_X9_isLess ⟨by decide +kernel, by decide +kernel, by decide +kernel⟩ rfl hls hW hR1 hcs rfl hdg kk
-- X3_swap
theorem dX3_swap_0 : decode cX3_swap 0 = .ok (.aload_n 0, 1) := by decide +kernel
theorem dX3_swap_1 : decode cX3_swap 1 = .ok (.getfield 36, 3) := by decide +kernel
theorem dX3_swap_4 : decode cX3_swap 4 = .ok (.iload_n 1, 1) := by decide +kernel
theorem dX3_swap_5 : decode cX3_swap 5 = .ok (.iaload, 1) := by decide +kernel
theorem dX3_swap_6 : decode cX3_swap 6 = .ok (.istore_n 3, 1) := by decide +kernel
theorem dX3_swap_7 : decode cX3_swap 7 = .ok (.aload_n 0, 1) := by decide +kernel
theorem dX3_swap_8 : decode cX3_swap 8 = .ok (.getfield 36, 3) := by decide +kernel
theorem dX3_swap_11 : decode cX3_swap 11 = .ok (.iload_n 1, 1) := by decide +kernel
theorem dX3_swap_12 : decode cX3_swap 12 = .ok (.aload_n 0, 1) := by decide +kernel
theorem dX3_swap_13 : decode cX3_swap 13 = .ok (.getfield 36, 3) := by decide +kernel
theorem dX3_swap_16 : decode cX3_swap 16 = .ok (.iload_n 2, 1) := by decide +kernel
theorem dX3_swap_17 : decode cX3_swap 17 = .ok (.iaload, 1) := by decide +kernel
theorem dX3_swap_18 : decode cX3_swap 18 = .ok (.iastore, 1) := by decide +kernel
theorem dX3_swap_19 : decode cX3_swap 19 = .ok (.aload_n 0, 1) := by decide +kernel
theorem dX3_swap_20 : decode cX3_swap 20 = .ok (.getfield 36, 3) := by decide +kernel
theorem dX3_swap_23 : decode cX3_swap 23 = .ok (.iload_n 2, 1) := by decide +kernel
theorem dX3_swap_24 : decode cX3_swap 24 = .ok (.iload_n 3, 1) := by decide +kernel
theorem dX3_swap_25 : decode cX3_swap 25 = .ok (.iastore, 1) := by decide +kernel
theorem dX3_swap_26 : decode cX3_swap 26 = .ok (.return_, 1) := by decide +kernel
def rm_X3_swap : Room := { frames := 0, cells := 0, slots := 0, locals := 0 }
section
variable {p : Program} {l : Launch} {e : Env} {s : State} {m : MethodId} {args : Array Value} {below : List Frame} {meth : Method} {c : Code} {Q : State → Prop} {G : va_G} {aC : Nat → ClassId} {t b0 : Nat}
def f_X3_swap (v0 : Nat) (v1 : Int32) (v2 : Int32) (N : AH) : Option (Unit × AH) := ob (iO N v0 3) (fun _ => ob (hR N v0 3 6) (fun x1 => ob (aI N x1 v1) (fun x2 => ob (hR N v0 3 6) (fun x3 => ob (hR N v0 3 6) (fun x4 => ob (aI N x4 v2) (fun x5 => ob (sI N x3 v1 x5) (fun N6 => ob (hR N6 v0 3 6) (fun x7 => ob (sI N6 x7 v2 x2) (fun N8 => some ((), N8))))))))))
set_option maxHeartbeats 4000000 in
set_option maxRecDepth 100000 in
theorem wk_X3_swap {P : Unit × AH → Prop} (X : CX cX3_swap RX3 4 G aC t b0 p s m args c) (hr : RtV p l e rm_X3_swap s m args below meth c 0 0 Q cX3_swap G aC b0 P) (v0 : Nat) (v1 : Int32) (v2 : Int32) (N : AH) (H : Heap) (locs : List Loc) (ls : Array Slot) (hR : Rp G aC b0 N H) (hS : va_S (fun q => b0 ≤ q) s.heap H locs) (hl : lv_has ls 4 [(0, .ref v0), (1, .int v1), (2, .int v2)]) (hp : owp (f_X3_swap v0 v1 v2 N) P) : W p l e rm_X3_swap s m args below meth c H locs 0 0 Q (F0 m 0 ls []) := by
  have hx := X.1.1
  have hb := X.1.2.1
  unfold f_X3_swap at hp
  obtain ⟨_, _, hp⟩ := owp_ob hp
  refine lv_aload_n hx hb dX3_swap_0 rfl (lv_at hl 0 rfl) ?_
  obtain ⟨x1, e_x1, hp⟩ := owp_ob hp
  refine gf_X3_36 X hR e_x1 dX3_swap_1 ?_
  refine lv_iload_n hx hb dX3_swap_4 rfl (lv_at hl 1 rfl) ?_
  obtain ⟨x2, e_x2, hp⟩ := owp_ob hp
  refine ab_iald X hR e_x2 dX3_swap_5 ?_
  refine lv_istore_n (lv' := [(3, .int x2), (0, .ref v0), (1, .int v1), (2, .int v2)]) hx hb dX3_swap_6 rfl hl (by decide) rfl (fun ls hl => ?_)
  refine lv_aload_n hx hb dX3_swap_7 rfl (lv_at hl 1 rfl) ?_
  obtain ⟨x3, e_x3, hp⟩ := owp_ob hp
  refine gf_X3_36 X hR e_x3 dX3_swap_8 ?_
  refine lv_iload_n hx hb dX3_swap_11 rfl (lv_at hl 2 rfl) ?_
  refine lv_aload_n hx hb dX3_swap_12 rfl (lv_at hl 1 rfl) ?_
  obtain ⟨x4, e_x4, hp⟩ := owp_ob hp
  refine gf_X3_36 X hR e_x4 dX3_swap_13 ?_
  refine lv_iload_n hx hb dX3_swap_16 rfl (lv_at hl 3 rfl) ?_
  obtain ⟨x5, e_x5, hp⟩ := owp_ob hp
  refine ab_iald X hR e_x5 dX3_swap_17 ?_
  obtain ⟨N6, e_N6, hp⟩ := owp_ob hp
  refine ab_iast X hR hS e_N6 dX3_swap_18 (fun H locs hR hS => ?_)
  refine lv_aload_n hx hb dX3_swap_19 rfl (lv_at hl 1 rfl) ?_
  obtain ⟨x7, e_x7, hp⟩ := owp_ob hp
  refine gf_X3_36 X hR e_x7 dX3_swap_20 ?_
  refine lv_iload_n hx hb dX3_swap_23 rfl (lv_at hl 3 rfl) ?_
  refine lv_iload_n hx hb dX3_swap_24 rfl (lv_at hl 0 rfl) ?_
  obtain ⟨N8, e_N8, hp⟩ := owp_ob hp
  refine ab_iast X hR hS e_N8 dX3_swap_25 (fun H locs hR hS => ?_)
  exact hr _ _ _ _ _ hR hS dX3_swap_26 hp
end
theorem ct_X3_swap {v0 : Nat} {v1 : Int32} {v2 : Int32} {N N1 : AH} {r : Unit} (h : f_X3_swap v0 v1 v2 N = some (r, N1)) : Ct yX3_swap cX3_swap 4 none rm_X3_swap [.ref v0, .int v1, .int v2] N none N1 :=
  ab_met (own := RX3) (by decide +kernel) rfl (Nat.le_of_ble_eq_true rfl) (fun l G aC t b0 p e s m below meth c ls X hr hlk hnm hR hS hl => wk_X3_swap X (RtV_met X.1.1 X.1.2.1 hr hlk) _ _ _ _ _ _ _ hR hS hl (owp_of h))
theorem cw_X3_swap : Cond.code yX3_swap cX3_swap 4 none ∈ WT := WT_of 888 (by decide +kernel) (by decide +kernel)
theorem iv_X3_swap {p : Program} {l : Launch} {e : Env} {R : Room} {s : State} {m : MethodId} {args : Array Value} {below : List Frame} {meth : Method} {c : Code} {H : Heap} {locs : List Loc} {cells slots : Nat} {Q : State → Prop} {cc : ByteArray} {own : String} {nL : Nat} {G : va_G} {aC : Nat → ClassId} {t b0 : Nat} {N N1 : AH} {pc index : Nat} {ls : Array Slot} {rest : List Value} {v0 : Nat} {v1 : Int32} {v2 : Int32} {r : Unit} (w1 : Cond.methodLink own index yX3_swap ∈ WT) (X : CX cc own nL G aC t b0 p s m args c) (hR : Rp G aC b0 N H) (hS : va_S (fun q => b0 ≤ q) s.heap H locs) (h : f_X3_swap v0 v1 v2 N = some (r, N1)) (hls : ls.size = nL) (hW : (rest.map fun v => v.category).sum ≤ 8) (hR1 : 1 ≤ R.frames ∧ 23 ≤ R.locals) (hcs : cells + 0 ≤ R.cells ∧ slots + 0 ≤ R.slots) (hdg : decode cc pc = .ok (.invokevirtual index, 3)) (kk : ∀ (H1 : Heap) (locs1 : List Loc), Rp G aC b0 N1 H1 → va_S (fun q => b0 ≤ q) s.heap H1 locs1 → W p l e R s m args below meth c H1 locs1 cells slots Q (F0 m (pc + 3) ls rest)) : W p l e R s m args below meth c H locs cells slots Q (F0 m pc ls (.int v2 :: .int v1 :: .ref v0 :: rest)) :=
  ab_callV (n := 2) (As := [.int v1, .int v2]) X hR hS (ct_X3_swap h) (ob_rc (c := 3) (N := N) (a := v0) h) (T := TX3) (k := 7) (C := RX3) rfl w1 (WT_of 887 (by decide +kernel) (by decide +kernel)) (WT_of 29 (by decide +kernel) (by decide +kernel)) (WT_of 91 (by decide +kernel) (by decide +kernel)) cw_X3_swap ⟨rfl, by decide +kernel, by decide +kernel, by decide +kernel⟩ rfl hls hW hR1 hcs rfl hdg kk
-- X3_stepToNextOrder
theorem mw_X3_125 : Cond.methodLink RX3 125 yX3_swap ∈ WT := WT_of 885 (by decide +kernel) (by decide +kernel)
theorem dX3_stepToNextOrder_0 : decode cX3_stepToNextOrder 0 = .ok (.iload_n 1, 1) := by decide +kernel
theorem dX3_stepToNextOrder_1 : decode cX3_stepToNextOrder 1 = .ok (.iconst 2, 1) := by decide +kernel
theorem dX3_stepToNextOrder_2 : decode cX3_stepToNextOrder 2 = .ok (.isub, 1) := by decide +kernel
theorem dX3_stepToNextOrder_3 : decode cX3_stepToNextOrder 3 = .ok (.istore_n 2, 1) := by decide +kernel
theorem dX3_stepToNextOrder_4 : decode cX3_stepToNextOrder 4 = .ok (.iload_n 2, 1) := by decide +kernel
theorem dX3_stepToNextOrder_5 : decode cX3_stepToNextOrder 5 = .ok (.ifCond .lt 26, 3) := by decide +kernel
theorem dX3_stepToNextOrder_8 : decode cX3_stepToNextOrder 8 = .ok (.aload_n 0, 1) := by decide +kernel
theorem dX3_stepToNextOrder_9 : decode cX3_stepToNextOrder 9 = .ok (.getfield 36, 3) := by decide +kernel
theorem dX3_stepToNextOrder_12 : decode cX3_stepToNextOrder 12 = .ok (.iload_n 2, 1) := by decide +kernel
theorem dX3_stepToNextOrder_13 : decode cX3_stepToNextOrder 13 = .ok (.iaload, 1) := by decide +kernel
theorem dX3_stepToNextOrder_14 : decode cX3_stepToNextOrder 14 = .ok (.aload_n 0, 1) := by decide +kernel
theorem dX3_stepToNextOrder_15 : decode cX3_stepToNextOrder 15 = .ok (.getfield 36, 3) := by decide +kernel
theorem dX3_stepToNextOrder_18 : decode cX3_stepToNextOrder 18 = .ok (.iload_n 2, 1) := by decide +kernel
theorem dX3_stepToNextOrder_19 : decode cX3_stepToNextOrder 19 = .ok (.iconst 1, 1) := by decide +kernel
theorem dX3_stepToNextOrder_20 : decode cX3_stepToNextOrder 20 = .ok (.iadd, 1) := by decide +kernel
theorem dX3_stepToNextOrder_21 : decode cX3_stepToNextOrder 21 = .ok (.iaload, 1) := by decide +kernel
theorem dX3_stepToNextOrder_22 : decode cX3_stepToNextOrder 22 = .ok (.if_icmp .le 9, 3) := by decide +kernel
theorem dX3_stepToNextOrder_25 : decode cX3_stepToNextOrder 25 = .ok (.iinc 2 (-1), 3) := by decide +kernel
theorem dX3_stepToNextOrder_28 : decode cX3_stepToNextOrder 28 = .ok (.goto (-24), 3) := by decide +kernel
theorem dX3_stepToNextOrder_31 : decode cX3_stepToNextOrder 31 = .ok (.iload_n 2, 1) := by decide +kernel
theorem dX3_stepToNextOrder_32 : decode cX3_stepToNextOrder 32 = .ok (.ifCond .ge 5, 3) := by decide +kernel
theorem dX3_stepToNextOrder_35 : decode cX3_stepToNextOrder 35 = .ok (.iconst 0, 1) := by decide +kernel
theorem dX3_stepToNextOrder_36 : decode cX3_stepToNextOrder 36 = .ok (.ireturn, 1) := by decide +kernel
theorem dX3_stepToNextOrder_37 : decode cX3_stepToNextOrder 37 = .ok (.iload_n 1, 1) := by decide +kernel
theorem dX3_stepToNextOrder_38 : decode cX3_stepToNextOrder 38 = .ok (.iconst 1, 1) := by decide +kernel
theorem dX3_stepToNextOrder_39 : decode cX3_stepToNextOrder 39 = .ok (.isub, 1) := by decide +kernel
theorem dX3_stepToNextOrder_40 : decode cX3_stepToNextOrder 40 = .ok (.istore_n 3, 1) := by decide +kernel
theorem dX3_stepToNextOrder_41 : decode cX3_stepToNextOrder 41 = .ok (.iload_n 3, 1) := by decide +kernel
theorem dX3_stepToNextOrder_42 : decode cX3_stepToNextOrder 42 = .ok (.iload_n 2, 1) := by decide +kernel
theorem dX3_stepToNextOrder_43 : decode cX3_stepToNextOrder 43 = .ok (.if_icmp .le 24, 3) := by decide +kernel
theorem dX3_stepToNextOrder_46 : decode cX3_stepToNextOrder 46 = .ok (.aload_n 0, 1) := by decide +kernel
theorem dX3_stepToNextOrder_47 : decode cX3_stepToNextOrder 47 = .ok (.getfield 36, 3) := by decide +kernel
theorem dX3_stepToNextOrder_50 : decode cX3_stepToNextOrder 50 = .ok (.iload_n 3, 1) := by decide +kernel
theorem dX3_stepToNextOrder_51 : decode cX3_stepToNextOrder 51 = .ok (.iaload, 1) := by decide +kernel
theorem dX3_stepToNextOrder_52 : decode cX3_stepToNextOrder 52 = .ok (.aload_n 0, 1) := by decide +kernel
theorem dX3_stepToNextOrder_53 : decode cX3_stepToNextOrder 53 = .ok (.getfield 36, 3) := by decide +kernel
theorem dX3_stepToNextOrder_56 : decode cX3_stepToNextOrder 56 = .ok (.iload_n 2, 1) := by decide +kernel
theorem dX3_stepToNextOrder_57 : decode cX3_stepToNextOrder 57 = .ok (.iaload, 1) := by decide +kernel
theorem dX3_stepToNextOrder_58 : decode cX3_stepToNextOrder 58 = .ok (.if_icmp .ge 9, 3) := by decide +kernel
theorem dX3_stepToNextOrder_61 : decode cX3_stepToNextOrder 61 = .ok (.iinc 3 (-1), 3) := by decide +kernel
theorem dX3_stepToNextOrder_64 : decode cX3_stepToNextOrder 64 = .ok (.goto (-23), 3) := by decide +kernel
theorem dX3_stepToNextOrder_67 : decode cX3_stepToNextOrder 67 = .ok (.aload_n 0, 1) := by decide +kernel
theorem dX3_stepToNextOrder_68 : decode cX3_stepToNextOrder 68 = .ok (.iload_n 2, 1) := by decide +kernel
theorem dX3_stepToNextOrder_69 : decode cX3_stepToNextOrder 69 = .ok (.iload_n 3, 1) := by decide +kernel
theorem dX3_stepToNextOrder_70 : decode cX3_stepToNextOrder 70 = .ok (.invokevirtual 125, 3) := by decide +kernel
theorem dX3_stepToNextOrder_73 : decode cX3_stepToNextOrder 73 = .ok (.iload_n 2, 1) := by decide +kernel
theorem dX3_stepToNextOrder_74 : decode cX3_stepToNextOrder 74 = .ok (.iconst 1, 1) := by decide +kernel
theorem dX3_stepToNextOrder_75 : decode cX3_stepToNextOrder 75 = .ok (.iadd, 1) := by decide +kernel
theorem dX3_stepToNextOrder_76 : decode cX3_stepToNextOrder 76 = .ok (.istore 4, 2) := by decide +kernel
theorem dX3_stepToNextOrder_78 : decode cX3_stepToNextOrder 78 = .ok (.iload_n 1, 1) := by decide +kernel
theorem dX3_stepToNextOrder_79 : decode cX3_stepToNextOrder 79 = .ok (.iconst 1, 1) := by decide +kernel
theorem dX3_stepToNextOrder_80 : decode cX3_stepToNextOrder 80 = .ok (.isub, 1) := by decide +kernel
theorem dX3_stepToNextOrder_81 : decode cX3_stepToNextOrder 81 = .ok (.istore 5, 2) := by decide +kernel
theorem dX3_stepToNextOrder_83 : decode cX3_stepToNextOrder 83 = .ok (.iload 4, 2) := by decide +kernel
theorem dX3_stepToNextOrder_85 : decode cX3_stepToNextOrder 85 = .ok (.iload 5, 2) := by decide +kernel
theorem dX3_stepToNextOrder_87 : decode cX3_stepToNextOrder 87 = .ok (.if_icmp .ge 20, 3) := by decide +kernel
theorem dX3_stepToNextOrder_90 : decode cX3_stepToNextOrder 90 = .ok (.aload_n 0, 1) := by decide +kernel
theorem dX3_stepToNextOrder_91 : decode cX3_stepToNextOrder 91 = .ok (.iload 4, 2) := by decide +kernel
theorem dX3_stepToNextOrder_93 : decode cX3_stepToNextOrder 93 = .ok (.iload 5, 2) := by decide +kernel
theorem dX3_stepToNextOrder_95 : decode cX3_stepToNextOrder 95 = .ok (.invokevirtual 125, 3) := by decide +kernel
theorem dX3_stepToNextOrder_98 : decode cX3_stepToNextOrder 98 = .ok (.iinc 4 1, 3) := by decide +kernel
theorem dX3_stepToNextOrder_101 : decode cX3_stepToNextOrder 101 = .ok (.iinc 5 (-1), 3) := by decide +kernel
theorem dX3_stepToNextOrder_104 : decode cX3_stepToNextOrder 104 = .ok (.goto (-21), 3) := by decide +kernel
theorem dX3_stepToNextOrder_107 : decode cX3_stepToNextOrder 107 = .ok (.iconst 1, 1) := by decide +kernel
theorem dX3_stepToNextOrder_108 : decode cX3_stepToNextOrder 108 = .ok (.ireturn, 1) := by decide +kernel
def rm_X3_stepToNextOrder : Room := { frames := 1, cells := 0, slots := 0, locals := 23 }
section
variable {p : Program} {l : Launch} {e : Env} {s : State} {m : MethodId} {args : Array Value} {below : List Frame} {meth : Method} {c : Code} {Q : State → Prop} {G : va_G} {aC : Nat → ClassId} {t b0 : Nat}
def f_X3_stepToNextOrder_L4 (v0 : Nat) (v1 : Int32) (k31 : Int32 → AH → Option (Int32 × AH)) : Nat → Int32 → AH → Option (Int32 × AH)
  | 0, _, _ => none
  | n + 1, v2, N => if v2 < 0 then k31 v2 N else ob (hR N v0 3 6) (fun x2 => ob (aI N x2 v2) (fun x3 => ob (hR N v0 3 6) (fun x4 => ob (aI N x4 (v2 + (1 : Int32))) (fun x5 => if x3 ≤ x5 then k31 v2 N else f_X3_stepToNextOrder_L4 v0 v1 k31 n (v2 + (-1 : Int32)) N))))
set_option maxHeartbeats 4000000 in
set_option maxRecDepth 100000 in
theorem w_X3_stepToNextOrder_L4 {P : Int32 × AH → Prop} (X : CX cX3_stepToNextOrder RX3 6 G aC t b0 p s m args c) (hr : RtZ p l e rm_X3_stepToNextOrder s m args below meth c 0 0 Q cX3_stepToNextOrder G aC b0 P) (v0 : Nat) (v1 : Int32) {k31 : Int32 → AH → Option (Int32 × AH)}
    (hk31 : ∀ (v2 : Int32) (N : AH) (H : Heap) (locs : List Loc) (ls : Array Slot), Rp G aC b0 N H → va_S (fun q => b0 ≤ q) s.heap H locs → lv_has ls 6 [(0, .ref v0), (1, .int v1), (2, .int v2)] → owp (k31 v2 N) P → W p l e rm_X3_stepToNextOrder s m args below meth c H locs 0 0 Q (F0 m 31 ls [])) :
    ∀ (n : Nat) (v2 : Int32) (N : AH) (H : Heap) (locs : List Loc) (ls : Array Slot), Rp G aC b0 N H → va_S (fun q => b0 ≤ q) s.heap H locs → lv_has ls 6 [(0, .ref v0), (1, .int v1), (2, .int v2)] → owp (f_X3_stepToNextOrder_L4 v0 v1 k31 n v2 N) P → W p l e rm_X3_stepToNextOrder s m args below meth c H locs 0 0 Q (F0 m 4 ls []) := by
  have hx := X.1.1
  have hb := X.1.2.1
  intro n
  induction n with
  | zero =>
    intro v2 N H locs ls hR hS hl hp
    exact (show False from hp).elim
  | succ n ih =>
    intro v2 N H locs ls hR hS hl hp
    rw [f_X3_stepToNextOrder_L4] at hp
    refine lv_iload_n hx hb dX3_stepToNextOrder_4 rfl (lv_at hl 2 rfl) ?_
    refine lv_if_lt (tgt := 31) hx hb dX3_stepToNextOrder_5 (by decide) (fun k1 => ?_) (fun k1 => ?_)
    · have hp := owp_t k1 hp
      exact hk31 _ _ _ _ _ hR hS hl hp
    · have hp := owp_f k1 hp
      refine lv_aload_n hx hb dX3_stepToNextOrder_8 rfl (lv_at hl 0 rfl) ?_
      obtain ⟨x2, e_x2, hp⟩ := owp_ob hp
      refine gf_X3_36 X hR e_x2 dX3_stepToNextOrder_9 ?_
      refine lv_iload_n hx hb dX3_stepToNextOrder_12 rfl (lv_at hl 2 rfl) ?_
      obtain ⟨x3, e_x3, hp⟩ := owp_ob hp
      refine ab_iald X hR e_x3 dX3_stepToNextOrder_13 ?_
      refine lv_aload_n hx hb dX3_stepToNextOrder_14 rfl (lv_at hl 0 rfl) ?_
      obtain ⟨x4, e_x4, hp⟩ := owp_ob hp
      refine gf_X3_36 X hR e_x4 dX3_stepToNextOrder_15 ?_
      refine lv_iload_n hx hb dX3_stepToNextOrder_18 rfl (lv_at hl 2 rfl) ?_
      refine lv_iconst (v := (1)) hx hb dX3_stepToNextOrder_19 (by decide) ?_
      refine lv_iadd hx hb dX3_stepToNextOrder_20 ?_
      obtain ⟨x5, e_x5, hp⟩ := owp_ob hp
      refine ab_iald X hR e_x5 dX3_stepToNextOrder_21 ?_
      refine lv_icmp_le (tgt := 31) hx hb dX3_stepToNextOrder_22 (by decide) (fun k6 => ?_) (fun k6 => ?_)
      · have hp := owp_t k6 hp
        exact hk31 _ _ _ _ _ hR hS hl hp
      · have hp := owp_f k6 hp
        refine lv_iinc (v := v2 + (-1 : Int32)) (lv' := [(2, .int (v2 + (-1 : Int32))), (0, .ref v0), (1, .int v1)]) hx hb dX3_stepToNextOrder_25 hl (k := 2) rfl rfl (by decide) rfl (fun ls hl => ?_)
        refine lv_goto (tgt := 4) hx hb dX3_stepToNextOrder_28 (by decide) ?_
        exact ih _ _ _ _ _ hR hS (lv_sub hl [1, 2, 0] rfl) hp
def f_X3_stepToNextOrder_L41 (v0 : Nat) (v1 : Int32) (v2 : Int32) (k67 : Int32 → AH → Option (Int32 × AH)) : Nat → Int32 → AH → Option (Int32 × AH)
  | 0, _, _ => none
  | n + 1, v3, N => if v3 ≤ v2 then k67 v3 N else ob (hR N v0 3 6) (fun x11 => ob (aI N x11 v3) (fun x12 => ob (hR N v0 3 6) (fun x13 => ob (aI N x13 v2) (fun x14 => if x14 ≤ x12 then k67 v3 N else f_X3_stepToNextOrder_L41 v0 v1 v2 k67 n (v3 + (-1 : Int32)) N))))
set_option maxHeartbeats 4000000 in
set_option maxRecDepth 100000 in
theorem w_X3_stepToNextOrder_L41 {P : Int32 × AH → Prop} (X : CX cX3_stepToNextOrder RX3 6 G aC t b0 p s m args c) (hr : RtZ p l e rm_X3_stepToNextOrder s m args below meth c 0 0 Q cX3_stepToNextOrder G aC b0 P) (v0 : Nat) (v1 : Int32) (v2 : Int32) {k67 : Int32 → AH → Option (Int32 × AH)}
    (hk67 : ∀ (v3 : Int32) (N : AH) (H : Heap) (locs : List Loc) (ls : Array Slot), Rp G aC b0 N H → va_S (fun q => b0 ≤ q) s.heap H locs → lv_has ls 6 [(0, .ref v0), (1, .int v1), (2, .int v2), (3, .int v3)] → owp (k67 v3 N) P → W p l e rm_X3_stepToNextOrder s m args below meth c H locs 0 0 Q (F0 m 67 ls [])) :
    ∀ (n : Nat) (v3 : Int32) (N : AH) (H : Heap) (locs : List Loc) (ls : Array Slot), Rp G aC b0 N H → va_S (fun q => b0 ≤ q) s.heap H locs → lv_has ls 6 [(0, .ref v0), (1, .int v1), (2, .int v2), (3, .int v3)] → owp (f_X3_stepToNextOrder_L41 v0 v1 v2 k67 n v3 N) P → W p l e rm_X3_stepToNextOrder s m args below meth c H locs 0 0 Q (F0 m 41 ls []) := by
  have hx := X.1.1
  have hb := X.1.2.1
  intro n
  induction n with
  | zero =>
    intro v3 N H locs ls hR hS hl hp
    exact (show False from hp).elim
  | succ n ih =>
    intro v3 N H locs ls hR hS hl hp
    rw [f_X3_stepToNextOrder_L41] at hp
    refine lv_iload_n hx hb dX3_stepToNextOrder_41 rfl (lv_at hl 3 rfl) ?_
    refine lv_iload_n hx hb dX3_stepToNextOrder_42 rfl (lv_at hl 2 rfl) ?_
    refine lv_icmp_le (tgt := 67) hx hb dX3_stepToNextOrder_43 (by decide) (fun k10 => ?_) (fun k10 => ?_)
    · have hp := owp_t k10 hp
      exact hk67 _ _ _ _ _ hR hS hl hp
    · have hp := owp_f k10 hp
      refine lv_aload_n hx hb dX3_stepToNextOrder_46 rfl (lv_at hl 0 rfl) ?_
      obtain ⟨x11, e_x11, hp⟩ := owp_ob hp
      refine gf_X3_36 X hR e_x11 dX3_stepToNextOrder_47 ?_
      refine lv_iload_n hx hb dX3_stepToNextOrder_50 rfl (lv_at hl 3 rfl) ?_
      obtain ⟨x12, e_x12, hp⟩ := owp_ob hp
      refine ab_iald X hR e_x12 dX3_stepToNextOrder_51 ?_
      refine lv_aload_n hx hb dX3_stepToNextOrder_52 rfl (lv_at hl 0 rfl) ?_
      obtain ⟨x13, e_x13, hp⟩ := owp_ob hp
      refine gf_X3_36 X hR e_x13 dX3_stepToNextOrder_53 ?_
      refine lv_iload_n hx hb dX3_stepToNextOrder_56 rfl (lv_at hl 2 rfl) ?_
      obtain ⟨x14, e_x14, hp⟩ := owp_ob hp
      refine ab_iald X hR e_x14 dX3_stepToNextOrder_57 ?_
      refine lv_icmp_ge (tgt := 67) hx hb dX3_stepToNextOrder_58 (by decide) (fun k15 => ?_) (fun k15 => ?_)
      · have hp := owp_t k15 hp
        exact hk67 _ _ _ _ _ hR hS hl hp
      · have hp := owp_f k15 hp
        refine lv_iinc (v := v3 + (-1 : Int32)) (lv' := [(3, .int (v3 + (-1 : Int32))), (0, .ref v0), (1, .int v1), (2, .int v2)]) hx hb dX3_stepToNextOrder_61 hl (k := 3) rfl rfl (by decide) rfl (fun ls hl => ?_)
        refine lv_goto (tgt := 41) hx hb dX3_stepToNextOrder_64 (by decide) ?_
        exact ih _ _ _ _ _ hR hS (lv_sub hl [1, 2, 3, 0] rfl) hp
def f_X3_stepToNextOrder_L83 (v0 : Nat) (k107 : AH → Option (Int32 × AH)) : Nat → Int32 → Int32 → AH → Option (Int32 × AH)
  | 0, _, _, _ => none
  | n + 1, v4, v5, N => if v5 ≤ v4 then k107 N else ob2 (f_X3_swap v0 v4 v5 N) (fun _ N20 => f_X3_stepToNextOrder_L83 v0 k107 n (v4 + 1) (v5 + (-1 : Int32)) N20)
set_option maxHeartbeats 4000000 in
set_option maxRecDepth 100000 in
theorem w_X3_stepToNextOrder_L83 {P : Int32 × AH → Prop} (X : CX cX3_stepToNextOrder RX3 6 G aC t b0 p s m args c) (hr : RtZ p l e rm_X3_stepToNextOrder s m args below meth c 0 0 Q cX3_stepToNextOrder G aC b0 P) (v0 : Nat) {k107 : AH → Option (Int32 × AH)}
    (hk107 : ∀ (N : AH) (H : Heap) (locs : List Loc) (ls : Array Slot), Rp G aC b0 N H → va_S (fun q => b0 ≤ q) s.heap H locs → lv_has ls 6 [] → owp (k107 N) P → W p l e rm_X3_stepToNextOrder s m args below meth c H locs 0 0 Q (F0 m 107 ls [])) :
    ∀ (n : Nat) (v4 : Int32) (v5 : Int32) (N : AH) (H : Heap) (locs : List Loc) (ls : Array Slot), Rp G aC b0 N H → va_S (fun q => b0 ≤ q) s.heap H locs → lv_has ls 6 [(0, .ref v0), (4, .int v4), (5, .int v5)] → owp (f_X3_stepToNextOrder_L83 v0 k107 n v4 v5 N) P → W p l e rm_X3_stepToNextOrder s m args below meth c H locs 0 0 Q (F0 m 83 ls []) := by
  have hx := X.1.1
  have hb := X.1.2.1
  intro n
  induction n with
  | zero =>
    intro v4 v5 N H locs ls hR hS hl hp
    exact (show False from hp).elim
  | succ n ih =>
    intro v4 v5 N H locs ls hR hS hl hp
    rw [f_X3_stepToNextOrder_L83] at hp
    refine lv_iload hx hb dX3_stepToNextOrder_83 (lv_at hl 1 rfl) ?_
    refine lv_iload hx hb dX3_stepToNextOrder_85 (lv_at hl 2 rfl) ?_
    refine lv_icmp_ge (tgt := 107) hx hb dX3_stepToNextOrder_87 (by decide) (fun k19 => ?_) (fun k19 => ?_)
    · have hp := owp_t k19 hp
      exact hk107 _ _ _ _ hR hS (lv_sub hl [] rfl) hp
    · have hp := owp_f k19 hp
      refine lv_aload_n hx hb dX3_stepToNextOrder_90 rfl (lv_at hl 0 rfl) ?_
      refine lv_iload hx hb dX3_stepToNextOrder_91 (lv_at hl 1 rfl) ?_
      refine lv_iload hx hb dX3_stepToNextOrder_93 (lv_at hl 2 rfl) ?_
      obtain ⟨_, N20, e_N20, hp⟩ := owp_ob2 hp
      refine iv_X3_swap (rest := []) mw_X3_125 X hR hS e_N20 hl.1 (Nat.le_of_ble_eq_true rfl) ⟨Nat.le_of_ble_eq_true rfl, Nat.le_of_ble_eq_true rfl⟩ ⟨Nat.le_of_ble_eq_true rfl, Nat.le_of_ble_eq_true rfl⟩ dX3_stepToNextOrder_95 (fun H locs hR hS => ?_)
      refine lv_iinc (v := v4 + 1) (lv' := [(4, .int (v4 + 1)), (0, .ref v0), (5, .int v5)]) hx hb dX3_stepToNextOrder_98 hl (k := 1) rfl rfl (by decide) rfl (fun ls hl => ?_)
      refine lv_iinc (v := v5 + (-1 : Int32)) (lv' := [(5, .int (v5 + (-1 : Int32))), (4, .int (v4 + 1)), (0, .ref v0)]) hx hb dX3_stepToNextOrder_101 hl (k := 2) rfl rfl (by decide) rfl (fun ls hl => ?_)
      refine lv_goto (tgt := 83) hx hb dX3_stepToNextOrder_104 (by decide) ?_
      exact ih _ _ _ _ _ _ hR hS (lv_sub hl [2, 1, 0] rfl) hp
def f_X3_stepToNextOrder_J67 (v0 : Nat) (v1 : Int32) (v2 : Int32) (v3 : Int32) (N : AH) : Option (Int32 × AH) := ob2 (f_X3_swap v0 v2 v3 N) (fun _ N18 => f_X3_stepToNextOrder_L83 v0 (fun N21 => some ((1 : Int32), N21)) FU (v2 + (1 : Int32)) (v1 - (1 : Int32)) N18)
set_option maxHeartbeats 4000000 in
set_option maxRecDepth 100000 in
theorem w_X3_stepToNextOrder_J67 {P : Int32 × AH → Prop} (X : CX cX3_stepToNextOrder RX3 6 G aC t b0 p s m args c) (hr : RtZ p l e rm_X3_stepToNextOrder s m args below meth c 0 0 Q cX3_stepToNextOrder G aC b0 P) (v0 : Nat) (v1 : Int32) (v2 : Int32) (v3 : Int32) (N : AH) (H : Heap) (locs : List Loc) (ls : Array Slot) (hR : Rp G aC b0 N H) (hS : va_S (fun q => b0 ≤ q) s.heap H locs) (hl : lv_has ls 6 [(0, .ref v0), (1, .int v1), (2, .int v2), (3, .int v3)]) (hp : owp (f_X3_stepToNextOrder_J67 v0 v1 v2 v3 N) P) : W p l e rm_X3_stepToNextOrder s m args below meth c H locs 0 0 Q (F0 m 67 ls []) := by
  have hx := X.1.1
  have hb := X.1.2.1
  unfold f_X3_stepToNextOrder_J67 at hp
  refine lv_aload_n hx hb dX3_stepToNextOrder_67 rfl (lv_at hl 0 rfl) ?_
  refine lv_iload_n hx hb dX3_stepToNextOrder_68 rfl (lv_at hl 2 rfl) ?_
  refine lv_iload_n hx hb dX3_stepToNextOrder_69 rfl (lv_at hl 3 rfl) ?_
  obtain ⟨_, N18, e_N18, hp⟩ := owp_ob2 hp
  refine iv_X3_swap (rest := []) mw_X3_125 X hR hS e_N18 hl.1 (Nat.le_of_ble_eq_true rfl) ⟨Nat.le_of_ble_eq_true rfl, Nat.le_of_ble_eq_true rfl⟩ ⟨Nat.le_of_ble_eq_true rfl, Nat.le_of_ble_eq_true rfl⟩ dX3_stepToNextOrder_70 (fun H locs hR hS => ?_)
  refine lv_iload_n hx hb dX3_stepToNextOrder_73 rfl (lv_at hl 2 rfl) ?_
  refine lv_iconst (v := (1)) hx hb dX3_stepToNextOrder_74 (by decide) ?_
  refine lv_iadd hx hb dX3_stepToNextOrder_75 ?_
  refine lv_istore (lv' := [(4, .int (v2 + (1 : Int32))), (0, .ref v0), (1, .int v1), (2, .int v2), (3, .int v3)]) hx hb dX3_stepToNextOrder_76 hl (by decide) rfl (fun ls hl => ?_)
  refine lv_iload_n hx hb dX3_stepToNextOrder_78 rfl (lv_at hl 2 rfl) ?_
  refine lv_iconst (v := (1)) hx hb dX3_stepToNextOrder_79 (by decide) ?_
  refine lv_isub hx hb dX3_stepToNextOrder_80 ?_
  refine lv_istore (lv' := [(5, .int (v1 - (1 : Int32))), (4, .int (v2 + (1 : Int32))), (0, .ref v0), (1, .int v1), (2, .int v2), (3, .int v3)]) hx hb dX3_stepToNextOrder_81 hl (by decide) rfl (fun ls hl => ?_)
  refine w_X3_stepToNextOrder_L83 X hr _ (fun N21 H locs ls hR hS hl hp => ?_) _ _ _ _ _ _ _ hR hS (lv_sub hl [2, 1, 0] rfl) hp
  refine lv_iconst (v := (1)) hx hb dX3_stepToNextOrder_107 (by decide) ?_
  exact hr _ _ _ _ _ _ hR hS dX3_stepToNextOrder_108 (rZ_1 hp)
def f_X3_stepToNextOrder_J31 (v0 : Nat) (v1 : Int32) (v2 : Int32) (N : AH) : Option (Int32 × AH) := if 0 ≤ v2 then f_X3_stepToNextOrder_L41 v0 v1 v2 (fun v16 N17 => f_X3_stepToNextOrder_J67 v0 v1 v2 v16 N17) FU (v1 - (1 : Int32)) N else some ((0 : Int32), N)
set_option maxHeartbeats 4000000 in
set_option maxRecDepth 100000 in
theorem w_X3_stepToNextOrder_J31 {P : Int32 × AH → Prop} (X : CX cX3_stepToNextOrder RX3 6 G aC t b0 p s m args c) (hr : RtZ p l e rm_X3_stepToNextOrder s m args below meth c 0 0 Q cX3_stepToNextOrder G aC b0 P) (v0 : Nat) (v1 : Int32) (v2 : Int32) (N : AH) (H : Heap) (locs : List Loc) (ls : Array Slot) (hR : Rp G aC b0 N H) (hS : va_S (fun q => b0 ≤ q) s.heap H locs) (hl : lv_has ls 6 [(0, .ref v0), (1, .int v1), (2, .int v2)]) (hp : owp (f_X3_stepToNextOrder_J31 v0 v1 v2 N) P) : W p l e rm_X3_stepToNextOrder s m args below meth c H locs 0 0 Q (F0 m 31 ls []) := by
  have hx := X.1.1
  have hb := X.1.2.1
  unfold f_X3_stepToNextOrder_J31 at hp
  refine lv_iload_n hx hb dX3_stepToNextOrder_31 rfl (lv_at hl 2 rfl) ?_
  refine lv_if_ge (tgt := 37) hx hb dX3_stepToNextOrder_32 (by decide) (fun k9 => ?_) (fun k9 => ?_)
  · have hp := owp_t k9 hp
    refine lv_iload_n hx hb dX3_stepToNextOrder_37 rfl (lv_at hl 1 rfl) ?_
    refine lv_iconst (v := (1)) hx hb dX3_stepToNextOrder_38 (by decide) ?_
    refine lv_isub hx hb dX3_stepToNextOrder_39 ?_
    refine lv_istore_n (lv' := [(3, .int (v1 - (1 : Int32))), (0, .ref v0), (1, .int v1), (2, .int v2)]) hx hb dX3_stepToNextOrder_40 rfl hl (by decide) rfl (fun ls hl => ?_)
    refine w_X3_stepToNextOrder_L41 X hr _ _ _ (fun v16 N17 H locs ls hR hS hl hp => ?_) _ _ _ _ _ _ hR hS (lv_sub hl [1, 2, 3, 0] rfl) hp
    exact w_X3_stepToNextOrder_J67 X hr _ _ _ _ _ _ _ _ hR hS hl hp
  · have hp := owp_f k9 hp
    refine lv_iconst (v := (0)) hx hb dX3_stepToNextOrder_35 (by decide) ?_
    exact hr _ _ _ _ _ _ hR hS dX3_stepToNextOrder_36 (rZ_0 hp)
def f_X3_stepToNextOrder (v0 : Nat) (v1 : Int32) (N : AH) : Option (Int32 × AH) := ob (iO N v0 3) (fun _ => f_X3_stepToNextOrder_L4 v0 v1 (fun v7 N8 => f_X3_stepToNextOrder_J31 v0 v1 v7 N8) FU (v1 - (2 : Int32)) N)
set_option maxHeartbeats 4000000 in
set_option maxRecDepth 100000 in
theorem wk_X3_stepToNextOrder {P : Int32 × AH → Prop} (X : CX cX3_stepToNextOrder RX3 6 G aC t b0 p s m args c) (hr : RtZ p l e rm_X3_stepToNextOrder s m args below meth c 0 0 Q cX3_stepToNextOrder G aC b0 P) (v0 : Nat) (v1 : Int32) (N : AH) (H : Heap) (locs : List Loc) (ls : Array Slot) (hR : Rp G aC b0 N H) (hS : va_S (fun q => b0 ≤ q) s.heap H locs) (hl : lv_has ls 6 [(0, .ref v0), (1, .int v1)]) (hp : owp (f_X3_stepToNextOrder v0 v1 N) P) : W p l e rm_X3_stepToNextOrder s m args below meth c H locs 0 0 Q (F0 m 0 ls []) := by
  have hx := X.1.1
  have hb := X.1.2.1
  unfold f_X3_stepToNextOrder at hp
  obtain ⟨_, _, hp⟩ := owp_ob hp
  refine lv_iload_n hx hb dX3_stepToNextOrder_0 rfl (lv_at hl 1 rfl) ?_
  refine lv_iconst (v := (2)) hx hb dX3_stepToNextOrder_1 (by decide) ?_
  refine lv_isub hx hb dX3_stepToNextOrder_2 ?_
  refine lv_istore_n (lv' := [(2, .int (v1 - (2 : Int32))), (0, .ref v0), (1, .int v1)]) hx hb dX3_stepToNextOrder_3 rfl hl (by decide) rfl (fun ls hl => ?_)
  refine w_X3_stepToNextOrder_L4 X hr _ _ (fun v7 N8 H locs ls hR hS hl hp => ?_) _ _ _ _ _ _ hR hS (lv_sub hl [1, 2, 0] rfl) hp
  exact w_X3_stepToNextOrder_J31 X hr _ _ _ _ _ _ _ hR hS hl hp
end
theorem ct_X3_stepToNextOrder {v0 : Nat} {v1 : Int32} {N N1 : AH} {r : Int32} (h : f_X3_stepToNextOrder v0 v1 N = some (r, N1)) : Ct yX3_stepToNextOrder cX3_stepToNextOrder 6 (some .boolean) rm_X3_stepToNextOrder [.ref v0, .int v1] N (some (.int r)) N1 :=
  ab_met (own := RX3) (by decide +kernel) rfl (Nat.le_of_ble_eq_true rfl) (fun l G aC t b0 p e s m below meth c ls X hr hlk hnm hR hS hl => wk_X3_stepToNextOrder X (RtZ_met X.1.1 X.1.2.1 hr hlk) _ _ _ _ _ _ hR hS hl (owp_of h))
theorem cw_X3_stepToNextOrder : Cond.code yX3_stepToNextOrder cX3_stepToNextOrder 6 (some .boolean) ∈ WT := WT_of 884 (by decide +kernel) (by decide +kernel)
theorem iv_X3_stepToNextOrder {p : Program} {l : Launch} {e : Env} {R : Room} {s : State} {m : MethodId} {args : Array Value} {below : List Frame} {meth : Method} {c : Code} {H : Heap} {locs : List Loc} {cells slots : Nat} {Q : State → Prop} {cc : ByteArray} {own : String} {nL : Nat} {G : va_G} {aC : Nat → ClassId} {t b0 : Nat} {N N1 : AH} {pc index : Nat} {ls : Array Slot} {rest : List Value} {v0 : Nat} {v1 : Int32} {r : Int32} (w1 : Cond.methodLink own index yX3_stepToNextOrder ∈ WT) (X : CX cc own nL G aC t b0 p s m args c) (hR : Rp G aC b0 N H) (hS : va_S (fun q => b0 ≤ q) s.heap H locs) (h : f_X3_stepToNextOrder v0 v1 N = some (r, N1)) (hls : ls.size = nL) (hW : (rest.map fun v => v.category).sum ≤ 8) (hR1 : 2 ≤ R.frames ∧ 48 ≤ R.locals) (hcs : cells + 0 ≤ R.cells ∧ slots + 0 ≤ R.slots) (hdg : decode cc pc = .ok (.invokevirtual index, 3)) (kk : ∀ (H1 : Heap) (locs1 : List Loc), Rp G aC b0 N1 H1 → va_S (fun q => b0 ≤ q) s.heap H1 locs1 → W p l e R s m args below meth c H1 locs1 cells slots Q (F0 m (pc + 3) ls (.int r :: rest))) : W p l e R s m args below meth c H locs cells slots Q (F0 m pc ls (.int v1 :: .ref v0 :: rest)) :=
  ab_callV (n := 1) (As := [.int v1]) X hR hS (ct_X3_stepToNextOrder h) (ob_rc (c := 3) (N := N) (a := v0) h) (T := TX3) (k := 7) (C := RX3) rfl w1 (WT_of 883 (by decide +kernel) (by decide +kernel)) (WT_of 28 (by decide +kernel) (by decide +kernel)) (WT_of 91 (by decide +kernel) (by decide +kernel)) cw_X3_stepToNextOrder ⟨rfl, by decide +kernel, by decide +kernel, by decide +kernel⟩ rfl hls hW hR1 hcs rfl hdg kk
-- X3_findBestOrder
theorem gf_X3_32 {p : Program} {l : Launch} {e : Env} {R : Room} {s : State} {m : MethodId} {args : Array Value} {below : List Frame} {meth : Method} {c : Code} {H : Heap} {locs : List Loc} {cells slots : Nat} {Q : State → Prop} {cc : ByteArray} {nL : Nat} {G : va_G} {aC : Nat → ClassId} {t b0 : Nat} {N : AH} {pc : Nat} {ls : Array Slot} {rest : List Value} {a : Nat} {v : Nat} (X : CX cc RX3 nL G aC t b0 p s m args c) (hR0 : Rp G aC b0 N H) (hv : hR N a 3 4 = some v) (hdg : decode cc pc = .ok (.getfield 32, 3)) (kk : W p l e R s m args below meth c H locs cells slots Q (F0 m (pc + 3) ls (.ref v :: rest))) : W p l e R s m args below meth c H locs cells slots Q (F0 m pc ls (.ref a :: rest)) := by
  obtain ⟨fs, h1, h2⟩ := hR_ok hv
  exact ab_get (C := RX3) (T := TX3) (n := 7) X hR0 h1 h2 rfl inX3 (by decide) (WT_of 414 (by decide +kernel) (by decide +kernel)) hdg kk
theorem gf_X3_39 {p : Program} {l : Launch} {e : Env} {R : Room} {s : State} {m : MethodId} {args : Array Value} {below : List Frame} {meth : Method} {c : Code} {H : Heap} {locs : List Loc} {cells slots : Nat} {Q : State → Prop} {cc : ByteArray} {nL : Nat} {G : va_G} {aC : Nat → ClassId} {t b0 : Nat} {N : AH} {pc : Nat} {ls : Array Slot} {rest : List Value} {a : Nat} {v : Int32} (X : CX cc RX3 nL G aC t b0 p s m args c) (hR0 : Rp G aC b0 N H) (hv : hI N a 3 5 = some v) (hdg : decode cc pc = .ok (.getfield 39, 3)) (kk : W p l e R s m args below meth c H locs cells slots Q (F0 m (pc + 3) ls (.int v :: rest))) : W p l e R s m args below meth c H locs cells slots Q (F0 m pc ls (.ref a :: rest)) := by
  obtain ⟨fs, h1, h2⟩ := hI_ok hv
  exact ab_get (C := RX3) (T := TX3) (n := 7) X hR0 h1 h2 rfl inX3 (by decide) (WT_of 416 (by decide +kernel) (by decide +kernel)) hdg kk
theorem gf_X3_95 {p : Program} {l : Launch} {e : Env} {R : Room} {s : State} {m : MethodId} {args : Array Value} {below : List Frame} {meth : Method} {c : Code} {H : Heap} {locs : List Loc} {cells slots : Nat} {Q : State → Prop} {cc : ByteArray} {nL : Nat} {G : va_G} {aC : Nat → ClassId} {t b0 : Nat} {N : AH} {pc : Nat} {ls : Array Slot} {rest : List Value} {a : Nat} {v : Int32} (X : CX cc RX3 nL G aC t b0 p s m args c) (hR0 : Rp G aC b0 N H) (hv : hI N a 3 3 = some v) (hdg : decode cc pc = .ok (.getfield 95, 3)) (kk : W p l e R s m args below meth c H locs cells slots Q (F0 m (pc + 3) ls (.int v :: rest))) : W p l e R s m args below meth c H locs cells slots Q (F0 m pc ls (.ref a :: rest)) := by
  obtain ⟨fs, h1, h2⟩ := hI_ok hv
  exact ab_get (C := RX3) (T := TX3) (n := 7) X hR0 h1 h2 rfl inX3 (by decide) (WT_of 412 (by decide +kernel) (by decide +kernel)) hdg kk
theorem mw_X3_91 : Cond.methodLink RX3 91 yX3_listOpen ∈ WT := WT_of 871 (by decide +kernel) (by decide +kernel)
theorem mw_X3_104 : Cond.methodLink RX3 104 yX3_setUpTrial ∈ WT := WT_of 876 (by decide +kernel) (by decide +kernel)
theorem mw_X3_112 : Cond.methodLink RX3 112 yX3_stepToNextOrder ∈ WT := WT_of 881 (by decide +kernel) (by decide +kernel)
theorem pf_X3_95 {p : Program} {l : Launch} {e : Env} {R : Room} {s : State} {m : MethodId} {args : Array Value} {below : List Frame} {meth : Method} {c : Code} {H : Heap} {locs : List Loc} {cells slots : Nat} {Q : State → Prop} {cc : ByteArray} {nL : Nat} {G : va_G} {aC : Nat → ClassId} {t b0 : Nat} {N : AH} {pc : Nat} {ls : Array Slot} {rest : List Value} {N1 : AH} {a : Nat} {v : Int32} (X : CX cc RX3 nL G aC t b0 p s m args c) (hR0 : Rp G aC b0 N H) (hS : va_S (fun q => b0 ≤ q) s.heap H locs) (hv : pI N a 3 3 v = some N1) (hdg : decode cc pc = .ok (.putfield 95, 3)) (kk : ∀ (H1 : Heap) (locs1 : List Loc), Rp G aC b0 N1 H1 → va_S (fun q => b0 ≤ q) s.heap H1 locs1 → W p l e R s m args below meth c H1 locs1 cells slots Q (F0 m (pc + 3) ls rest)) : W p l e R s m args below meth c H locs cells slots Q (F0 m pc ls (.int v :: .ref a :: rest)) := by
  obtain ⟨fs, h1, h2, h3⟩ := pV_ok hv
  subst h3
  exact ab_put (C := RX3) (T := TX3) (n := 7) X hR0 hS h1 h2 rfl inX3 tyX3 tyX3_ok nmX3 (by decide) (WT_of 412 (by decide +kernel) (by decide +kernel)) rfl rfl rfl hdg kk
theorem dX3_findBestOrder_0 : decode cX3_findBestOrder 0 = .ok (.aload_n 0, 1) := by decide +kernel
theorem dX3_findBestOrder_1 : decode cX3_findBestOrder 1 = .ok (.getfield 39, 3) := by decide +kernel
theorem dX3_findBestOrder_4 : decode cX3_findBestOrder 4 = .ok (.ifCond .eq 4, 3) := by decide +kernel
theorem dX3_findBestOrder_7 : decode cX3_findBestOrder 7 = .ok (.return_, 1) := by decide +kernel
theorem dX3_findBestOrder_8 : decode cX3_findBestOrder 8 = .ok (.aload_n 0, 1) := by decide +kernel
theorem dX3_findBestOrder_9 : decode cX3_findBestOrder 9 = .ok (.aload_n 1, 1) := by decide +kernel
theorem dX3_findBestOrder_10 : decode cX3_findBestOrder 10 = .ok (.invokevirtual 91, 3) := by decide +kernel
theorem dX3_findBestOrder_13 : decode cX3_findBestOrder 13 = .ok (.istore_n 2, 1) := by decide +kernel
theorem dX3_findBestOrder_14 : decode cX3_findBestOrder 14 = .ok (.aload_n 0, 1) := by decide +kernel
theorem dX3_findBestOrder_15 : decode cX3_findBestOrder 15 = .ok (.iconst (-1), 1) := by decide +kernel
theorem dX3_findBestOrder_16 : decode cX3_findBestOrder 16 = .ok (.putfield 95, 3) := by decide +kernel
theorem dX3_findBestOrder_19 : decode cX3_findBestOrder 19 = .ok (.aload_n 0, 1) := by decide +kernel
theorem dX3_findBestOrder_20 : decode cX3_findBestOrder 20 = .ok (.getfield 36, 3) := by decide +kernel
theorem dX3_findBestOrder_23 : decode cX3_findBestOrder 23 = .ok (.iconst 0, 1) := by decide +kernel
theorem dX3_findBestOrder_24 : decode cX3_findBestOrder 24 = .ok (.aload_n 0, 1) := by decide +kernel
theorem dX3_findBestOrder_25 : decode cX3_findBestOrder 25 = .ok (.getfield 32, 3) := by decide +kernel
theorem dX3_findBestOrder_28 : decode cX3_findBestOrder 28 = .ok (.iconst 0, 1) := by decide +kernel
theorem dX3_findBestOrder_29 : decode cX3_findBestOrder 29 = .ok (.iconst 4, 1) := by decide +kernel
theorem dX3_findBestOrder_30 : decode cX3_findBestOrder 30 = .ok (.invokestatic 98, 3) := by decide +kernel
theorem dX3_findBestOrder_33 : decode cX3_findBestOrder 33 = .ok (.aload_n 0, 1) := by decide +kernel
theorem dX3_findBestOrder_34 : decode cX3_findBestOrder 34 = .ok (.getfield 28, 3) := by decide +kernel
theorem dX3_findBestOrder_37 : decode cX3_findBestOrder 37 = .ok (.aload_n 1, 1) := by decide +kernel
theorem dX3_findBestOrder_38 : decode cX3_findBestOrder 38 = .ok (.sipush 300, 3) := by decide +kernel
theorem dX3_findBestOrder_41 : decode cX3_findBestOrder 41 = .ok (.invokevirtual 74, 3) := by decide +kernel
theorem dX3_findBestOrder_44 : decode cX3_findBestOrder 44 = .ok (.ifCond .ne 7, 3) := by decide +kernel
theorem dX3_findBestOrder_47 : decode cX3_findBestOrder 47 = .ok (.iconst 1, 1) := by decide +kernel
theorem dX3_findBestOrder_48 : decode cX3_findBestOrder 48 = .ok (.goto 4, 3) := by decide +kernel
theorem dX3_findBestOrder_51 : decode cX3_findBestOrder 51 = .ok (.iconst 0, 1) := by decide +kernel
theorem dX3_findBestOrder_52 : decode cX3_findBestOrder 52 = .ok (.istore_n 3, 1) := by decide +kernel
theorem dX3_findBestOrder_53 : decode cX3_findBestOrder 53 = .ok (.iconst 0, 1) := by decide +kernel
theorem dX3_findBestOrder_54 : decode cX3_findBestOrder 54 = .ok (.istore 4, 2) := by decide +kernel
theorem dX3_findBestOrder_56 : decode cX3_findBestOrder 56 = .ok (.iload 4, 2) := by decide +kernel
theorem dX3_findBestOrder_58 : decode cX3_findBestOrder 58 = .ok (.bipush 24, 2) := by decide +kernel
theorem dX3_findBestOrder_60 : decode cX3_findBestOrder 60 = .ok (.if_icmp .ge 63, 3) := by decide +kernel
theorem dX3_findBestOrder_63 : decode cX3_findBestOrder 63 = .ok (.iload_n 3, 1) := by decide +kernel
theorem dX3_findBestOrder_64 : decode cX3_findBestOrder 64 = .ok (.ifCond .eq 59, 3) := by decide +kernel
theorem dX3_findBestOrder_67 : decode cX3_findBestOrder 67 = .ok (.aload_n 0, 1) := by decide +kernel
theorem dX3_findBestOrder_68 : decode cX3_findBestOrder 68 = .ok (.aload_n 1, 1) := by decide +kernel
theorem dX3_findBestOrder_69 : decode cX3_findBestOrder 69 = .ok (.iload_n 2, 1) := by decide +kernel
theorem dX3_findBestOrder_70 : decode cX3_findBestOrder 70 = .ok (.invokevirtual 104, 3) := by decide +kernel
theorem dX3_findBestOrder_73 : decode cX3_findBestOrder 73 = .ok (.aload_n 0, 1) := by decide +kernel
theorem dX3_findBestOrder_74 : decode cX3_findBestOrder 74 = .ok (.invokevirtual 81, 3) := by decide +kernel
theorem dX3_findBestOrder_77 : decode cX3_findBestOrder 77 = .ok (.istore 5, 2) := by decide +kernel
theorem dX3_findBestOrder_79 : decode cX3_findBestOrder 79 = .ok (.iload 5, 2) := by decide +kernel
theorem dX3_findBestOrder_81 : decode cX3_findBestOrder 81 = .ok (.aload_n 0, 1) := by decide +kernel
theorem dX3_findBestOrder_82 : decode cX3_findBestOrder 82 = .ok (.getfield 95, 3) := by decide +kernel
theorem dX3_findBestOrder_85 : decode cX3_findBestOrder 85 = .ok (.invokestatic 108, 3) := by decide +kernel
theorem dX3_findBestOrder_88 : decode cX3_findBestOrder 88 = .ok (.ifCond .eq 23, 3) := by decide +kernel
theorem dX3_findBestOrder_91 : decode cX3_findBestOrder 91 = .ok (.aload_n 0, 1) := by decide +kernel
theorem dX3_findBestOrder_92 : decode cX3_findBestOrder 92 = .ok (.iload 5, 2) := by decide +kernel
theorem dX3_findBestOrder_94 : decode cX3_findBestOrder 94 = .ok (.putfield 95, 3) := by decide +kernel
theorem dX3_findBestOrder_97 : decode cX3_findBestOrder 97 = .ok (.aload_n 0, 1) := by decide +kernel
theorem dX3_findBestOrder_98 : decode cX3_findBestOrder 98 = .ok (.getfield 36, 3) := by decide +kernel
theorem dX3_findBestOrder_101 : decode cX3_findBestOrder 101 = .ok (.iconst 0, 1) := by decide +kernel
theorem dX3_findBestOrder_102 : decode cX3_findBestOrder 102 = .ok (.aload_n 0, 1) := by decide +kernel
theorem dX3_findBestOrder_103 : decode cX3_findBestOrder 103 = .ok (.getfield 32, 3) := by decide +kernel
theorem dX3_findBestOrder_106 : decode cX3_findBestOrder 106 = .ok (.iconst 0, 1) := by decide +kernel
theorem dX3_findBestOrder_107 : decode cX3_findBestOrder 107 = .ok (.iconst 4, 1) := by decide +kernel
theorem dX3_findBestOrder_108 : decode cX3_findBestOrder 108 = .ok (.invokestatic 98, 3) := by decide +kernel
theorem dX3_findBestOrder_111 : decode cX3_findBestOrder 111 = .ok (.aload_n 0, 1) := by decide +kernel
theorem dX3_findBestOrder_112 : decode cX3_findBestOrder 112 = .ok (.iload_n 2, 1) := by decide +kernel
theorem dX3_findBestOrder_113 : decode cX3_findBestOrder 113 = .ok (.invokevirtual 112, 3) := by decide +kernel
theorem dX3_findBestOrder_116 : decode cX3_findBestOrder 116 = .ok (.istore_n 3, 1) := by decide +kernel
theorem dX3_findBestOrder_117 : decode cX3_findBestOrder 117 = .ok (.iinc 4 1, 3) := by decide +kernel
theorem dX3_findBestOrder_120 : decode cX3_findBestOrder 120 = .ok (.goto (-64), 3) := by decide +kernel
theorem dX3_findBestOrder_123 : decode cX3_findBestOrder 123 = .ok (.aload_n 0, 1) := by decide +kernel
theorem dX3_findBestOrder_124 : decode cX3_findBestOrder 124 = .ok (.iconst 1, 1) := by decide +kernel
theorem dX3_findBestOrder_125 : decode cX3_findBestOrder 125 = .ok (.putfield 39, 3) := by decide +kernel
theorem dX3_findBestOrder_128 : decode cX3_findBestOrder 128 = .ok (.return_, 1) := by decide +kernel
def rm_X3_findBestOrder : Room := { frames := 6, cells := 0, slots := 0, locals := 146 }
section
variable {p : Program} {l : Launch} {e : Env} {s : State} {m : MethodId} {args : Array Value} {below : List Frame} {meth : Method} {c : Code} {Q : State → Prop} {G : va_G} {aC : Nat → ClassId} {t b0 : Nat}
def f_X3_findBestOrder_L56 (v0 : Nat) (v1 : Nat) (v2 : Int32) (k123 : AH → Option (Unit × AH)) : Nat → Int32 → Int32 → AH → Option (Unit × AH)
  | 0, _, _, _ => none
  | n + 1, v3, v4, N => if (24 : Int32) ≤ v4 then k123 N else if v3 = 0 then k123 N else ob2 (f_X3_setUpTrial v0 v1 v2 N) (fun _ N15 => ob2 (f_X3_runToTotal v0 N15) (fun x17 N16 => ob (hI N16 v0 3 3) (fun x18 => ob2 (f_X9_isLess x17 x18 N16) (fun x20 N19 => if x20 = 0 then ob2 (f_X3_stepToNextOrder v0 v2 N19) (fun x23 N22 => f_X3_findBestOrder_L56 v0 v1 v2 k123 n x23 (v4 + 1) N22) else ob (pI N19 v0 3 3 x17) (fun N24 => ob (hR N24 v0 3 6) (fun x25 => ob (hR N24 v0 3 4) (fun x26 => ob (cI N24 x25 (0 : Int32) x26 (0 : Int32) (4 : Int32)) (fun N27 => ob2 (f_X3_stepToNextOrder v0 v2 N27) (fun x29 N28 => f_X3_findBestOrder_L56 v0 v1 v2 k123 n x29 (v4 + 1) N28)))))))))
set_option maxHeartbeats 4000000 in
set_option maxRecDepth 100000 in
theorem w_X3_findBestOrder_L56 {P : Unit × AH → Prop} (X : CX cX3_findBestOrder RX3 6 G aC t b0 p s m args c) (hr : RtV p l e rm_X3_findBestOrder s m args below meth c 0 0 Q cX3_findBestOrder G aC b0 P) (v0 : Nat) (v1 : Nat) (v2 : Int32) {k123 : AH → Option (Unit × AH)}
    (hk123 : ∀ (N : AH) (H : Heap) (locs : List Loc) (ls : Array Slot), Rp G aC b0 N H → va_S (fun q => b0 ≤ q) s.heap H locs → lv_has ls 6 [(0, .ref v0)] → owp (k123 N) P → W p l e rm_X3_findBestOrder s m args below meth c H locs 0 0 Q (F0 m 123 ls [])) :
    ∀ (n : Nat) (v3 : Int32) (v4 : Int32) (N : AH) (H : Heap) (locs : List Loc) (ls : Array Slot), Rp G aC b0 N H → va_S (fun q => b0 ≤ q) s.heap H locs → lv_has ls 6 [(0, .ref v0), (1, .ref v1), (2, .int v2), (3, .int v3), (4, .int v4)] → owp (f_X3_findBestOrder_L56 v0 v1 v2 k123 n v3 v4 N) P → W p l e rm_X3_findBestOrder s m args below meth c H locs 0 0 Q (F0 m 56 ls []) := by
  have hx := X.1.1
  have hb := X.1.2.1
  intro n
  induction n with
  | zero =>
    intro v3 v4 N H locs ls hR hS hl hp
    exact (show False from hp).elim
  | succ n ih =>
    intro v3 v4 N H locs ls hR hS hl hp
    rw [f_X3_findBestOrder_L56] at hp
    refine lv_iload hx hb dX3_findBestOrder_56 (lv_at hl 4 rfl) ?_
    refine lv_bipush (v := (24)) hx hb dX3_findBestOrder_58 (by decide) ?_
    refine lv_icmp_ge (tgt := 123) hx hb dX3_findBestOrder_60 (by decide) (fun k13 => ?_) (fun k13 => ?_)
    · have hp := owp_t k13 hp
      exact hk123 _ _ _ _ hR hS (lv_sub hl [0] rfl) hp
    · have hp := owp_f k13 hp
      refine lv_iload_n hx hb dX3_findBestOrder_63 rfl (lv_at hl 3 rfl) ?_
      refine lv_if_eq (tgt := 123) hx hb dX3_findBestOrder_64 (by decide) (fun k14 => ?_) (fun k14 => ?_)
      · have hp := owp_t k14 hp
        exact hk123 _ _ _ _ hR hS (lv_sub hl [0] rfl) hp
      · have hp := owp_f k14 hp
        refine lv_aload_n hx hb dX3_findBestOrder_67 rfl (lv_at hl 0 rfl) ?_
        refine lv_aload_n hx hb dX3_findBestOrder_68 rfl (lv_at hl 1 rfl) ?_
        refine lv_iload_n hx hb dX3_findBestOrder_69 rfl (lv_at hl 2 rfl) ?_
        obtain ⟨_, N15, e_N15, hp⟩ := owp_ob2 hp
        refine iv_X3_setUpTrial (rest := []) mw_X3_104 X hR hS e_N15 hl.1 (Nat.le_of_ble_eq_true rfl) ⟨Nat.le_of_ble_eq_true rfl, Nat.le_of_ble_eq_true rfl⟩ ⟨Nat.le_of_ble_eq_true rfl, Nat.le_of_ble_eq_true rfl⟩ dX3_findBestOrder_70 (fun H locs hR hS => ?_)
        refine lv_aload_n hx hb dX3_findBestOrder_73 rfl (lv_at hl 0 rfl) ?_
        obtain ⟨x17, N16, e_N16, hp⟩ := owp_ob2 hp
        refine iv_X3_runToTotal (rest := []) mw_X3_81 X hR hS e_N16 hl.1 (Nat.le_of_ble_eq_true rfl) ⟨Nat.le_of_ble_eq_true rfl, Nat.le_of_ble_eq_true rfl⟩ ⟨Nat.le_of_ble_eq_true rfl, Nat.le_of_ble_eq_true rfl⟩ dX3_findBestOrder_74 (fun H locs hR hS => ?_)
        refine lv_istore (lv' := [(5, .int x17), (0, .ref v0), (1, .ref v1), (2, .int v2), (3, .int v3), (4, .int v4)]) hx hb dX3_findBestOrder_77 hl (by decide) rfl (fun ls hl => ?_)
        refine lv_iload hx hb dX3_findBestOrder_79 (lv_at hl 0 rfl) ?_
        refine lv_aload_n hx hb dX3_findBestOrder_81 rfl (lv_at hl 1 rfl) ?_
        obtain ⟨x18, e_x18, hp⟩ := owp_ob hp
        refine gf_X3_95 X hR e_x18 dX3_findBestOrder_82 ?_
        obtain ⟨x20, N19, e_N19, hp⟩ := owp_ob2 hp
        refine ivN_X9_isLess (rest := []) (by simp [NWs, yX9_isLess]) X hR hS e_N19 hl.1 (Nat.le_of_ble_eq_true rfl) ⟨Nat.le_of_ble_eq_true rfl, Nat.le_of_ble_eq_true rfl⟩ ⟨Nat.le_of_ble_eq_true rfl, Nat.le_of_ble_eq_true rfl⟩ dX3_findBestOrder_85 (fun H locs hR hS => ?_)
        refine lv_if_eq (tgt := 111) hx hb dX3_findBestOrder_88 (by decide) (fun k21 => ?_) (fun k21 => ?_)
        · have hp := owp_t k21 hp
          refine lv_aload_n hx hb dX3_findBestOrder_111 rfl (lv_at hl 1 rfl) ?_
          refine lv_iload_n hx hb dX3_findBestOrder_112 rfl (lv_at hl 3 rfl) ?_
          obtain ⟨x23, N22, e_N22, hp⟩ := owp_ob2 hp
          refine iv_X3_stepToNextOrder (rest := []) mw_X3_112 X hR hS e_N22 hl.1 (Nat.le_of_ble_eq_true rfl) ⟨Nat.le_of_ble_eq_true rfl, Nat.le_of_ble_eq_true rfl⟩ ⟨Nat.le_of_ble_eq_true rfl, Nat.le_of_ble_eq_true rfl⟩ dX3_findBestOrder_113 (fun H locs hR hS => ?_)
          refine lv_istore_n (lv' := [(3, .int x23), (5, .int x17), (0, .ref v0), (1, .ref v1), (2, .int v2), (4, .int v4)]) hx hb dX3_findBestOrder_116 rfl hl (by decide) rfl (fun ls hl => ?_)
          refine lv_iinc (v := v4 + 1) (lv' := [(4, .int (v4 + 1)), (3, .int x23), (5, .int x17), (0, .ref v0), (1, .ref v1), (2, .int v2)]) hx hb dX3_findBestOrder_117 hl (k := 5) rfl rfl (by decide) rfl (fun ls hl => ?_)
          refine lv_goto (tgt := 56) hx hb dX3_findBestOrder_120 (by decide) ?_
          exact ih _ _ _ _ _ _ hR hS (lv_sub hl [3, 4, 5, 1, 0] rfl) hp
        · have hp := owp_f k21 hp
          refine lv_aload_n hx hb dX3_findBestOrder_91 rfl (lv_at hl 1 rfl) ?_
          refine lv_iload hx hb dX3_findBestOrder_92 (lv_at hl 0 rfl) ?_
          obtain ⟨N24, e_N24, hp⟩ := owp_ob hp
          refine pf_X3_95 X hR hS e_N24 dX3_findBestOrder_94 (fun H locs hR hS => ?_)
          refine lv_aload_n hx hb dX3_findBestOrder_97 rfl (lv_at hl 1 rfl) ?_
          obtain ⟨x25, e_x25, hp⟩ := owp_ob hp
          refine gf_X3_36 X hR e_x25 dX3_findBestOrder_98 ?_
          refine lv_iconst (v := (0)) hx hb dX3_findBestOrder_101 (by decide) ?_
          refine lv_aload_n hx hb dX3_findBestOrder_102 rfl (lv_at hl 1 rfl) ?_
          obtain ⟨x26, e_x26, hp⟩ := owp_ob hp
          refine gf_X3_32 X hR e_x26 dX3_findBestOrder_103 ?_
          refine lv_iconst (v := (0)) hx hb dX3_findBestOrder_106 (by decide) ?_
          refine lv_iconst (v := (4)) hx hb dX3_findBestOrder_107 (by decide) ?_
          obtain ⟨N27, e_N27, hp⟩ := owp_ob hp
          refine ab_copy X hR hS (WT_of 875 (by decide +kernel) (by decide +kernel)) w_acN w_acS w_acI e_N27 hl.1 (Nat.le_of_ble_eq_true rfl) (Nat.le_of_ble_eq_true rfl) dX3_findBestOrder_108 (fun H locs hR hS => ?_)
          refine lv_aload_n hx hb dX3_findBestOrder_111 rfl (lv_at hl 1 rfl) ?_
          refine lv_iload_n hx hb dX3_findBestOrder_112 rfl (lv_at hl 3 rfl) ?_
          obtain ⟨x29, N28, e_N28, hp⟩ := owp_ob2 hp
          refine iv_X3_stepToNextOrder (rest := []) mw_X3_112 X hR hS e_N28 hl.1 (Nat.le_of_ble_eq_true rfl) ⟨Nat.le_of_ble_eq_true rfl, Nat.le_of_ble_eq_true rfl⟩ ⟨Nat.le_of_ble_eq_true rfl, Nat.le_of_ble_eq_true rfl⟩ dX3_findBestOrder_113 (fun H locs hR hS => ?_)
          refine lv_istore_n (lv' := [(3, .int x29), (5, .int x17), (0, .ref v0), (1, .ref v1), (2, .int v2), (4, .int v4)]) hx hb dX3_findBestOrder_116 rfl hl (by decide) rfl (fun ls hl => ?_)
          refine lv_iinc (v := v4 + 1) (lv' := [(4, .int (v4 + 1)), (3, .int x29), (5, .int x17), (0, .ref v0), (1, .ref v1), (2, .int v2)]) hx hb dX3_findBestOrder_117 hl (k := 5) rfl rfl (by decide) rfl (fun ls hl => ?_)
          refine lv_goto (tgt := 56) hx hb dX3_findBestOrder_120 (by decide) ?_
          exact ih _ _ _ _ _ _ hR hS (lv_sub hl [3, 4, 5, 1, 0] rfl) hp
def f_X3_findBestOrder (v0 : Nat) (v1 : Nat) (N : AH) : Option (Unit × AH) := ob (iO N v0 3) (fun _ => ob (hI N v0 3 5) (fun x1 => if x1 = 0 then ob2 (f_X3_listOpen v0 v1 N) (fun x4 N3 => ob (pI N3 v0 3 3 (-1 : Int32)) (fun N5 => ob (hR N5 v0 3 6) (fun x6 => ob (hR N5 v0 3 4) (fun x7 => ob (cI N5 x6 (0 : Int32) x7 (0 : Int32) (4 : Int32)) (fun N8 => ob (hR N8 v0 3 2) (fun x9 => ob2 (f_X6_needMoreThan x9 v1 (300 : Int32) N8) (fun x11 N10 => if ¬ x11 = 0 then f_X3_findBestOrder_L56 v0 v1 x4 (fun N30 => ob (pZ N30 v0 3 5 (1 : Int32)) (fun N31 => some ((), N31))) FU (0 : Int32) (0 : Int32) N10 else f_X3_findBestOrder_L56 v0 v1 x4 (fun N32 => ob (pZ N32 v0 3 5 (1 : Int32)) (fun N33 => some ((), N33))) FU (1 : Int32) (0 : Int32) N10))))))) else some ((), N)))
set_option maxHeartbeats 4000000 in
set_option maxRecDepth 100000 in
theorem wk_X3_findBestOrder {P : Unit × AH → Prop} (X : CX cX3_findBestOrder RX3 6 G aC t b0 p s m args c) (hr : RtV p l e rm_X3_findBestOrder s m args below meth c 0 0 Q cX3_findBestOrder G aC b0 P) (v0 : Nat) (v1 : Nat) (N : AH) (H : Heap) (locs : List Loc) (ls : Array Slot) (hR : Rp G aC b0 N H) (hS : va_S (fun q => b0 ≤ q) s.heap H locs) (hl : lv_has ls 6 [(0, .ref v0), (1, .ref v1)]) (hp : owp (f_X3_findBestOrder v0 v1 N) P) : W p l e rm_X3_findBestOrder s m args below meth c H locs 0 0 Q (F0 m 0 ls []) := by
  have hx := X.1.1
  have hb := X.1.2.1
  unfold f_X3_findBestOrder at hp
  obtain ⟨_, _, hp⟩ := owp_ob hp
  refine lv_aload_n hx hb dX3_findBestOrder_0 rfl (lv_at hl 0 rfl) ?_
  obtain ⟨x1, e_x1, hp⟩ := owp_ob hp
  refine gf_X3_39 X hR e_x1 dX3_findBestOrder_1 ?_
  refine lv_if_eq (tgt := 8) hx hb dX3_findBestOrder_4 (by decide) (fun k2 => ?_) (fun k2 => ?_)
  · have hp := owp_t k2 hp
    refine lv_aload_n hx hb dX3_findBestOrder_8 rfl (lv_at hl 0 rfl) ?_
    refine lv_aload_n hx hb dX3_findBestOrder_9 rfl (lv_at hl 1 rfl) ?_
    obtain ⟨x4, N3, e_N3, hp⟩ := owp_ob2 hp
    refine iv_X3_listOpen (rest := []) mw_X3_91 X hR hS e_N3 hl.1 (Nat.le_of_ble_eq_true rfl) ⟨Nat.le_of_ble_eq_true rfl, Nat.le_of_ble_eq_true rfl⟩ ⟨Nat.le_of_ble_eq_true rfl, Nat.le_of_ble_eq_true rfl⟩ dX3_findBestOrder_10 (fun H locs hR hS => ?_)
    refine lv_istore_n (lv' := [(2, .int x4), (0, .ref v0), (1, .ref v1)]) hx hb dX3_findBestOrder_13 rfl hl (by decide) rfl (fun ls hl => ?_)
    refine lv_aload_n hx hb dX3_findBestOrder_14 rfl (lv_at hl 1 rfl) ?_
    refine lv_iconst (v := (-1)) hx hb dX3_findBestOrder_15 (by decide) ?_
    obtain ⟨N5, e_N5, hp⟩ := owp_ob hp
    refine pf_X3_95 X hR hS e_N5 dX3_findBestOrder_16 (fun H locs hR hS => ?_)
    refine lv_aload_n hx hb dX3_findBestOrder_19 rfl (lv_at hl 1 rfl) ?_
    obtain ⟨x6, e_x6, hp⟩ := owp_ob hp
    refine gf_X3_36 X hR e_x6 dX3_findBestOrder_20 ?_
    refine lv_iconst (v := (0)) hx hb dX3_findBestOrder_23 (by decide) ?_
    refine lv_aload_n hx hb dX3_findBestOrder_24 rfl (lv_at hl 1 rfl) ?_
    obtain ⟨x7, e_x7, hp⟩ := owp_ob hp
    refine gf_X3_32 X hR e_x7 dX3_findBestOrder_25 ?_
    refine lv_iconst (v := (0)) hx hb dX3_findBestOrder_28 (by decide) ?_
    refine lv_iconst (v := (4)) hx hb dX3_findBestOrder_29 (by decide) ?_
    obtain ⟨N8, e_N8, hp⟩ := owp_ob hp
    refine ab_copy X hR hS (WT_of 875 (by decide +kernel) (by decide +kernel)) w_acN w_acS w_acI e_N8 hl.1 (Nat.le_of_ble_eq_true rfl) (Nat.le_of_ble_eq_true rfl) dX3_findBestOrder_30 (fun H locs hR hS => ?_)
    refine lv_aload_n hx hb dX3_findBestOrder_33 rfl (lv_at hl 1 rfl) ?_
    obtain ⟨x9, e_x9, hp⟩ := owp_ob hp
    refine gf_X3_28 X hR e_x9 dX3_findBestOrder_34 ?_
    refine lv_aload_n hx hb dX3_findBestOrder_37 rfl (lv_at hl 2 rfl) ?_
    refine lv_sipush (v := (300)) hx hb dX3_findBestOrder_38 (by decide) ?_
    obtain ⟨x11, N10, e_N10, hp⟩ := owp_ob2 hp
    refine iv_X6_needMoreThan (rest := []) mw_X3_74 X hR hS e_N10 hl.1 (Nat.le_of_ble_eq_true rfl) ⟨Nat.le_of_ble_eq_true rfl, Nat.le_of_ble_eq_true rfl⟩ ⟨Nat.le_of_ble_eq_true rfl, Nat.le_of_ble_eq_true rfl⟩ dX3_findBestOrder_41 (fun H locs hR hS => ?_)
    refine lv_if_ne (tgt := 51) hx hb dX3_findBestOrder_44 (by decide) (fun k12 => ?_) (fun k12 => ?_)
    · have hp := owp_t k12 hp
      refine lv_iconst (v := (0)) hx hb dX3_findBestOrder_51 (by decide) ?_
      refine lv_istore_n (lv' := [(3, .int (0 : Int32)), (2, .int x4), (0, .ref v0), (1, .ref v1)]) hx hb dX3_findBestOrder_52 rfl hl (by decide) rfl (fun ls hl => ?_)
      refine lv_iconst (v := (0)) hx hb dX3_findBestOrder_53 (by decide) ?_
      refine lv_istore (lv' := [(4, .int (0 : Int32)), (3, .int (0 : Int32)), (2, .int x4), (0, .ref v0), (1, .ref v1)]) hx hb dX3_findBestOrder_54 hl (by decide) rfl (fun ls hl => ?_)
      refine w_X3_findBestOrder_L56 X hr _ _ _ (fun N30 H locs ls hR hS hl hp => ?_) _ _ _ _ _ _ _ hR hS (lv_sub hl [3, 4, 2, 1, 0] rfl) hp
      refine lv_aload_n hx hb dX3_findBestOrder_123 rfl (lv_at hl 0 rfl) ?_
      refine lv_iconst (v := (1)) hx hb dX3_findBestOrder_124 (by decide) ?_
      obtain ⟨N31, e_N31, hp⟩ := owp_ob hp
      refine pf_X3_39 X hR hS e_N31 dX3_findBestOrder_125 (fun H locs hR hS => ?_)
      exact hr _ _ _ _ _ hR hS dX3_findBestOrder_128 hp
    · have hp := owp_f (fun q => q k12) hp
      refine lv_iconst (v := (1)) hx hb dX3_findBestOrder_47 (by decide) ?_
      refine lv_goto (tgt := 52) hx hb dX3_findBestOrder_48 (by decide) ?_
      refine lv_istore_n (lv' := [(3, .int (1 : Int32)), (2, .int x4), (0, .ref v0), (1, .ref v1)]) hx hb dX3_findBestOrder_52 rfl hl (by decide) rfl (fun ls hl => ?_)
      refine lv_iconst (v := (0)) hx hb dX3_findBestOrder_53 (by decide) ?_
      refine lv_istore (lv' := [(4, .int (0 : Int32)), (3, .int (1 : Int32)), (2, .int x4), (0, .ref v0), (1, .ref v1)]) hx hb dX3_findBestOrder_54 hl (by decide) rfl (fun ls hl => ?_)
      refine w_X3_findBestOrder_L56 X hr _ _ _ (fun N32 H locs ls hR hS hl hp => ?_) _ _ _ _ _ _ _ hR hS (lv_sub hl [3, 4, 2, 1, 0] rfl) hp
      refine lv_aload_n hx hb dX3_findBestOrder_123 rfl (lv_at hl 0 rfl) ?_
      refine lv_iconst (v := (1)) hx hb dX3_findBestOrder_124 (by decide) ?_
      obtain ⟨N33, e_N33, hp⟩ := owp_ob hp
      refine pf_X3_39 X hR hS e_N33 dX3_findBestOrder_125 (fun H locs hR hS => ?_)
      exact hr _ _ _ _ _ hR hS dX3_findBestOrder_128 hp
  · have hp := owp_f k2 hp
    exact hr _ _ _ _ _ hR hS dX3_findBestOrder_7 hp
end
theorem ct_X3_findBestOrder {v0 : Nat} {v1 : Nat} {N N1 : AH} {r : Unit} (h : f_X3_findBestOrder v0 v1 N = some (r, N1)) : Ct yX3_findBestOrder cX3_findBestOrder 6 none rm_X3_findBestOrder [.ref v0, .ref v1] N none N1 :=
  ab_met (own := RX3) (by decide +kernel) rfl (Nat.le_of_ble_eq_true rfl) (fun l G aC t b0 p e s m below meth c ls X hr hlk hnm hR hS hl => wk_X3_findBestOrder X (RtV_met X.1.1 X.1.2.1 hr hlk) _ _ _ _ _ _ hR hS hl (owp_of h))
theorem cw_X3_findBestOrder : Cond.code yX3_findBestOrder cX3_findBestOrder 6 none ∈ WT := WT_of 870 (by decide +kernel) (by decide +kernel)
theorem iv_X3_findBestOrder {p : Program} {l : Launch} {e : Env} {R : Room} {s : State} {m : MethodId} {args : Array Value} {below : List Frame} {meth : Method} {c : Code} {H : Heap} {locs : List Loc} {cells slots : Nat} {Q : State → Prop} {cc : ByteArray} {own : String} {nL : Nat} {G : va_G} {aC : Nat → ClassId} {t b0 : Nat} {N N1 : AH} {pc index : Nat} {ls : Array Slot} {rest : List Value} {v0 : Nat} {v1 : Nat} {r : Unit} (w1 : Cond.methodLink own index yX3_findBestOrder ∈ WT) (X : CX cc own nL G aC t b0 p s m args c) (hR : Rp G aC b0 N H) (hS : va_S (fun q => b0 ≤ q) s.heap H locs) (h : f_X3_findBestOrder v0 v1 N = some (r, N1)) (hls : ls.size = nL) (hW : (rest.map fun v => v.category).sum ≤ 8) (hR1 : 7 ≤ R.frames ∧ 171 ≤ R.locals) (hcs : cells + 0 ≤ R.cells ∧ slots + 0 ≤ R.slots) (hdg : decode cc pc = .ok (.invokevirtual index, 3)) (kk : ∀ (H1 : Heap) (locs1 : List Loc), Rp G aC b0 N1 H1 → va_S (fun q => b0 ≤ q) s.heap H1 locs1 → W p l e R s m args below meth c H1 locs1 cells slots Q (F0 m (pc + 3) ls rest)) : W p l e R s m args below meth c H locs cells slots Q (F0 m pc ls (.ref v1 :: .ref v0 :: rest)) :=
  ab_callV (n := 1) (As := [.ref v1]) X hR hS (ct_X3_findBestOrder h) (ob_rc (c := 3) (N := N) (a := v0) h) (T := TX3) (k := 7) (C := RX3) rfl w1 (WT_of 868 (by decide +kernel) (by decide +kernel)) (WT_of 869 (by decide +kernel) (by decide +kernel)) (WT_of 91 (by decide +kernel) (by decide +kernel)) cw_X3_findBestOrder ⟨rfl, by decide +kernel, by decide +kernel, by decide +kernel⟩ rfl hls hW hR1 hcs rfl hdg kk
-- X5_init
theorem gf_X5_11 {p : Program} {l : Launch} {e : Env} {R : Room} {s : State} {m : MethodId} {args : Array Value} {below : List Frame} {meth : Method} {c : Code} {H : Heap} {locs : List Loc} {cells slots : Nat} {Q : State → Prop} {cc : ByteArray} {nL : Nat} {G : va_G} {aC : Nat → ClassId} {t b0 : Nat} {N : AH} {pc : Nat} {ls : Array Slot} {rest : List Value} {a : Nat} {v : Nat} (X : CX cc RX5 nL G aC t b0 p s m args c) (hR0 : Rp G aC b0 N H) (hv : hR N a 5 2 = some v) (hdg : decode cc pc = .ok (.getfield 11, 3)) (kk : W p l e R s m args below meth c H locs cells slots Q (F0 m (pc + 3) ls (.ref v :: rest))) : W p l e R s m args below meth c H locs cells slots Q (F0 m pc ls (.ref a :: rest)) := by
  obtain ⟨fs, h1, h2⟩ := hR_ok hv
  exact ab_get (C := RX5) (T := TX5) (n := 3) X hR0 h1 h2 rfl inX5 (by decide) (WT_of 333 (by decide +kernel) (by decide +kernel)) hdg kk
theorem mw_X5_17 : Cond.methodLink RX5 17 yX7_init ∈ WT := WT_of 329 (by decide +kernel) (by decide +kernel)
theorem pf_X5_11 {p : Program} {l : Launch} {e : Env} {R : Room} {s : State} {m : MethodId} {args : Array Value} {below : List Frame} {meth : Method} {c : Code} {H : Heap} {locs : List Loc} {cells slots : Nat} {Q : State → Prop} {cc : ByteArray} {nL : Nat} {G : va_G} {aC : Nat → ClassId} {t b0 : Nat} {N : AH} {pc : Nat} {ls : Array Slot} {rest : List Value} {N1 : AH} {a : Nat} {v : Nat} (X : CX cc RX5 nL G aC t b0 p s m args c) (hR0 : Rp G aC b0 N H) (hS : va_S (fun q => b0 ≤ q) s.heap H locs) (hmn : meth.name = "<init>") (hv : pR N a 5 2 v = some N1) (hdg : decode cc pc = .ok (.putfield 11, 3)) (kk : ∀ (H1 : Heap) (locs1 : List Loc), Rp G aC b0 N1 H1 → va_S (fun q => b0 ≤ q) s.heap H1 locs1 → W p l e R s m args below meth c H1 locs1 cells slots Q (F0 m (pc + 3) ls rest)) : W p l e R s m args below meth c H locs cells slots Q (F0 m pc ls (.ref v :: .ref a :: rest)) := by
  obtain ⟨fs, h1, h2, h3⟩ := pV_ok hv
  subst h3
  exact ab_putF (C := RX5) (T := TX5) (n := 3) X hR0 hS hmn h1 h2 rfl inX5 tyX5 tyX5_ok nmX5 (by decide) (WT_of 333 (by decide +kernel) (by decide +kernel)) rfl rfl rfl rfl hdg kk
theorem dX5_init_0 : decode cX5_init 0 = .ok (.aload_n 0, 1) := by decide +kernel
theorem dX5_init_1 : decode cX5_init 1 = .ok (.invokespecial 3, 3) := by decide +kernel
theorem dX5_init_4 : decode cX5_init 4 = .ok (.aload_n 0, 1) := by decide +kernel
theorem dX5_init_5 : decode cX5_init 5 = .ok (.bipush 6, 2) := by decide +kernel
theorem dX5_init_7 : decode cX5_init 7 = .ok (.anewarray 9, 3) := by decide +kernel
theorem dX5_init_10 : decode cX5_init 10 = .ok (.putfield 11, 3) := by decide +kernel
theorem dX5_init_13 : decode cX5_init 13 = .ok (.iconst 0, 1) := by decide +kernel
theorem dX5_init_14 : decode cX5_init 14 = .ok (.istore_n 1, 1) := by decide +kernel
theorem dX5_init_15 : decode cX5_init 15 = .ok (.iload_n 1, 1) := by decide +kernel
theorem dX5_init_16 : decode cX5_init 16 = .ok (.bipush 6, 2) := by decide +kernel
theorem dX5_init_18 : decode cX5_init 18 = .ok (.if_icmp .ge 22, 3) := by decide +kernel
theorem dX5_init_21 : decode cX5_init 21 = .ok (.aload_n 0, 1) := by decide +kernel
theorem dX5_init_22 : decode cX5_init 22 = .ok (.getfield 11, 3) := by decide +kernel
theorem dX5_init_25 : decode cX5_init 25 = .ok (.iload_n 1, 1) := by decide +kernel
theorem dX5_init_26 : decode cX5_init 26 = .ok (.new 9, 3) := by decide +kernel
theorem dX5_init_29 : decode cX5_init 29 = .ok (.dup, 1) := by decide +kernel
theorem dX5_init_30 : decode cX5_init 30 = .ok (.invokespecial 17, 3) := by decide +kernel
theorem dX5_init_33 : decode cX5_init 33 = .ok (.aastore, 1) := by decide +kernel
theorem dX5_init_34 : decode cX5_init 34 = .ok (.iinc 1 1, 3) := by decide +kernel
theorem dX5_init_37 : decode cX5_init 37 = .ok (.goto (-22), 3) := by decide +kernel
theorem dX5_init_40 : decode cX5_init 40 = .ok (.return_, 1) := by decide +kernel
def rm_X5_init : Room := { frames := 4, cells := 589, slots := 7872, locals := 73 }
section
variable {p : Program} {l : Launch} {e : Env} {s : State} {m : MethodId} {args : Array Value} {below : List Frame} {meth : Method} {c : Code} {Q : State → Prop} {G : va_G} {aC : Nat → ClassId} {t b0 : Nat}
def f_X5_init (v0 : Nat) (N : AH) : Option (Unit × AH) := ob (pR (nR0 N 3 6) v0 5 2 N.1) (fun N1 => ob (hR N1 v0 5 2) (fun x3 => ob2 (f_X7_init N1.1 (nO N1 7 zX7)) (fun _ N4 => ob (sR N4 3 7 x3 (0 : Int32) N1.1) (fun N5 => ob (hR N5 v0 5 2) (fun x7 => ob2 (f_X7_init N5.1 (nO N5 7 zX7)) (fun _ N8 => ob (sR N8 3 7 x7 (1 : Int32) N5.1) (fun N9 => ob (hR N9 v0 5 2) (fun x11 => ob2 (f_X7_init N9.1 (nO N9 7 zX7)) (fun _ N12 => ob (sR N12 3 7 x11 (2 : Int32) N9.1) (fun N13 => ob (hR N13 v0 5 2) (fun x15 => ob2 (f_X7_init N13.1 (nO N13 7 zX7)) (fun _ N16 => ob (sR N16 3 7 x15 (3 : Int32) N13.1) (fun N17 => ob (hR N17 v0 5 2) (fun x19 => ob2 (f_X7_init N17.1 (nO N17 7 zX7)) (fun _ N20 => ob (sR N20 3 7 x19 (4 : Int32) N17.1) (fun N21 => ob (hR N21 v0 5 2) (fun x23 => ob2 (f_X7_init N21.1 (nO N21 7 zX7)) (fun _ N24 => ob (sR N24 3 7 x23 (5 : Int32) N21.1) (fun N25 => some ((), N25))))))))))))))))))))
set_option maxHeartbeats 4000000 in
set_option maxRecDepth 100000 in
theorem wk_X5_init {P : Unit × AH → Prop} (X : CX cX5_init RX5 2 G aC t b0 p s m args c) (hr : RtV p l e rm_X5_init s m args below meth c 589 7872 Q cX5_init G aC b0 P) (hmn : meth.name = "<init>") (v0 : Nat) (N : AH) (H : Heap) (locs : List Loc) (ls : Array Slot) (hR : Rp G aC b0 N H) (hS : va_S (fun q => b0 ≤ q) s.heap H locs) (hl : lv_has ls 2 [(0, .ref v0)]) (hp : owp (f_X5_init v0 N) P) : W p l e rm_X5_init s m args below meth c H locs 0 0 Q (F0 m 0 ls []) := by
  have hx := X.1.1
  have hb := X.1.2.1
  unfold f_X5_init at hp
  refine lv_aload_n hx hb dX5_init_0 rfl (lv_at hl 0 rfl) ?_
  refine ab_objI X (WT_of 326 (by decide +kernel) (by decide +kernel)) w_objI w_objC hl.1 (Nat.le_of_ble_eq_true rfl) (Nat.le_of_ble_eq_true rfl) dX5_init_1 ?_
  refine lv_aload_n hx hb dX5_init_4 rfl (lv_at hl 0 rfl) ?_
  refine lv_bipush (v := (6)) hx hb dX5_init_5 (by decide) ?_
  refine ab_newR (kd := 3) (C := RX7) (k := 6) X hR hS rfl (WT_of 327 (by decide +kernel) (by decide +kernel)) X.2.2.2.1.2 (by decide) rfl (Nat.le_of_ble_eq_true rfl) (Nat.le_of_ble_eq_true rfl) (Nat.le_of_ble_eq_true rfl) dX5_init_7 (fun H hR hS => ?_)
  refine W.widen (k := 1) (n := 6) (Nat.le_of_ble_eq_true rfl) (Nat.le_of_ble_eq_true rfl) ?_
  obtain ⟨N1, e_N1, hp⟩ := owp_ob hp
  refine pf_X5_11 X hR hS hmn e_N1 dX5_init_10 (fun H locs hR hS => ?_)
  refine lv_iconst (v := (0)) hx hb dX5_init_13 (by decide) ?_
  refine lv_istore_n (lv' := [(1, .int (0 : Int32)), (0, .ref v0)]) hx hb dX5_init_14 rfl hl (by decide) rfl (fun ls hl => ?_)
  refine lv_iload_n hx hb dX5_init_15 rfl (lv_at hl 0 rfl) ?_
  refine lv_bipush (v := (6)) hx hb dX5_init_16 (by decide) ?_
  refine lv_icmp_ge (tgt := 40) hx hb dX5_init_18 (by decide) (fun k2 => absurd k2 (by decide)) (fun k2 => ?_)
  refine lv_aload_n hx hb dX5_init_21 rfl (lv_at hl 1 rfl) ?_
  obtain ⟨x3, e_x3, hp⟩ := owp_ob hp
  refine gf_X5_11 X hR e_x3 dX5_init_22 ?_
  refine lv_iload_n hx hb dX5_init_25 rfl (lv_at hl 0 rfl) ?_
  refine no_X7 (own := RX5) X hR hS (WT_of 327 (by decide +kernel) (by decide +kernel)) (Nat.le_of_ble_eq_true rfl) (Nat.le_of_ble_eq_true rfl) dX5_init_26 (fun H hR hS => ?_)
  refine W.widen (k := 2) (n := 18) (Nat.le_of_ble_eq_true rfl) (Nat.le_of_ble_eq_true rfl) ?_
  refine lv_dup hx hb dX5_init_29 rfl ?_
  obtain ⟨_, N4, e_N4, hp⟩ := owp_ob2 hp
  refine iv_X7_init (rest := [.ref N1.1, .int (0 : Int32), .ref x3]) mw_X5_17 X hR hS e_N4 hl.1 (Nat.le_of_ble_eq_true rfl) ⟨Nat.le_of_ble_eq_true rfl, Nat.le_of_ble_eq_true rfl⟩ ⟨Nat.le_of_ble_eq_true rfl, Nat.le_of_ble_eq_true rfl⟩ dX5_init_30 (fun H locs hR hS => ?_)
  refine W.widen (k := 99) (n := 1317) (Nat.le_of_ble_eq_true rfl) (Nat.le_of_ble_eq_true rfl) ?_
  obtain ⟨N5, e_N5, hp⟩ := owp_ob hp
  refine ab_aast X hR hS (kd := 3) (r := (RX7, TX7, 12)) rfl rfl e_N5 dX5_init_33 (fun H locs hR hS => ?_)
  refine lv_iinc (v := (1 : Int32)) (lv' := [(1, .int (1 : Int32)), (0, .ref v0)]) hx hb dX5_init_34 hl (k := 0) rfl rfl (by decide) rfl (fun ls hl => ?_)
  refine lv_goto (tgt := 15) hx hb dX5_init_37 (by decide) ?_
  refine lv_iload_n hx hb dX5_init_15 rfl (lv_at hl 0 rfl) ?_
  refine lv_bipush (v := (6)) hx hb dX5_init_16 (by decide) ?_
  refine lv_icmp_ge (tgt := 40) hx hb dX5_init_18 (by decide) (fun k6 => absurd k6 (by decide)) (fun k6 => ?_)
  refine lv_aload_n hx hb dX5_init_21 rfl (lv_at hl 1 rfl) ?_
  obtain ⟨x7, e_x7, hp⟩ := owp_ob hp
  refine gf_X5_11 X hR e_x7 dX5_init_22 ?_
  refine lv_iload_n hx hb dX5_init_25 rfl (lv_at hl 0 rfl) ?_
  refine no_X7 (own := RX5) X hR hS (WT_of 327 (by decide +kernel) (by decide +kernel)) (Nat.le_of_ble_eq_true rfl) (Nat.le_of_ble_eq_true rfl) dX5_init_26 (fun H hR hS => ?_)
  refine W.widen (k := 100) (n := 1329) (Nat.le_of_ble_eq_true rfl) (Nat.le_of_ble_eq_true rfl) ?_
  refine lv_dup hx hb dX5_init_29 rfl ?_
  obtain ⟨_, N8, e_N8, hp⟩ := owp_ob2 hp
  refine iv_X7_init (rest := [.ref N5.1, .int (1 : Int32), .ref x7]) mw_X5_17 X hR hS e_N8 hl.1 (Nat.le_of_ble_eq_true rfl) ⟨Nat.le_of_ble_eq_true rfl, Nat.le_of_ble_eq_true rfl⟩ ⟨Nat.le_of_ble_eq_true rfl, Nat.le_of_ble_eq_true rfl⟩ dX5_init_30 (fun H locs hR hS => ?_)
  refine W.widen (k := 197) (n := 2628) (Nat.le_of_ble_eq_true rfl) (Nat.le_of_ble_eq_true rfl) ?_
  obtain ⟨N9, e_N9, hp⟩ := owp_ob hp
  refine ab_aast X hR hS (kd := 3) (r := (RX7, TX7, 12)) rfl rfl e_N9 dX5_init_33 (fun H locs hR hS => ?_)
  refine lv_iinc (v := (2 : Int32)) (lv' := [(1, .int (2 : Int32)), (0, .ref v0)]) hx hb dX5_init_34 hl (k := 0) rfl rfl (by decide) rfl (fun ls hl => ?_)
  refine lv_goto (tgt := 15) hx hb dX5_init_37 (by decide) ?_
  refine lv_iload_n hx hb dX5_init_15 rfl (lv_at hl 0 rfl) ?_
  refine lv_bipush (v := (6)) hx hb dX5_init_16 (by decide) ?_
  refine lv_icmp_ge (tgt := 40) hx hb dX5_init_18 (by decide) (fun k10 => absurd k10 (by decide)) (fun k10 => ?_)
  refine lv_aload_n hx hb dX5_init_21 rfl (lv_at hl 1 rfl) ?_
  obtain ⟨x11, e_x11, hp⟩ := owp_ob hp
  refine gf_X5_11 X hR e_x11 dX5_init_22 ?_
  refine lv_iload_n hx hb dX5_init_25 rfl (lv_at hl 0 rfl) ?_
  refine no_X7 (own := RX5) X hR hS (WT_of 327 (by decide +kernel) (by decide +kernel)) (Nat.le_of_ble_eq_true rfl) (Nat.le_of_ble_eq_true rfl) dX5_init_26 (fun H hR hS => ?_)
  refine W.widen (k := 198) (n := 2640) (Nat.le_of_ble_eq_true rfl) (Nat.le_of_ble_eq_true rfl) ?_
  refine lv_dup hx hb dX5_init_29 rfl ?_
  obtain ⟨_, N12, e_N12, hp⟩ := owp_ob2 hp
  refine iv_X7_init (rest := [.ref N9.1, .int (2 : Int32), .ref x11]) mw_X5_17 X hR hS e_N12 hl.1 (Nat.le_of_ble_eq_true rfl) ⟨Nat.le_of_ble_eq_true rfl, Nat.le_of_ble_eq_true rfl⟩ ⟨Nat.le_of_ble_eq_true rfl, Nat.le_of_ble_eq_true rfl⟩ dX5_init_30 (fun H locs hR hS => ?_)
  refine W.widen (k := 295) (n := 3939) (Nat.le_of_ble_eq_true rfl) (Nat.le_of_ble_eq_true rfl) ?_
  obtain ⟨N13, e_N13, hp⟩ := owp_ob hp
  refine ab_aast X hR hS (kd := 3) (r := (RX7, TX7, 12)) rfl rfl e_N13 dX5_init_33 (fun H locs hR hS => ?_)
  refine lv_iinc (v := (3 : Int32)) (lv' := [(1, .int (3 : Int32)), (0, .ref v0)]) hx hb dX5_init_34 hl (k := 0) rfl rfl (by decide) rfl (fun ls hl => ?_)
  refine lv_goto (tgt := 15) hx hb dX5_init_37 (by decide) ?_
  refine lv_iload_n hx hb dX5_init_15 rfl (lv_at hl 0 rfl) ?_
  refine lv_bipush (v := (6)) hx hb dX5_init_16 (by decide) ?_
  refine lv_icmp_ge (tgt := 40) hx hb dX5_init_18 (by decide) (fun k14 => absurd k14 (by decide)) (fun k14 => ?_)
  refine lv_aload_n hx hb dX5_init_21 rfl (lv_at hl 1 rfl) ?_
  obtain ⟨x15, e_x15, hp⟩ := owp_ob hp
  refine gf_X5_11 X hR e_x15 dX5_init_22 ?_
  refine lv_iload_n hx hb dX5_init_25 rfl (lv_at hl 0 rfl) ?_
  refine no_X7 (own := RX5) X hR hS (WT_of 327 (by decide +kernel) (by decide +kernel)) (Nat.le_of_ble_eq_true rfl) (Nat.le_of_ble_eq_true rfl) dX5_init_26 (fun H hR hS => ?_)
  refine W.widen (k := 296) (n := 3951) (Nat.le_of_ble_eq_true rfl) (Nat.le_of_ble_eq_true rfl) ?_
  refine lv_dup hx hb dX5_init_29 rfl ?_
  obtain ⟨_, N16, e_N16, hp⟩ := owp_ob2 hp
  refine iv_X7_init (rest := [.ref N13.1, .int (3 : Int32), .ref x15]) mw_X5_17 X hR hS e_N16 hl.1 (Nat.le_of_ble_eq_true rfl) ⟨Nat.le_of_ble_eq_true rfl, Nat.le_of_ble_eq_true rfl⟩ ⟨Nat.le_of_ble_eq_true rfl, Nat.le_of_ble_eq_true rfl⟩ dX5_init_30 (fun H locs hR hS => ?_)
  refine W.widen (k := 393) (n := 5250) (Nat.le_of_ble_eq_true rfl) (Nat.le_of_ble_eq_true rfl) ?_
  obtain ⟨N17, e_N17, hp⟩ := owp_ob hp
  refine ab_aast X hR hS (kd := 3) (r := (RX7, TX7, 12)) rfl rfl e_N17 dX5_init_33 (fun H locs hR hS => ?_)
  refine lv_iinc (v := (4 : Int32)) (lv' := [(1, .int (4 : Int32)), (0, .ref v0)]) hx hb dX5_init_34 hl (k := 0) rfl rfl (by decide) rfl (fun ls hl => ?_)
  refine lv_goto (tgt := 15) hx hb dX5_init_37 (by decide) ?_
  refine lv_iload_n hx hb dX5_init_15 rfl (lv_at hl 0 rfl) ?_
  refine lv_bipush (v := (6)) hx hb dX5_init_16 (by decide) ?_
  refine lv_icmp_ge (tgt := 40) hx hb dX5_init_18 (by decide) (fun k18 => absurd k18 (by decide)) (fun k18 => ?_)
  refine lv_aload_n hx hb dX5_init_21 rfl (lv_at hl 1 rfl) ?_
  obtain ⟨x19, e_x19, hp⟩ := owp_ob hp
  refine gf_X5_11 X hR e_x19 dX5_init_22 ?_
  refine lv_iload_n hx hb dX5_init_25 rfl (lv_at hl 0 rfl) ?_
  refine no_X7 (own := RX5) X hR hS (WT_of 327 (by decide +kernel) (by decide +kernel)) (Nat.le_of_ble_eq_true rfl) (Nat.le_of_ble_eq_true rfl) dX5_init_26 (fun H hR hS => ?_)
  refine W.widen (k := 394) (n := 5262) (Nat.le_of_ble_eq_true rfl) (Nat.le_of_ble_eq_true rfl) ?_
  refine lv_dup hx hb dX5_init_29 rfl ?_
  obtain ⟨_, N20, e_N20, hp⟩ := owp_ob2 hp
  refine iv_X7_init (rest := [.ref N17.1, .int (4 : Int32), .ref x19]) mw_X5_17 X hR hS e_N20 hl.1 (Nat.le_of_ble_eq_true rfl) ⟨Nat.le_of_ble_eq_true rfl, Nat.le_of_ble_eq_true rfl⟩ ⟨Nat.le_of_ble_eq_true rfl, Nat.le_of_ble_eq_true rfl⟩ dX5_init_30 (fun H locs hR hS => ?_)
  refine W.widen (k := 491) (n := 6561) (Nat.le_of_ble_eq_true rfl) (Nat.le_of_ble_eq_true rfl) ?_
  obtain ⟨N21, e_N21, hp⟩ := owp_ob hp
  refine ab_aast X hR hS (kd := 3) (r := (RX7, TX7, 12)) rfl rfl e_N21 dX5_init_33 (fun H locs hR hS => ?_)
  refine lv_iinc (v := (5 : Int32)) (lv' := [(1, .int (5 : Int32)), (0, .ref v0)]) hx hb dX5_init_34 hl (k := 0) rfl rfl (by decide) rfl (fun ls hl => ?_)
  refine lv_goto (tgt := 15) hx hb dX5_init_37 (by decide) ?_
  refine lv_iload_n hx hb dX5_init_15 rfl (lv_at hl 0 rfl) ?_
  refine lv_bipush (v := (6)) hx hb dX5_init_16 (by decide) ?_
  refine lv_icmp_ge (tgt := 40) hx hb dX5_init_18 (by decide) (fun k22 => absurd k22 (by decide)) (fun k22 => ?_)
  refine lv_aload_n hx hb dX5_init_21 rfl (lv_at hl 1 rfl) ?_
  obtain ⟨x23, e_x23, hp⟩ := owp_ob hp
  refine gf_X5_11 X hR e_x23 dX5_init_22 ?_
  refine lv_iload_n hx hb dX5_init_25 rfl (lv_at hl 0 rfl) ?_
  refine no_X7 (own := RX5) X hR hS (WT_of 327 (by decide +kernel) (by decide +kernel)) (Nat.le_of_ble_eq_true rfl) (Nat.le_of_ble_eq_true rfl) dX5_init_26 (fun H hR hS => ?_)
  refine W.widen (k := 492) (n := 6573) (Nat.le_of_ble_eq_true rfl) (Nat.le_of_ble_eq_true rfl) ?_
  refine lv_dup hx hb dX5_init_29 rfl ?_
  obtain ⟨_, N24, e_N24, hp⟩ := owp_ob2 hp
  refine iv_X7_init (rest := [.ref N21.1, .int (5 : Int32), .ref x23]) mw_X5_17 X hR hS e_N24 hl.1 (Nat.le_of_ble_eq_true rfl) ⟨Nat.le_of_ble_eq_true rfl, Nat.le_of_ble_eq_true rfl⟩ ⟨Nat.le_of_ble_eq_true rfl, Nat.le_of_ble_eq_true rfl⟩ dX5_init_30 (fun H locs hR hS => ?_)
  refine W.widen (k := 589) (n := 7872) (Nat.le_of_ble_eq_true rfl) (Nat.le_of_ble_eq_true rfl) ?_
  obtain ⟨N25, e_N25, hp⟩ := owp_ob hp
  refine ab_aast X hR hS (kd := 3) (r := (RX7, TX7, 12)) rfl rfl e_N25 dX5_init_33 (fun H locs hR hS => ?_)
  refine lv_iinc (v := (6 : Int32)) (lv' := [(1, .int (6 : Int32)), (0, .ref v0)]) hx hb dX5_init_34 hl (k := 0) rfl rfl (by decide) rfl (fun ls hl => ?_)
  refine lv_goto (tgt := 15) hx hb dX5_init_37 (by decide) ?_
  refine lv_iload_n hx hb dX5_init_15 rfl (lv_at hl 0 rfl) ?_
  refine lv_bipush (v := (6)) hx hb dX5_init_16 (by decide) ?_
  refine lv_icmp_ge (tgt := 40) hx hb dX5_init_18 (by decide) (fun k26 => ?_) (fun k26 => absurd k26 (by decide))
  exact hr _ _ _ _ _ hR hS dX5_init_40 hp
end
theorem ct_X5_init {v0 : Nat} {N N1 : AH} {r : Unit} (h : f_X5_init v0 N = some (r, N1)) : Ct yX5_init cX5_init 2 none rm_X5_init [.ref v0] N none N1 :=
  ab_met (own := RX5) (by decide +kernel) rfl (Nat.le_of_ble_eq_true rfl) (fun l G aC t b0 p e s m below meth c ls X hr hlk hnm hR hS hl => wk_X5_init X (RtV_met X.1.1 X.1.2.1 hr hlk) hnm _ _ _ _ _ hR hS hl (owp_of h))
theorem cw_X5_init : Cond.code yX5_init cX5_init 2 none ∈ WT := WT_of 325 (by decide +kernel) (by decide +kernel)
theorem iv_X5_init {p : Program} {l : Launch} {e : Env} {R : Room} {s : State} {m : MethodId} {args : Array Value} {below : List Frame} {meth : Method} {c : Code} {H : Heap} {locs : List Loc} {cells slots : Nat} {Q : State → Prop} {cc : ByteArray} {own : String} {nL : Nat} {G : va_G} {aC : Nat → ClassId} {t b0 : Nat} {N N1 : AH} {pc index : Nat} {ls : Array Slot} {rest : List Value} {v0 : Nat} {r : Unit} (w1 : Cond.methodLink own index yX5_init ∈ WT) (X : CX cc own nL G aC t b0 p s m args c) (hR : Rp G aC b0 N H) (hS : va_S (fun q => b0 ≤ q) s.heap H locs) (h : f_X5_init v0 N = some (r, N1)) (hls : ls.size = nL) (hW : (rest.map fun v => v.category).sum ≤ 8) (hR1 : 5 ≤ R.frames ∧ 94 ≤ R.locals) (hcs : cells + 589 ≤ R.cells ∧ slots + 7872 ≤ R.slots) (hdg : decode cc pc = .ok (.invokespecial index, 3)) (kk : ∀ (H1 : Heap) (locs1 : List Loc), Rp G aC b0 N1 H1 → va_S (fun q => b0 ≤ q) s.heap H1 locs1 → W p l e R s m args below meth c H1 locs1 (cells + 589) (slots + 7872) Q (F0 m (pc + 3) ls rest)) : W p l e R s m args below meth c H locs cells slots Q (F0 m pc ls (.ref v0 :: rest)) :=
  ab_callI (n := 0) (As := []) X hR hS (ct_X5_init h) w1 (WT_of 324 (by decide +kernel) (by decide +kernel)) (WT_of 88 (by decide +kernel) (by decide +kernel)) cw_X5_init rfl ⟨by decide +kernel, by decide +kernel, by decide +kernel⟩ rfl hls hW hR1 hcs rfl hdg kk
-- X5_keep
theorem gf_X5_18 {p : Program} {l : Launch} {e : Env} {R : Room} {s : State} {m : MethodId} {args : Array Value} {below : List Frame} {meth : Method} {c : Code} {H : Heap} {locs : List Loc} {cells slots : Nat} {Q : State → Prop} {cc : ByteArray} {nL : Nat} {G : va_G} {aC : Nat → ClassId} {t b0 : Nat} {N : AH} {pc : Nat} {ls : Array Slot} {rest : List Value} {a : Nat} {v : Int32} (X : CX cc RX5 nL G aC t b0 p s m args c) (hR0 : Rp G aC b0 N H) (hv : hI N a 5 1 = some v) (hdg : decode cc pc = .ok (.getfield 18, 3)) (kk : W p l e R s m args below meth c H locs cells slots Q (F0 m (pc + 3) ls (.int v :: rest))) : W p l e R s m args below meth c H locs cells slots Q (F0 m pc ls (.ref a :: rest)) := by
  obtain ⟨fs, h1, h2⟩ := hI_ok hv
  exact ab_get (C := RX5) (T := TX5) (n := 3) X hR0 h1 h2 rfl inX5 (by decide) (WT_of 332 (by decide +kernel) (by decide +kernel)) hdg kk
theorem gf_X5_26 {p : Program} {l : Launch} {e : Env} {R : Room} {s : State} {m : MethodId} {args : Array Value} {below : List Frame} {meth : Method} {c : Code} {H : Heap} {locs : List Loc} {cells slots : Nat} {Q : State → Prop} {cc : ByteArray} {nL : Nat} {G : va_G} {aC : Nat → ClassId} {t b0 : Nat} {N : AH} {pc : Nat} {ls : Array Slot} {rest : List Value} {a : Nat} {v : Int32} (X : CX cc RX5 nL G aC t b0 p s m args c) (hR0 : Rp G aC b0 N H) (hv : hI N a 5 0 = some v) (hdg : decode cc pc = .ok (.getfield 26, 3)) (kk : W p l e R s m args below meth c H locs cells slots Q (F0 m (pc + 3) ls (.int v :: rest))) : W p l e R s m args below meth c H locs cells slots Q (F0 m pc ls (.ref a :: rest)) := by
  obtain ⟨fs, h1, h2⟩ := hI_ok hv
  exact ab_get (C := RX5) (T := TX5) (n := 3) X hR0 h1 h2 rfl inX5 (by decide) (WT_of 330 (by decide +kernel) (by decide +kernel)) hdg kk
theorem mw_X5_22 : Cond.methodLink RX5 22 yX7_copyFrom ∈ WT := WT_of 515 (by decide +kernel) (by decide +kernel)
theorem pf_X5_18 {p : Program} {l : Launch} {e : Env} {R : Room} {s : State} {m : MethodId} {args : Array Value} {below : List Frame} {meth : Method} {c : Code} {H : Heap} {locs : List Loc} {cells slots : Nat} {Q : State → Prop} {cc : ByteArray} {nL : Nat} {G : va_G} {aC : Nat → ClassId} {t b0 : Nat} {N : AH} {pc : Nat} {ls : Array Slot} {rest : List Value} {N1 : AH} {a : Nat} {v : Int32} (X : CX cc RX5 nL G aC t b0 p s m args c) (hR0 : Rp G aC b0 N H) (hS : va_S (fun q => b0 ≤ q) s.heap H locs) (hv : pI N a 5 1 v = some N1) (hdg : decode cc pc = .ok (.putfield 18, 3)) (kk : ∀ (H1 : Heap) (locs1 : List Loc), Rp G aC b0 N1 H1 → va_S (fun q => b0 ≤ q) s.heap H1 locs1 → W p l e R s m args below meth c H1 locs1 cells slots Q (F0 m (pc + 3) ls rest)) : W p l e R s m args below meth c H locs cells slots Q (F0 m pc ls (.int v :: .ref a :: rest)) := by
  obtain ⟨fs, h1, h2, h3⟩ := pV_ok hv
  subst h3
  exact ab_put (C := RX5) (T := TX5) (n := 3) X hR0 hS h1 h2 rfl inX5 tyX5 tyX5_ok nmX5 (by decide) (WT_of 332 (by decide +kernel) (by decide +kernel)) rfl rfl rfl hdg kk
theorem pf_X5_26 {p : Program} {l : Launch} {e : Env} {R : Room} {s : State} {m : MethodId} {args : Array Value} {below : List Frame} {meth : Method} {c : Code} {H : Heap} {locs : List Loc} {cells slots : Nat} {Q : State → Prop} {cc : ByteArray} {nL : Nat} {G : va_G} {aC : Nat → ClassId} {t b0 : Nat} {N : AH} {pc : Nat} {ls : Array Slot} {rest : List Value} {N1 : AH} {a : Nat} {v : Int32} (X : CX cc RX5 nL G aC t b0 p s m args c) (hR0 : Rp G aC b0 N H) (hS : va_S (fun q => b0 ≤ q) s.heap H locs) (hv : pI N a 5 0 v = some N1) (hdg : decode cc pc = .ok (.putfield 26, 3)) (kk : ∀ (H1 : Heap) (locs1 : List Loc), Rp G aC b0 N1 H1 → va_S (fun q => b0 ≤ q) s.heap H1 locs1 → W p l e R s m args below meth c H1 locs1 cells slots Q (F0 m (pc + 3) ls rest)) : W p l e R s m args below meth c H locs cells slots Q (F0 m pc ls (.int v :: .ref a :: rest)) := by
  obtain ⟨fs, h1, h2, h3⟩ := pV_ok hv
  subst h3
  exact ab_put (C := RX5) (T := TX5) (n := 3) X hR0 hS h1 h2 rfl inX5 tyX5 tyX5_ok nmX5 (by decide) (WT_of 330 (by decide +kernel) (by decide +kernel)) rfl rfl rfl hdg kk
theorem dX5_keep_0 : decode cX5_keep 0 = .ok (.aload_n 0, 1) := by decide +kernel
theorem dX5_keep_1 : decode cX5_keep 1 = .ok (.getfield 11, 3) := by decide +kernel
theorem dX5_keep_4 : decode cX5_keep 4 = .ok (.aload_n 0, 1) := by decide +kernel
theorem dX5_keep_5 : decode cX5_keep 5 = .ok (.getfield 18, 3) := by decide +kernel
theorem dX5_keep_8 : decode cX5_keep 8 = .ok (.aaload, 1) := by decide +kernel
theorem dX5_keep_9 : decode cX5_keep 9 = .ok (.aload_n 1, 1) := by decide +kernel
theorem dX5_keep_10 : decode cX5_keep 10 = .ok (.invokevirtual 22, 3) := by decide +kernel
theorem dX5_keep_13 : decode cX5_keep 13 = .ok (.aload_n 0, 1) := by decide +kernel
theorem dX5_keep_14 : decode cX5_keep 14 = .ok (.aload_n 0, 1) := by decide +kernel
theorem dX5_keep_15 : decode cX5_keep 15 = .ok (.getfield 18, 3) := by decide +kernel
theorem dX5_keep_18 : decode cX5_keep 18 = .ok (.iconst 1, 1) := by decide +kernel
theorem dX5_keep_19 : decode cX5_keep 19 = .ok (.iadd, 1) := by decide +kernel
theorem dX5_keep_20 : decode cX5_keep 20 = .ok (.bipush 6, 2) := by decide +kernel
theorem dX5_keep_22 : decode cX5_keep 22 = .ok (.irem, 1) := by decide +kernel
theorem dX5_keep_23 : decode cX5_keep 23 = .ok (.putfield 18, 3) := by decide +kernel
theorem dX5_keep_26 : decode cX5_keep 26 = .ok (.aload_n 0, 1) := by decide +kernel
theorem dX5_keep_27 : decode cX5_keep 27 = .ok (.getfield 26, 3) := by decide +kernel
theorem dX5_keep_30 : decode cX5_keep 30 = .ok (.bipush 6, 2) := by decide +kernel
theorem dX5_keep_32 : decode cX5_keep 32 = .ok (.if_icmp .ge 13, 3) := by decide +kernel
theorem dX5_keep_35 : decode cX5_keep 35 = .ok (.aload_n 0, 1) := by decide +kernel
theorem dX5_keep_36 : decode cX5_keep 36 = .ok (.dup, 1) := by decide +kernel
theorem dX5_keep_37 : decode cX5_keep 37 = .ok (.getfield 26, 3) := by decide +kernel
theorem dX5_keep_40 : decode cX5_keep 40 = .ok (.iconst 1, 1) := by decide +kernel
theorem dX5_keep_41 : decode cX5_keep 41 = .ok (.iadd, 1) := by decide +kernel
theorem dX5_keep_42 : decode cX5_keep 42 = .ok (.putfield 26, 3) := by decide +kernel
theorem dX5_keep_45 : decode cX5_keep 45 = .ok (.return_, 1) := by decide +kernel
def rm_X5_keep : Room := { frames := 4, cells := 0, slots := 0, locals := 82 }
section
variable {p : Program} {l : Launch} {e : Env} {s : State} {m : MethodId} {args : Array Value} {below : List Frame} {meth : Method} {c : Code} {Q : State → Prop} {G : va_G} {aC : Nat → ClassId} {t b0 : Nat}
def f_X5_keep (v0 : Nat) (v1 : Nat) (N : AH) : Option (Unit × AH) := ob (iO N v0 5) (fun _ => ob (hR N v0 5 2) (fun x1 => ob (hI N v0 5 1) (fun x2 => ob (aR N 3 x1 x2) (fun x3 => ob2 (f_X7_copyFrom x3 v1 N) (fun _ N4 => ob (hI N4 v0 5 1) (fun x5 => ob (dM (x5 + (1 : Int32)) (6 : Int32)) (fun x6 => ob (pI N4 v0 5 1 x6) (fun N7 => ob (hI N7 v0 5 0) (fun x8 => if (6 : Int32) ≤ x8 then some ((), N7) else ob (hI N7 v0 5 0) (fun x10 => ob (pI N7 v0 5 0 (x10 + (1 : Int32))) (fun N11 => some ((), N11))))))))))))
set_option maxHeartbeats 4000000 in
set_option maxRecDepth 100000 in
theorem wk_X5_keep {P : Unit × AH → Prop} (X : CX cX5_keep RX5 2 G aC t b0 p s m args c) (hr : RtV p l e rm_X5_keep s m args below meth c 0 0 Q cX5_keep G aC b0 P) (v0 : Nat) (v1 : Nat) (N : AH) (H : Heap) (locs : List Loc) (ls : Array Slot) (hR : Rp G aC b0 N H) (hS : va_S (fun q => b0 ≤ q) s.heap H locs) (hl : lv_has ls 2 [(0, .ref v0), (1, .ref v1)]) (hp : owp (f_X5_keep v0 v1 N) P) : W p l e rm_X5_keep s m args below meth c H locs 0 0 Q (F0 m 0 ls []) := by
  have hx := X.1.1
  have hb := X.1.2.1
  unfold f_X5_keep at hp
  obtain ⟨_, _, hp⟩ := owp_ob hp
  refine lv_aload_n hx hb dX5_keep_0 rfl (lv_at hl 0 rfl) ?_
  obtain ⟨x1, e_x1, hp⟩ := owp_ob hp
  refine gf_X5_11 X hR e_x1 dX5_keep_1 ?_
  refine lv_aload_n hx hb dX5_keep_4 rfl (lv_at hl 0 rfl) ?_
  obtain ⟨x2, e_x2, hp⟩ := owp_ob hp
  refine gf_X5_18 X hR e_x2 dX5_keep_5 ?_
  obtain ⟨x3, e_x3, hp⟩ := owp_ob hp
  refine ab_aald X hR (kd := 3) rfl e_x3 dX5_keep_8 ?_
  refine lv_aload_n hx hb dX5_keep_9 rfl (lv_at hl 1 rfl) ?_
  obtain ⟨_, N4, e_N4, hp⟩ := owp_ob2 hp
  refine iv_X7_copyFrom (rest := []) mw_X5_22 X hR hS e_N4 hl.1 (Nat.le_of_ble_eq_true rfl) ⟨Nat.le_of_ble_eq_true rfl, Nat.le_of_ble_eq_true rfl⟩ ⟨Nat.le_of_ble_eq_true rfl, Nat.le_of_ble_eq_true rfl⟩ dX5_keep_10 (fun H locs hR hS => ?_)
  refine lv_aload_n hx hb dX5_keep_13 rfl (lv_at hl 0 rfl) ?_
  refine lv_aload_n hx hb dX5_keep_14 rfl (lv_at hl 0 rfl) ?_
  obtain ⟨x5, e_x5, hp⟩ := owp_ob hp
  refine gf_X5_18 X hR e_x5 dX5_keep_15 ?_
  refine lv_iconst (v := (1)) hx hb dX5_keep_18 (by decide) ?_
  refine lv_iadd hx hb dX5_keep_19 ?_
  refine lv_bipush (v := (6)) hx hb dX5_keep_20 (by decide) ?_
  obtain ⟨x6, e_x6, hp⟩ := owp_ob hp
  refine ab_irem X e_x6 dX5_keep_22 ?_
  obtain ⟨N7, e_N7, hp⟩ := owp_ob hp
  refine pf_X5_18 X hR hS e_N7 dX5_keep_23 (fun H locs hR hS => ?_)
  refine lv_aload_n hx hb dX5_keep_26 rfl (lv_at hl 0 rfl) ?_
  obtain ⟨x8, e_x8, hp⟩ := owp_ob hp
  refine gf_X5_26 X hR e_x8 dX5_keep_27 ?_
  refine lv_bipush (v := (6)) hx hb dX5_keep_30 (by decide) ?_
  refine lv_icmp_ge (tgt := 45) hx hb dX5_keep_32 (by decide) (fun k9 => ?_) (fun k9 => ?_)
  · have hp := owp_t k9 hp
    exact hr _ _ _ _ _ hR hS dX5_keep_45 hp
  · have hp := owp_f k9 hp
    refine lv_aload_n hx hb dX5_keep_35 rfl (lv_at hl 0 rfl) ?_
    refine lv_dup hx hb dX5_keep_36 rfl ?_
    obtain ⟨x10, e_x10, hp⟩ := owp_ob hp
    refine gf_X5_26 X hR e_x10 dX5_keep_37 ?_
    refine lv_iconst (v := (1)) hx hb dX5_keep_40 (by decide) ?_
    refine lv_iadd hx hb dX5_keep_41 ?_
    obtain ⟨N11, e_N11, hp⟩ := owp_ob hp
    refine pf_X5_26 X hR hS e_N11 dX5_keep_42 (fun H locs hR hS => ?_)
    exact hr _ _ _ _ _ hR hS dX5_keep_45 hp
end
theorem ct_X5_keep {v0 : Nat} {v1 : Nat} {N N1 : AH} {r : Unit} (h : f_X5_keep v0 v1 N = some (r, N1)) : Ct yX5_keep cX5_keep 2 none rm_X5_keep [.ref v0, .ref v1] N none N1 :=
  ab_met (own := RX5) (by decide +kernel) rfl (Nat.le_of_ble_eq_true rfl) (fun l G aC t b0 p e s m below meth c ls X hr hlk hnm hR hS hl => wk_X5_keep X (RtV_met X.1.1 X.1.2.1 hr hlk) _ _ _ _ _ _ hR hS hl (owp_of h))
theorem cw_X5_keep : Cond.code yX5_keep cX5_keep 2 none ∈ WT := WT_of 514 (by decide +kernel) (by decide +kernel)
theorem iv_X5_keep {p : Program} {l : Launch} {e : Env} {R : Room} {s : State} {m : MethodId} {args : Array Value} {below : List Frame} {meth : Method} {c : Code} {H : Heap} {locs : List Loc} {cells slots : Nat} {Q : State → Prop} {cc : ByteArray} {own : String} {nL : Nat} {G : va_G} {aC : Nat → ClassId} {t b0 : Nat} {N N1 : AH} {pc index : Nat} {ls : Array Slot} {rest : List Value} {v0 : Nat} {v1 : Nat} {r : Unit} (w1 : Cond.methodLink own index yX5_keep ∈ WT) (X : CX cc own nL G aC t b0 p s m args c) (hR : Rp G aC b0 N H) (hS : va_S (fun q => b0 ≤ q) s.heap H locs) (h : f_X5_keep v0 v1 N = some (r, N1)) (hls : ls.size = nL) (hW : (rest.map fun v => v.category).sum ≤ 8) (hR1 : 5 ≤ R.frames ∧ 103 ≤ R.locals) (hcs : cells + 0 ≤ R.cells ∧ slots + 0 ≤ R.slots) (hdg : decode cc pc = .ok (.invokevirtual index, 3)) (kk : ∀ (H1 : Heap) (locs1 : List Loc), Rp G aC b0 N1 H1 → va_S (fun q => b0 ≤ q) s.heap H1 locs1 → W p l e R s m args below meth c H1 locs1 cells slots Q (F0 m (pc + 3) ls rest)) : W p l e R s m args below meth c H locs cells slots Q (F0 m pc ls (.ref v1 :: .ref v0 :: rest)) :=
  ab_callV (n := 1) (As := [.ref v1]) X hR hS (ct_X5_keep h) (ob_rc (c := 5) (N := N) (a := v0) h) (T := TX5) (k := 3) (C := RX5) rfl w1 (WT_of 512 (by decide +kernel) (by decide +kernel)) (WT_of 513 (by decide +kernel) (by decide +kernel)) (WT_of 88 (by decide +kernel) (by decide +kernel)) cw_X5_keep ⟨rfl, by decide +kernel, by decide +kernel, by decide +kernel⟩ rfl hls hW hR1 hcs rfl hdg kk
-- X5_bringBack
theorem dX5_bringBack_0 : decode cX5_bringBack 0 = .ok (.aload_n 0, 1) := by decide +kernel
theorem dX5_bringBack_1 : decode cX5_bringBack 1 = .ok (.getfield 26, 3) := by decide +kernel
theorem dX5_bringBack_4 : decode cX5_bringBack 4 = .ok (.ifCond .ne 4, 3) := by decide +kernel
theorem dX5_bringBack_7 : decode cX5_bringBack 7 = .ok (.return_, 1) := by decide +kernel
theorem dX5_bringBack_8 : decode cX5_bringBack 8 = .ok (.aload_n 0, 1) := by decide +kernel
theorem dX5_bringBack_9 : decode cX5_bringBack 9 = .ok (.aload_n 0, 1) := by decide +kernel
theorem dX5_bringBack_10 : decode cX5_bringBack 10 = .ok (.getfield 18, 3) := by decide +kernel
theorem dX5_bringBack_13 : decode cX5_bringBack 13 = .ok (.bipush 6, 2) := by decide +kernel
theorem dX5_bringBack_15 : decode cX5_bringBack 15 = .ok (.iadd, 1) := by decide +kernel
theorem dX5_bringBack_16 : decode cX5_bringBack 16 = .ok (.iconst 1, 1) := by decide +kernel
theorem dX5_bringBack_17 : decode cX5_bringBack 17 = .ok (.isub, 1) := by decide +kernel
theorem dX5_bringBack_18 : decode cX5_bringBack 18 = .ok (.bipush 6, 2) := by decide +kernel
theorem dX5_bringBack_20 : decode cX5_bringBack 20 = .ok (.irem, 1) := by decide +kernel
theorem dX5_bringBack_21 : decode cX5_bringBack 21 = .ok (.putfield 18, 3) := by decide +kernel
theorem dX5_bringBack_24 : decode cX5_bringBack 24 = .ok (.aload_n 0, 1) := by decide +kernel
theorem dX5_bringBack_25 : decode cX5_bringBack 25 = .ok (.dup, 1) := by decide +kernel
theorem dX5_bringBack_26 : decode cX5_bringBack 26 = .ok (.getfield 26, 3) := by decide +kernel
theorem dX5_bringBack_29 : decode cX5_bringBack 29 = .ok (.iconst 1, 1) := by decide +kernel
theorem dX5_bringBack_30 : decode cX5_bringBack 30 = .ok (.isub, 1) := by decide +kernel
theorem dX5_bringBack_31 : decode cX5_bringBack 31 = .ok (.putfield 26, 3) := by decide +kernel
theorem dX5_bringBack_34 : decode cX5_bringBack 34 = .ok (.aload_n 1, 1) := by decide +kernel
theorem dX5_bringBack_35 : decode cX5_bringBack 35 = .ok (.aload_n 0, 1) := by decide +kernel
theorem dX5_bringBack_36 : decode cX5_bringBack 36 = .ok (.getfield 11, 3) := by decide +kernel
theorem dX5_bringBack_39 : decode cX5_bringBack 39 = .ok (.aload_n 0, 1) := by decide +kernel
theorem dX5_bringBack_40 : decode cX5_bringBack 40 = .ok (.getfield 18, 3) := by decide +kernel
theorem dX5_bringBack_43 : decode cX5_bringBack 43 = .ok (.aaload, 1) := by decide +kernel
theorem dX5_bringBack_44 : decode cX5_bringBack 44 = .ok (.invokevirtual 22, 3) := by decide +kernel
theorem dX5_bringBack_47 : decode cX5_bringBack 47 = .ok (.return_, 1) := by decide +kernel
def rm_X5_bringBack : Room := { frames := 4, cells := 0, slots := 0, locals := 82 }
section
variable {p : Program} {l : Launch} {e : Env} {s : State} {m : MethodId} {args : Array Value} {below : List Frame} {meth : Method} {c : Code} {Q : State → Prop} {G : va_G} {aC : Nat → ClassId} {t b0 : Nat}
def f_X5_bringBack (v0 : Nat) (v1 : Nat) (N : AH) : Option (Unit × AH) := ob (iO N v0 5) (fun _ => ob (hI N v0 5 0) (fun x1 => if ¬ x1 = 0 then ob (hI N v0 5 1) (fun x3 => ob (dM ((x3 + (6 : Int32)) - (1 : Int32)) (6 : Int32)) (fun x4 => ob (pI N v0 5 1 x4) (fun N5 => ob (hI N5 v0 5 0) (fun x6 => ob (pI N5 v0 5 0 (x6 - (1 : Int32))) (fun N7 => ob (hR N7 v0 5 2) (fun x8 => ob (hI N7 v0 5 1) (fun x9 => ob (aR N7 3 x8 x9) (fun x10 => ob2 (f_X7_copyFrom v1 x10 N7) (fun _ N11 => some ((), N11)))))))))) else some ((), N)))
set_option maxHeartbeats 4000000 in
set_option maxRecDepth 100000 in
theorem wk_X5_bringBack {P : Unit × AH → Prop} (X : CX cX5_bringBack RX5 2 G aC t b0 p s m args c) (hr : RtV p l e rm_X5_bringBack s m args below meth c 0 0 Q cX5_bringBack G aC b0 P) (v0 : Nat) (v1 : Nat) (N : AH) (H : Heap) (locs : List Loc) (ls : Array Slot) (hR : Rp G aC b0 N H) (hS : va_S (fun q => b0 ≤ q) s.heap H locs) (hl : lv_has ls 2 [(0, .ref v0), (1, .ref v1)]) (hp : owp (f_X5_bringBack v0 v1 N) P) : W p l e rm_X5_bringBack s m args below meth c H locs 0 0 Q (F0 m 0 ls []) := by
  have hx := X.1.1
  have hb := X.1.2.1
  unfold f_X5_bringBack at hp
  obtain ⟨_, _, hp⟩ := owp_ob hp
  refine lv_aload_n hx hb dX5_bringBack_0 rfl (lv_at hl 0 rfl) ?_
  obtain ⟨x1, e_x1, hp⟩ := owp_ob hp
  refine gf_X5_26 X hR e_x1 dX5_bringBack_1 ?_
  refine lv_if_ne (tgt := 8) hx hb dX5_bringBack_4 (by decide) (fun k2 => ?_) (fun k2 => ?_)
  · have hp := owp_t k2 hp
    refine lv_aload_n hx hb dX5_bringBack_8 rfl (lv_at hl 0 rfl) ?_
    refine lv_aload_n hx hb dX5_bringBack_9 rfl (lv_at hl 0 rfl) ?_
    obtain ⟨x3, e_x3, hp⟩ := owp_ob hp
    refine gf_X5_18 X hR e_x3 dX5_bringBack_10 ?_
    refine lv_bipush (v := (6)) hx hb dX5_bringBack_13 (by decide) ?_
    refine lv_iadd hx hb dX5_bringBack_15 ?_
    refine lv_iconst (v := (1)) hx hb dX5_bringBack_16 (by decide) ?_
    refine lv_isub hx hb dX5_bringBack_17 ?_
    refine lv_bipush (v := (6)) hx hb dX5_bringBack_18 (by decide) ?_
    obtain ⟨x4, e_x4, hp⟩ := owp_ob hp
    refine ab_irem X e_x4 dX5_bringBack_20 ?_
    obtain ⟨N5, e_N5, hp⟩ := owp_ob hp
    refine pf_X5_18 X hR hS e_N5 dX5_bringBack_21 (fun H locs hR hS => ?_)
    refine lv_aload_n hx hb dX5_bringBack_24 rfl (lv_at hl 0 rfl) ?_
    refine lv_dup hx hb dX5_bringBack_25 rfl ?_
    obtain ⟨x6, e_x6, hp⟩ := owp_ob hp
    refine gf_X5_26 X hR e_x6 dX5_bringBack_26 ?_
    refine lv_iconst (v := (1)) hx hb dX5_bringBack_29 (by decide) ?_
    refine lv_isub hx hb dX5_bringBack_30 ?_
    obtain ⟨N7, e_N7, hp⟩ := owp_ob hp
    refine pf_X5_26 X hR hS e_N7 dX5_bringBack_31 (fun H locs hR hS => ?_)
    refine lv_aload_n hx hb dX5_bringBack_34 rfl (lv_at hl 1 rfl) ?_
    refine lv_aload_n hx hb dX5_bringBack_35 rfl (lv_at hl 0 rfl) ?_
    obtain ⟨x8, e_x8, hp⟩ := owp_ob hp
    refine gf_X5_11 X hR e_x8 dX5_bringBack_36 ?_
    refine lv_aload_n hx hb dX5_bringBack_39 rfl (lv_at hl 0 rfl) ?_
    obtain ⟨x9, e_x9, hp⟩ := owp_ob hp
    refine gf_X5_18 X hR e_x9 dX5_bringBack_40 ?_
    obtain ⟨x10, e_x10, hp⟩ := owp_ob hp
    refine ab_aald X hR (kd := 3) rfl e_x10 dX5_bringBack_43 ?_
    obtain ⟨_, N11, e_N11, hp⟩ := owp_ob2 hp
    refine iv_X7_copyFrom (rest := []) mw_X5_22 X hR hS e_N11 hl.1 (Nat.le_of_ble_eq_true rfl) ⟨Nat.le_of_ble_eq_true rfl, Nat.le_of_ble_eq_true rfl⟩ ⟨Nat.le_of_ble_eq_true rfl, Nat.le_of_ble_eq_true rfl⟩ dX5_bringBack_44 (fun H locs hR hS => ?_)
    exact hr _ _ _ _ _ hR hS dX5_bringBack_47 hp
  · have hp := owp_f (fun q => q k2) hp
    exact hr _ _ _ _ _ hR hS dX5_bringBack_7 hp
end
theorem ct_X5_bringBack {v0 : Nat} {v1 : Nat} {N N1 : AH} {r : Unit} (h : f_X5_bringBack v0 v1 N = some (r, N1)) : Ct yX5_bringBack cX5_bringBack 2 none rm_X5_bringBack [.ref v0, .ref v1] N none N1 :=
  ab_met (own := RX5) (by decide +kernel) rfl (Nat.le_of_ble_eq_true rfl) (fun l G aC t b0 p e s m below meth c ls X hr hlk hnm hR hS hl => wk_X5_bringBack X (RtV_met X.1.1 X.1.2.1 hr hlk) _ _ _ _ _ _ hR hS hl (owp_of h))
theorem cw_X5_bringBack : Cond.code yX5_bringBack cX5_bringBack 2 none ∈ WT := WT_of 733 (by decide +kernel) (by decide +kernel)
theorem iv_X5_bringBack {p : Program} {l : Launch} {e : Env} {R : Room} {s : State} {m : MethodId} {args : Array Value} {below : List Frame} {meth : Method} {c : Code} {H : Heap} {locs : List Loc} {cells slots : Nat} {Q : State → Prop} {cc : ByteArray} {own : String} {nL : Nat} {G : va_G} {aC : Nat → ClassId} {t b0 : Nat} {N N1 : AH} {pc index : Nat} {ls : Array Slot} {rest : List Value} {v0 : Nat} {v1 : Nat} {r : Unit} (w1 : Cond.methodLink own index yX5_bringBack ∈ WT) (X : CX cc own nL G aC t b0 p s m args c) (hR : Rp G aC b0 N H) (hS : va_S (fun q => b0 ≤ q) s.heap H locs) (h : f_X5_bringBack v0 v1 N = some (r, N1)) (hls : ls.size = nL) (hW : (rest.map fun v => v.category).sum ≤ 8) (hR1 : 5 ≤ R.frames ∧ 103 ≤ R.locals) (hcs : cells + 0 ≤ R.cells ∧ slots + 0 ≤ R.slots) (hdg : decode cc pc = .ok (.invokevirtual index, 3)) (kk : ∀ (H1 : Heap) (locs1 : List Loc), Rp G aC b0 N1 H1 → va_S (fun q => b0 ≤ q) s.heap H1 locs1 → W p l e R s m args below meth c H1 locs1 cells slots Q (F0 m (pc + 3) ls rest)) : W p l e R s m args below meth c H locs cells slots Q (F0 m pc ls (.ref v1 :: .ref v0 :: rest)) :=
  ab_callV (n := 1) (As := [.ref v1]) X hR hS (ct_X5_bringBack h) (ob_rc (c := 5) (N := N) (a := v0) h) (T := TX5) (k := 3) (C := RX5) rfl w1 (WT_of 731 (by decide +kernel) (by decide +kernel)) (WT_of 732 (by decide +kernel) (by decide +kernel)) (WT_of 88 (by decide +kernel) (by decide +kernel)) cw_X5_bringBack ⟨rfl, by decide +kernel, by decide +kernel, by decide +kernel⟩ rfl hls hW hR1 hcs rfl hdg kk
-- X6_addCommitted
theorem dX6_addCommitted_0 : decode cX6_addCommitted 0 = .ok (.aload_n 1, 1) := by decide +kernel
theorem dX6_addCommitted_1 : decode cX6_addCommitted 1 = .ok (.getfield 88, 3) := by decide +kernel
theorem dX6_addCommitted_4 : decode cX6_addCommitted 4 = .ok (.astore_n 3, 1) := by decide +kernel
theorem dX6_addCommitted_5 : decode cX6_addCommitted 5 = .ok (.iconst 0, 1) := by decide +kernel
theorem dX6_addCommitted_6 : decode cX6_addCommitted 6 = .ok (.istore 4, 2) := by decide +kernel
theorem dX6_addCommitted_8 : decode cX6_addCommitted 8 = .ok (.iload 4, 2) := by decide +kernel
theorem dX6_addCommitted_10 : decode cX6_addCommitted 10 = .ok (.aload_n 3, 1) := by decide +kernel
theorem dX6_addCommitted_11 : decode cX6_addCommitted 11 = .ok (.getfield 72, 3) := by decide +kernel
theorem dX6_addCommitted_14 : decode cX6_addCommitted 14 = .ok (.if_icmp .ge 40, 3) := by decide +kernel
theorem dX6_addCommitted_17 : decode cX6_addCommitted 17 = .ok (.aload_n 3, 1) := by decide +kernel
theorem dX6_addCommitted_18 : decode cX6_addCommitted 18 = .ok (.getfield 91, 3) := by decide +kernel
theorem dX6_addCommitted_21 : decode cX6_addCommitted 21 = .ok (.iload 4, 2) := by decide +kernel
theorem dX6_addCommitted_23 : decode cX6_addCommitted 23 = .ok (.iaload, 1) := by decide +kernel
theorem dX6_addCommitted_24 : decode cX6_addCommitted 24 = .ok (.istore 5, 2) := by decide +kernel
theorem dX6_addCommitted_26 : decode cX6_addCommitted 26 = .ok (.aload_n 0, 1) := by decide +kernel
theorem dX6_addCommitted_27 : decode cX6_addCommitted 27 = .ok (.aload_n 3, 1) := by decide +kernel
theorem dX6_addCommitted_28 : decode cX6_addCommitted 28 = .ok (.iload 4, 2) := by decide +kernel
theorem dX6_addCommitted_30 : decode cX6_addCommitted 30 = .ok (.iload_n 2, 1) := by decide +kernel
theorem dX6_addCommitted_31 : decode cX6_addCommitted 31 = .ok (.ifCond .le 12, 3) := by decide +kernel
theorem dX6_addCommitted_34 : decode cX6_addCommitted 34 = .ok (.iload 5, 2) := by decide +kernel
theorem dX6_addCommitted_36 : decode cX6_addCommitted 36 = .ok (.iload_n 2, 1) := by decide +kernel
theorem dX6_addCommitted_37 : decode cX6_addCommitted 37 = .ok (.invokestatic 78, 3) := by decide +kernel
theorem dX6_addCommitted_40 : decode cX6_addCommitted 40 = .ok (.goto 5, 3) := by decide +kernel
theorem dX6_addCommitted_43 : decode cX6_addCommitted 43 = .ok (.iload 5, 2) := by decide +kernel
theorem dX6_addCommitted_45 : decode cX6_addCommitted 45 = .ok (.invokevirtual 81, 3) := by decide +kernel
theorem dX6_addCommitted_48 : decode cX6_addCommitted 48 = .ok (.iinc 4 1, 3) := by decide +kernel
theorem dX6_addCommitted_51 : decode cX6_addCommitted 51 = .ok (.goto (-43), 3) := by decide +kernel
theorem dX6_addCommitted_54 : decode cX6_addCommitted 54 = .ok (.return_, 1) := by decide +kernel
def rm_X6_addCommitted : Room := { frames := 1, cells := 0, slots := 0, locals := 23 }
section
variable {p : Program} {l : Launch} {e : Env} {s : State} {m : MethodId} {args : Array Value} {below : List Frame} {meth : Method} {c : Code} {Q : State → Prop} {G : va_G} {aC : Nat → ClassId} {t b0 : Nat}
def f_X6_addCommitted_L8 (v0 : Nat) (v2 : Int32) (v3 : Nat) (k54 : AH → Option (Unit × AH)) : Nat → Int32 → AH → Option (Unit × AH)
  | 0, _, _ => none
  | n + 1, v4, N => ob (hI N v3 1 0) (fun x2 => if x2 ≤ v4 then k54 N else ob (hR N v3 1 4) (fun x4 => ob (aI N x4 v4) (fun x5 => if v2 ≤ 0 then ob2 (f_X6_add v0 v3 v4 x5 N) (fun _ N7 => f_X6_addCommitted_L8 v0 v2 v3 k54 n (v4 + 1) N7) else ob2 (f_X9_roundedUp x5 v2 N) (fun x9 N8 => ob2 (f_X6_add v0 v3 v4 x9 N8) (fun _ N10 => f_X6_addCommitted_L8 v0 v2 v3 k54 n (v4 + 1) N10)))))
set_option maxHeartbeats 4000000 in
set_option maxRecDepth 100000 in
theorem w_X6_addCommitted_L8 {P : Unit × AH → Prop} (X : CX cX6_addCommitted RX6 6 G aC t b0 p s m args c) (hr : RtV p l e rm_X6_addCommitted s m args below meth c 0 0 Q cX6_addCommitted G aC b0 P) (v0 : Nat) (v2 : Int32) (v3 : Nat) {k54 : AH → Option (Unit × AH)}
    (hk54 : ∀ (N : AH) (H : Heap) (locs : List Loc) (ls : Array Slot), Rp G aC b0 N H → va_S (fun q => b0 ≤ q) s.heap H locs → lv_has ls 6 [] → owp (k54 N) P → W p l e rm_X6_addCommitted s m args below meth c H locs 0 0 Q (F0 m 54 ls [])) :
    ∀ (n : Nat) (v4 : Int32) (N : AH) (H : Heap) (locs : List Loc) (ls : Array Slot), Rp G aC b0 N H → va_S (fun q => b0 ≤ q) s.heap H locs → lv_has ls 6 [(0, .ref v0), (2, .int v2), (3, .ref v3), (4, .int v4)] → owp (f_X6_addCommitted_L8 v0 v2 v3 k54 n v4 N) P → W p l e rm_X6_addCommitted s m args below meth c H locs 0 0 Q (F0 m 8 ls []) := by
  have hx := X.1.1
  have hb := X.1.2.1
  intro n
  induction n with
  | zero =>
    intro v4 N H locs ls hR hS hl hp
    exact (show False from hp).elim
  | succ n ih =>
    intro v4 N H locs ls hR hS hl hp
    rw [f_X6_addCommitted_L8] at hp
    refine lv_iload hx hb dX6_addCommitted_8 (lv_at hl 3 rfl) ?_
    refine lv_aload_n hx hb dX6_addCommitted_10 rfl (lv_at hl 2 rfl) ?_
    obtain ⟨x2, e_x2, hp⟩ := owp_ob hp
    refine gf_X6_72 X hR e_x2 dX6_addCommitted_11 ?_
    refine lv_icmp_ge (tgt := 54) hx hb dX6_addCommitted_14 (by decide) (fun k3 => ?_) (fun k3 => ?_)
    · have hp := owp_t k3 hp
      exact hk54 _ _ _ _ hR hS (lv_sub hl [] rfl) hp
    · have hp := owp_f k3 hp
      refine lv_aload_n hx hb dX6_addCommitted_17 rfl (lv_at hl 2 rfl) ?_
      obtain ⟨x4, e_x4, hp⟩ := owp_ob hp
      refine gf_X6_91 X hR e_x4 dX6_addCommitted_18 ?_
      refine lv_iload hx hb dX6_addCommitted_21 (lv_at hl 3 rfl) ?_
      obtain ⟨x5, e_x5, hp⟩ := owp_ob hp
      refine ab_iald X hR e_x5 dX6_addCommitted_23 ?_
      refine lv_istore (lv' := [(5, .int x5), (0, .ref v0), (2, .int v2), (3, .ref v3), (4, .int v4)]) hx hb dX6_addCommitted_24 hl (by decide) rfl (fun ls hl => ?_)
      refine lv_aload_n hx hb dX6_addCommitted_26 rfl (lv_at hl 1 rfl) ?_
      refine lv_aload_n hx hb dX6_addCommitted_27 rfl (lv_at hl 3 rfl) ?_
      refine lv_iload hx hb dX6_addCommitted_28 (lv_at hl 4 rfl) ?_
      refine lv_iload_n hx hb dX6_addCommitted_30 rfl (lv_at hl 2 rfl) ?_
      refine lv_if_le (tgt := 43) hx hb dX6_addCommitted_31 (by decide) (fun k6 => ?_) (fun k6 => ?_)
      · have hp := owp_t k6 hp
        refine lv_iload hx hb dX6_addCommitted_43 (lv_at hl 0 rfl) ?_
        obtain ⟨_, N7, e_N7, hp⟩ := owp_ob2 hp
        refine iv_X6_add (rest := []) mw_X6_81 X hR hS e_N7 hl.1 (Nat.le_of_ble_eq_true rfl) ⟨Nat.le_of_ble_eq_true rfl, Nat.le_of_ble_eq_true rfl⟩ ⟨Nat.le_of_ble_eq_true rfl, Nat.le_of_ble_eq_true rfl⟩ dX6_addCommitted_45 (fun H locs hR hS => ?_)
        refine lv_iinc (v := v4 + 1) (lv' := [(4, .int (v4 + 1)), (5, .int x5), (0, .ref v0), (2, .int v2), (3, .ref v3)]) hx hb dX6_addCommitted_48 hl (k := 4) rfl rfl (by decide) rfl (fun ls hl => ?_)
        refine lv_goto (tgt := 8) hx hb dX6_addCommitted_51 (by decide) ?_
        exact ih _ _ _ _ _ hR hS (lv_sub hl [2, 3, 4, 0] rfl) hp
      · have hp := owp_f k6 hp
        refine lv_iload hx hb dX6_addCommitted_34 (lv_at hl 0 rfl) ?_
        refine lv_iload_n hx hb dX6_addCommitted_36 rfl (lv_at hl 2 rfl) ?_
        obtain ⟨x9, N8, e_N8, hp⟩ := owp_ob2 hp
        refine ivN_X9_roundedUp (rest := [.int v4, .ref v3, .ref v0]) (by simp [NWs, yX9_roundedUp]) X hR hS e_N8 hl.1 (Nat.le_of_ble_eq_true rfl) ⟨Nat.le_of_ble_eq_true rfl, Nat.le_of_ble_eq_true rfl⟩ ⟨Nat.le_of_ble_eq_true rfl, Nat.le_of_ble_eq_true rfl⟩ dX6_addCommitted_37 (fun H locs hR hS => ?_)
        refine lv_goto (tgt := 45) hx hb dX6_addCommitted_40 (by decide) ?_
        obtain ⟨_, N10, e_N10, hp⟩ := owp_ob2 hp
        refine iv_X6_add (rest := []) mw_X6_81 X hR hS e_N10 hl.1 (Nat.le_of_ble_eq_true rfl) ⟨Nat.le_of_ble_eq_true rfl, Nat.le_of_ble_eq_true rfl⟩ ⟨Nat.le_of_ble_eq_true rfl, Nat.le_of_ble_eq_true rfl⟩ dX6_addCommitted_45 (fun H locs hR hS => ?_)
        refine lv_iinc (v := v4 + 1) (lv' := [(4, .int (v4 + 1)), (5, .int x5), (0, .ref v0), (2, .int v2), (3, .ref v3)]) hx hb dX6_addCommitted_48 hl (k := 4) rfl rfl (by decide) rfl (fun ls hl => ?_)
        refine lv_goto (tgt := 8) hx hb dX6_addCommitted_51 (by decide) ?_
        exact ih _ _ _ _ _ hR hS (lv_sub hl [2, 3, 4, 0] rfl) hp
def f_X6_addCommitted (v0 : Nat) (v1 : Nat) (v2 : Int32) (N : AH) : Option (Unit × AH) := ob (iO N v0 6) (fun _ => ob (hR N v1 4 5) (fun x1 => f_X6_addCommitted_L8 v0 v2 x1 (fun N11 => some ((), N11)) FU (0 : Int32) N))
set_option maxHeartbeats 4000000 in
set_option maxRecDepth 100000 in
theorem wk_X6_addCommitted {P : Unit × AH → Prop} (X : CX cX6_addCommitted RX6 6 G aC t b0 p s m args c) (hr : RtV p l e rm_X6_addCommitted s m args below meth c 0 0 Q cX6_addCommitted G aC b0 P) (v0 : Nat) (v1 : Nat) (v2 : Int32) (N : AH) (H : Heap) (locs : List Loc) (ls : Array Slot) (hR : Rp G aC b0 N H) (hS : va_S (fun q => b0 ≤ q) s.heap H locs) (hl : lv_has ls 6 [(0, .ref v0), (1, .ref v1), (2, .int v2)]) (hp : owp (f_X6_addCommitted v0 v1 v2 N) P) : W p l e rm_X6_addCommitted s m args below meth c H locs 0 0 Q (F0 m 0 ls []) := by
  have hx := X.1.1
  have hb := X.1.2.1
  unfold f_X6_addCommitted at hp
  obtain ⟨_, _, hp⟩ := owp_ob hp
  refine lv_aload_n hx hb dX6_addCommitted_0 rfl (lv_at hl 1 rfl) ?_
  obtain ⟨x1, e_x1, hp⟩ := owp_ob hp
  refine gf_X6_88 X hR e_x1 dX6_addCommitted_1 ?_
  refine lv_astore_n (lv' := [(3, .ref x1), (0, .ref v0), (1, .ref v1), (2, .int v2)]) hx hb dX6_addCommitted_4 rfl hl (by decide) rfl (fun ls hl => ?_)
  refine lv_iconst (v := (0)) hx hb dX6_addCommitted_5 (by decide) ?_
  refine lv_istore (lv' := [(4, .int (0 : Int32)), (3, .ref x1), (0, .ref v0), (1, .ref v1), (2, .int v2)]) hx hb dX6_addCommitted_6 hl (by decide) rfl (fun ls hl => ?_)
  refine w_X6_addCommitted_L8 X hr _ _ _ (fun N11 H locs ls hR hS hl hp => ?_) _ _ _ _ _ _ hR hS (lv_sub hl [2, 4, 1, 0] rfl) hp
  exact hr _ _ _ _ _ hR hS dX6_addCommitted_54 hp
end
theorem ct_X6_addCommitted {v0 : Nat} {v1 : Nat} {v2 : Int32} {N N1 : AH} {r : Unit} (h : f_X6_addCommitted v0 v1 v2 N = some (r, N1)) : Ct yX6_addCommitted cX6_addCommitted 6 none rm_X6_addCommitted [.ref v0, .ref v1, .int v2] N none N1 :=
  ab_met (own := RX6) (by decide +kernel) rfl (Nat.le_of_ble_eq_true rfl) (fun l G aC t b0 p e s m below meth c ls X hr hlk hnm hR hS hl => wk_X6_addCommitted X (RtV_met X.1.1 X.1.2.1 hr hlk) _ _ _ _ _ _ _ hR hS hl (owp_of h))
theorem cw_X6_addCommitted : Cond.code yX6_addCommitted cX6_addCommitted 6 none ∈ WT := WT_of 578 (by decide +kernel) (by decide +kernel)
theorem iv_X6_addCommitted {p : Program} {l : Launch} {e : Env} {R : Room} {s : State} {m : MethodId} {args : Array Value} {below : List Frame} {meth : Method} {c : Code} {H : Heap} {locs : List Loc} {cells slots : Nat} {Q : State → Prop} {cc : ByteArray} {own : String} {nL : Nat} {G : va_G} {aC : Nat → ClassId} {t b0 : Nat} {N N1 : AH} {pc index : Nat} {ls : Array Slot} {rest : List Value} {v0 : Nat} {v1 : Nat} {v2 : Int32} {r : Unit} (w1 : Cond.methodLink own index yX6_addCommitted ∈ WT) (X : CX cc own nL G aC t b0 p s m args c) (hR : Rp G aC b0 N H) (hS : va_S (fun q => b0 ≤ q) s.heap H locs) (h : f_X6_addCommitted v0 v1 v2 N = some (r, N1)) (hls : ls.size = nL) (hW : (rest.map fun v => v.category).sum ≤ 8) (hR1 : 2 ≤ R.frames ∧ 48 ≤ R.locals) (hcs : cells + 0 ≤ R.cells ∧ slots + 0 ≤ R.slots) (hdg : decode cc pc = .ok (.invokevirtual index, 3)) (kk : ∀ (H1 : Heap) (locs1 : List Loc), Rp G aC b0 N1 H1 → va_S (fun q => b0 ≤ q) s.heap H1 locs1 → W p l e R s m args below meth c H1 locs1 cells slots Q (F0 m (pc + 3) ls rest)) : W p l e R s m args below meth c H locs cells slots Q (F0 m pc ls (.int v2 :: .ref v1 :: .ref v0 :: rest)) :=
  ab_callV (n := 2) (As := [.ref v1, .int v2]) X hR hS (ct_X6_addCommitted h) (ob_rc (c := 6) (N := N) (a := v0) h) (T := TX6) (k := 1) (C := RX6) rfl w1 (WT_of 577 (by decide +kernel) (by decide +kernel)) (WT_of 6 (by decide +kernel) (by decide +kernel)) (WT_of 90 (by decide +kernel) (by decide +kernel)) cw_X6_addCommitted ⟨rfl, by decide +kernel, by decide +kernel, by decide +kernel⟩ rfl hls hW hR1 hcs rfl hdg kk
-- X6_haveRoomFor
theorem gf_X6_45 {p : Program} {l : Launch} {e : Env} {R : Room} {s : State} {m : MethodId} {args : Array Value} {below : List Frame} {meth : Method} {c : Code} {H : Heap} {locs : List Loc} {cells slots : Nat} {Q : State → Prop} {cc : ByteArray} {nL : Nat} {G : va_G} {aC : Nat → ClassId} {t b0 : Nat} {N : AH} {pc : Nat} {ls : Array Slot} {rest : List Value} {a : Nat} {v : Int32} (X : CX cc RX6 nL G aC t b0 p s m args c) (hR0 : Rp G aC b0 N H) (hv : hI N a 4 2 = some v) (hdg : decode cc pc = .ok (.getfield 45, 3)) (kk : W p l e R s m args below meth c H locs cells slots Q (F0 m (pc + 3) ls (.int v :: rest))) : W p l e R s m args below meth c H locs cells slots Q (F0 m pc ls (.ref a :: rest)) := by
  obtain ⟨fs, h1, h2⟩ := hI_ok hv
  exact ab_get (C := RX4) (T := TX4) (n := 6) X hR0 h1 h2 rfl inX4 (by decide) (WT_of 198 (by decide +kernel) (by decide +kernel)) hdg kk
theorem gf_X6_52 {p : Program} {l : Launch} {e : Env} {R : Room} {s : State} {m : MethodId} {args : Array Value} {below : List Frame} {meth : Method} {c : Code} {H : Heap} {locs : List Loc} {cells slots : Nat} {Q : State → Prop} {cc : ByteArray} {nL : Nat} {G : va_G} {aC : Nat → ClassId} {t b0 : Nat} {N : AH} {pc : Nat} {ls : Array Slot} {rest : List Value} {a : Nat} {v : Int32} (X : CX cc RX6 nL G aC t b0 p s m args c) (hR0 : Rp G aC b0 N H) (hv : hI N a 7 0 = some v) (hdg : decode cc pc = .ok (.getfield 52, 3)) (kk : W p l e R s m args below meth c H locs cells slots Q (F0 m (pc + 3) ls (.int v :: rest))) : W p l e R s m args below meth c H locs cells slots Q (F0 m pc ls (.ref a :: rest)) := by
  obtain ⟨fs, h1, h2⟩ := hI_ok hv
  exact ab_get (C := RX7) (T := TX7) (n := 12) X hR0 h1 h2 rfl inX7 (by decide) (WT_of 255 (by decide +kernel) (by decide +kernel)) hdg kk
theorem gf_X6_55 {p : Program} {l : Launch} {e : Env} {R : Room} {s : State} {m : MethodId} {args : Array Value} {below : List Frame} {meth : Method} {c : Code} {H : Heap} {locs : List Loc} {cells slots : Nat} {Q : State → Prop} {cc : ByteArray} {nL : Nat} {G : va_G} {aC : Nat → ClassId} {t b0 : Nat} {N : AH} {pc : Nat} {ls : Array Slot} {rest : List Value} {a : Nat} {v : Int32} (X : CX cc RX6 nL G aC t b0 p s m args c) (hR0 : Rp G aC b0 N H) (hv : hI N a 4 0 = some v) (hdg : decode cc pc = .ok (.getfield 55, 3)) (kk : W p l e R s m args below meth c H locs cells slots Q (F0 m (pc + 3) ls (.int v :: rest))) : W p l e R s m args below meth c H locs cells slots Q (F0 m pc ls (.ref a :: rest)) := by
  obtain ⟨fs, h1, h2⟩ := hI_ok hv
  exact ab_get (C := RX4) (T := TX4) (n := 6) X hR0 h1 h2 rfl inX4 (by decide) (WT_of 190 (by decide +kernel) (by decide +kernel)) hdg kk
theorem gf_X6_68 {p : Program} {l : Launch} {e : Env} {R : Room} {s : State} {m : MethodId} {args : Array Value} {below : List Frame} {meth : Method} {c : Code} {H : Heap} {locs : List Loc} {cells slots : Nat} {Q : State → Prop} {cc : ByteArray} {nL : Nat} {G : va_G} {aC : Nat → ClassId} {t b0 : Nat} {N : AH} {pc : Nat} {ls : Array Slot} {rest : List Value} {a : Nat} {v : Nat} (X : CX cc RX6 nL G aC t b0 p s m args c) (hR0 : Rp G aC b0 N H) (hv : hR N a 7 9 = some v) (hdg : decode cc pc = .ok (.getfield 68, 3)) (kk : W p l e R s m args below meth c H locs cells slots Q (F0 m (pc + 3) ls (.ref v :: rest))) : W p l e R s m args below meth c H locs cells slots Q (F0 m pc ls (.ref a :: rest)) := by
  obtain ⟨fs, h1, h2⟩ := hR_ok hv
  exact ab_get (C := RX7) (T := TX7) (n := 12) X hR0 h1 h2 rfl inX7 (by decide) (WT_of 286 (by decide +kernel) (by decide +kernel)) hdg kk
theorem gf_X6_75 {p : Program} {l : Launch} {e : Env} {R : Room} {s : State} {m : MethodId} {args : Array Value} {below : List Frame} {meth : Method} {c : Code} {H : Heap} {locs : List Loc} {cells slots : Nat} {Q : State → Prop} {cc : ByteArray} {nL : Nat} {G : va_G} {aC : Nat → ClassId} {t b0 : Nat} {N : AH} {pc : Nat} {ls : Array Slot} {rest : List Value} {a : Nat} {v : Nat} (X : CX cc RX6 nL G aC t b0 p s m args c) (hR0 : Rp G aC b0 N H) (hv : hR N a 1 3 = some v) (hdg : decode cc pc = .ok (.getfield 75, 3)) (kk : W p l e R s m args below meth c H locs cells slots Q (F0 m (pc + 3) ls (.ref v :: rest))) : W p l e R s m args below meth c H locs cells slots Q (F0 m pc ls (.ref a :: rest)) := by
  obtain ⟨fs, h1, h2⟩ := hR_ok hv
  exact ab_get (C := RX1) (T := TX1) (n := 6) X hR0 h1 h2 rfl inX1 (by decide) (WT_of 130 (by decide +kernel) (by decide +kernel)) hdg kk
theorem mw_X6_48 : Cond.methodLink RX6 48 yX4_deadlineEnd ∈ WT := WT_of 568 (by decide +kernel) (by decide +kernel)
theorem mw_X6_64 : Cond.methodLink RX6 64 yX6_addCommitted ∈ WT := WT_of 575 (by decide +kernel) (by decide +kernel)
theorem dX6_haveRoomFor_0 : decode cX6_haveRoomFor 0 = .ok (.aload_n 0, 1) := by decide +kernel
theorem dX6_haveRoomFor_1 : decode cX6_haveRoomFor 1 = .ok (.getfield 9, 3) := by decide +kernel
theorem dX6_haveRoomFor_4 : decode cX6_haveRoomFor 4 = .ok (.iconst 0, 1) := by decide +kernel
theorem dX6_haveRoomFor_5 : decode cX6_haveRoomFor 5 = .ok (.invokestatic 23, 3) := by decide +kernel
theorem dX6_haveRoomFor_8 : decode cX6_haveRoomFor 8 = .ok (.iconst 0, 1) := by decide +kernel
theorem dX6_haveRoomFor_9 : decode cX6_haveRoomFor 9 = .ok (.istore_n 3, 1) := by decide +kernel
theorem dX6_haveRoomFor_10 : decode cX6_haveRoomFor 10 = .ok (.iload_n 3, 1) := by decide +kernel
theorem dX6_haveRoomFor_11 : decode cX6_haveRoomFor 11 = .ok (.aload_n 1, 1) := by decide +kernel
theorem dX6_haveRoomFor_12 : decode cX6_haveRoomFor 12 = .ok (.getfield 29, 3) := by decide +kernel
theorem dX6_haveRoomFor_15 : decode cX6_haveRoomFor 15 = .ok (.if_icmp .ge 57, 3) := by decide +kernel
theorem dX6_haveRoomFor_18 : decode cX6_haveRoomFor 18 = .ok (.aload_n 1, 1) := by decide +kernel
theorem dX6_haveRoomFor_19 : decode cX6_haveRoomFor 19 = .ok (.getfield 35, 3) := by decide +kernel
theorem dX6_haveRoomFor_22 : decode cX6_haveRoomFor 22 = .ok (.iload_n 3, 1) := by decide +kernel
theorem dX6_haveRoomFor_23 : decode cX6_haveRoomFor 23 = .ok (.aaload, 1) := by decide +kernel
theorem dX6_haveRoomFor_24 : decode cX6_haveRoomFor 24 = .ok (.astore 4, 2) := by decide +kernel
theorem dX6_haveRoomFor_26 : decode cX6_haveRoomFor 26 = .ok (.aload 4, 2) := by decide +kernel
theorem dX6_haveRoomFor_28 : decode cX6_haveRoomFor 28 = .ok (.invokevirtual 39, 3) := by decide +kernel
theorem dX6_haveRoomFor_31 : decode cX6_haveRoomFor 31 = .ok (.ifCond .eq 35, 3) := by decide +kernel
theorem dX6_haveRoomFor_34 : decode cX6_haveRoomFor 34 = .ok (.aload 4, 2) := by decide +kernel
theorem dX6_haveRoomFor_36 : decode cX6_haveRoomFor 36 = .ok (.getfield 45, 3) := by decide +kernel
theorem dX6_haveRoomFor_39 : decode cX6_haveRoomFor 39 = .ok (.ifCond .le 27, 3) := by decide +kernel
theorem dX6_haveRoomFor_42 : decode cX6_haveRoomFor 42 = .ok (.aload_n 0, 1) := by decide +kernel
theorem dX6_haveRoomFor_43 : decode cX6_haveRoomFor 43 = .ok (.aload 4, 2) := by decide +kernel
theorem dX6_haveRoomFor_45 : decode cX6_haveRoomFor 45 = .ok (.aload 4, 2) := by decide +kernel
theorem dX6_haveRoomFor_47 : decode cX6_haveRoomFor 47 = .ok (.invokevirtual 48, 3) := by decide +kernel
theorem dX6_haveRoomFor_50 : decode cX6_haveRoomFor 50 = .ok (.aload_n 1, 1) := by decide +kernel
theorem dX6_haveRoomFor_51 : decode cX6_haveRoomFor 51 = .ok (.getfield 52, 3) := by decide +kernel
theorem dX6_haveRoomFor_54 : decode cX6_haveRoomFor 54 = .ok (.aload 4, 2) := by decide +kernel
theorem dX6_haveRoomFor_56 : decode cX6_haveRoomFor 56 = .ok (.getfield 55, 3) := by decide +kernel
theorem dX6_haveRoomFor_59 : decode cX6_haveRoomFor 59 = .ok (.invokestatic 58, 3) := by decide +kernel
theorem dX6_haveRoomFor_62 : decode cX6_haveRoomFor 62 = .ok (.isub, 1) := by decide +kernel
theorem dX6_haveRoomFor_63 : decode cX6_haveRoomFor 63 = .ok (.invokevirtual 64, 3) := by decide +kernel
theorem dX6_haveRoomFor_66 : decode cX6_haveRoomFor 66 = .ok (.iinc 3 1, 3) := by decide +kernel
theorem dX6_haveRoomFor_69 : decode cX6_haveRoomFor 69 = .ok (.goto (-59), 3) := by decide +kernel
theorem dX6_haveRoomFor_72 : decode cX6_haveRoomFor 72 = .ok (.aload_n 1, 1) := by decide +kernel
theorem dX6_haveRoomFor_73 : decode cX6_haveRoomFor 73 = .ok (.getfield 68, 3) := by decide +kernel
theorem dX6_haveRoomFor_76 : decode cX6_haveRoomFor 76 = .ok (.astore_n 3, 1) := by decide +kernel
theorem dX6_haveRoomFor_77 : decode cX6_haveRoomFor 77 = .ok (.iconst 0, 1) := by decide +kernel
theorem dX6_haveRoomFor_78 : decode cX6_haveRoomFor 78 = .ok (.istore 4, 2) := by decide +kernel
theorem dX6_haveRoomFor_80 : decode cX6_haveRoomFor 80 = .ok (.iload 4, 2) := by decide +kernel
theorem dX6_haveRoomFor_82 : decode cX6_haveRoomFor 82 = .ok (.aload_n 3, 1) := by decide +kernel
theorem dX6_haveRoomFor_83 : decode cX6_haveRoomFor 83 = .ok (.getfield 72, 3) := by decide +kernel
theorem dX6_haveRoomFor_86 : decode cX6_haveRoomFor 86 = .ok (.if_icmp .ge 27, 3) := by decide +kernel
theorem dX6_haveRoomFor_89 : decode cX6_haveRoomFor 89 = .ok (.aload_n 0, 1) := by decide +kernel
theorem dX6_haveRoomFor_90 : decode cX6_haveRoomFor 90 = .ok (.aload_n 3, 1) := by decide +kernel
theorem dX6_haveRoomFor_91 : decode cX6_haveRoomFor 91 = .ok (.iload 4, 2) := by decide +kernel
theorem dX6_haveRoomFor_93 : decode cX6_haveRoomFor 93 = .ok (.aload_n 3, 1) := by decide +kernel
theorem dX6_haveRoomFor_94 : decode cX6_haveRoomFor 94 = .ok (.getfield 75, 3) := by decide +kernel
theorem dX6_haveRoomFor_97 : decode cX6_haveRoomFor 97 = .ok (.iload 4, 2) := by decide +kernel
theorem dX6_haveRoomFor_99 : decode cX6_haveRoomFor 99 = .ok (.iaload, 1) := by decide +kernel
theorem dX6_haveRoomFor_100 : decode cX6_haveRoomFor 100 = .ok (.iload_n 2, 1) := by decide +kernel
theorem dX6_haveRoomFor_101 : decode cX6_haveRoomFor 101 = .ok (.invokestatic 78, 3) := by decide +kernel
theorem dX6_haveRoomFor_104 : decode cX6_haveRoomFor 104 = .ok (.invokevirtual 81, 3) := by decide +kernel
theorem dX6_haveRoomFor_107 : decode cX6_haveRoomFor 107 = .ok (.iinc 4 1, 3) := by decide +kernel
theorem dX6_haveRoomFor_110 : decode cX6_haveRoomFor 110 = .ok (.goto (-30), 3) := by decide +kernel
theorem dX6_haveRoomFor_113 : decode cX6_haveRoomFor 113 = .ok (.iconst 0, 1) := by decide +kernel
theorem dX6_haveRoomFor_114 : decode cX6_haveRoomFor 114 = .ok (.istore 4, 2) := by decide +kernel
theorem dX6_haveRoomFor_116 : decode cX6_haveRoomFor 116 = .ok (.iload 4, 2) := by decide +kernel
theorem dX6_haveRoomFor_118 : decode cX6_haveRoomFor 118 = .ok (.bipush 16, 2) := by decide +kernel
theorem dX6_haveRoomFor_120 : decode cX6_haveRoomFor 120 = .ok (.if_icmp .ge 28, 3) := by decide +kernel
theorem dX6_haveRoomFor_123 : decode cX6_haveRoomFor 123 = .ok (.aload_n 0, 1) := by decide +kernel
theorem dX6_haveRoomFor_124 : decode cX6_haveRoomFor 124 = .ok (.getfield 9, 3) := by decide +kernel
theorem dX6_haveRoomFor_127 : decode cX6_haveRoomFor 127 = .ok (.iload 4, 2) := by decide +kernel
theorem dX6_haveRoomFor_129 : decode cX6_haveRoomFor 129 = .ok (.iaload, 1) := by decide +kernel
theorem dX6_haveRoomFor_130 : decode cX6_haveRoomFor 130 = .ok (.aload_n 1, 1) := by decide +kernel
theorem dX6_haveRoomFor_131 : decode cX6_haveRoomFor 131 = .ok (.getfield 85, 3) := by decide +kernel
theorem dX6_haveRoomFor_134 : decode cX6_haveRoomFor 134 = .ok (.iload 4, 2) := by decide +kernel
theorem dX6_haveRoomFor_136 : decode cX6_haveRoomFor 136 = .ok (.iaload, 1) := by decide +kernel
theorem dX6_haveRoomFor_137 : decode cX6_haveRoomFor 137 = .ok (.if_icmp .le 5, 3) := by decide +kernel
theorem dX6_haveRoomFor_140 : decode cX6_haveRoomFor 140 = .ok (.iconst 0, 1) := by decide +kernel
theorem dX6_haveRoomFor_141 : decode cX6_haveRoomFor 141 = .ok (.ireturn, 1) := by decide +kernel
theorem dX6_haveRoomFor_142 : decode cX6_haveRoomFor 142 = .ok (.iinc 4 1, 3) := by decide +kernel
theorem dX6_haveRoomFor_145 : decode cX6_haveRoomFor 145 = .ok (.goto (-29), 3) := by decide +kernel
theorem dX6_haveRoomFor_148 : decode cX6_haveRoomFor 148 = .ok (.iconst 1, 1) := by decide +kernel
theorem dX6_haveRoomFor_149 : decode cX6_haveRoomFor 149 = .ok (.ireturn, 1) := by decide +kernel
def rm_X6_haveRoomFor : Room := { frames := 2, cells := 0, slots := 0, locals := 48 }
section
variable {p : Program} {l : Launch} {e : Env} {s : State} {m : MethodId} {args : Array Value} {below : List Frame} {meth : Method} {c : Code} {Q : State → Prop} {G : va_G} {aC : Nat → ClassId} {t b0 : Nat}
def f_X6_haveRoomFor_L10 (v0 : Nat) (v1 : Nat) (v2 : Int32) (k72 : AH → Option (Int32 × AH)) : Nat → Int32 → AH → Option (Int32 × AH)
  | 0, _, _ => none
  | n + 1, v3, N => ob (hI N v1 7 6) (fun x3 => if x3 ≤ v3 then k72 N else ob (hR N v1 7 10) (fun x5 => ob (aR N 2 x5 v3) (fun x6 => ob2 (f_X4_isOpen x6 N) (fun x8 N7 => if x8 = 0 then f_X6_haveRoomFor_L10 v0 v1 v2 k72 n (v3 + 1) N7 else ob (hI N7 x6 4 2) (fun x10 => if x10 ≤ 0 then f_X6_haveRoomFor_L10 v0 v1 v2 k72 n (v3 + 1) N7 else ob2 (f_X4_deadlineEnd x6 N7) (fun x13 N12 => ob (hI N12 v1 7 0) (fun x14 => ob (hI N12 x6 4 0) (fun x15 => ob2 (f_J9_max_7cf53 x14 x15 N12) (fun x17 N16 => ob2 (f_X6_addCommitted v0 x6 (x13 - x17) N16) (fun _ N18 => f_X6_haveRoomFor_L10 v0 v1 v2 k72 n (v3 + 1) N18))))))))))
set_option maxHeartbeats 4000000 in
set_option maxRecDepth 100000 in
theorem w_X6_haveRoomFor_L10 {P : Int32 × AH → Prop} (X : CX cX6_haveRoomFor RX6 5 G aC t b0 p s m args c) (hr : RtZ p l e rm_X6_haveRoomFor s m args below meth c 0 0 Q cX6_haveRoomFor G aC b0 P) (v0 : Nat) (v1 : Nat) (v2 : Int32) {k72 : AH → Option (Int32 × AH)}
    (hk72 : ∀ (N : AH) (H : Heap) (locs : List Loc) (ls : Array Slot), Rp G aC b0 N H → va_S (fun q => b0 ≤ q) s.heap H locs → lv_has ls 5 [(0, .ref v0), (1, .ref v1), (2, .int v2)] → owp (k72 N) P → W p l e rm_X6_haveRoomFor s m args below meth c H locs 0 0 Q (F0 m 72 ls [])) :
    ∀ (n : Nat) (v3 : Int32) (N : AH) (H : Heap) (locs : List Loc) (ls : Array Slot), Rp G aC b0 N H → va_S (fun q => b0 ≤ q) s.heap H locs → lv_has ls 5 [(0, .ref v0), (1, .ref v1), (2, .int v2), (3, .int v3)] → owp (f_X6_haveRoomFor_L10 v0 v1 v2 k72 n v3 N) P → W p l e rm_X6_haveRoomFor s m args below meth c H locs 0 0 Q (F0 m 10 ls []) := by
  have hx := X.1.1
  have hb := X.1.2.1
  intro n
  induction n with
  | zero =>
    intro v3 N H locs ls hR hS hl hp
    exact (show False from hp).elim
  | succ n ih =>
    intro v3 N H locs ls hR hS hl hp
    rw [f_X6_haveRoomFor_L10] at hp
    refine lv_iload_n hx hb dX6_haveRoomFor_10 rfl (lv_at hl 3 rfl) ?_
    refine lv_aload_n hx hb dX6_haveRoomFor_11 rfl (lv_at hl 1 rfl) ?_
    obtain ⟨x3, e_x3, hp⟩ := owp_ob hp
    refine gf_X6_29 X hR e_x3 dX6_haveRoomFor_12 ?_
    refine lv_icmp_ge (tgt := 72) hx hb dX6_haveRoomFor_15 (by decide) (fun k4 => ?_) (fun k4 => ?_)
    · have hp := owp_t k4 hp
      exact hk72 _ _ _ _ hR hS (lv_sub hl [0, 1, 2] rfl) hp
    · have hp := owp_f k4 hp
      refine lv_aload_n hx hb dX6_haveRoomFor_18 rfl (lv_at hl 1 rfl) ?_
      obtain ⟨x5, e_x5, hp⟩ := owp_ob hp
      refine gf_X6_35 X hR e_x5 dX6_haveRoomFor_19 ?_
      refine lv_iload_n hx hb dX6_haveRoomFor_22 rfl (lv_at hl 3 rfl) ?_
      obtain ⟨x6, e_x6, hp⟩ := owp_ob hp
      refine ab_aald X hR (kd := 2) rfl e_x6 dX6_haveRoomFor_23 ?_
      refine lv_astore (lv' := [(4, .ref x6), (0, .ref v0), (1, .ref v1), (2, .int v2), (3, .int v3)]) hx hb dX6_haveRoomFor_24 hl (by decide) rfl (fun ls hl => ?_)
      refine lv_aload hx hb dX6_haveRoomFor_26 (lv_at hl 0 rfl) ?_
      obtain ⟨x8, N7, e_N7, hp⟩ := owp_ob2 hp
      refine iv_X4_isOpen (rest := []) mw_X6_39 X hR hS e_N7 hl.1 (Nat.le_of_ble_eq_true rfl) ⟨Nat.le_of_ble_eq_true rfl, Nat.le_of_ble_eq_true rfl⟩ ⟨Nat.le_of_ble_eq_true rfl, Nat.le_of_ble_eq_true rfl⟩ dX6_haveRoomFor_28 (fun H locs hR hS => ?_)
      refine lv_if_eq (tgt := 66) hx hb dX6_haveRoomFor_31 (by decide) (fun k9 => ?_) (fun k9 => ?_)
      · have hp := owp_t k9 hp
        refine lv_iinc (v := v3 + 1) (lv' := [(3, .int (v3 + 1)), (4, .ref x6), (0, .ref v0), (1, .ref v1), (2, .int v2)]) hx hb dX6_haveRoomFor_66 hl (k := 4) rfl rfl (by decide) rfl (fun ls hl => ?_)
        refine lv_goto (tgt := 10) hx hb dX6_haveRoomFor_69 (by decide) ?_
        exact ih _ _ _ _ _ hR hS (lv_sub hl [2, 3, 4, 0] rfl) hp
      · have hp := owp_f k9 hp
        refine lv_aload hx hb dX6_haveRoomFor_34 (lv_at hl 0 rfl) ?_
        obtain ⟨x10, e_x10, hp⟩ := owp_ob hp
        refine gf_X6_45 X hR e_x10 dX6_haveRoomFor_36 ?_
        refine lv_if_le (tgt := 66) hx hb dX6_haveRoomFor_39 (by decide) (fun k11 => ?_) (fun k11 => ?_)
        · have hp := owp_t k11 hp
          refine lv_iinc (v := v3 + 1) (lv' := [(3, .int (v3 + 1)), (4, .ref x6), (0, .ref v0), (1, .ref v1), (2, .int v2)]) hx hb dX6_haveRoomFor_66 hl (k := 4) rfl rfl (by decide) rfl (fun ls hl => ?_)
          refine lv_goto (tgt := 10) hx hb dX6_haveRoomFor_69 (by decide) ?_
          exact ih _ _ _ _ _ hR hS (lv_sub hl [2, 3, 4, 0] rfl) hp
        · have hp := owp_f k11 hp
          refine lv_aload_n hx hb dX6_haveRoomFor_42 rfl (lv_at hl 1 rfl) ?_
          refine lv_aload hx hb dX6_haveRoomFor_43 (lv_at hl 0 rfl) ?_
          refine lv_aload hx hb dX6_haveRoomFor_45 (lv_at hl 0 rfl) ?_
          obtain ⟨x13, N12, e_N12, hp⟩ := owp_ob2 hp
          refine iv_X4_deadlineEnd (rest := [.ref x6, .ref v0]) mw_X6_48 X hR hS e_N12 hl.1 (Nat.le_of_ble_eq_true rfl) ⟨Nat.le_of_ble_eq_true rfl, Nat.le_of_ble_eq_true rfl⟩ ⟨Nat.le_of_ble_eq_true rfl, Nat.le_of_ble_eq_true rfl⟩ dX6_haveRoomFor_47 (fun H locs hR hS => ?_)
          refine lv_aload_n hx hb dX6_haveRoomFor_50 rfl (lv_at hl 2 rfl) ?_
          obtain ⟨x14, e_x14, hp⟩ := owp_ob hp
          refine gf_X6_52 X hR e_x14 dX6_haveRoomFor_51 ?_
          refine lv_aload hx hb dX6_haveRoomFor_54 (lv_at hl 0 rfl) ?_
          obtain ⟨x15, e_x15, hp⟩ := owp_ob hp
          refine gf_X6_55 X hR e_x15 dX6_haveRoomFor_56 ?_
          obtain ⟨x17, N16, e_N16, hp⟩ := owp_ob2 hp
          refine iv_J9_max_7cf53 (rest := [.int x13, .ref x6, .ref v0]) mw_X6_58 X hR hS e_N16 hl.1 (Nat.le_of_ble_eq_true rfl) ⟨Nat.le_of_ble_eq_true rfl, Nat.le_of_ble_eq_true rfl⟩ ⟨Nat.le_of_ble_eq_true rfl, Nat.le_of_ble_eq_true rfl⟩ dX6_haveRoomFor_59 (fun H locs hR hS => ?_)
          refine lv_isub hx hb dX6_haveRoomFor_62 ?_
          obtain ⟨_, N18, e_N18, hp⟩ := owp_ob2 hp
          refine iv_X6_addCommitted (rest := []) mw_X6_64 X hR hS e_N18 hl.1 (Nat.le_of_ble_eq_true rfl) ⟨Nat.le_of_ble_eq_true rfl, Nat.le_of_ble_eq_true rfl⟩ ⟨Nat.le_of_ble_eq_true rfl, Nat.le_of_ble_eq_true rfl⟩ dX6_haveRoomFor_63 (fun H locs hR hS => ?_)
          refine lv_iinc (v := v3 + 1) (lv' := [(3, .int (v3 + 1)), (4, .ref x6), (0, .ref v0), (1, .ref v1), (2, .int v2)]) hx hb dX6_haveRoomFor_66 hl (k := 4) rfl rfl (by decide) rfl (fun ls hl => ?_)
          refine lv_goto (tgt := 10) hx hb dX6_haveRoomFor_69 (by decide) ?_
          exact ih _ _ _ _ _ hR hS (lv_sub hl [2, 3, 4, 0] rfl) hp
def f_X6_haveRoomFor_L80 (v0 : Nat) (v1 : Nat) (v2 : Int32) (v3 : Nat) (k113 : AH → Option (Int32 × AH)) : Nat → Int32 → AH → Option (Int32 × AH)
  | 0, _, _ => none
  | n + 1, v4, N => ob (hI N v3 1 0) (fun x21 => if x21 ≤ v4 then k113 N else ob (hR N v3 1 3) (fun x23 => ob (aI N x23 v4) (fun x24 => ob2 (f_X9_roundedUp x24 v2 N) (fun x26 N25 => ob2 (f_X6_add v0 v3 v4 x26 N25) (fun _ N27 => f_X6_haveRoomFor_L80 v0 v1 v2 v3 k113 n (v4 + 1) N27)))))
set_option maxHeartbeats 4000000 in
set_option maxRecDepth 100000 in
theorem w_X6_haveRoomFor_L80 {P : Int32 × AH → Prop} (X : CX cX6_haveRoomFor RX6 5 G aC t b0 p s m args c) (hr : RtZ p l e rm_X6_haveRoomFor s m args below meth c 0 0 Q cX6_haveRoomFor G aC b0 P) (v0 : Nat) (v1 : Nat) (v2 : Int32) (v3 : Nat) {k113 : AH → Option (Int32 × AH)}
    (hk113 : ∀ (N : AH) (H : Heap) (locs : List Loc) (ls : Array Slot), Rp G aC b0 N H → va_S (fun q => b0 ≤ q) s.heap H locs → lv_has ls 5 [(0, .ref v0), (1, .ref v1)] → owp (k113 N) P → W p l e rm_X6_haveRoomFor s m args below meth c H locs 0 0 Q (F0 m 113 ls [])) :
    ∀ (n : Nat) (v4 : Int32) (N : AH) (H : Heap) (locs : List Loc) (ls : Array Slot), Rp G aC b0 N H → va_S (fun q => b0 ≤ q) s.heap H locs → lv_has ls 5 [(0, .ref v0), (1, .ref v1), (2, .int v2), (3, .ref v3), (4, .int v4)] → owp (f_X6_haveRoomFor_L80 v0 v1 v2 v3 k113 n v4 N) P → W p l e rm_X6_haveRoomFor s m args below meth c H locs 0 0 Q (F0 m 80 ls []) := by
  have hx := X.1.1
  have hb := X.1.2.1
  intro n
  induction n with
  | zero =>
    intro v4 N H locs ls hR hS hl hp
    exact (show False from hp).elim
  | succ n ih =>
    intro v4 N H locs ls hR hS hl hp
    rw [f_X6_haveRoomFor_L80] at hp
    refine lv_iload hx hb dX6_haveRoomFor_80 (lv_at hl 4 rfl) ?_
    refine lv_aload_n hx hb dX6_haveRoomFor_82 rfl (lv_at hl 3 rfl) ?_
    obtain ⟨x21, e_x21, hp⟩ := owp_ob hp
    refine gf_X6_72 X hR e_x21 dX6_haveRoomFor_83 ?_
    refine lv_icmp_ge (tgt := 113) hx hb dX6_haveRoomFor_86 (by decide) (fun k22 => ?_) (fun k22 => ?_)
    · have hp := owp_t k22 hp
      exact hk113 _ _ _ _ hR hS (lv_sub hl [0, 1] rfl) hp
    · have hp := owp_f k22 hp
      refine lv_aload_n hx hb dX6_haveRoomFor_89 rfl (lv_at hl 0 rfl) ?_
      refine lv_aload_n hx hb dX6_haveRoomFor_90 rfl (lv_at hl 3 rfl) ?_
      refine lv_iload hx hb dX6_haveRoomFor_91 (lv_at hl 4 rfl) ?_
      refine lv_aload_n hx hb dX6_haveRoomFor_93 rfl (lv_at hl 3 rfl) ?_
      obtain ⟨x23, e_x23, hp⟩ := owp_ob hp
      refine gf_X6_75 X hR e_x23 dX6_haveRoomFor_94 ?_
      refine lv_iload hx hb dX6_haveRoomFor_97 (lv_at hl 4 rfl) ?_
      obtain ⟨x24, e_x24, hp⟩ := owp_ob hp
      refine ab_iald X hR e_x24 dX6_haveRoomFor_99 ?_
      refine lv_iload_n hx hb dX6_haveRoomFor_100 rfl (lv_at hl 2 rfl) ?_
      obtain ⟨x26, N25, e_N25, hp⟩ := owp_ob2 hp
      refine ivN_X9_roundedUp (rest := [.int v4, .ref v3, .ref v0]) (by simp [NWs, yX9_roundedUp]) X hR hS e_N25 hl.1 (Nat.le_of_ble_eq_true rfl) ⟨Nat.le_of_ble_eq_true rfl, Nat.le_of_ble_eq_true rfl⟩ ⟨Nat.le_of_ble_eq_true rfl, Nat.le_of_ble_eq_true rfl⟩ dX6_haveRoomFor_101 (fun H locs hR hS => ?_)
      obtain ⟨_, N27, e_N27, hp⟩ := owp_ob2 hp
      refine iv_X6_add (rest := []) mw_X6_81 X hR hS e_N27 hl.1 (Nat.le_of_ble_eq_true rfl) ⟨Nat.le_of_ble_eq_true rfl, Nat.le_of_ble_eq_true rfl⟩ ⟨Nat.le_of_ble_eq_true rfl, Nat.le_of_ble_eq_true rfl⟩ dX6_haveRoomFor_104 (fun H locs hR hS => ?_)
      refine lv_iinc (v := v4 + 1) (lv' := [(4, .int (v4 + 1)), (0, .ref v0), (1, .ref v1), (2, .int v2), (3, .ref v3)]) hx hb dX6_haveRoomFor_107 hl (k := 4) rfl rfl (by decide) rfl (fun ls hl => ?_)
      refine lv_goto (tgt := 80) hx hb dX6_haveRoomFor_110 (by decide) ?_
      exact ih _ _ _ _ _ hR hS (lv_sub hl [1, 2, 3, 4, 0] rfl) hp
def f_X6_haveRoomFor_L116 (v0 : Nat) (v1 : Nat) (k140 : AH → Option (Int32 × AH)) (k148 : AH → Option (Int32 × AH)) : Nat → Int32 → AH → Option (Int32 × AH)
  | 0, _, _ => none
  | n + 1, v4, N => if (16 : Int32) ≤ v4 then k148 N else ob (hR N v0 6 0) (fun x30 => ob (aI N x30 v4) (fun x31 => ob (hR N v1 7 7) (fun x32 => ob (aI N x32 v4) (fun x33 => if x31 ≤ x33 then f_X6_haveRoomFor_L116 v0 v1 k140 k148 n (v4 + 1) N else k140 N))))
set_option maxHeartbeats 4000000 in
set_option maxRecDepth 100000 in
theorem w_X6_haveRoomFor_L116 {P : Int32 × AH → Prop} (X : CX cX6_haveRoomFor RX6 5 G aC t b0 p s m args c) (hr : RtZ p l e rm_X6_haveRoomFor s m args below meth c 0 0 Q cX6_haveRoomFor G aC b0 P) (v0 : Nat) (v1 : Nat) {k140 : AH → Option (Int32 × AH)} {k148 : AH → Option (Int32 × AH)}
    (hk140 : ∀ (N : AH) (H : Heap) (locs : List Loc) (ls : Array Slot), Rp G aC b0 N H → va_S (fun q => b0 ≤ q) s.heap H locs → lv_has ls 5 [] → owp (k140 N) P → W p l e rm_X6_haveRoomFor s m args below meth c H locs 0 0 Q (F0 m 140 ls []))
    (hk148 : ∀ (N : AH) (H : Heap) (locs : List Loc) (ls : Array Slot), Rp G aC b0 N H → va_S (fun q => b0 ≤ q) s.heap H locs → lv_has ls 5 [] → owp (k148 N) P → W p l e rm_X6_haveRoomFor s m args below meth c H locs 0 0 Q (F0 m 148 ls [])) :
    ∀ (n : Nat) (v4 : Int32) (N : AH) (H : Heap) (locs : List Loc) (ls : Array Slot), Rp G aC b0 N H → va_S (fun q => b0 ≤ q) s.heap H locs → lv_has ls 5 [(0, .ref v0), (1, .ref v1), (4, .int v4)] → owp (f_X6_haveRoomFor_L116 v0 v1 k140 k148 n v4 N) P → W p l e rm_X6_haveRoomFor s m args below meth c H locs 0 0 Q (F0 m 116 ls []) := by
  have hx := X.1.1
  have hb := X.1.2.1
  intro n
  induction n with
  | zero =>
    intro v4 N H locs ls hR hS hl hp
    exact (show False from hp).elim
  | succ n ih =>
    intro v4 N H locs ls hR hS hl hp
    rw [f_X6_haveRoomFor_L116] at hp
    refine lv_iload hx hb dX6_haveRoomFor_116 (lv_at hl 2 rfl) ?_
    refine lv_bipush (v := (16)) hx hb dX6_haveRoomFor_118 (by decide) ?_
    refine lv_icmp_ge (tgt := 148) hx hb dX6_haveRoomFor_120 (by decide) (fun k29 => ?_) (fun k29 => ?_)
    · have hp := owp_t k29 hp
      exact hk148 _ _ _ _ hR hS (lv_sub hl [] rfl) hp
    · have hp := owp_f k29 hp
      refine lv_aload_n hx hb dX6_haveRoomFor_123 rfl (lv_at hl 0 rfl) ?_
      obtain ⟨x30, e_x30, hp⟩ := owp_ob hp
      refine gf_X6_9 X hR e_x30 dX6_haveRoomFor_124 ?_
      refine lv_iload hx hb dX6_haveRoomFor_127 (lv_at hl 2 rfl) ?_
      obtain ⟨x31, e_x31, hp⟩ := owp_ob hp
      refine ab_iald X hR e_x31 dX6_haveRoomFor_129 ?_
      refine lv_aload_n hx hb dX6_haveRoomFor_130 rfl (lv_at hl 1 rfl) ?_
      obtain ⟨x32, e_x32, hp⟩ := owp_ob hp
      refine gf_X6_85 X hR e_x32 dX6_haveRoomFor_131 ?_
      refine lv_iload hx hb dX6_haveRoomFor_134 (lv_at hl 2 rfl) ?_
      obtain ⟨x33, e_x33, hp⟩ := owp_ob hp
      refine ab_iald X hR e_x33 dX6_haveRoomFor_136 ?_
      refine lv_icmp_le (tgt := 142) hx hb dX6_haveRoomFor_137 (by decide) (fun k34 => ?_) (fun k34 => ?_)
      · have hp := owp_t k34 hp
        refine lv_iinc (v := v4 + 1) (lv' := [(4, .int (v4 + 1)), (0, .ref v0), (1, .ref v1)]) hx hb dX6_haveRoomFor_142 hl (k := 2) rfl rfl (by decide) rfl (fun ls hl => ?_)
        refine lv_goto (tgt := 116) hx hb dX6_haveRoomFor_145 (by decide) ?_
        exact ih _ _ _ _ _ hR hS (lv_sub hl [1, 2, 0] rfl) hp
      · have hp := owp_f k34 hp
        exact hk140 _ _ _ _ hR hS (lv_sub hl [] rfl) hp
def f_X6_haveRoomFor (v0 : Nat) (v1 : Nat) (v2 : Int32) (N : AH) : Option (Int32 × AH) := ob (iO N v0 6) (fun _ => ob (hR N v0 6 0) (fun x1 => ob2 (f_J7_fill_53178 x1 (0 : Int32) N) (fun _ N2 => f_X6_haveRoomFor_L10 v0 v1 v2 (fun N19 => ob (hR N19 v1 7 9) (fun x20 => f_X6_haveRoomFor_L80 v0 v1 v2 x20 (fun N28 => f_X6_haveRoomFor_L116 v0 v1 (fun N35 => some ((0 : Int32), N35)) (fun N36 => some ((1 : Int32), N36)) FU (0 : Int32) N28) FU (0 : Int32) N19)) FU (0 : Int32) N2)))
set_option maxHeartbeats 4000000 in
set_option maxRecDepth 100000 in
theorem wk_X6_haveRoomFor {P : Int32 × AH → Prop} (X : CX cX6_haveRoomFor RX6 5 G aC t b0 p s m args c) (hr : RtZ p l e rm_X6_haveRoomFor s m args below meth c 0 0 Q cX6_haveRoomFor G aC b0 P) (v0 : Nat) (v1 : Nat) (v2 : Int32) (N : AH) (H : Heap) (locs : List Loc) (ls : Array Slot) (hR : Rp G aC b0 N H) (hS : va_S (fun q => b0 ≤ q) s.heap H locs) (hl : lv_has ls 5 [(0, .ref v0), (1, .ref v1), (2, .int v2)]) (hp : owp (f_X6_haveRoomFor v0 v1 v2 N) P) : W p l e rm_X6_haveRoomFor s m args below meth c H locs 0 0 Q (F0 m 0 ls []) := by
  have hx := X.1.1
  have hb := X.1.2.1
  unfold f_X6_haveRoomFor at hp
  obtain ⟨_, _, hp⟩ := owp_ob hp
  refine lv_aload_n hx hb dX6_haveRoomFor_0 rfl (lv_at hl 0 rfl) ?_
  obtain ⟨x1, e_x1, hp⟩ := owp_ob hp
  refine gf_X6_9 X hR e_x1 dX6_haveRoomFor_1 ?_
  refine lv_iconst (v := (0)) hx hb dX6_haveRoomFor_4 (by decide) ?_
  obtain ⟨_, N2, e_N2, hp⟩ := owp_ob2 hp
  refine iv_J7_fill_53178 (rest := []) mw_X6_23 X hR hS e_N2 hl.1 (Nat.le_of_ble_eq_true rfl) ⟨Nat.le_of_ble_eq_true rfl, Nat.le_of_ble_eq_true rfl⟩ ⟨Nat.le_of_ble_eq_true rfl, Nat.le_of_ble_eq_true rfl⟩ dX6_haveRoomFor_5 (fun H locs hR hS => ?_)
  refine lv_iconst (v := (0)) hx hb dX6_haveRoomFor_8 (by decide) ?_
  refine lv_istore_n (lv' := [(3, .int (0 : Int32)), (0, .ref v0), (1, .ref v1), (2, .int v2)]) hx hb dX6_haveRoomFor_9 rfl hl (by decide) rfl (fun ls hl => ?_)
  refine w_X6_haveRoomFor_L10 X hr _ _ _ (fun N19 H locs ls hR hS hl hp => ?_) _ _ _ _ _ _ hR hS (lv_sub hl [1, 2, 3, 0] rfl) hp
  refine lv_aload_n hx hb dX6_haveRoomFor_72 rfl (lv_at hl 1 rfl) ?_
  obtain ⟨x20, e_x20, hp⟩ := owp_ob hp
  refine gf_X6_68 X hR e_x20 dX6_haveRoomFor_73 ?_
  refine lv_astore_n (lv' := [(3, .ref x20), (0, .ref v0), (1, .ref v1), (2, .int v2)]) hx hb dX6_haveRoomFor_76 rfl hl (by decide) rfl (fun ls hl => ?_)
  refine lv_iconst (v := (0)) hx hb dX6_haveRoomFor_77 (by decide) ?_
  refine lv_istore (lv' := [(4, .int (0 : Int32)), (3, .ref x20), (0, .ref v0), (1, .ref v1), (2, .int v2)]) hx hb dX6_haveRoomFor_78 hl (by decide) rfl (fun ls hl => ?_)
  refine w_X6_haveRoomFor_L80 X hr _ _ _ _ (fun N28 H locs ls hR hS hl hp => ?_) _ _ _ _ _ _ hR hS (lv_sub hl [2, 3, 4, 1, 0] rfl) hp
  refine lv_iconst (v := (0)) hx hb dX6_haveRoomFor_113 (by decide) ?_
  refine lv_istore (lv' := [(4, .int (0 : Int32)), (0, .ref v0), (1, .ref v1)]) hx hb dX6_haveRoomFor_114 hl (by decide) rfl (fun ls hl => ?_)
  refine w_X6_haveRoomFor_L116 X hr _ _ (fun N35 H locs ls hR hS hl hp => ?_) (fun N36 H locs ls hR hS hl hp => ?_) _ _ _ _ _ _ hR hS (lv_sub hl [1, 2, 0] rfl) hp
  · refine lv_iconst (v := (0)) hx hb dX6_haveRoomFor_140 (by decide) ?_
    exact hr _ _ _ _ _ _ hR hS dX6_haveRoomFor_141 (rZ_0 hp)
  · refine lv_iconst (v := (1)) hx hb dX6_haveRoomFor_148 (by decide) ?_
    exact hr _ _ _ _ _ _ hR hS dX6_haveRoomFor_149 (rZ_1 hp)
end
theorem ct_X6_haveRoomFor {v0 : Nat} {v1 : Nat} {v2 : Int32} {N N1 : AH} {r : Int32} (h : f_X6_haveRoomFor v0 v1 v2 N = some (r, N1)) : Ct yX6_haveRoomFor cX6_haveRoomFor 5 (some .boolean) rm_X6_haveRoomFor [.ref v0, .ref v1, .int v2] N (some (.int r)) N1 :=
  ab_met (own := RX6) (by decide +kernel) rfl (Nat.le_of_ble_eq_true rfl) (fun l G aC t b0 p e s m below meth c ls X hr hlk hnm hR hS hl => wk_X6_haveRoomFor X (RtZ_met X.1.1 X.1.2.1 hr hlk) _ _ _ _ _ _ _ hR hS hl (owp_of h))
theorem cw_X6_haveRoomFor : Cond.code yX6_haveRoomFor cX6_haveRoomFor 5 (some .boolean) ∈ WT := WT_of 562 (by decide +kernel) (by decide +kernel)
theorem iv_X6_haveRoomFor {p : Program} {l : Launch} {e : Env} {R : Room} {s : State} {m : MethodId} {args : Array Value} {below : List Frame} {meth : Method} {c : Code} {H : Heap} {locs : List Loc} {cells slots : Nat} {Q : State → Prop} {cc : ByteArray} {own : String} {nL : Nat} {G : va_G} {aC : Nat → ClassId} {t b0 : Nat} {N N1 : AH} {pc index : Nat} {ls : Array Slot} {rest : List Value} {v0 : Nat} {v1 : Nat} {v2 : Int32} {r : Int32} (w1 : Cond.methodLink own index yX6_haveRoomFor ∈ WT) (X : CX cc own nL G aC t b0 p s m args c) (hR : Rp G aC b0 N H) (hS : va_S (fun q => b0 ≤ q) s.heap H locs) (h : f_X6_haveRoomFor v0 v1 v2 N = some (r, N1)) (hls : ls.size = nL) (hW : (rest.map fun v => v.category).sum ≤ 8) (hR1 : 3 ≤ R.frames ∧ 72 ≤ R.locals) (hcs : cells + 0 ≤ R.cells ∧ slots + 0 ≤ R.slots) (hdg : decode cc pc = .ok (.invokevirtual index, 3)) (kk : ∀ (H1 : Heap) (locs1 : List Loc), Rp G aC b0 N1 H1 → va_S (fun q => b0 ≤ q) s.heap H1 locs1 → W p l e R s m args below meth c H1 locs1 cells slots Q (F0 m (pc + 3) ls (.int r :: rest))) : W p l e R s m args below meth c H locs cells slots Q (F0 m pc ls (.int v2 :: .ref v1 :: .ref v0 :: rest)) :=
  ab_callV (n := 2) (As := [.ref v1, .int v2]) X hR hS (ct_X6_haveRoomFor h) (ob_rc (c := 6) (N := N) (a := v0) h) (T := TX6) (k := 1) (C := RX6) rfl w1 (WT_of 560 (by decide +kernel) (by decide +kernel)) (WT_of 561 (by decide +kernel) (by decide +kernel)) (WT_of 90 (by decide +kernel) (by decide +kernel)) cw_X6_haveRoomFor ⟨rfl, by decide +kernel, by decide +kernel, by decide +kernel⟩ rfl hls hW hR1 hcs rfl hdg kk
-- X7_makeGroup
theorem gf_X7_103 {p : Program} {l : Launch} {e : Env} {R : Room} {s : State} {m : MethodId} {args : Array Value} {below : List Frame} {meth : Method} {c : Code} {H : Heap} {locs : List Loc} {cells slots : Nat} {Q : State → Prop} {cc : ByteArray} {nL : Nat} {G : va_G} {aC : Nat → ClassId} {t b0 : Nat} {N : AH} {pc : Nat} {ls : Array Slot} {rest : List Value} {a : Nat} {v : Nat} (X : CX cc RX7 nL G aC t b0 p s m args c) (hR0 : Rp G aC b0 N H) (hv : hR N a 4 5 = some v) (hdg : decode cc pc = .ok (.getfield 103, 3)) (kk : W p l e R s m args below meth c H locs cells slots Q (F0 m (pc + 3) ls (.ref v :: rest))) : W p l e R s m args below meth c H locs cells slots Q (F0 m pc ls (.ref a :: rest)) := by
  obtain ⟨fs, h1, h2⟩ := hR_ok hv
  exact ab_get (C := RX4) (T := TX4) (n := 6) X hR0 h1 h2 rfl inX4 (by decide) (WT_of 210 (by decide +kernel) (by decide +kernel)) hdg kk
theorem mw_X7_109 : Cond.methodLink RX7 109 yX0_add ∈ WT := WT_of 591 (by decide +kernel) (by decide +kernel)
theorem pf_X7_88 {p : Program} {l : Launch} {e : Env} {R : Room} {s : State} {m : MethodId} {args : Array Value} {below : List Frame} {meth : Method} {c : Code} {H : Heap} {locs : List Loc} {cells slots : Nat} {Q : State → Prop} {cc : ByteArray} {nL : Nat} {G : va_G} {aC : Nat → ClassId} {t b0 : Nat} {N : AH} {pc : Nat} {ls : Array Slot} {rest : List Value} {N1 : AH} {a : Nat} {v : Int32} (X : CX cc RX7 nL G aC t b0 p s m args c) (hR0 : Rp G aC b0 N H) (hS : va_S (fun q => b0 ≤ q) s.heap H locs) (hv : pI N a 4 0 v = some N1) (hdg : decode cc pc = .ok (.putfield 88, 3)) (kk : ∀ (H1 : Heap) (locs1 : List Loc), Rp G aC b0 N1 H1 → va_S (fun q => b0 ≤ q) s.heap H1 locs1 → W p l e R s m args below meth c H1 locs1 cells slots Q (F0 m (pc + 3) ls rest)) : W p l e R s m args below meth c H locs cells slots Q (F0 m pc ls (.int v :: .ref a :: rest)) := by
  obtain ⟨fs, h1, h2, h3⟩ := pV_ok hv
  subst h3
  exact ab_put (C := RX4) (T := TX4) (n := 6) X hR0 hS h1 h2 rfl inX4 tyX4 tyX4_ok nmX4 (by decide) (WT_of 189 (by decide +kernel) (by decide +kernel)) rfl rfl rfl hdg kk
theorem pf_X7_91 {p : Program} {l : Launch} {e : Env} {R : Room} {s : State} {m : MethodId} {args : Array Value} {below : List Frame} {meth : Method} {c : Code} {H : Heap} {locs : List Loc} {cells slots : Nat} {Q : State → Prop} {cc : ByteArray} {nL : Nat} {G : va_G} {aC : Nat → ClassId} {t b0 : Nat} {N : AH} {pc : Nat} {ls : Array Slot} {rest : List Value} {N1 : AH} {a : Nat} {v : Int32} (X : CX cc RX7 nL G aC t b0 p s m args c) (hR0 : Rp G aC b0 N H) (hS : va_S (fun q => b0 ≤ q) s.heap H locs) (hv : pI N a 4 1 v = some N1) (hdg : decode cc pc = .ok (.putfield 91, 3)) (kk : ∀ (H1 : Heap) (locs1 : List Loc), Rp G aC b0 N1 H1 → va_S (fun q => b0 ≤ q) s.heap H1 locs1 → W p l e R s m args below meth c H1 locs1 cells slots Q (F0 m (pc + 3) ls rest)) : W p l e R s m args below meth c H locs cells slots Q (F0 m pc ls (.int v :: .ref a :: rest)) := by
  obtain ⟨fs, h1, h2, h3⟩ := pV_ok hv
  subst h3
  exact ab_put (C := RX4) (T := TX4) (n := 6) X hR0 hS h1 h2 rfl inX4 tyX4 tyX4_ok nmX4 (by decide) (WT_of 194 (by decide +kernel) (by decide +kernel)) rfl rfl rfl hdg kk
theorem pf_X7_94 {p : Program} {l : Launch} {e : Env} {R : Room} {s : State} {m : MethodId} {args : Array Value} {below : List Frame} {meth : Method} {c : Code} {H : Heap} {locs : List Loc} {cells slots : Nat} {Q : State → Prop} {cc : ByteArray} {nL : Nat} {G : va_G} {aC : Nat → ClassId} {t b0 : Nat} {N : AH} {pc : Nat} {ls : Array Slot} {rest : List Value} {N1 : AH} {a : Nat} {v : Int32} (X : CX cc RX7 nL G aC t b0 p s m args c) (hR0 : Rp G aC b0 N H) (hS : va_S (fun q => b0 ≤ q) s.heap H locs) (hv : pI N a 4 2 v = some N1) (hdg : decode cc pc = .ok (.putfield 94, 3)) (kk : ∀ (H1 : Heap) (locs1 : List Loc), Rp G aC b0 N1 H1 → va_S (fun q => b0 ≤ q) s.heap H1 locs1 → W p l e R s m args below meth c H1 locs1 cells slots Q (F0 m (pc + 3) ls rest)) : W p l e R s m args below meth c H locs cells slots Q (F0 m pc ls (.int v :: .ref a :: rest)) := by
  obtain ⟨fs, h1, h2, h3⟩ := pV_ok hv
  subst h3
  exact ab_put (C := RX4) (T := TX4) (n := 6) X hR0 hS h1 h2 rfl inX4 tyX4 tyX4_ok nmX4 (by decide) (WT_of 199 (by decide +kernel) (by decide +kernel)) rfl rfl rfl hdg kk
theorem pf_X7_97 {p : Program} {l : Launch} {e : Env} {R : Room} {s : State} {m : MethodId} {args : Array Value} {below : List Frame} {meth : Method} {c : Code} {H : Heap} {locs : List Loc} {cells slots : Nat} {Q : State → Prop} {cc : ByteArray} {nL : Nat} {G : va_G} {aC : Nat → ClassId} {t b0 : Nat} {N : AH} {pc : Nat} {ls : Array Slot} {rest : List Value} {N1 : AH} {a : Nat} {v : Int32} (X : CX cc RX7 nL G aC t b0 p s m args c) (hR0 : Rp G aC b0 N H) (hS : va_S (fun q => b0 ≤ q) s.heap H locs) (hv : pI N a 4 3 v = some N1) (hdg : decode cc pc = .ok (.putfield 97, 3)) (kk : ∀ (H1 : Heap) (locs1 : List Loc), Rp G aC b0 N1 H1 → va_S (fun q => b0 ≤ q) s.heap H1 locs1 → W p l e R s m args below meth c H1 locs1 cells slots Q (F0 m (pc + 3) ls rest)) : W p l e R s m args below meth c H locs cells slots Q (F0 m pc ls (.int v :: .ref a :: rest)) := by
  obtain ⟨fs, h1, h2, h3⟩ := pV_ok hv
  subst h3
  exact ab_put (C := RX4) (T := TX4) (n := 6) X hR0 hS h1 h2 rfl inX4 tyX4 tyX4_ok nmX4 (by decide) (WT_of 203 (by decide +kernel) (by decide +kernel)) rfl rfl rfl hdg kk
theorem pf_X7_100 {p : Program} {l : Launch} {e : Env} {R : Room} {s : State} {m : MethodId} {args : Array Value} {below : List Frame} {meth : Method} {c : Code} {H : Heap} {locs : List Loc} {cells slots : Nat} {Q : State → Prop} {cc : ByteArray} {nL : Nat} {G : va_G} {aC : Nat → ClassId} {t b0 : Nat} {N : AH} {pc : Nat} {ls : Array Slot} {rest : List Value} {N1 : AH} {a : Nat} {v : Int32} (X : CX cc RX7 nL G aC t b0 p s m args c) (hR0 : Rp G aC b0 N H) (hS : va_S (fun q => b0 ≤ q) s.heap H locs) (hv : pZ N a 4 4 v = some N1) (hdg : decode cc pc = .ok (.putfield 100, 3)) (kk : ∀ (H1 : Heap) (locs1 : List Loc), Rp G aC b0 N1 H1 → va_S (fun q => b0 ≤ q) s.heap H1 locs1 → W p l e R s m args below meth c H1 locs1 cells slots Q (F0 m (pc + 3) ls rest)) : W p l e R s m args below meth c H locs cells slots Q (F0 m pc ls (.int v :: .ref a :: rest)) := by
  unfold pZ at hv
  split at hv
  case isFalse => cases hv
  rename_i h01
  obtain ⟨fs, h1, h2, h3⟩ := pV_ok hv
  subst h3
  exact ab_put (C := RX4) (T := TX4) (n := 6) X hR0 hS h1 h2 rfl inX4 tyX4 tyX4_ok nmX4 (by decide) (WT_of 208 (by decide +kernel) (by decide +kernel)) rfl (by rcases h01 with rfl | rfl <;> rfl) (by rcases h01 with rfl | rfl <;> rfl) hdg kk
theorem pf_X7_106 {p : Program} {l : Launch} {e : Env} {R : Room} {s : State} {m : MethodId} {args : Array Value} {below : List Frame} {meth : Method} {c : Code} {H : Heap} {locs : List Loc} {cells slots : Nat} {Q : State → Prop} {cc : ByteArray} {nL : Nat} {G : va_G} {aC : Nat → ClassId} {t b0 : Nat} {N : AH} {pc : Nat} {ls : Array Slot} {rest : List Value} {N1 : AH} {a : Nat} {v : Int32} (X : CX cc RX7 nL G aC t b0 p s m args c) (hR0 : Rp G aC b0 N H) (hS : va_S (fun q => b0 ≤ q) s.heap H locs) (hv : pI N a 1 0 v = some N1) (hdg : decode cc pc = .ok (.putfield 106, 3)) (kk : ∀ (H1 : Heap) (locs1 : List Loc), Rp G aC b0 N1 H1 → va_S (fun q => b0 ≤ q) s.heap H1 locs1 → W p l e R s m args below meth c H1 locs1 cells slots Q (F0 m (pc + 3) ls rest)) : W p l e R s m args below meth c H locs cells slots Q (F0 m pc ls (.int v :: .ref a :: rest)) := by
  obtain ⟨fs, h1, h2, h3⟩ := pV_ok hv
  subst h3
  exact ab_put (C := RX1) (T := TX1) (n := 6) X hR0 hS h1 h2 rfl inX1 tyX1 tyX1_ok nmX1 (by decide) (WT_of 117 (by decide +kernel) (by decide +kernel)) rfl rfl rfl hdg kk
theorem dX7_makeGroup_0 : decode cX7_makeGroup 0 = .ok (.aload_n 0, 1) := by decide +kernel
theorem dX7_makeGroup_1 : decode cX7_makeGroup 1 = .ok (.getfield 65, 3) := by decide +kernel
theorem dX7_makeGroup_4 : decode cX7_makeGroup 4 = .ok (.istore 5, 2) := by decide +kernel
theorem dX7_makeGroup_6 : decode cX7_makeGroup 6 = .ok (.iload 5, 2) := by decide +kernel
theorem dX7_makeGroup_8 : decode cX7_makeGroup 8 = .ok (.bipush 12, 2) := by decide +kernel
theorem dX7_makeGroup_10 : decode cX7_makeGroup 10 = .ok (.invokestatic 84, 3) := by decide +kernel
theorem dX7_makeGroup_13 : decode cX7_makeGroup 13 = .ok (.ifCond .ne 6, 3) := by decide +kernel
theorem dX7_makeGroup_16 : decode cX7_makeGroup 16 = .ok (.bipush (-5), 2) := by decide +kernel
theorem dX7_makeGroup_18 : decode cX7_makeGroup 18 = .ok (.ireturn, 1) := by decide +kernel
theorem dX7_makeGroup_19 : decode cX7_makeGroup 19 = .ok (.aload_n 0, 1) := by decide +kernel
theorem dX7_makeGroup_20 : decode cX7_makeGroup 20 = .ok (.getfield 41, 3) := by decide +kernel
theorem dX7_makeGroup_23 : decode cX7_makeGroup 23 = .ok (.iload 5, 2) := by decide +kernel
theorem dX7_makeGroup_25 : decode cX7_makeGroup 25 = .ok (.aaload, 1) := by decide +kernel
theorem dX7_makeGroup_26 : decode cX7_makeGroup 26 = .ok (.astore 6, 2) := by decide +kernel
theorem dX7_makeGroup_28 : decode cX7_makeGroup 28 = .ok (.aload 6, 2) := by decide +kernel
theorem dX7_makeGroup_30 : decode cX7_makeGroup 30 = .ok (.aload_n 0, 1) := by decide +kernel
theorem dX7_makeGroup_31 : decode cX7_makeGroup 31 = .ok (.getfield 53, 3) := by decide +kernel
theorem dX7_makeGroup_34 : decode cX7_makeGroup 34 = .ok (.iload_n 1, 1) := by decide +kernel
theorem dX7_makeGroup_35 : decode cX7_makeGroup 35 = .ok (.iadd, 1) := by decide +kernel
theorem dX7_makeGroup_36 : decode cX7_makeGroup 36 = .ok (.putfield 88, 3) := by decide +kernel
theorem dX7_makeGroup_39 : decode cX7_makeGroup 39 = .ok (.aload 6, 2) := by decide +kernel
theorem dX7_makeGroup_41 : decode cX7_makeGroup 41 = .ok (.iload_n 2, 1) := by decide +kernel
theorem dX7_makeGroup_42 : decode cX7_makeGroup 42 = .ok (.putfield 91, 3) := by decide +kernel
theorem dX7_makeGroup_45 : decode cX7_makeGroup 45 = .ok (.aload 6, 2) := by decide +kernel
theorem dX7_makeGroup_47 : decode cX7_makeGroup 47 = .ok (.iload_n 3, 1) := by decide +kernel
theorem dX7_makeGroup_48 : decode cX7_makeGroup 48 = .ok (.putfield 94, 3) := by decide +kernel
theorem dX7_makeGroup_51 : decode cX7_makeGroup 51 = .ok (.aload 6, 2) := by decide +kernel
theorem dX7_makeGroup_53 : decode cX7_makeGroup 53 = .ok (.iconst (-1), 1) := by decide +kernel
theorem dX7_makeGroup_54 : decode cX7_makeGroup 54 = .ok (.putfield 97, 3) := by decide +kernel
theorem dX7_makeGroup_57 : decode cX7_makeGroup 57 = .ok (.aload 6, 2) := by decide +kernel
theorem dX7_makeGroup_59 : decode cX7_makeGroup 59 = .ok (.iload 4, 2) := by decide +kernel
theorem dX7_makeGroup_61 : decode cX7_makeGroup 61 = .ok (.putfield 100, 3) := by decide +kernel
theorem dX7_makeGroup_64 : decode cX7_makeGroup 64 = .ok (.aload 6, 2) := by decide +kernel
theorem dX7_makeGroup_66 : decode cX7_makeGroup 66 = .ok (.getfield 103, 3) := by decide +kernel
theorem dX7_makeGroup_69 : decode cX7_makeGroup 69 = .ok (.aload_n 0, 1) := by decide +kernel
theorem dX7_makeGroup_70 : decode cX7_makeGroup 70 = .ok (.getfield 35, 3) := by decide +kernel
theorem dX7_makeGroup_73 : decode cX7_makeGroup 73 = .ok (.invokevirtual 74, 3) := by decide +kernel
theorem dX7_makeGroup_76 : decode cX7_makeGroup 76 = .ok (.aload_n 0, 1) := by decide +kernel
theorem dX7_makeGroup_77 : decode cX7_makeGroup 77 = .ok (.getfield 35, 3) := by decide +kernel
theorem dX7_makeGroup_80 : decode cX7_makeGroup 80 = .ok (.iconst 0, 1) := by decide +kernel
theorem dX7_makeGroup_81 : decode cX7_makeGroup 81 = .ok (.putfield 106, 3) := by decide +kernel
theorem dX7_makeGroup_84 : decode cX7_makeGroup 84 = .ok (.aload_n 0, 1) := by decide +kernel
theorem dX7_makeGroup_85 : decode cX7_makeGroup 85 = .ok (.dup, 1) := by decide +kernel
theorem dX7_makeGroup_86 : decode cX7_makeGroup 86 = .ok (.getfield 65, 3) := by decide +kernel
theorem dX7_makeGroup_89 : decode cX7_makeGroup 89 = .ok (.iconst 1, 1) := by decide +kernel
theorem dX7_makeGroup_90 : decode cX7_makeGroup 90 = .ok (.iadd, 1) := by decide +kernel
theorem dX7_makeGroup_91 : decode cX7_makeGroup 91 = .ok (.putfield 65, 3) := by decide +kernel
theorem dX7_makeGroup_94 : decode cX7_makeGroup 94 = .ok (.iload 4, 2) := by decide +kernel
theorem dX7_makeGroup_96 : decode cX7_makeGroup 96 = .ok (.ifCond .eq 17, 3) := by decide +kernel
theorem dX7_makeGroup_99 : decode cX7_makeGroup 99 = .ok (.aload_n 0, 1) := by decide +kernel
theorem dX7_makeGroup_100 : decode cX7_makeGroup 100 = .ok (.getfield 49, 3) := by decide +kernel
theorem dX7_makeGroup_103 : decode cX7_makeGroup 103 = .ok (.iconst 3, 1) := by decide +kernel
theorem dX7_makeGroup_104 : decode cX7_makeGroup 104 = .ok (.iload 5, 2) := by decide +kernel
theorem dX7_makeGroup_106 : decode cX7_makeGroup 106 = .ok (.aload_n 0, 1) := by decide +kernel
theorem dX7_makeGroup_107 : decode cX7_makeGroup 107 = .ok (.getfield 53, 3) := by decide +kernel
theorem dX7_makeGroup_110 : decode cX7_makeGroup 110 = .ok (.invokevirtual 109, 3) := by decide +kernel
theorem dX7_makeGroup_113 : decode cX7_makeGroup 113 = .ok (.iload 5, 2) := by decide +kernel
theorem dX7_makeGroup_115 : decode cX7_makeGroup 115 = .ok (.ireturn, 1) := by decide +kernel
def rm_X7_makeGroup : Room := { frames := 2, cells := 0, slots := 0, locals := 39 }
section
variable {p : Program} {l : Launch} {e : Env} {s : State} {m : MethodId} {args : Array Value} {below : List Frame} {meth : Method} {c : Code} {Q : State → Prop} {G : va_G} {aC : Nat → ClassId} {t b0 : Nat}
def f_X7_makeGroup (v0 : Nat) (v1 : Int32) (v2 : Int32) (v3 : Int32) (v4 : Int32) (N : AH) : Option (Int32 × AH) := ob (iO N v0 7) (fun _ => ob (hI N v0 7 6) (fun x1 => ob2 (f_X9_isOneOf x1 (12 : Int32) N) (fun x3 N2 => if ¬ x3 = 0 then ob (hR N2 v0 7 10) (fun x5 => ob (aR N2 2 x5 x1) (fun x6 => ob (hI N2 v0 7 0) (fun x7 => ob (pI N2 x6 4 0 (x7 + v1)) (fun N8 => ob (pI N8 x6 4 1 v2) (fun N9 => ob (pI N9 x6 4 2 v3) (fun N10 => ob (pI N10 x6 4 3 (-1 : Int32)) (fun N11 => ob (pZ N11 x6 4 4 v4) (fun N12 => ob (hR N12 x6 4 5) (fun x13 => ob (hR N12 v0 7 9) (fun x14 => ob2 (f_X1_copyFrom x13 x14 N12) (fun _ N15 => ob (hR N15 v0 7 9) (fun x16 => ob (pI N15 x16 1 0 (0 : Int32)) (fun N17 => ob (hI N17 v0 7 6) (fun x18 => ob (pI N17 v0 7 6 (x18 + (1 : Int32))) (fun N19 => if v4 = 0 then some (x1, N19) else ob (hR N19 v0 7 11) (fun x21 => ob (hI N19 v0 7 0) (fun x22 => ob2 (f_X0_add x21 (3 : Int32) x1 x22 N19) (fun _ N23 => some (x1, N23))))))))))))))))))) else some ((-5 : Int32), N2))))
set_option maxHeartbeats 4000000 in
set_option maxRecDepth 100000 in
theorem wk_X7_makeGroup {P : Int32 × AH → Prop} (X : CX cX7_makeGroup RX7 7 G aC t b0 p s m args c) (hr : RtI p l e rm_X7_makeGroup s m args below meth c 0 0 Q cX7_makeGroup G aC b0 P) (v0 : Nat) (v1 : Int32) (v2 : Int32) (v3 : Int32) (v4 : Int32) (N : AH) (H : Heap) (locs : List Loc) (ls : Array Slot) (hR : Rp G aC b0 N H) (hS : va_S (fun q => b0 ≤ q) s.heap H locs) (hl : lv_has ls 7 [(0, .ref v0), (1, .int v1), (2, .int v2), (3, .int v3), (4, .int v4)]) (hp : owp (f_X7_makeGroup v0 v1 v2 v3 v4 N) P) : W p l e rm_X7_makeGroup s m args below meth c H locs 0 0 Q (F0 m 0 ls []) := by
  have hx := X.1.1
  have hb := X.1.2.1
  unfold f_X7_makeGroup at hp
  obtain ⟨_, _, hp⟩ := owp_ob hp
  refine lv_aload_n hx hb dX7_makeGroup_0 rfl (lv_at hl 0 rfl) ?_
  obtain ⟨x1, e_x1, hp⟩ := owp_ob hp
  refine gf_X7_65 X hR e_x1 dX7_makeGroup_1 ?_
  refine lv_istore (lv' := [(5, .int x1), (0, .ref v0), (1, .int v1), (2, .int v2), (3, .int v3), (4, .int v4)]) hx hb dX7_makeGroup_4 hl (by decide) rfl (fun ls hl => ?_)
  refine lv_iload hx hb dX7_makeGroup_6 (lv_at hl 0 rfl) ?_
  refine lv_bipush (v := (12)) hx hb dX7_makeGroup_8 (by decide) ?_
  obtain ⟨x3, N2, e_N2, hp⟩ := owp_ob2 hp
  refine ivN_X9_isOneOf (rest := []) (by simp [NWs, yX9_isOneOf]) X hR hS e_N2 hl.1 (Nat.le_of_ble_eq_true rfl) ⟨Nat.le_of_ble_eq_true rfl, Nat.le_of_ble_eq_true rfl⟩ ⟨Nat.le_of_ble_eq_true rfl, Nat.le_of_ble_eq_true rfl⟩ dX7_makeGroup_10 (fun H locs hR hS => ?_)
  refine lv_if_ne (tgt := 19) hx hb dX7_makeGroup_13 (by decide) (fun k4 => ?_) (fun k4 => ?_)
  · have hp := owp_t k4 hp
    refine lv_aload_n hx hb dX7_makeGroup_19 rfl (lv_at hl 1 rfl) ?_
    obtain ⟨x5, e_x5, hp⟩ := owp_ob hp
    refine gf_X7_41 X hR e_x5 dX7_makeGroup_20 ?_
    refine lv_iload hx hb dX7_makeGroup_23 (lv_at hl 0 rfl) ?_
    obtain ⟨x6, e_x6, hp⟩ := owp_ob hp
    refine ab_aald X hR (kd := 2) rfl e_x6 dX7_makeGroup_25 ?_
    refine lv_astore (lv' := [(6, .ref x6), (5, .int x1), (0, .ref v0), (1, .int v1), (2, .int v2), (3, .int v3), (4, .int v4)]) hx hb dX7_makeGroup_26 hl (by decide) rfl (fun ls hl => ?_)
    refine lv_aload hx hb dX7_makeGroup_28 (lv_at hl 0 rfl) ?_
    refine lv_aload_n hx hb dX7_makeGroup_30 rfl (lv_at hl 2 rfl) ?_
    obtain ⟨x7, e_x7, hp⟩ := owp_ob hp
    refine gf_X7_53 X hR e_x7 dX7_makeGroup_31 ?_
    refine lv_iload_n hx hb dX7_makeGroup_34 rfl (lv_at hl 3 rfl) ?_
    refine lv_iadd hx hb dX7_makeGroup_35 ?_
    obtain ⟨N8, e_N8, hp⟩ := owp_ob hp
    refine pf_X7_88 X hR hS e_N8 dX7_makeGroup_36 (fun H locs hR hS => ?_)
    refine lv_aload hx hb dX7_makeGroup_39 (lv_at hl 0 rfl) ?_
    refine lv_iload_n hx hb dX7_makeGroup_41 rfl (lv_at hl 4 rfl) ?_
    obtain ⟨N9, e_N9, hp⟩ := owp_ob hp
    refine pf_X7_91 X hR hS e_N9 dX7_makeGroup_42 (fun H locs hR hS => ?_)
    refine lv_aload hx hb dX7_makeGroup_45 (lv_at hl 0 rfl) ?_
    refine lv_iload_n hx hb dX7_makeGroup_47 rfl (lv_at hl 5 rfl) ?_
    obtain ⟨N10, e_N10, hp⟩ := owp_ob hp
    refine pf_X7_94 X hR hS e_N10 dX7_makeGroup_48 (fun H locs hR hS => ?_)
    refine lv_aload hx hb dX7_makeGroup_51 (lv_at hl 0 rfl) ?_
    refine lv_iconst (v := (-1)) hx hb dX7_makeGroup_53 (by decide) ?_
    obtain ⟨N11, e_N11, hp⟩ := owp_ob hp
    refine pf_X7_97 X hR hS e_N11 dX7_makeGroup_54 (fun H locs hR hS => ?_)
    refine lv_aload hx hb dX7_makeGroup_57 (lv_at hl 0 rfl) ?_
    refine lv_iload hx hb dX7_makeGroup_59 (lv_at hl 6 rfl) ?_
    obtain ⟨N12, e_N12, hp⟩ := owp_ob hp
    refine pf_X7_100 X hR hS e_N12 dX7_makeGroup_61 (fun H locs hR hS => ?_)
    refine lv_aload hx hb dX7_makeGroup_64 (lv_at hl 0 rfl) ?_
    obtain ⟨x13, e_x13, hp⟩ := owp_ob hp
    refine gf_X7_103 X hR e_x13 dX7_makeGroup_66 ?_
    refine lv_aload_n hx hb dX7_makeGroup_69 rfl (lv_at hl 2 rfl) ?_
    obtain ⟨x14, e_x14, hp⟩ := owp_ob hp
    refine gf_X7_35 X hR e_x14 dX7_makeGroup_70 ?_
    obtain ⟨_, N15, e_N15, hp⟩ := owp_ob2 hp
    refine iv_X1_copyFrom (rest := []) mw_X7_74 X hR hS e_N15 hl.1 (Nat.le_of_ble_eq_true rfl) ⟨Nat.le_of_ble_eq_true rfl, Nat.le_of_ble_eq_true rfl⟩ ⟨Nat.le_of_ble_eq_true rfl, Nat.le_of_ble_eq_true rfl⟩ dX7_makeGroup_73 (fun H locs hR hS => ?_)
    refine lv_aload_n hx hb dX7_makeGroup_76 rfl (lv_at hl 2 rfl) ?_
    obtain ⟨x16, e_x16, hp⟩ := owp_ob hp
    refine gf_X7_35 X hR e_x16 dX7_makeGroup_77 ?_
    refine lv_iconst (v := (0)) hx hb dX7_makeGroup_80 (by decide) ?_
    obtain ⟨N17, e_N17, hp⟩ := owp_ob hp
    refine pf_X7_106 X hR hS e_N17 dX7_makeGroup_81 (fun H locs hR hS => ?_)
    refine lv_aload_n hx hb dX7_makeGroup_84 rfl (lv_at hl 2 rfl) ?_
    refine lv_dup hx hb dX7_makeGroup_85 rfl ?_
    obtain ⟨x18, e_x18, hp⟩ := owp_ob hp
    refine gf_X7_65 X hR e_x18 dX7_makeGroup_86 ?_
    refine lv_iconst (v := (1)) hx hb dX7_makeGroup_89 (by decide) ?_
    refine lv_iadd hx hb dX7_makeGroup_90 ?_
    obtain ⟨N19, e_N19, hp⟩ := owp_ob hp
    refine pf_X7_65 X hR hS e_N19 dX7_makeGroup_91 (fun H locs hR hS => ?_)
    refine lv_iload hx hb dX7_makeGroup_94 (lv_at hl 6 rfl) ?_
    refine lv_if_eq (tgt := 113) hx hb dX7_makeGroup_96 (by decide) (fun k20 => ?_) (fun k20 => ?_)
    · have hp := owp_t k20 hp
      refine lv_iload hx hb dX7_makeGroup_113 (lv_at hl 1 rfl) ?_
      exact hr _ _ _ _ _ _ hR hS dX7_makeGroup_115 hp
    · have hp := owp_f k20 hp
      refine lv_aload_n hx hb dX7_makeGroup_99 rfl (lv_at hl 2 rfl) ?_
      obtain ⟨x21, e_x21, hp⟩ := owp_ob hp
      refine gf_X7_49 X hR e_x21 dX7_makeGroup_100 ?_
      refine lv_iconst (v := (3)) hx hb dX7_makeGroup_103 (by decide) ?_
      refine lv_iload hx hb dX7_makeGroup_104 (lv_at hl 1 rfl) ?_
      refine lv_aload_n hx hb dX7_makeGroup_106 rfl (lv_at hl 2 rfl) ?_
      obtain ⟨x22, e_x22, hp⟩ := owp_ob hp
      refine gf_X7_53 X hR e_x22 dX7_makeGroup_107 ?_
      obtain ⟨_, N23, e_N23, hp⟩ := owp_ob2 hp
      refine iv_X0_add (rest := []) mw_X7_109 X hR hS e_N23 hl.1 (Nat.le_of_ble_eq_true rfl) ⟨Nat.le_of_ble_eq_true rfl, Nat.le_of_ble_eq_true rfl⟩ ⟨Nat.le_of_ble_eq_true rfl, Nat.le_of_ble_eq_true rfl⟩ dX7_makeGroup_110 (fun H locs hR hS => ?_)
      refine lv_iload hx hb dX7_makeGroup_113 (lv_at hl 1 rfl) ?_
      exact hr _ _ _ _ _ _ hR hS dX7_makeGroup_115 hp
  · have hp := owp_f (fun q => q k4) hp
    refine lv_bipush (v := (-5)) hx hb dX7_makeGroup_16 (by decide) ?_
    exact hr _ _ _ _ _ _ hR hS dX7_makeGroup_18 hp
end
theorem ct_X7_makeGroup {v0 : Nat} {v1 : Int32} {v2 : Int32} {v3 : Int32} {v4 : Int32} {N N1 : AH} {r : Int32} (h : f_X7_makeGroup v0 v1 v2 v3 v4 N = some (r, N1)) : Ct yX7_makeGroup cX7_makeGroup 7 (some .int) rm_X7_makeGroup [.ref v0, .int v1, .int v2, .int v3, .int v4] N (some (.int r)) N1 :=
  ab_met (own := RX7) (by decide +kernel) rfl (Nat.le_of_ble_eq_true rfl) (fun l G aC t b0 p e s m below meth c ls X hr hlk hnm hR hS hl => wk_X7_makeGroup X (RtI_met X.1.1 X.1.2.1 hr hlk) _ _ _ _ _ _ _ _ _ hR hS hl (owp_of h))
theorem cw_X7_makeGroup : Cond.code yX7_makeGroup cX7_makeGroup 7 (some .int) ∈ WT := WT_of 589 (by decide +kernel) (by decide +kernel)
theorem iv_X7_makeGroup {p : Program} {l : Launch} {e : Env} {R : Room} {s : State} {m : MethodId} {args : Array Value} {below : List Frame} {meth : Method} {c : Code} {H : Heap} {locs : List Loc} {cells slots : Nat} {Q : State → Prop} {cc : ByteArray} {own : String} {nL : Nat} {G : va_G} {aC : Nat → ClassId} {t b0 : Nat} {N N1 : AH} {pc index : Nat} {ls : Array Slot} {rest : List Value} {v0 : Nat} {v1 : Int32} {v2 : Int32} {v3 : Int32} {v4 : Int32} {r : Int32} (w1 : Cond.methodLink own index yX7_makeGroup ∈ WT) (X : CX cc own nL G aC t b0 p s m args c) (hR : Rp G aC b0 N H) (hS : va_S (fun q => b0 ≤ q) s.heap H locs) (h : f_X7_makeGroup v0 v1 v2 v3 v4 N = some (r, N1)) (hls : ls.size = nL) (hW : (rest.map fun v => v.category).sum ≤ 8) (hR1 : 3 ≤ R.frames ∧ 65 ≤ R.locals) (hcs : cells + 0 ≤ R.cells ∧ slots + 0 ≤ R.slots) (hdg : decode cc pc = .ok (.invokevirtual index, 3)) (kk : ∀ (H1 : Heap) (locs1 : List Loc), Rp G aC b0 N1 H1 → va_S (fun q => b0 ≤ q) s.heap H1 locs1 → W p l e R s m args below meth c H1 locs1 cells slots Q (F0 m (pc + 3) ls (.int r :: rest))) : W p l e R s m args below meth c H locs cells slots Q (F0 m pc ls (.int v4 :: .int v3 :: .int v2 :: .int v1 :: .ref v0 :: rest)) :=
  ab_callV (n := 4) (As := [.int v1, .int v2, .int v3, .int v4]) X hR hS (ct_X7_makeGroup h) (ob_rc (c := 7) (N := N) (a := v0) h) (T := TX7) (k := 12) (C := RX7) rfl w1 (WT_of 587 (by decide +kernel) (by decide +kernel)) (WT_of 588 (by decide +kernel) (by decide +kernel)) (WT_of 84 (by decide +kernel) (by decide +kernel)) cw_X7_makeGroup ⟨rfl, by decide +kernel, by decide +kernel, by decide +kernel⟩ rfl hls hW hR1 hcs rfl hdg kk
-- X7_countGroups
theorem mw_X7_113 : Cond.methodLink RX7 113 yX4_stateAt ∈ WT := WT_of 725 (by decide +kernel) (by decide +kernel)
theorem dX7_countGroups_0 : decode cX7_countGroups 0 = .ok (.iconst 0, 1) := by decide +kernel
theorem dX7_countGroups_1 : decode cX7_countGroups 1 = .ok (.istore_n 2, 1) := by decide +kernel
theorem dX7_countGroups_2 : decode cX7_countGroups 2 = .ok (.iconst 0, 1) := by decide +kernel
theorem dX7_countGroups_3 : decode cX7_countGroups 3 = .ok (.istore_n 3, 1) := by decide +kernel
theorem dX7_countGroups_4 : decode cX7_countGroups 4 = .ok (.iload_n 3, 1) := by decide +kernel
theorem dX7_countGroups_5 : decode cX7_countGroups 5 = .ok (.aload_n 0, 1) := by decide +kernel
theorem dX7_countGroups_6 : decode cX7_countGroups 6 = .ok (.getfield 65, 3) := by decide +kernel
theorem dX7_countGroups_9 : decode cX7_countGroups 9 = .ok (.if_icmp .ge 29, 3) := by decide +kernel
theorem dX7_countGroups_12 : decode cX7_countGroups 12 = .ok (.aload_n 0, 1) := by decide +kernel
theorem dX7_countGroups_13 : decode cX7_countGroups 13 = .ok (.getfield 41, 3) := by decide +kernel
theorem dX7_countGroups_16 : decode cX7_countGroups 16 = .ok (.iload_n 3, 1) := by decide +kernel
theorem dX7_countGroups_17 : decode cX7_countGroups 17 = .ok (.aaload, 1) := by decide +kernel
theorem dX7_countGroups_18 : decode cX7_countGroups 18 = .ok (.aload_n 0, 1) := by decide +kernel
theorem dX7_countGroups_19 : decode cX7_countGroups 19 = .ok (.getfield 53, 3) := by decide +kernel
theorem dX7_countGroups_22 : decode cX7_countGroups 22 = .ok (.invokevirtual 113, 3) := by decide +kernel
theorem dX7_countGroups_25 : decode cX7_countGroups 25 = .ok (.iload_n 1, 1) := by decide +kernel
theorem dX7_countGroups_26 : decode cX7_countGroups 26 = .ok (.if_icmp .ne 6, 3) := by decide +kernel
theorem dX7_countGroups_29 : decode cX7_countGroups 29 = .ok (.iinc 2 1, 3) := by decide +kernel
theorem dX7_countGroups_32 : decode cX7_countGroups 32 = .ok (.iinc 3 1, 3) := by decide +kernel
theorem dX7_countGroups_35 : decode cX7_countGroups 35 = .ok (.goto (-31), 3) := by decide +kernel
theorem dX7_countGroups_38 : decode cX7_countGroups 38 = .ok (.iload_n 2, 1) := by decide +kernel
theorem dX7_countGroups_39 : decode cX7_countGroups 39 = .ok (.ireturn, 1) := by decide +kernel
def rm_X7_countGroups : Room := { frames := 1, cells := 0, slots := 0, locals := 21 }
section
variable {p : Program} {l : Launch} {e : Env} {s : State} {m : MethodId} {args : Array Value} {below : List Frame} {meth : Method} {c : Code} {Q : State → Prop} {G : va_G} {aC : Nat → ClassId} {t b0 : Nat}
def f_X7_countGroups_L4 (v0 : Nat) (v1 : Int32) (k38 : Int32 → AH → Option (Int32 × AH)) : Nat → Int32 → Int32 → AH → Option (Int32 × AH)
  | 0, _, _, _ => none
  | n + 1, v2, v3, N => ob (hI N v0 7 6) (fun x1 => if x1 ≤ v3 then k38 v2 N else ob (hR N v0 7 10) (fun x3 => ob (aR N 2 x3 v3) (fun x4 => ob (hI N v0 7 0) (fun x5 => ob2 (f_X4_stateAt x4 x5 N) (fun x7 N6 => if ¬ x7 = v1 then f_X7_countGroups_L4 v0 v1 k38 n v2 (v3 + 1) N6 else f_X7_countGroups_L4 v0 v1 k38 n (v2 + 1) (v3 + 1) N6)))))
set_option maxHeartbeats 4000000 in
set_option maxRecDepth 100000 in
theorem w_X7_countGroups_L4 {P : Int32 × AH → Prop} (X : CX cX7_countGroups RX7 4 G aC t b0 p s m args c) (hr : RtI p l e rm_X7_countGroups s m args below meth c 0 0 Q cX7_countGroups G aC b0 P) (v0 : Nat) (v1 : Int32) {k38 : Int32 → AH → Option (Int32 × AH)}
    (hk38 : ∀ (v2 : Int32) (N : AH) (H : Heap) (locs : List Loc) (ls : Array Slot), Rp G aC b0 N H → va_S (fun q => b0 ≤ q) s.heap H locs → lv_has ls 4 [(2, .int v2)] → owp (k38 v2 N) P → W p l e rm_X7_countGroups s m args below meth c H locs 0 0 Q (F0 m 38 ls [])) :
    ∀ (n : Nat) (v2 : Int32) (v3 : Int32) (N : AH) (H : Heap) (locs : List Loc) (ls : Array Slot), Rp G aC b0 N H → va_S (fun q => b0 ≤ q) s.heap H locs → lv_has ls 4 [(0, .ref v0), (1, .int v1), (2, .int v2), (3, .int v3)] → owp (f_X7_countGroups_L4 v0 v1 k38 n v2 v3 N) P → W p l e rm_X7_countGroups s m args below meth c H locs 0 0 Q (F0 m 4 ls []) := by
  have hx := X.1.1
  have hb := X.1.2.1
  intro n
  induction n with
  | zero =>
    intro v2 v3 N H locs ls hR hS hl hp
    exact (show False from hp).elim
  | succ n ih =>
    intro v2 v3 N H locs ls hR hS hl hp
    rw [f_X7_countGroups_L4] at hp
    refine lv_iload_n hx hb dX7_countGroups_4 rfl (lv_at hl 3 rfl) ?_
    refine lv_aload_n hx hb dX7_countGroups_5 rfl (lv_at hl 0 rfl) ?_
    obtain ⟨x1, e_x1, hp⟩ := owp_ob hp
    refine gf_X7_65 X hR e_x1 dX7_countGroups_6 ?_
    refine lv_icmp_ge (tgt := 38) hx hb dX7_countGroups_9 (by decide) (fun k2 => ?_) (fun k2 => ?_)
    · have hp := owp_t k2 hp
      exact hk38 _ _ _ _ _ hR hS (lv_sub hl [2] rfl) hp
    · have hp := owp_f k2 hp
      refine lv_aload_n hx hb dX7_countGroups_12 rfl (lv_at hl 0 rfl) ?_
      obtain ⟨x3, e_x3, hp⟩ := owp_ob hp
      refine gf_X7_41 X hR e_x3 dX7_countGroups_13 ?_
      refine lv_iload_n hx hb dX7_countGroups_16 rfl (lv_at hl 3 rfl) ?_
      obtain ⟨x4, e_x4, hp⟩ := owp_ob hp
      refine ab_aald X hR (kd := 2) rfl e_x4 dX7_countGroups_17 ?_
      refine lv_aload_n hx hb dX7_countGroups_18 rfl (lv_at hl 0 rfl) ?_
      obtain ⟨x5, e_x5, hp⟩ := owp_ob hp
      refine gf_X7_53 X hR e_x5 dX7_countGroups_19 ?_
      obtain ⟨x7, N6, e_N6, hp⟩ := owp_ob2 hp
      refine iv_X4_stateAt (rest := []) mw_X7_113 X hR hS e_N6 hl.1 (Nat.le_of_ble_eq_true rfl) ⟨Nat.le_of_ble_eq_true rfl, Nat.le_of_ble_eq_true rfl⟩ ⟨Nat.le_of_ble_eq_true rfl, Nat.le_of_ble_eq_true rfl⟩ dX7_countGroups_22 (fun H locs hR hS => ?_)
      refine lv_iload_n hx hb dX7_countGroups_25 rfl (lv_at hl 1 rfl) ?_
      refine lv_icmp_ne (tgt := 32) hx hb dX7_countGroups_26 (by decide) (fun k8 => ?_) (fun k8 => ?_)
      · have hp := owp_t k8 hp
        refine lv_iinc (v := v3 + 1) (lv' := [(3, .int (v3 + 1)), (0, .ref v0), (1, .int v1), (2, .int v2)]) hx hb dX7_countGroups_32 hl (k := 3) rfl rfl (by decide) rfl (fun ls hl => ?_)
        refine lv_goto (tgt := 4) hx hb dX7_countGroups_35 (by decide) ?_
        exact ih _ _ _ _ _ _ hR hS (lv_sub hl [1, 2, 3, 0] rfl) hp
      · have hp := owp_f (fun q => q k8) hp
        refine lv_iinc (v := v2 + 1) (lv' := [(2, .int (v2 + 1)), (0, .ref v0), (1, .int v1), (3, .int v3)]) hx hb dX7_countGroups_29 hl (k := 2) rfl rfl (by decide) rfl (fun ls hl => ?_)
        refine lv_iinc (v := v3 + 1) (lv' := [(3, .int (v3 + 1)), (2, .int (v2 + 1)), (0, .ref v0), (1, .int v1)]) hx hb dX7_countGroups_32 hl (k := 3) rfl rfl (by decide) rfl (fun ls hl => ?_)
        refine lv_goto (tgt := 4) hx hb dX7_countGroups_35 (by decide) ?_
        exact ih _ _ _ _ _ _ hR hS (lv_sub hl [2, 3, 1, 0] rfl) hp
def f_X7_countGroups (v0 : Nat) (v1 : Int32) (N : AH) : Option (Int32 × AH) := ob (iO N v0 7) (fun _ => f_X7_countGroups_L4 v0 v1 (fun v9 N10 => some (v9, N10)) FU (0 : Int32) (0 : Int32) N)
set_option maxHeartbeats 4000000 in
set_option maxRecDepth 100000 in
theorem wk_X7_countGroups {P : Int32 × AH → Prop} (X : CX cX7_countGroups RX7 4 G aC t b0 p s m args c) (hr : RtI p l e rm_X7_countGroups s m args below meth c 0 0 Q cX7_countGroups G aC b0 P) (v0 : Nat) (v1 : Int32) (N : AH) (H : Heap) (locs : List Loc) (ls : Array Slot) (hR : Rp G aC b0 N H) (hS : va_S (fun q => b0 ≤ q) s.heap H locs) (hl : lv_has ls 4 [(0, .ref v0), (1, .int v1)]) (hp : owp (f_X7_countGroups v0 v1 N) P) : W p l e rm_X7_countGroups s m args below meth c H locs 0 0 Q (F0 m 0 ls []) := by
  have hx := X.1.1
  have hb := X.1.2.1
  unfold f_X7_countGroups at hp
  obtain ⟨_, _, hp⟩ := owp_ob hp
  refine lv_iconst (v := (0)) hx hb dX7_countGroups_0 (by decide) ?_
  refine lv_istore_n (lv' := [(2, .int (0 : Int32)), (0, .ref v0), (1, .int v1)]) hx hb dX7_countGroups_1 rfl hl (by decide) rfl (fun ls hl => ?_)
  refine lv_iconst (v := (0)) hx hb dX7_countGroups_2 (by decide) ?_
  refine lv_istore_n (lv' := [(3, .int (0 : Int32)), (2, .int (0 : Int32)), (0, .ref v0), (1, .int v1)]) hx hb dX7_countGroups_3 rfl hl (by decide) rfl (fun ls hl => ?_)
  refine w_X7_countGroups_L4 X hr _ _ (fun v9 N10 H locs ls hR hS hl hp => ?_) _ _ _ _ _ _ _ hR hS (lv_sub hl [2, 3, 1, 0] rfl) hp
  refine lv_iload_n hx hb dX7_countGroups_38 rfl (lv_at hl 0 rfl) ?_
  exact hr _ _ _ _ _ _ hR hS dX7_countGroups_39 hp
end
theorem ct_X7_countGroups {v0 : Nat} {v1 : Int32} {N N1 : AH} {r : Int32} (h : f_X7_countGroups v0 v1 N = some (r, N1)) : Ct yX7_countGroups cX7_countGroups 4 (some .int) rm_X7_countGroups [.ref v0, .int v1] N (some (.int r)) N1 :=
  ab_met (own := RX7) (by decide +kernel) rfl (Nat.le_of_ble_eq_true rfl) (fun l G aC t b0 p e s m below meth c ls X hr hlk hnm hR hS hl => wk_X7_countGroups X (RtI_met X.1.1 X.1.2.1 hr hlk) _ _ _ _ _ _ hR hS hl (owp_of h))
theorem cw_X7_countGroups : Cond.code yX7_countGroups cX7_countGroups 4 (some .int) ∈ WT := WT_of 724 (by decide +kernel) (by decide +kernel)
theorem iv_X7_countGroups {p : Program} {l : Launch} {e : Env} {R : Room} {s : State} {m : MethodId} {args : Array Value} {below : List Frame} {meth : Method} {c : Code} {H : Heap} {locs : List Loc} {cells slots : Nat} {Q : State → Prop} {cc : ByteArray} {own : String} {nL : Nat} {G : va_G} {aC : Nat → ClassId} {t b0 : Nat} {N N1 : AH} {pc index : Nat} {ls : Array Slot} {rest : List Value} {v0 : Nat} {v1 : Int32} {r : Int32} (w1 : Cond.methodLink own index yX7_countGroups ∈ WT) (X : CX cc own nL G aC t b0 p s m args c) (hR : Rp G aC b0 N H) (hS : va_S (fun q => b0 ≤ q) s.heap H locs) (h : f_X7_countGroups v0 v1 N = some (r, N1)) (hls : ls.size = nL) (hW : (rest.map fun v => v.category).sum ≤ 8) (hR1 : 2 ≤ R.frames ∧ 44 ≤ R.locals) (hcs : cells + 0 ≤ R.cells ∧ slots + 0 ≤ R.slots) (hdg : decode cc pc = .ok (.invokevirtual index, 3)) (kk : ∀ (H1 : Heap) (locs1 : List Loc), Rp G aC b0 N1 H1 → va_S (fun q => b0 ≤ q) s.heap H1 locs1 → W p l e R s m args below meth c H1 locs1 cells slots Q (F0 m (pc + 3) ls (.int r :: rest))) : W p l e R s m args below meth c H locs cells slots Q (F0 m pc ls (.int v1 :: .ref v0 :: rest)) :=
  ab_callV (n := 1) (As := [.int v1]) X hR hS (ct_X7_countGroups h) (ob_rc (c := 7) (N := N) (a := v0) h) (T := TX7) (k := 12) (C := RX7) rfl w1 (WT_of 722 (by decide +kernel) (by decide +kernel)) (WT_of 723 (by decide +kernel) (by decide +kernel)) (WT_of 84 (by decide +kernel) (by decide +kernel)) cw_X7_countGroups ⟨rfl, by decide +kernel, by decide +kernel, by decide +kernel⟩ rfl hls hW hR1 hcs rfl hdg kk
-- X9_init
theorem mw_X9_9 : Cond.methodLink RX9 9 yX2_init ∈ WT := WT_of 105 (by decide +kernel) (by decide +kernel)
theorem mw_X9_18 : Cond.methodLink RX9 18 yX7_init ∈ WT := WT_of 170 (by decide +kernel) (by decide +kernel)
theorem mw_X9_25 : Cond.methodLink RX9 25 yX5_init ∈ WT := WT_of 323 (by decide +kernel) (by decide +kernel)
theorem mw_X9_32 : Cond.methodLink RX9 32 yX8_init ∈ WT := WT_of 343 (by decide +kernel) (by decide +kernel)
theorem mw_X9_39 : Cond.methodLink RX9 39 yX6_init ∈ WT := WT_of 387 (by decide +kernel) (by decide +kernel)
theorem mw_X9_46 : Cond.methodLink RX9 46 yX3_init ∈ WT := WT_of 397 (by decide +kernel) (by decide +kernel)
abbrev zX2 : List Value := [.int 0, .int 0, .null, .null]
theorem no_X2 {p : Program} {l : Launch} {e : Env} {R : Room} {s : State} {m : MethodId} {args : Array Value} {below : List Frame} {meth : Method} {c : Code} {H : Heap} {locs : List Loc} {cells slots : Nat} {Q : State → Prop} {cc : ByteArray} {nL : Nat} {G : va_G} {aC : Nat → ClassId} {t b0 : Nat} {N : AH} {pc : Nat} {ls : Array Slot} {rest : List Value} {own : String} {index : Nat} (X : CX cc own nL G aC t b0 p s m args c) (hR0 : Rp G aC b0 N H) (hS : va_S (fun q => b0 ≤ q) s.heap H locs) (w1 : Cond.classLink own index RX2 ∈ WT) (hc1 : cells + 1 ≤ R.cells) (hs1 : slots + 4 ≤ R.slots) (hdg : decode cc pc = .ok (.new index, 3)) (kk : ∀ (H1 : Heap), Rp G aC b0 (nO N 2 zX2) H1 → va_S (fun q => b0 ≤ q) s.heap H1 locs → W p l e R s m args below meth c H1 locs (cells + 1) (slots + 4) Q (F0 m (pc + 3) ls (.ref N.1 :: rest))) : W p l e R s m args below meth c H locs cells slots Q (F0 m pc ls rest) :=
  ab_new_o (C := RX2) (T := TX2) (n := 4) X hR0 hS rfl inX2 tyX2 tyX2_ok w1 (WT_of 104 (by decide +kernel) (by decide +kernel)) (WT_of 82 (by decide +kernel) (by decide +kernel)) (fun j hj => by
    match j, hj with
    | 0, _ => rfl
    | 1, _ => rfl
    | 2, _ => rfl
    | 3, _ => rfl
    | j + 4, h => exact absurd h (by omega)) hc1 hs1 hdg kk
abbrev zX3 : List Value := [.null, .null, .null, .int 0, .null, .int 0, .null]
theorem no_X3 {p : Program} {l : Launch} {e : Env} {R : Room} {s : State} {m : MethodId} {args : Array Value} {below : List Frame} {meth : Method} {c : Code} {H : Heap} {locs : List Loc} {cells slots : Nat} {Q : State → Prop} {cc : ByteArray} {nL : Nat} {G : va_G} {aC : Nat → ClassId} {t b0 : Nat} {N : AH} {pc : Nat} {ls : Array Slot} {rest : List Value} {own : String} {index : Nat} (X : CX cc own nL G aC t b0 p s m args c) (hR0 : Rp G aC b0 N H) (hS : va_S (fun q => b0 ≤ q) s.heap H locs) (w1 : Cond.classLink own index RX3 ∈ WT) (hc1 : cells + 1 ≤ R.cells) (hs1 : slots + 7 ≤ R.slots) (hdg : decode cc pc = .ok (.new index, 3)) (kk : ∀ (H1 : Heap), Rp G aC b0 (nO N 3 zX3) H1 → va_S (fun q => b0 ≤ q) s.heap H1 locs → W p l e R s m args below meth c H1 locs (cells + 1) (slots + 7) Q (F0 m (pc + 3) ls (.ref N.1 :: rest))) : W p l e R s m args below meth c H locs cells slots Q (F0 m pc ls rest) :=
  ab_new_o (C := RX3) (T := TX3) (n := 7) X hR0 hS rfl inX3 tyX3 tyX3_ok w1 (WT_of 396 (by decide +kernel) (by decide +kernel)) (WT_of 91 (by decide +kernel) (by decide +kernel)) (fun j hj => by
    match j, hj with
    | 0, _ => rfl
    | 1, _ => rfl
    | 2, _ => rfl
    | 3, _ => rfl
    | 4, _ => rfl
    | 5, _ => rfl
    | 6, _ => rfl
    | j + 7, h => exact absurd h (by omega)) hc1 hs1 hdg kk
abbrev zX5 : List Value := [.int 0, .int 0, .null]
theorem no_X5 {p : Program} {l : Launch} {e : Env} {R : Room} {s : State} {m : MethodId} {args : Array Value} {below : List Frame} {meth : Method} {c : Code} {H : Heap} {locs : List Loc} {cells slots : Nat} {Q : State → Prop} {cc : ByteArray} {nL : Nat} {G : va_G} {aC : Nat → ClassId} {t b0 : Nat} {N : AH} {pc : Nat} {ls : Array Slot} {rest : List Value} {own : String} {index : Nat} (X : CX cc own nL G aC t b0 p s m args c) (hR0 : Rp G aC b0 N H) (hS : va_S (fun q => b0 ≤ q) s.heap H locs) (w1 : Cond.classLink own index RX5 ∈ WT) (hc1 : cells + 1 ≤ R.cells) (hs1 : slots + 3 ≤ R.slots) (hdg : decode cc pc = .ok (.new index, 3)) (kk : ∀ (H1 : Heap), Rp G aC b0 (nO N 5 zX5) H1 → va_S (fun q => b0 ≤ q) s.heap H1 locs → W p l e R s m args below meth c H1 locs (cells + 1) (slots + 3) Q (F0 m (pc + 3) ls (.ref N.1 :: rest))) : W p l e R s m args below meth c H locs cells slots Q (F0 m pc ls rest) :=
  ab_new_o (C := RX5) (T := TX5) (n := 3) X hR0 hS rfl inX5 tyX5 tyX5_ok w1 (WT_of 322 (by decide +kernel) (by decide +kernel)) (WT_of 88 (by decide +kernel) (by decide +kernel)) (fun j hj => by
    match j, hj with
    | 0, _ => rfl
    | 1, _ => rfl
    | 2, _ => rfl
    | j + 3, h => exact absurd h (by omega)) hc1 hs1 hdg kk
theorem pf_X9_10 {p : Program} {l : Launch} {e : Env} {R : Room} {s : State} {m : MethodId} {args : Array Value} {below : List Frame} {meth : Method} {c : Code} {H : Heap} {locs : List Loc} {cells slots : Nat} {Q : State → Prop} {cc : ByteArray} {nL : Nat} {G : va_G} {aC : Nat → ClassId} {t b0 : Nat} {N : AH} {pc : Nat} {ls : Array Slot} {rest : List Value} {N1 : AH} {a : Nat} {v : Nat} (X : CX cc RX9 nL G aC t b0 p s m args c) (hR0 : Rp G aC b0 N H) (hS : va_S (fun q => b0 ≤ q) s.heap H locs) (hmn : meth.name = "<init>") (hv : pR N a 9 0 v = some N1) (hdg : decode cc pc = .ok (.putfield 10, 3)) (kk : ∀ (H1 : Heap) (locs1 : List Loc), Rp G aC b0 N1 H1 → va_S (fun q => b0 ≤ q) s.heap H1 locs1 → W p l e R s m args below meth c H1 locs1 cells slots Q (F0 m (pc + 3) ls rest)) : W p l e R s m args below meth c H locs cells slots Q (F0 m pc ls (.ref v :: .ref a :: rest)) := by
  obtain ⟨fs, h1, h2, h3⟩ := pV_ok hv
  subst h3
  exact ab_putF (C := RX9) (T := TX9) (n := 6) X hR0 hS hmn h1 h2 rfl inX9 tyX9 tyX9_ok nmX9 (by decide) (WT_of 433 (by decide +kernel) (by decide +kernel)) rfl rfl rfl rfl hdg kk
theorem pf_X9_19 {p : Program} {l : Launch} {e : Env} {R : Room} {s : State} {m : MethodId} {args : Array Value} {below : List Frame} {meth : Method} {c : Code} {H : Heap} {locs : List Loc} {cells slots : Nat} {Q : State → Prop} {cc : ByteArray} {nL : Nat} {G : va_G} {aC : Nat → ClassId} {t b0 : Nat} {N : AH} {pc : Nat} {ls : Array Slot} {rest : List Value} {N1 : AH} {a : Nat} {v : Nat} (X : CX cc RX9 nL G aC t b0 p s m args c) (hR0 : Rp G aC b0 N H) (hS : va_S (fun q => b0 ≤ q) s.heap H locs) (hmn : meth.name = "<init>") (hv : pR N a 9 1 v = some N1) (hdg : decode cc pc = .ok (.putfield 19, 3)) (kk : ∀ (H1 : Heap) (locs1 : List Loc), Rp G aC b0 N1 H1 → va_S (fun q => b0 ≤ q) s.heap H1 locs1 → W p l e R s m args below meth c H1 locs1 cells slots Q (F0 m (pc + 3) ls rest)) : W p l e R s m args below meth c H locs cells slots Q (F0 m pc ls (.ref v :: .ref a :: rest)) := by
  obtain ⟨fs, h1, h2, h3⟩ := pV_ok hv
  subst h3
  exact ab_putF (C := RX9) (T := TX9) (n := 6) X hR0 hS hmn h1 h2 rfl inX9 tyX9 tyX9_ok nmX9 (by decide) (WT_of 434 (by decide +kernel) (by decide +kernel)) rfl rfl rfl rfl hdg kk
theorem pf_X9_26 {p : Program} {l : Launch} {e : Env} {R : Room} {s : State} {m : MethodId} {args : Array Value} {below : List Frame} {meth : Method} {c : Code} {H : Heap} {locs : List Loc} {cells slots : Nat} {Q : State → Prop} {cc : ByteArray} {nL : Nat} {G : va_G} {aC : Nat → ClassId} {t b0 : Nat} {N : AH} {pc : Nat} {ls : Array Slot} {rest : List Value} {N1 : AH} {a : Nat} {v : Nat} (X : CX cc RX9 nL G aC t b0 p s m args c) (hR0 : Rp G aC b0 N H) (hS : va_S (fun q => b0 ≤ q) s.heap H locs) (hmn : meth.name = "<init>") (hv : pR N a 9 2 v = some N1) (hdg : decode cc pc = .ok (.putfield 26, 3)) (kk : ∀ (H1 : Heap) (locs1 : List Loc), Rp G aC b0 N1 H1 → va_S (fun q => b0 ≤ q) s.heap H1 locs1 → W p l e R s m args below meth c H1 locs1 cells slots Q (F0 m (pc + 3) ls rest)) : W p l e R s m args below meth c H locs cells slots Q (F0 m pc ls (.ref v :: .ref a :: rest)) := by
  obtain ⟨fs, h1, h2, h3⟩ := pV_ok hv
  subst h3
  exact ab_putF (C := RX9) (T := TX9) (n := 6) X hR0 hS hmn h1 h2 rfl inX9 tyX9 tyX9_ok nmX9 (by decide) (WT_of 435 (by decide +kernel) (by decide +kernel)) rfl rfl rfl rfl hdg kk
theorem pf_X9_33 {p : Program} {l : Launch} {e : Env} {R : Room} {s : State} {m : MethodId} {args : Array Value} {below : List Frame} {meth : Method} {c : Code} {H : Heap} {locs : List Loc} {cells slots : Nat} {Q : State → Prop} {cc : ByteArray} {nL : Nat} {G : va_G} {aC : Nat → ClassId} {t b0 : Nat} {N : AH} {pc : Nat} {ls : Array Slot} {rest : List Value} {N1 : AH} {a : Nat} {v : Nat} (X : CX cc RX9 nL G aC t b0 p s m args c) (hR0 : Rp G aC b0 N H) (hS : va_S (fun q => b0 ≤ q) s.heap H locs) (hmn : meth.name = "<init>") (hv : pR N a 9 3 v = some N1) (hdg : decode cc pc = .ok (.putfield 33, 3)) (kk : ∀ (H1 : Heap) (locs1 : List Loc), Rp G aC b0 N1 H1 → va_S (fun q => b0 ≤ q) s.heap H1 locs1 → W p l e R s m args below meth c H1 locs1 cells slots Q (F0 m (pc + 3) ls rest)) : W p l e R s m args below meth c H locs cells slots Q (F0 m pc ls (.ref v :: .ref a :: rest)) := by
  obtain ⟨fs, h1, h2, h3⟩ := pV_ok hv
  subst h3
  exact ab_putF (C := RX9) (T := TX9) (n := 6) X hR0 hS hmn h1 h2 rfl inX9 tyX9 tyX9_ok nmX9 (by decide) (WT_of 436 (by decide +kernel) (by decide +kernel)) rfl rfl rfl rfl hdg kk
theorem pf_X9_40 {p : Program} {l : Launch} {e : Env} {R : Room} {s : State} {m : MethodId} {args : Array Value} {below : List Frame} {meth : Method} {c : Code} {H : Heap} {locs : List Loc} {cells slots : Nat} {Q : State → Prop} {cc : ByteArray} {nL : Nat} {G : va_G} {aC : Nat → ClassId} {t b0 : Nat} {N : AH} {pc : Nat} {ls : Array Slot} {rest : List Value} {N1 : AH} {a : Nat} {v : Nat} (X : CX cc RX9 nL G aC t b0 p s m args c) (hR0 : Rp G aC b0 N H) (hS : va_S (fun q => b0 ≤ q) s.heap H locs) (hmn : meth.name = "<init>") (hv : pR N a 9 4 v = some N1) (hdg : decode cc pc = .ok (.putfield 40, 3)) (kk : ∀ (H1 : Heap) (locs1 : List Loc), Rp G aC b0 N1 H1 → va_S (fun q => b0 ≤ q) s.heap H1 locs1 → W p l e R s m args below meth c H1 locs1 cells slots Q (F0 m (pc + 3) ls rest)) : W p l e R s m args below meth c H locs cells slots Q (F0 m pc ls (.ref v :: .ref a :: rest)) := by
  obtain ⟨fs, h1, h2, h3⟩ := pV_ok hv
  subst h3
  exact ab_putF (C := RX9) (T := TX9) (n := 6) X hR0 hS hmn h1 h2 rfl inX9 tyX9 tyX9_ok nmX9 (by decide) (WT_of 437 (by decide +kernel) (by decide +kernel)) rfl rfl rfl rfl hdg kk
theorem pf_X9_47 {p : Program} {l : Launch} {e : Env} {R : Room} {s : State} {m : MethodId} {args : Array Value} {below : List Frame} {meth : Method} {c : Code} {H : Heap} {locs : List Loc} {cells slots : Nat} {Q : State → Prop} {cc : ByteArray} {nL : Nat} {G : va_G} {aC : Nat → ClassId} {t b0 : Nat} {N : AH} {pc : Nat} {ls : Array Slot} {rest : List Value} {N1 : AH} {a : Nat} {v : Nat} (X : CX cc RX9 nL G aC t b0 p s m args c) (hR0 : Rp G aC b0 N H) (hS : va_S (fun q => b0 ≤ q) s.heap H locs) (hmn : meth.name = "<init>") (hv : pR N a 9 5 v = some N1) (hdg : decode cc pc = .ok (.putfield 47, 3)) (kk : ∀ (H1 : Heap) (locs1 : List Loc), Rp G aC b0 N1 H1 → va_S (fun q => b0 ≤ q) s.heap H1 locs1 → W p l e R s m args below meth c H1 locs1 cells slots Q (F0 m (pc + 3) ls rest)) : W p l e R s m args below meth c H locs cells slots Q (F0 m pc ls (.ref v :: .ref a :: rest)) := by
  obtain ⟨fs, h1, h2, h3⟩ := pV_ok hv
  subst h3
  exact ab_putF (C := RX9) (T := TX9) (n := 6) X hR0 hS hmn h1 h2 rfl inX9 tyX9 tyX9_ok nmX9 (by decide) (WT_of 438 (by decide +kernel) (by decide +kernel)) rfl rfl rfl rfl hdg kk
theorem dX9_init_0 : decode cX9_init 0 = .ok (.aload_n 0, 1) := by decide +kernel
theorem dX9_init_1 : decode cX9_init 1 = .ok (.invokespecial 1, 3) := by decide +kernel
theorem dX9_init_4 : decode cX9_init 4 = .ok (.aload_n 0, 1) := by decide +kernel
theorem dX9_init_5 : decode cX9_init 5 = .ok (.new 7, 3) := by decide +kernel
theorem dX9_init_8 : decode cX9_init 8 = .ok (.dup, 1) := by decide +kernel
theorem dX9_init_9 : decode cX9_init 9 = .ok (.invokespecial 9, 3) := by decide +kernel
theorem dX9_init_12 : decode cX9_init 12 = .ok (.putfield 10, 3) := by decide +kernel
theorem dX9_init_15 : decode cX9_init 15 = .ok (.aload_n 0, 1) := by decide +kernel
theorem dX9_init_16 : decode cX9_init 16 = .ok (.new 16, 3) := by decide +kernel
theorem dX9_init_19 : decode cX9_init 19 = .ok (.dup, 1) := by decide +kernel
theorem dX9_init_20 : decode cX9_init 20 = .ok (.invokespecial 18, 3) := by decide +kernel
theorem dX9_init_23 : decode cX9_init 23 = .ok (.putfield 19, 3) := by decide +kernel
theorem dX9_init_26 : decode cX9_init 26 = .ok (.aload_n 0, 1) := by decide +kernel
theorem dX9_init_27 : decode cX9_init 27 = .ok (.new 23, 3) := by decide +kernel
theorem dX9_init_30 : decode cX9_init 30 = .ok (.dup, 1) := by decide +kernel
theorem dX9_init_31 : decode cX9_init 31 = .ok (.invokespecial 25, 3) := by decide +kernel
theorem dX9_init_34 : decode cX9_init 34 = .ok (.putfield 26, 3) := by decide +kernel
theorem dX9_init_37 : decode cX9_init 37 = .ok (.aload_n 0, 1) := by decide +kernel
theorem dX9_init_38 : decode cX9_init 38 = .ok (.new 30, 3) := by decide +kernel
theorem dX9_init_41 : decode cX9_init 41 = .ok (.dup, 1) := by decide +kernel
theorem dX9_init_42 : decode cX9_init 42 = .ok (.invokespecial 32, 3) := by decide +kernel
theorem dX9_init_45 : decode cX9_init 45 = .ok (.putfield 33, 3) := by decide +kernel
theorem dX9_init_48 : decode cX9_init 48 = .ok (.aload_n 0, 1) := by decide +kernel
theorem dX9_init_49 : decode cX9_init 49 = .ok (.new 37, 3) := by decide +kernel
theorem dX9_init_52 : decode cX9_init 52 = .ok (.dup, 1) := by decide +kernel
theorem dX9_init_53 : decode cX9_init 53 = .ok (.invokespecial 39, 3) := by decide +kernel
theorem dX9_init_56 : decode cX9_init 56 = .ok (.putfield 40, 3) := by decide +kernel
theorem dX9_init_59 : decode cX9_init 59 = .ok (.aload_n 0, 1) := by decide +kernel
theorem dX9_init_60 : decode cX9_init 60 = .ok (.new 44, 3) := by decide +kernel
theorem dX9_init_63 : decode cX9_init 63 = .ok (.dup, 1) := by decide +kernel
theorem dX9_init_64 : decode cX9_init 64 = .ok (.invokespecial 46, 3) := by decide +kernel
theorem dX9_init_67 : decode cX9_init 67 = .ok (.putfield 47, 3) := by decide +kernel
theorem dX9_init_70 : decode cX9_init 70 = .ok (.return_, 1) := by decide +kernel
def rm_X9_init : Room := { frames := 5, cells := 823, slots := 11050, locals := 94 }
section
variable {p : Program} {l : Launch} {e : Env} {s : State} {m : MethodId} {args : Array Value} {below : List Frame} {meth : Method} {c : Code} {Q : State → Prop} {G : va_G} {aC : Nat → ClassId} {t b0 : Nat}
def f_X9_init (v0 : Nat) (N : AH) : Option (Unit × AH) := ob2 (f_X2_init N.1 (nO N 2 zX2)) (fun _ N1 => ob (pR N1 v0 9 0 N.1) (fun N2 => ob2 (f_X7_init N2.1 (nO N2 7 zX7)) (fun _ N3 => ob (pR N3 v0 9 1 N2.1) (fun N4 => ob2 (f_X5_init N4.1 (nO N4 5 zX5)) (fun _ N5 => ob (pR N5 v0 9 2 N4.1) (fun N6 => ob2 (f_X8_init N6.1 (nO N6 8 zX8)) (fun _ N7 => ob (pR N7 v0 9 3 N6.1) (fun N8 => ob2 (f_X6_init N8.1 (nO N8 6 zX6)) (fun _ N9 => ob (pR N9 v0 9 4 N8.1) (fun N10 => ob2 (f_X3_init N10.1 (nO N10 3 zX3)) (fun _ N11 => ob (pR N11 v0 9 5 N10.1) (fun N12 => some ((), N12)))))))))))))
set_option maxHeartbeats 4000000 in
set_option maxRecDepth 100000 in
theorem wk_X9_init {P : Unit × AH → Prop} (X : CX cX9_init RX9 1 G aC t b0 p s m args c) (hr : RtV p l e rm_X9_init s m args below meth c 823 11050 Q cX9_init G aC b0 P) (hmn : meth.name = "<init>") (v0 : Nat) (N : AH) (H : Heap) (locs : List Loc) (ls : Array Slot) (hR : Rp G aC b0 N H) (hS : va_S (fun q => b0 ≤ q) s.heap H locs) (hl : lv_has ls 1 [(0, .ref v0)]) (hp : owp (f_X9_init v0 N) P) : W p l e rm_X9_init s m args below meth c H locs 0 0 Q (F0 m 0 ls []) := by
  have hx := X.1.1
  have hb := X.1.2.1
  unfold f_X9_init at hp
  refine lv_aload_n hx hb dX9_init_0 rfl (lv_at hl 0 rfl) ?_
  refine ab_objI X (WT_of 100 (by decide +kernel) (by decide +kernel)) w_objI w_objC hl.1 (Nat.le_of_ble_eq_true rfl) (Nat.le_of_ble_eq_true rfl) dX9_init_1 ?_
  refine lv_aload_n hx hb dX9_init_4 rfl (lv_at hl 0 rfl) ?_
  refine no_X2 (own := RX9) X hR hS (WT_of 103 (by decide +kernel) (by decide +kernel)) (Nat.le_of_ble_eq_true rfl) (Nat.le_of_ble_eq_true rfl) dX9_init_5 (fun H hR hS => ?_)
  refine W.widen (k := 1) (n := 4) (Nat.le_of_ble_eq_true rfl) (Nat.le_of_ble_eq_true rfl) ?_
  refine lv_dup hx hb dX9_init_8 rfl ?_
  obtain ⟨_, N1, e_N1, hp⟩ := owp_ob2 hp
  refine iv_X2_init (rest := [.ref N.1, .ref v0]) mw_X9_9 X hR hS e_N1 hl.1 (Nat.le_of_ble_eq_true rfl) ⟨Nat.le_of_ble_eq_true rfl, Nat.le_of_ble_eq_true rfl⟩ ⟨Nat.le_of_ble_eq_true rfl, Nat.le_of_ble_eq_true rfl⟩ dX9_init_9 (fun H locs hR hS => ?_)
  refine W.widen (k := 8) (n := 210) (Nat.le_of_ble_eq_true rfl) (Nat.le_of_ble_eq_true rfl) ?_
  obtain ⟨N2, e_N2, hp⟩ := owp_ob hp
  refine pf_X9_10 X hR hS hmn e_N2 dX9_init_12 (fun H locs hR hS => ?_)
  refine lv_aload_n hx hb dX9_init_15 rfl (lv_at hl 0 rfl) ?_
  refine no_X7 (own := RX9) X hR hS (WT_of 168 (by decide +kernel) (by decide +kernel)) (Nat.le_of_ble_eq_true rfl) (Nat.le_of_ble_eq_true rfl) dX9_init_16 (fun H hR hS => ?_)
  refine W.widen (k := 9) (n := 222) (Nat.le_of_ble_eq_true rfl) (Nat.le_of_ble_eq_true rfl) ?_
  refine lv_dup hx hb dX9_init_19 rfl ?_
  obtain ⟨_, N3, e_N3, hp⟩ := owp_ob2 hp
  refine iv_X7_init (rest := [.ref N2.1, .ref v0]) mw_X9_18 X hR hS e_N3 hl.1 (Nat.le_of_ble_eq_true rfl) ⟨Nat.le_of_ble_eq_true rfl, Nat.le_of_ble_eq_true rfl⟩ ⟨Nat.le_of_ble_eq_true rfl, Nat.le_of_ble_eq_true rfl⟩ dX9_init_20 (fun H locs hR hS => ?_)
  refine W.widen (k := 106) (n := 1521) (Nat.le_of_ble_eq_true rfl) (Nat.le_of_ble_eq_true rfl) ?_
  obtain ⟨N4, e_N4, hp⟩ := owp_ob hp
  refine pf_X9_19 X hR hS hmn e_N4 dX9_init_23 (fun H locs hR hS => ?_)
  refine lv_aload_n hx hb dX9_init_26 rfl (lv_at hl 0 rfl) ?_
  refine no_X5 (own := RX9) X hR hS (WT_of 321 (by decide +kernel) (by decide +kernel)) (Nat.le_of_ble_eq_true rfl) (Nat.le_of_ble_eq_true rfl) dX9_init_27 (fun H hR hS => ?_)
  refine W.widen (k := 107) (n := 1524) (Nat.le_of_ble_eq_true rfl) (Nat.le_of_ble_eq_true rfl) ?_
  refine lv_dup hx hb dX9_init_30 rfl ?_
  obtain ⟨_, N5, e_N5, hp⟩ := owp_ob2 hp
  refine iv_X5_init (rest := [.ref N4.1, .ref v0]) mw_X9_25 X hR hS e_N5 hl.1 (Nat.le_of_ble_eq_true rfl) ⟨Nat.le_of_ble_eq_true rfl, Nat.le_of_ble_eq_true rfl⟩ ⟨Nat.le_of_ble_eq_true rfl, Nat.le_of_ble_eq_true rfl⟩ dX9_init_31 (fun H locs hR hS => ?_)
  refine W.widen (k := 696) (n := 9396) (Nat.le_of_ble_eq_true rfl) (Nat.le_of_ble_eq_true rfl) ?_
  obtain ⟨N6, e_N6, hp⟩ := owp_ob hp
  refine pf_X9_26 X hR hS hmn e_N6 dX9_init_34 (fun H locs hR hS => ?_)
  refine lv_aload_n hx hb dX9_init_37 rfl (lv_at hl 0 rfl) ?_
  refine no_X8 (own := RX9) X hR hS (WT_of 341 (by decide +kernel) (by decide +kernel)) (Nat.le_of_ble_eq_true rfl) (Nat.le_of_ble_eq_true rfl) dX9_init_38 (fun H hR hS => ?_)
  refine W.widen (k := 697) (n := 9407) (Nat.le_of_ble_eq_true rfl) (Nat.le_of_ble_eq_true rfl) ?_
  refine lv_dup hx hb dX9_init_41 rfl ?_
  obtain ⟨_, N7, e_N7, hp⟩ := owp_ob2 hp
  refine iv_X8_init (rest := [.ref N6.1, .ref v0]) mw_X9_32 X hR hS e_N7 hl.1 (Nat.le_of_ble_eq_true rfl) ⟨Nat.le_of_ble_eq_true rfl, Nat.le_of_ble_eq_true rfl⟩ ⟨Nat.le_of_ble_eq_true rfl, Nat.le_of_ble_eq_true rfl⟩ dX9_init_42 (fun H locs hR hS => ?_)
  refine W.widen (k := 707) (n := 9543) (Nat.le_of_ble_eq_true rfl) (Nat.le_of_ble_eq_true rfl) ?_
  obtain ⟨N8, e_N8, hp⟩ := owp_ob hp
  refine pf_X9_33 X hR hS hmn e_N8 dX9_init_45 (fun H locs hR hS => ?_)
  refine lv_aload_n hx hb dX9_init_48 rfl (lv_at hl 0 rfl) ?_
  refine no_X6 (own := RX9) X hR hS (WT_of 385 (by decide +kernel) (by decide +kernel)) (Nat.le_of_ble_eq_true rfl) (Nat.le_of_ble_eq_true rfl) dX9_init_49 (fun H hR hS => ?_)
  refine W.widen (k := 708) (n := 9544) (Nat.le_of_ble_eq_true rfl) (Nat.le_of_ble_eq_true rfl) ?_
  refine lv_dup hx hb dX9_init_52 rfl ?_
  obtain ⟨_, N9, e_N9, hp⟩ := owp_ob2 hp
  refine iv_X6_init (rest := [.ref N8.1, .ref v0]) mw_X9_39 X hR hS e_N9 hl.1 (Nat.le_of_ble_eq_true rfl) ⟨Nat.le_of_ble_eq_true rfl, Nat.le_of_ble_eq_true rfl⟩ ⟨Nat.le_of_ble_eq_true rfl, Nat.le_of_ble_eq_true rfl⟩ dX9_init_53 (fun H locs hR hS => ?_)
  refine W.widen (k := 709) (n := 9560) (Nat.le_of_ble_eq_true rfl) (Nat.le_of_ble_eq_true rfl) ?_
  obtain ⟨N10, e_N10, hp⟩ := owp_ob hp
  refine pf_X9_40 X hR hS hmn e_N10 dX9_init_56 (fun H locs hR hS => ?_)
  refine lv_aload_n hx hb dX9_init_59 rfl (lv_at hl 0 rfl) ?_
  refine no_X3 (own := RX9) X hR hS (WT_of 395 (by decide +kernel) (by decide +kernel)) (Nat.le_of_ble_eq_true rfl) (Nat.le_of_ble_eq_true rfl) dX9_init_60 (fun H hR hS => ?_)
  refine W.widen (k := 710) (n := 9567) (Nat.le_of_ble_eq_true rfl) (Nat.le_of_ble_eq_true rfl) ?_
  refine lv_dup hx hb dX9_init_63 rfl ?_
  obtain ⟨_, N11, e_N11, hp⟩ := owp_ob2 hp
  refine iv_X3_init (rest := [.ref N10.1, .ref v0]) mw_X9_46 X hR hS e_N11 hl.1 (Nat.le_of_ble_eq_true rfl) ⟨Nat.le_of_ble_eq_true rfl, Nat.le_of_ble_eq_true rfl⟩ ⟨Nat.le_of_ble_eq_true rfl, Nat.le_of_ble_eq_true rfl⟩ dX9_init_64 (fun H locs hR hS => ?_)
  refine W.widen (k := 823) (n := 11050) (Nat.le_of_ble_eq_true rfl) (Nat.le_of_ble_eq_true rfl) ?_
  obtain ⟨N12, e_N12, hp⟩ := owp_ob hp
  refine pf_X9_47 X hR hS hmn e_N12 dX9_init_67 (fun H locs hR hS => ?_)
  exact hr _ _ _ _ _ hR hS dX9_init_70 hp
end
theorem ct_X9_init {v0 : Nat} {N N1 : AH} {r : Unit} (h : f_X9_init v0 N = some (r, N1)) : Ct yX9_init cX9_init 1 none rm_X9_init [.ref v0] N none N1 :=
  ab_met (own := RX9) (by decide +kernel) rfl (Nat.le_of_ble_eq_true rfl) (fun l G aC t b0 p e s m below meth c ls X hr hlk hnm hR hS hl => wk_X9_init X (RtV_met X.1.1 X.1.2.1 hr hlk) hnm _ _ _ _ _ hR hS hl (owp_of h))
theorem cw_X9_init : Cond.code yX9_init cX9_init 1 none ∈ WT := WT_of 99 (by decide +kernel) (by decide +kernel)
theorem iv_X9_init {p : Program} {l : Launch} {e : Env} {R : Room} {s : State} {m : MethodId} {args : Array Value} {below : List Frame} {meth : Method} {c : Code} {H : Heap} {locs : List Loc} {cells slots : Nat} {Q : State → Prop} {cc : ByteArray} {own : String} {nL : Nat} {G : va_G} {aC : Nat → ClassId} {t b0 : Nat} {N N1 : AH} {pc index : Nat} {ls : Array Slot} {rest : List Value} {v0 : Nat} {r : Unit} (w1 : Cond.methodLink own index yX9_init ∈ WT) (X : CX cc own nL G aC t b0 p s m args c) (hR : Rp G aC b0 N H) (hS : va_S (fun q => b0 ≤ q) s.heap H locs) (h : f_X9_init v0 N = some (r, N1)) (hls : ls.size = nL) (hW : (rest.map fun v => v.category).sum ≤ 8) (hR1 : 6 ≤ R.frames ∧ 114 ≤ R.locals) (hcs : cells + 823 ≤ R.cells ∧ slots + 11050 ≤ R.slots) (hdg : decode cc pc = .ok (.invokespecial index, 3)) (kk : ∀ (H1 : Heap) (locs1 : List Loc), Rp G aC b0 N1 H1 → va_S (fun q => b0 ≤ q) s.heap H1 locs1 → W p l e R s m args below meth c H1 locs1 (cells + 823) (slots + 11050) Q (F0 m (pc + 3) ls rest)) : W p l e R s m args below meth c H locs cells slots Q (F0 m pc ls (.ref v0 :: rest)) :=
  ab_callI (n := 0) (As := []) X hR hS (ct_X9_init h) w1 (WT_of 98 (by decide +kernel) (by decide +kernel)) (WT_of 81 (by decide +kernel) (by decide +kernel)) cw_X9_init rfl ⟨by decide +kernel, by decide +kernel, by decide +kernel⟩ rfl hls hW hR1 hcs rfl hdg kk
-- X9_type
theorem gf_X9_10 {p : Program} {l : Launch} {e : Env} {R : Room} {s : State} {m : MethodId} {args : Array Value} {below : List Frame} {meth : Method} {c : Code} {H : Heap} {locs : List Loc} {cells slots : Nat} {Q : State → Prop} {cc : ByteArray} {nL : Nat} {G : va_G} {aC : Nat → ClassId} {t b0 : Nat} {N : AH} {pc : Nat} {ls : Array Slot} {rest : List Value} {a : Nat} {v : Nat} (X : CX cc RX9 nL G aC t b0 p s m args c) (hR0 : Rp G aC b0 N H) (hv : hR N a 9 0 = some v) (hdg : decode cc pc = .ok (.getfield 10, 3)) (kk : W p l e R s m args below meth c H locs cells slots Q (F0 m (pc + 3) ls (.ref v :: rest))) : W p l e R s m args below meth c H locs cells slots Q (F0 m pc ls (.ref a :: rest)) := by
  obtain ⟨fs, h1, h2⟩ := hR_ok hv
  exact ab_get (C := RX9) (T := TX9) (n := 6) X hR0 h1 h2 rfl inX9 (by decide) (WT_of 433 (by decide +kernel) (by decide +kernel)) hdg kk
theorem gf_X9_55 {p : Program} {l : Launch} {e : Env} {R : Room} {s : State} {m : MethodId} {args : Array Value} {below : List Frame} {meth : Method} {c : Code} {H : Heap} {locs : List Loc} {cells slots : Nat} {Q : State → Prop} {cc : ByteArray} {nL : Nat} {G : va_G} {aC : Nat → ClassId} {t b0 : Nat} {N : AH} {pc : Nat} {ls : Array Slot} {rest : List Value} {a : Nat} {v : Int32} (X : CX cc RX9 nL G aC t b0 p s m args c) (hR0 : Rp G aC b0 N H) (hv : hI N a 2 0 = some v) (hdg : decode cc pc = .ok (.getfield 55, 3)) (kk : W p l e R s m args below meth c H locs cells slots Q (F0 m (pc + 3) ls (.int v :: rest))) : W p l e R s m args below meth c H locs cells slots Q (F0 m pc ls (.ref a :: rest)) := by
  obtain ⟨fs, h1, h2⟩ := hI_ok hv
  exact ab_get (C := RX2) (T := TX2) (n := 4) X hR0 h1 h2 rfl inX2 (by decide) (WT_of 154 (by decide +kernel) (by decide +kernel)) hdg kk
theorem mw_X9_51 : Cond.methodLink RX9 51 yX2_append ∈ WT := WT_of 456 (by decide +kernel) (by decide +kernel)
theorem dX9_type_0 : decode cX9_type 0 = .ok (.iload_n 1, 1) := by decide +kernel
theorem dX9_type_1 : decode cX9_type 1 = .ok (.ifCond .lt 10, 3) := by decide +kernel
theorem dX9_type_4 : decode cX9_type 4 = .ok (.iload_n 1, 1) := by decide +kernel
theorem dX9_type_5 : decode cX9_type 5 = .ok (.sipush 255, 3) := by decide +kernel
theorem dX9_type_8 : decode cX9_type 8 = .ok (.if_icmp .le 6, 3) := by decide +kernel
theorem dX9_type_11 : decode cX9_type 11 = .ok (.bipush (-3), 2) := by decide +kernel
theorem dX9_type_13 : decode cX9_type 13 = .ok (.ireturn, 1) := by decide +kernel
theorem dX9_type_14 : decode cX9_type 14 = .ok (.aload_n 0, 1) := by decide +kernel
theorem dX9_type_15 : decode cX9_type 15 = .ok (.getfield 10, 3) := by decide +kernel
theorem dX9_type_18 : decode cX9_type 18 = .ok (.iload_n 1, 1) := by decide +kernel
theorem dX9_type_19 : decode cX9_type 19 = .ok (.invokevirtual 51, 3) := by decide +kernel
theorem dX9_type_22 : decode cX9_type 22 = .ok (.ifCond .eq 13, 3) := by decide +kernel
theorem dX9_type_25 : decode cX9_type 25 = .ok (.aload_n 0, 1) := by decide +kernel
theorem dX9_type_26 : decode cX9_type 26 = .ok (.getfield 10, 3) := by decide +kernel
theorem dX9_type_29 : decode cX9_type 29 = .ok (.getfield 55, 3) := by decide +kernel
theorem dX9_type_32 : decode cX9_type 32 = .ok (.goto 5, 3) := by decide +kernel
theorem dX9_type_35 : decode cX9_type 35 = .ok (.bipush (-5), 2) := by decide +kernel
theorem dX9_type_37 : decode cX9_type 37 = .ok (.ireturn, 1) := by decide +kernel
def rm_X9_type : Room := { frames := 2, cells := 0, slots := 0, locals := 42 }
section
variable {p : Program} {l : Launch} {e : Env} {s : State} {m : MethodId} {args : Array Value} {below : List Frame} {meth : Method} {c : Code} {Q : State → Prop} {G : va_G} {aC : Nat → ClassId} {t b0 : Nat}
def f_X9_type (v0 : Nat) (v1 : Int32) (N : AH) : Option (Int32 × AH) := ob (iO N v0 9) (fun _ => if v1 < 0 then some ((-3 : Int32), N) else if v1 ≤ (255 : Int32) then ob (hR N v0 9 0) (fun x3 => ob2 (f_X2_append x3 v1 N) (fun x5 N4 => if x5 = 0 then some ((-5 : Int32), N4) else ob (hR N4 v0 9 0) (fun x7 => ob (hI N4 x7 2 0) (fun x8 => some (x8, N4))))) else some ((-3 : Int32), N))
set_option maxHeartbeats 4000000 in
set_option maxRecDepth 100000 in
theorem wk_X9_type {P : Int32 × AH → Prop} (X : CX cX9_type RX9 2 G aC t b0 p s m args c) (hr : RtI p l e rm_X9_type s m args below meth c 0 0 Q cX9_type G aC b0 P) (v0 : Nat) (v1 : Int32) (N : AH) (H : Heap) (locs : List Loc) (ls : Array Slot) (hR : Rp G aC b0 N H) (hS : va_S (fun q => b0 ≤ q) s.heap H locs) (hl : lv_has ls 2 [(0, .ref v0), (1, .int v1)]) (hp : owp (f_X9_type v0 v1 N) P) : W p l e rm_X9_type s m args below meth c H locs 0 0 Q (F0 m 0 ls []) := by
  have hx := X.1.1
  have hb := X.1.2.1
  unfold f_X9_type at hp
  obtain ⟨_, _, hp⟩ := owp_ob hp
  refine lv_iload_n hx hb dX9_type_0 rfl (lv_at hl 1 rfl) ?_
  refine lv_if_lt (tgt := 11) hx hb dX9_type_1 (by decide) (fun k1 => ?_) (fun k1 => ?_)
  · have hp := owp_t k1 hp
    refine lv_bipush (v := (-3)) hx hb dX9_type_11 (by decide) ?_
    exact hr _ _ _ _ _ _ hR hS dX9_type_13 hp
  · have hp := owp_f k1 hp
    refine lv_iload_n hx hb dX9_type_4 rfl (lv_at hl 1 rfl) ?_
    refine lv_sipush (v := (255)) hx hb dX9_type_5 (by decide) ?_
    refine lv_icmp_le (tgt := 14) hx hb dX9_type_8 (by decide) (fun k2 => ?_) (fun k2 => ?_)
    · have hp := owp_t k2 hp
      refine lv_aload_n hx hb dX9_type_14 rfl (lv_at hl 0 rfl) ?_
      obtain ⟨x3, e_x3, hp⟩ := owp_ob hp
      refine gf_X9_10 X hR e_x3 dX9_type_15 ?_
      refine lv_iload_n hx hb dX9_type_18 rfl (lv_at hl 1 rfl) ?_
      obtain ⟨x5, N4, e_N4, hp⟩ := owp_ob2 hp
      refine iv_X2_append (rest := []) mw_X9_51 X hR hS e_N4 hl.1 (Nat.le_of_ble_eq_true rfl) ⟨Nat.le_of_ble_eq_true rfl, Nat.le_of_ble_eq_true rfl⟩ ⟨Nat.le_of_ble_eq_true rfl, Nat.le_of_ble_eq_true rfl⟩ dX9_type_19 (fun H locs hR hS => ?_)
      refine lv_if_eq (tgt := 35) hx hb dX9_type_22 (by decide) (fun k6 => ?_) (fun k6 => ?_)
      · have hp := owp_t k6 hp
        refine lv_bipush (v := (-5)) hx hb dX9_type_35 (by decide) ?_
        exact hr _ _ _ _ _ _ hR hS dX9_type_37 hp
      · have hp := owp_f k6 hp
        refine lv_aload_n hx hb dX9_type_25 rfl (lv_at hl 0 rfl) ?_
        obtain ⟨x7, e_x7, hp⟩ := owp_ob hp
        refine gf_X9_10 X hR e_x7 dX9_type_26 ?_
        obtain ⟨x8, e_x8, hp⟩ := owp_ob hp
        refine gf_X9_55 X hR e_x8 dX9_type_29 ?_
        refine lv_goto (tgt := 37) hx hb dX9_type_32 (by decide) ?_
        exact hr _ _ _ _ _ _ hR hS dX9_type_37 hp
    · have hp := owp_f k2 hp
      refine lv_bipush (v := (-3)) hx hb dX9_type_11 (by decide) ?_
      exact hr _ _ _ _ _ _ hR hS dX9_type_13 hp
end
theorem ct_X9_type {v0 : Nat} {v1 : Int32} {N N1 : AH} {r : Int32} (h : f_X9_type v0 v1 N = some (r, N1)) : Ct yX9_type cX9_type 2 (some .int) rm_X9_type [.ref v0, .int v1] N (some (.int r)) N1 :=
  ab_met (own := RX9) (by decide +kernel) rfl (Nat.le_of_ble_eq_true rfl) (fun l G aC t b0 p e s m below meth c ls X hr hlk hnm hR hS hl => wk_X9_type X (RtI_met X.1.1 X.1.2.1 hr hlk) _ _ _ _ _ _ hR hS hl (owp_of h))
theorem cw_X9_type : Cond.code yX9_type cX9_type 2 (some .int) ∈ WT := WT_of 455 (by decide +kernel) (by decide +kernel)
theorem iv_X9_type {p : Program} {l : Launch} {e : Env} {R : Room} {s : State} {m : MethodId} {args : Array Value} {below : List Frame} {meth : Method} {c : Code} {H : Heap} {locs : List Loc} {cells slots : Nat} {Q : State → Prop} {cc : ByteArray} {own : String} {nL : Nat} {G : va_G} {aC : Nat → ClassId} {t b0 : Nat} {N N1 : AH} {pc index : Nat} {ls : Array Slot} {rest : List Value} {v0 : Nat} {v1 : Int32} {r : Int32} (w1 : Cond.methodLink own index yX9_type ∈ WT) (X : CX cc own nL G aC t b0 p s m args c) (hR : Rp G aC b0 N H) (hS : va_S (fun q => b0 ≤ q) s.heap H locs) (h : f_X9_type v0 v1 N = some (r, N1)) (hls : ls.size = nL) (hW : (rest.map fun v => v.category).sum ≤ 8) (hR1 : 3 ≤ R.frames ∧ 63 ≤ R.locals) (hcs : cells + 0 ≤ R.cells ∧ slots + 0 ≤ R.slots) (hdg : decode cc pc = .ok (.invokevirtual index, 3)) (kk : ∀ (H1 : Heap) (locs1 : List Loc), Rp G aC b0 N1 H1 → va_S (fun q => b0 ≤ q) s.heap H1 locs1 → W p l e R s m args below meth c H1 locs1 cells slots Q (F0 m (pc + 3) ls (.int r :: rest))) : W p l e R s m args below meth c H locs cells slots Q (F0 m pc ls (.int v1 :: .ref v0 :: rest)) :=
  ab_callV (n := 1) (As := [.int v1]) X hR hS (ct_X9_type h) (ob_rc (c := 9) (N := N) (a := v0) h) (T := TX9) (k := 6) (C := RX9) rfl w1 (WT_of 453 (by decide +kernel) (by decide +kernel)) (WT_of 454 (by decide +kernel) (by decide +kernel)) (WT_of 81 (by decide +kernel) (by decide +kernel)) cw_X9_type ⟨rfl, by decide +kernel, by decide +kernel, by decide +kernel⟩ rfl hls hW hR1 hcs rfl hdg kk
-- X9_clearText
theorem pf_X9_55 {p : Program} {l : Launch} {e : Env} {R : Room} {s : State} {m : MethodId} {args : Array Value} {below : List Frame} {meth : Method} {c : Code} {H : Heap} {locs : List Loc} {cells slots : Nat} {Q : State → Prop} {cc : ByteArray} {nL : Nat} {G : va_G} {aC : Nat → ClassId} {t b0 : Nat} {N : AH} {pc : Nat} {ls : Array Slot} {rest : List Value} {N1 : AH} {a : Nat} {v : Int32} (X : CX cc RX9 nL G aC t b0 p s m args c) (hR0 : Rp G aC b0 N H) (hS : va_S (fun q => b0 ≤ q) s.heap H locs) (hv : pI N a 2 0 v = some N1) (hdg : decode cc pc = .ok (.putfield 55, 3)) (kk : ∀ (H1 : Heap) (locs1 : List Loc), Rp G aC b0 N1 H1 → va_S (fun q => b0 ≤ q) s.heap H1 locs1 → W p l e R s m args below meth c H1 locs1 cells slots Q (F0 m (pc + 3) ls rest)) : W p l e R s m args below meth c H locs cells slots Q (F0 m pc ls (.int v :: .ref a :: rest)) := by
  obtain ⟨fs, h1, h2, h3⟩ := pV_ok hv
  subst h3
  exact ab_put (C := RX2) (T := TX2) (n := 4) X hR0 hS h1 h2 rfl inX2 tyX2 tyX2_ok nmX2 (by decide) (WT_of 154 (by decide +kernel) (by decide +kernel)) rfl rfl rfl hdg kk
theorem dX9_clearText_0 : decode cX9_clearText 0 = .ok (.aload_n 0, 1) := by decide +kernel
theorem dX9_clearText_1 : decode cX9_clearText 1 = .ok (.getfield 10, 3) := by decide +kernel
theorem dX9_clearText_4 : decode cX9_clearText 4 = .ok (.getfield 55, 3) := by decide +kernel
theorem dX9_clearText_7 : decode cX9_clearText 7 = .ok (.istore_n 1, 1) := by decide +kernel
theorem dX9_clearText_8 : decode cX9_clearText 8 = .ok (.aload_n 0, 1) := by decide +kernel
theorem dX9_clearText_9 : decode cX9_clearText 9 = .ok (.getfield 10, 3) := by decide +kernel
theorem dX9_clearText_12 : decode cX9_clearText 12 = .ok (.iconst 0, 1) := by decide +kernel
theorem dX9_clearText_13 : decode cX9_clearText 13 = .ok (.putfield 55, 3) := by decide +kernel
theorem dX9_clearText_16 : decode cX9_clearText 16 = .ok (.iload_n 1, 1) := by decide +kernel
theorem dX9_clearText_17 : decode cX9_clearText 17 = .ok (.ireturn, 1) := by decide +kernel
def rm_X9_clearText : Room := { frames := 0, cells := 0, slots := 0, locals := 0 }
section
variable {p : Program} {l : Launch} {e : Env} {s : State} {m : MethodId} {args : Array Value} {below : List Frame} {meth : Method} {c : Code} {Q : State → Prop} {G : va_G} {aC : Nat → ClassId} {t b0 : Nat}
def f_X9_clearText (v0 : Nat) (N : AH) : Option (Int32 × AH) := ob (iO N v0 9) (fun _ => ob (hR N v0 9 0) (fun x1 => ob (hI N x1 2 0) (fun x2 => ob (hR N v0 9 0) (fun x3 => ob (pI N x3 2 0 (0 : Int32)) (fun N4 => some (x2, N4))))))
set_option maxHeartbeats 4000000 in
set_option maxRecDepth 100000 in
theorem wk_X9_clearText {P : Int32 × AH → Prop} (X : CX cX9_clearText RX9 2 G aC t b0 p s m args c) (hr : RtI p l e rm_X9_clearText s m args below meth c 0 0 Q cX9_clearText G aC b0 P) (v0 : Nat) (N : AH) (H : Heap) (locs : List Loc) (ls : Array Slot) (hR : Rp G aC b0 N H) (hS : va_S (fun q => b0 ≤ q) s.heap H locs) (hl : lv_has ls 2 [(0, .ref v0)]) (hp : owp (f_X9_clearText v0 N) P) : W p l e rm_X9_clearText s m args below meth c H locs 0 0 Q (F0 m 0 ls []) := by
  have hx := X.1.1
  have hb := X.1.2.1
  unfold f_X9_clearText at hp
  obtain ⟨_, _, hp⟩ := owp_ob hp
  refine lv_aload_n hx hb dX9_clearText_0 rfl (lv_at hl 0 rfl) ?_
  obtain ⟨x1, e_x1, hp⟩ := owp_ob hp
  refine gf_X9_10 X hR e_x1 dX9_clearText_1 ?_
  obtain ⟨x2, e_x2, hp⟩ := owp_ob hp
  refine gf_X9_55 X hR e_x2 dX9_clearText_4 ?_
  refine lv_istore_n (lv' := [(1, .int x2), (0, .ref v0)]) hx hb dX9_clearText_7 rfl hl (by decide) rfl (fun ls hl => ?_)
  refine lv_aload_n hx hb dX9_clearText_8 rfl (lv_at hl 1 rfl) ?_
  obtain ⟨x3, e_x3, hp⟩ := owp_ob hp
  refine gf_X9_10 X hR e_x3 dX9_clearText_9 ?_
  refine lv_iconst (v := (0)) hx hb dX9_clearText_12 (by decide) ?_
  obtain ⟨N4, e_N4, hp⟩ := owp_ob hp
  refine pf_X9_55 X hR hS e_N4 dX9_clearText_13 (fun H locs hR hS => ?_)
  refine lv_iload_n hx hb dX9_clearText_16 rfl (lv_at hl 0 rfl) ?_
  exact hr _ _ _ _ _ _ hR hS dX9_clearText_17 hp
end
theorem ct_X9_clearText {v0 : Nat} {N N1 : AH} {r : Int32} (h : f_X9_clearText v0 N = some (r, N1)) : Ct yX9_clearText cX9_clearText 2 (some .int) rm_X9_clearText [.ref v0] N (some (.int r)) N1 :=
  ab_met (own := RX9) (by decide +kernel) rfl (Nat.le_of_ble_eq_true rfl) (fun l G aC t b0 p e s m below meth c ls X hr hlk hnm hR hS hl => wk_X9_clearText X (RtI_met X.1.1 X.1.2.1 hr hlk) _ _ _ _ _ hR hS hl (owp_of h))
theorem cw_X9_clearText : Cond.code yX9_clearText cX9_clearText 2 (some .int) ∈ WT := WT_of 466 (by decide +kernel) (by decide +kernel)
theorem iv_X9_clearText {p : Program} {l : Launch} {e : Env} {R : Room} {s : State} {m : MethodId} {args : Array Value} {below : List Frame} {meth : Method} {c : Code} {H : Heap} {locs : List Loc} {cells slots : Nat} {Q : State → Prop} {cc : ByteArray} {own : String} {nL : Nat} {G : va_G} {aC : Nat → ClassId} {t b0 : Nat} {N N1 : AH} {pc index : Nat} {ls : Array Slot} {rest : List Value} {v0 : Nat} {r : Int32} (w1 : Cond.methodLink own index yX9_clearText ∈ WT) (X : CX cc own nL G aC t b0 p s m args c) (hR : Rp G aC b0 N H) (hS : va_S (fun q => b0 ≤ q) s.heap H locs) (h : f_X9_clearText v0 N = some (r, N1)) (hls : ls.size = nL) (hW : (rest.map fun v => v.category).sum ≤ 8) (hR1 : 1 ≤ R.frames ∧ 21 ≤ R.locals) (hcs : cells + 0 ≤ R.cells ∧ slots + 0 ≤ R.slots) (hdg : decode cc pc = .ok (.invokevirtual index, 3)) (kk : ∀ (H1 : Heap) (locs1 : List Loc), Rp G aC b0 N1 H1 → va_S (fun q => b0 ≤ q) s.heap H1 locs1 → W p l e R s m args below meth c H1 locs1 cells slots Q (F0 m (pc + 3) ls (.int r :: rest))) : W p l e R s m args below meth c H locs cells slots Q (F0 m pc ls (.ref v0 :: rest)) :=
  ab_callV (n := 0) (As := []) X hR hS (ct_X9_clearText h) (ob_rc (c := 9) (N := N) (a := v0) h) (T := TX9) (k := 6) (C := RX9) rfl w1 (WT_of 464 (by decide +kernel) (by decide +kernel)) (WT_of 465 (by decide +kernel) (by decide +kernel)) (WT_of 81 (by decide +kernel) (by decide +kernel)) cw_X9_clearText ⟨rfl, by decide +kernel, by decide +kernel, by decide +kernel⟩ rfl hls hW hR1 hcs rfl hdg kk
-- X9_textFault
theorem gf_X9_19 {p : Program} {l : Launch} {e : Env} {R : Room} {s : State} {m : MethodId} {args : Array Value} {below : List Frame} {meth : Method} {c : Code} {H : Heap} {locs : List Loc} {cells slots : Nat} {Q : State → Prop} {cc : ByteArray} {nL : Nat} {G : va_G} {aC : Nat → ClassId} {t b0 : Nat} {N : AH} {pc : Nat} {ls : Array Slot} {rest : List Value} {a : Nat} {v : Nat} (X : CX cc RX9 nL G aC t b0 p s m args c) (hR0 : Rp G aC b0 N H) (hv : hR N a 9 1 = some v) (hdg : decode cc pc = .ok (.getfield 19, 3)) (kk : W p l e R s m args below meth c H locs cells slots Q (F0 m (pc + 3) ls (.ref v :: rest))) : W p l e R s m args below meth c H locs cells slots Q (F0 m pc ls (.ref a :: rest)) := by
  obtain ⟨fs, h1, h2⟩ := hR_ok hv
  exact ab_get (C := RX9) (T := TX9) (n := 6) X hR0 h1 h2 rfl inX9 (by decide) (WT_of 434 (by decide +kernel) (by decide +kernel)) hdg kk
theorem gf_X9_59 {p : Program} {l : Launch} {e : Env} {R : Room} {s : State} {m : MethodId} {args : Array Value} {below : List Frame} {meth : Method} {c : Code} {H : Heap} {locs : List Loc} {cells slots : Nat} {Q : State → Prop} {cc : ByteArray} {nL : Nat} {G : va_G} {aC : Nat → ClassId} {t b0 : Nat} {N : AH} {pc : Nat} {ls : Array Slot} {rest : List Value} {a : Nat} {v : Nat} (X : CX cc RX9 nL G aC t b0 p s m args c) (hR0 : Rp G aC b0 N H) (hv : hR N a 7 9 = some v) (hdg : decode cc pc = .ok (.getfield 59, 3)) (kk : W p l e R s m args below meth c H locs cells slots Q (F0 m (pc + 3) ls (.ref v :: rest))) : W p l e R s m args below meth c H locs cells slots Q (F0 m pc ls (.ref a :: rest)) := by
  obtain ⟨fs, h1, h2⟩ := hR_ok hv
  exact ab_get (C := RX7) (T := TX7) (n := 12) X hR0 h1 h2 rfl inX7 (by decide) (WT_of 287 (by decide +kernel) (by decide +kernel)) hdg kk
theorem gf_X9_63 {p : Program} {l : Launch} {e : Env} {R : Room} {s : State} {m : MethodId} {args : Array Value} {below : List Frame} {meth : Method} {c : Code} {H : Heap} {locs : List Loc} {cells slots : Nat} {Q : State → Prop} {cc : ByteArray} {nL : Nat} {G : va_G} {aC : Nat → ClassId} {t b0 : Nat} {N : AH} {pc : Nat} {ls : Array Slot} {rest : List Value} {a : Nat} {v : Int32} (X : CX cc RX9 nL G aC t b0 p s m args c) (hR0 : Rp G aC b0 N H) (hv : hI N a 1 0 = some v) (hdg : decode cc pc = .ok (.getfield 63, 3)) (kk : W p l e R s m args below meth c H locs cells slots Q (F0 m (pc + 3) ls (.int v :: rest))) : W p l e R s m args below meth c H locs cells slots Q (F0 m pc ls (.ref a :: rest)) := by
  obtain ⟨fs, h1, h2⟩ := hI_ok hv
  exact ab_get (C := RX1) (T := TX1) (n := 6) X hR0 h1 h2 rfl inX1 (by decide) (WT_of 119 (by decide +kernel) (by decide +kernel)) hdg kk
theorem mw_X9_68 : Cond.methodLink RX9 68 yX2_findFault ∈ WT := WT_of 471 (by decide +kernel) (by decide +kernel)
theorem dX9_textFault_0 : decode cX9_textFault 0 = .ok (.aload_n 0, 1) := by decide +kernel
theorem dX9_textFault_1 : decode cX9_textFault 1 = .ok (.getfield 10, 3) := by decide +kernel
theorem dX9_textFault_4 : decode cX9_textFault 4 = .ok (.bipush 16, 2) := by decide +kernel
theorem dX9_textFault_6 : decode cX9_textFault 6 = .ok (.aload_n 0, 1) := by decide +kernel
theorem dX9_textFault_7 : decode cX9_textFault 7 = .ok (.getfield 19, 3) := by decide +kernel
theorem dX9_textFault_10 : decode cX9_textFault 10 = .ok (.getfield 59, 3) := by decide +kernel
theorem dX9_textFault_13 : decode cX9_textFault 13 = .ok (.getfield 63, 3) := by decide +kernel
theorem dX9_textFault_16 : decode cX9_textFault 16 = .ok (.isub, 1) := by decide +kernel
theorem dX9_textFault_17 : decode cX9_textFault 17 = .ok (.invokevirtual 68, 3) := by decide +kernel
theorem dX9_textFault_20 : decode cX9_textFault 20 = .ok (.ireturn, 1) := by decide +kernel
def rm_X9_textFault : Room := { frames := 4, cells := 0, slots := 0, locals := 91 }
section
variable {p : Program} {l : Launch} {e : Env} {s : State} {m : MethodId} {args : Array Value} {below : List Frame} {meth : Method} {c : Code} {Q : State → Prop} {G : va_G} {aC : Nat → ClassId} {t b0 : Nat}
def f_X9_textFault (v0 : Nat) (N : AH) : Option (Int32 × AH) := ob (iO N v0 9) (fun _ => ob (hR N v0 9 0) (fun x1 => ob (hR N v0 9 1) (fun x2 => ob (hR N x2 7 9) (fun x3 => ob (hI N x3 1 0) (fun x4 => ob2 (f_X2_findFault x1 ((16 : Int32) - x4) N) (fun x6 N5 => some (x6, N5)))))))
set_option maxHeartbeats 4000000 in
set_option maxRecDepth 100000 in
theorem wk_X9_textFault {P : Int32 × AH → Prop} (X : CX cX9_textFault RX9 1 G aC t b0 p s m args c) (hr : RtI p l e rm_X9_textFault s m args below meth c 0 0 Q cX9_textFault G aC b0 P) (v0 : Nat) (N : AH) (H : Heap) (locs : List Loc) (ls : Array Slot) (hR : Rp G aC b0 N H) (hS : va_S (fun q => b0 ≤ q) s.heap H locs) (hl : lv_has ls 1 [(0, .ref v0)]) (hp : owp (f_X9_textFault v0 N) P) : W p l e rm_X9_textFault s m args below meth c H locs 0 0 Q (F0 m 0 ls []) := by
  have hx := X.1.1
  have hb := X.1.2.1
  unfold f_X9_textFault at hp
  obtain ⟨_, _, hp⟩ := owp_ob hp
  refine lv_aload_n hx hb dX9_textFault_0 rfl (lv_at hl 0 rfl) ?_
  obtain ⟨x1, e_x1, hp⟩ := owp_ob hp
  refine gf_X9_10 X hR e_x1 dX9_textFault_1 ?_
  refine lv_bipush (v := (16)) hx hb dX9_textFault_4 (by decide) ?_
  refine lv_aload_n hx hb dX9_textFault_6 rfl (lv_at hl 0 rfl) ?_
  obtain ⟨x2, e_x2, hp⟩ := owp_ob hp
  refine gf_X9_19 X hR e_x2 dX9_textFault_7 ?_
  obtain ⟨x3, e_x3, hp⟩ := owp_ob hp
  refine gf_X9_59 X hR e_x3 dX9_textFault_10 ?_
  obtain ⟨x4, e_x4, hp⟩ := owp_ob hp
  refine gf_X9_63 X hR e_x4 dX9_textFault_13 ?_
  refine lv_isub hx hb dX9_textFault_16 ?_
  obtain ⟨x6, N5, e_N5, hp⟩ := owp_ob2 hp
  refine iv_X2_findFault (rest := []) mw_X9_68 X hR hS e_N5 hl.1 (Nat.le_of_ble_eq_true rfl) ⟨Nat.le_of_ble_eq_true rfl, Nat.le_of_ble_eq_true rfl⟩ ⟨Nat.le_of_ble_eq_true rfl, Nat.le_of_ble_eq_true rfl⟩ dX9_textFault_17 (fun H locs hR hS => ?_)
  exact hr _ _ _ _ _ _ hR hS dX9_textFault_20 hp
end
theorem ct_X9_textFault {v0 : Nat} {N N1 : AH} {r : Int32} (h : f_X9_textFault v0 N = some (r, N1)) : Ct yX9_textFault cX9_textFault 1 (some .int) rm_X9_textFault [.ref v0] N (some (.int r)) N1 :=
  ab_met (own := RX9) (by decide +kernel) rfl (Nat.le_of_ble_eq_true rfl) (fun l G aC t b0 p e s m below meth c ls X hr hlk hnm hR hS hl => wk_X9_textFault X (RtI_met X.1.1 X.1.2.1 hr hlk) _ _ _ _ _ hR hS hl (owp_of h))
theorem cw_X9_textFault : Cond.code yX9_textFault cX9_textFault 1 (some .int) ∈ WT := WT_of 470 (by decide +kernel) (by decide +kernel)
theorem iv_X9_textFault {p : Program} {l : Launch} {e : Env} {R : Room} {s : State} {m : MethodId} {args : Array Value} {below : List Frame} {meth : Method} {c : Code} {H : Heap} {locs : List Loc} {cells slots : Nat} {Q : State → Prop} {cc : ByteArray} {own : String} {nL : Nat} {G : va_G} {aC : Nat → ClassId} {t b0 : Nat} {N N1 : AH} {pc index : Nat} {ls : Array Slot} {rest : List Value} {v0 : Nat} {r : Int32} (w1 : Cond.methodLink own index yX9_textFault ∈ WT) (X : CX cc own nL G aC t b0 p s m args c) (hR : Rp G aC b0 N H) (hS : va_S (fun q => b0 ≤ q) s.heap H locs) (h : f_X9_textFault v0 N = some (r, N1)) (hls : ls.size = nL) (hW : (rest.map fun v => v.category).sum ≤ 8) (hR1 : 5 ≤ R.frames ∧ 111 ≤ R.locals) (hcs : cells + 0 ≤ R.cells ∧ slots + 0 ≤ R.slots) (hdg : decode cc pc = .ok (.invokevirtual index, 3)) (kk : ∀ (H1 : Heap) (locs1 : List Loc), Rp G aC b0 N1 H1 → va_S (fun q => b0 ≤ q) s.heap H1 locs1 → W p l e R s m args below meth c H1 locs1 cells slots Q (F0 m (pc + 3) ls (.int r :: rest))) : W p l e R s m args below meth c H locs cells slots Q (F0 m pc ls (.ref v0 :: rest)) :=
  ab_callV (n := 0) (As := []) X hR hS (ct_X9_textFault h) (ob_rc (c := 9) (N := N) (a := v0) h) (T := TX9) (k := 6) (C := RX9) rfl w1 (WT_of 468 (by decide +kernel) (by decide +kernel)) (WT_of 469 (by decide +kernel) (by decide +kernel)) (WT_of 81 (by decide +kernel) (by decide +kernel)) cw_X9_textFault ⟨rfl, by decide +kernel, by decide +kernel, by decide +kernel⟩ rfl hls hW hR1 hcs rfl hdg kk
-- X9_save
theorem gf_X9_26 {p : Program} {l : Launch} {e : Env} {R : Room} {s : State} {m : MethodId} {args : Array Value} {below : List Frame} {meth : Method} {c : Code} {H : Heap} {locs : List Loc} {cells slots : Nat} {Q : State → Prop} {cc : ByteArray} {nL : Nat} {G : va_G} {aC : Nat → ClassId} {t b0 : Nat} {N : AH} {pc : Nat} {ls : Array Slot} {rest : List Value} {a : Nat} {v : Nat} (X : CX cc RX9 nL G aC t b0 p s m args c) (hR0 : Rp G aC b0 N H) (hv : hR N a 9 2 = some v) (hdg : decode cc pc = .ok (.getfield 26, 3)) (kk : W p l e R s m args below meth c H locs cells slots Q (F0 m (pc + 3) ls (.ref v :: rest))) : W p l e R s m args below meth c H locs cells slots Q (F0 m pc ls (.ref a :: rest)) := by
  obtain ⟨fs, h1, h2⟩ := hR_ok hv
  exact ab_get (C := RX9) (T := TX9) (n := 6) X hR0 h1 h2 rfl inX9 (by decide) (WT_of 435 (by decide +kernel) (by decide +kernel)) hdg kk
theorem gf_X9_47 {p : Program} {l : Launch} {e : Env} {R : Room} {s : State} {m : MethodId} {args : Array Value} {below : List Frame} {meth : Method} {c : Code} {H : Heap} {locs : List Loc} {cells slots : Nat} {Q : State → Prop} {cc : ByteArray} {nL : Nat} {G : va_G} {aC : Nat → ClassId} {t b0 : Nat} {N : AH} {pc : Nat} {ls : Array Slot} {rest : List Value} {a : Nat} {v : Nat} (X : CX cc RX9 nL G aC t b0 p s m args c) (hR0 : Rp G aC b0 N H) (hv : hR N a 9 5 = some v) (hdg : decode cc pc = .ok (.getfield 47, 3)) (kk : W p l e R s m args below meth c H locs cells slots Q (F0 m (pc + 3) ls (.ref v :: rest))) : W p l e R s m args below meth c H locs cells slots Q (F0 m pc ls (.ref a :: rest)) := by
  obtain ⟨fs, h1, h2⟩ := hR_ok hv
  exact ab_get (C := RX9) (T := TX9) (n := 6) X hR0 h1 h2 rfl inX9 (by decide) (WT_of 438 (by decide +kernel) (by decide +kernel)) hdg kk
theorem mw_X9_129 : Cond.methodLink RX9 129 yX3_forget ∈ WT := WT_of 537 (by decide +kernel) (by decide +kernel)
theorem mw_X9_283 : Cond.methodLink RX9 283 yX5_keep ∈ WT := WT_of 511 (by decide +kernel) (by decide +kernel)
theorem dX9_save_0 : decode cX9_save 0 = .ok (.aload_n 0, 1) := by decide +kernel
theorem dX9_save_1 : decode cX9_save 1 = .ok (.getfield 26, 3) := by decide +kernel
theorem dX9_save_4 : decode cX9_save 4 = .ok (.aload_n 0, 1) := by decide +kernel
theorem dX9_save_5 : decode cX9_save 5 = .ok (.getfield 19, 3) := by decide +kernel
theorem dX9_save_8 : decode cX9_save 8 = .ok (.invokevirtual 283, 3) := by decide +kernel
theorem dX9_save_11 : decode cX9_save 11 = .ok (.aload_n 0, 1) := by decide +kernel
theorem dX9_save_12 : decode cX9_save 12 = .ok (.getfield 47, 3) := by decide +kernel
theorem dX9_save_15 : decode cX9_save 15 = .ok (.invokevirtual 129, 3) := by decide +kernel
theorem dX9_save_18 : decode cX9_save 18 = .ok (.return_, 1) := by decide +kernel
def rm_X9_save : Room := { frames := 5, cells := 0, slots := 0, locals := 103 }
section
variable {p : Program} {l : Launch} {e : Env} {s : State} {m : MethodId} {args : Array Value} {below : List Frame} {meth : Method} {c : Code} {Q : State → Prop} {G : va_G} {aC : Nat → ClassId} {t b0 : Nat}
def f_X9_save (v0 : Nat) (N : AH) : Option (Unit × AH) := ob (iO N v0 9) (fun _ => ob (hR N v0 9 2) (fun x1 => ob (hR N v0 9 1) (fun x2 => ob2 (f_X5_keep x1 x2 N) (fun _ N3 => ob (hR N3 v0 9 5) (fun x4 => ob2 (f_X3_forget x4 N3) (fun _ N5 => some ((), N5)))))))
set_option maxHeartbeats 4000000 in
set_option maxRecDepth 100000 in
theorem wk_X9_save {P : Unit × AH → Prop} (X : CX cX9_save RX9 1 G aC t b0 p s m args c) (hr : RtV p l e rm_X9_save s m args below meth c 0 0 Q cX9_save G aC b0 P) (v0 : Nat) (N : AH) (H : Heap) (locs : List Loc) (ls : Array Slot) (hR : Rp G aC b0 N H) (hS : va_S (fun q => b0 ≤ q) s.heap H locs) (hl : lv_has ls 1 [(0, .ref v0)]) (hp : owp (f_X9_save v0 N) P) : W p l e rm_X9_save s m args below meth c H locs 0 0 Q (F0 m 0 ls []) := by
  have hx := X.1.1
  have hb := X.1.2.1
  unfold f_X9_save at hp
  obtain ⟨_, _, hp⟩ := owp_ob hp
  refine lv_aload_n hx hb dX9_save_0 rfl (lv_at hl 0 rfl) ?_
  obtain ⟨x1, e_x1, hp⟩ := owp_ob hp
  refine gf_X9_26 X hR e_x1 dX9_save_1 ?_
  refine lv_aload_n hx hb dX9_save_4 rfl (lv_at hl 0 rfl) ?_
  obtain ⟨x2, e_x2, hp⟩ := owp_ob hp
  refine gf_X9_19 X hR e_x2 dX9_save_5 ?_
  obtain ⟨_, N3, e_N3, hp⟩ := owp_ob2 hp
  refine iv_X5_keep (rest := []) mw_X9_283 X hR hS e_N3 hl.1 (Nat.le_of_ble_eq_true rfl) ⟨Nat.le_of_ble_eq_true rfl, Nat.le_of_ble_eq_true rfl⟩ ⟨Nat.le_of_ble_eq_true rfl, Nat.le_of_ble_eq_true rfl⟩ dX9_save_8 (fun H locs hR hS => ?_)
  refine lv_aload_n hx hb dX9_save_11 rfl (lv_at hl 0 rfl) ?_
  obtain ⟨x4, e_x4, hp⟩ := owp_ob hp
  refine gf_X9_47 X hR e_x4 dX9_save_12 ?_
  obtain ⟨_, N5, e_N5, hp⟩ := owp_ob2 hp
  refine iv_X3_forget (rest := []) mw_X9_129 X hR hS e_N5 hl.1 (Nat.le_of_ble_eq_true rfl) ⟨Nat.le_of_ble_eq_true rfl, Nat.le_of_ble_eq_true rfl⟩ ⟨Nat.le_of_ble_eq_true rfl, Nat.le_of_ble_eq_true rfl⟩ dX9_save_15 (fun H locs hR hS => ?_)
  exact hr _ _ _ _ _ hR hS dX9_save_18 hp
end
theorem ct_X9_save {v0 : Nat} {N N1 : AH} {r : Unit} (h : f_X9_save v0 N = some (r, N1)) : Ct yX9_save cX9_save 1 none rm_X9_save [.ref v0] N none N1 :=
  ab_met (own := RX9) (by decide +kernel) rfl (Nat.le_of_ble_eq_true rfl) (fun l G aC t b0 p e s m below meth c ls X hr hlk hnm hR hS hl => wk_X9_save X (RtV_met X.1.1 X.1.2.1 hr hlk) _ _ _ _ _ hR hS hl (owp_of h))
theorem cw_X9_save : Cond.code yX9_save cX9_save 1 none ∈ WT := WT_of 510 (by decide +kernel) (by decide +kernel)
theorem iv_X9_save {p : Program} {l : Launch} {e : Env} {R : Room} {s : State} {m : MethodId} {args : Array Value} {below : List Frame} {meth : Method} {c : Code} {H : Heap} {locs : List Loc} {cells slots : Nat} {Q : State → Prop} {cc : ByteArray} {own : String} {nL : Nat} {G : va_G} {aC : Nat → ClassId} {t b0 : Nat} {N N1 : AH} {pc index : Nat} {ls : Array Slot} {rest : List Value} {v0 : Nat} {r : Unit} (w1 : Cond.methodLink own index yX9_save ∈ WT) (X : CX cc own nL G aC t b0 p s m args c) (hR : Rp G aC b0 N H) (hS : va_S (fun q => b0 ≤ q) s.heap H locs) (h : f_X9_save v0 N = some (r, N1)) (hls : ls.size = nL) (hW : (rest.map fun v => v.category).sum ≤ 8) (hR1 : 6 ≤ R.frames ∧ 123 ≤ R.locals) (hcs : cells + 0 ≤ R.cells ∧ slots + 0 ≤ R.slots) (hdg : decode cc pc = .ok (.invokevirtual index, 3)) (kk : ∀ (H1 : Heap) (locs1 : List Loc), Rp G aC b0 N1 H1 → va_S (fun q => b0 ≤ q) s.heap H1 locs1 → W p l e R s m args below meth c H1 locs1 cells slots Q (F0 m (pc + 3) ls rest)) : W p l e R s m args below meth c H locs cells slots Q (F0 m pc ls (.ref v0 :: rest)) :=
  ab_callV (n := 0) (As := []) X hR hS (ct_X9_save h) (ob_rc (c := 9) (N := N) (a := v0) h) (T := TX9) (k := 6) (C := RX9) rfl w1 (WT_of 509 (by decide +kernel) (by decide +kernel)) (WT_of 5 (by decide +kernel) (by decide +kernel)) (WT_of 81 (by decide +kernel) (by decide +kernel)) cw_X9_save ⟨rfl, by decide +kernel, by decide +kernel, by decide +kernel⟩ rfl hls hW hR1 hcs rfl hdg kk
-- X9_flow
theorem mw_X9_72 : Cond.methodLink RX9 72 yX9_isOneOf ∈ WT := WT_of 505 (by decide +kernel) (by decide +kernel)
theorem mw_X9_77 : Cond.methodLink RX9 77 yX9_save ∈ WT := WT_of 507 (by decide +kernel) (by decide +kernel)
theorem mw_X9_80 : Cond.methodLink RX9 80 yX1_append ∈ WT := WT_of 541 (by decide +kernel) (by decide +kernel)
theorem dX9_flow_0 : decode cX9_flow 0 = .ok (.iload_n 1, 1) := by decide +kernel
theorem dX9_flow_1 : decode cX9_flow 1 = .ok (.bipush 8, 2) := by decide +kernel
theorem dX9_flow_3 : decode cX9_flow 3 = .ok (.invokestatic 72, 3) := by decide +kernel
theorem dX9_flow_6 : decode cX9_flow 6 = .ok (.ifCond .eq 12, 3) := by decide +kernel
theorem dX9_flow_9 : decode cX9_flow 9 = .ok (.iload_n 2, 1) := by decide +kernel
theorem dX9_flow_10 : decode cX9_flow 10 = .ok (.bipush 8, 2) := by decide +kernel
theorem dX9_flow_12 : decode cX9_flow 12 = .ok (.invokestatic 72, 3) := by decide +kernel
theorem dX9_flow_15 : decode cX9_flow 15 = .ok (.ifCond .ne 6, 3) := by decide +kernel
theorem dX9_flow_18 : decode cX9_flow 18 = .ok (.bipush (-2), 2) := by decide +kernel
theorem dX9_flow_20 : decode cX9_flow 20 = .ok (.ireturn, 1) := by decide +kernel
theorem dX9_flow_21 : decode cX9_flow 21 = .ok (.iload_n 3, 1) := by decide +kernel
theorem dX9_flow_22 : decode cX9_flow 22 = .ok (.iconst 1, 1) := by decide +kernel
theorem dX9_flow_23 : decode cX9_flow 23 = .ok (.if_icmp .lt 9, 3) := by decide +kernel
theorem dX9_flow_26 : decode cX9_flow 26 = .ok (.iload_n 3, 1) := by decide +kernel
theorem dX9_flow_27 : decode cX9_flow 27 = .ok (.ldc 76, 2) := by decide +kernel
theorem dX9_flow_29 : decode cX9_flow 29 = .ok (.if_icmp .le 6, 3) := by decide +kernel
theorem dX9_flow_32 : decode cX9_flow 32 = .ok (.bipush (-3), 2) := by decide +kernel
theorem dX9_flow_34 : decode cX9_flow 34 = .ok (.ireturn, 1) := by decide +kernel
theorem dX9_flow_35 : decode cX9_flow 35 = .ok (.aload_n 0, 1) := by decide +kernel
theorem dX9_flow_36 : decode cX9_flow 36 = .ok (.getfield 19, 3) := by decide +kernel
theorem dX9_flow_39 : decode cX9_flow 39 = .ok (.getfield 59, 3) := by decide +kernel
theorem dX9_flow_42 : decode cX9_flow 42 = .ok (.getfield 63, 3) := by decide +kernel
theorem dX9_flow_45 : decode cX9_flow 45 = .ok (.bipush 16, 2) := by decide +kernel
theorem dX9_flow_47 : decode cX9_flow 47 = .ok (.if_icmp .lt 6, 3) := by decide +kernel
theorem dX9_flow_50 : decode cX9_flow 50 = .ok (.bipush (-5), 2) := by decide +kernel
theorem dX9_flow_52 : decode cX9_flow 52 = .ok (.ireturn, 1) := by decide +kernel
theorem dX9_flow_53 : decode cX9_flow 53 = .ok (.aload_n 0, 1) := by decide +kernel
theorem dX9_flow_54 : decode cX9_flow 54 = .ok (.invokevirtual 77, 3) := by decide +kernel
theorem dX9_flow_57 : decode cX9_flow 57 = .ok (.aload_n 0, 1) := by decide +kernel
theorem dX9_flow_58 : decode cX9_flow 58 = .ok (.getfield 19, 3) := by decide +kernel
theorem dX9_flow_61 : decode cX9_flow 61 = .ok (.getfield 59, 3) := by decide +kernel
theorem dX9_flow_64 : decode cX9_flow 64 = .ok (.iload_n 1, 1) := by decide +kernel
theorem dX9_flow_65 : decode cX9_flow 65 = .ok (.iload_n 2, 1) := by decide +kernel
theorem dX9_flow_66 : decode cX9_flow 66 = .ok (.iload_n 3, 1) := by decide +kernel
theorem dX9_flow_67 : decode cX9_flow 67 = .ok (.invokevirtual 80, 3) := by decide +kernel
theorem dX9_flow_70 : decode cX9_flow 70 = .ok (.aload_n 0, 1) := by decide +kernel
theorem dX9_flow_71 : decode cX9_flow 71 = .ok (.getfield 19, 3) := by decide +kernel
theorem dX9_flow_74 : decode cX9_flow 74 = .ok (.getfield 59, 3) := by decide +kernel
theorem dX9_flow_77 : decode cX9_flow 77 = .ok (.getfield 63, 3) := by decide +kernel
theorem dX9_flow_80 : decode cX9_flow 80 = .ok (.ireturn, 1) := by decide +kernel
def rm_X9_flow : Room := { frames := 6, cells := 0, slots := 0, locals := 123 }
section
variable {p : Program} {l : Launch} {e : Env} {s : State} {m : MethodId} {args : Array Value} {below : List Frame} {meth : Method} {c : Code} {Q : State → Prop} {G : va_G} {aC : Nat → ClassId} {t b0 : Nat}
def f_X9_flow (v0 : Nat) (v1 : Int32) (v2 : Int32) (v3 : Int32) (N : AH) : Option (Int32 × AH) := ob (iO N v0 9) (fun _ => ob2 (f_X9_isOneOf v1 (8 : Int32) N) (fun x2 N1 => if x2 = 0 then some ((-2 : Int32), N1) else ob2 (f_X9_isOneOf v2 (8 : Int32) N1) (fun x5 N4 => if ¬ x5 = 0 then if v3 < (1 : Int32) then some ((-3 : Int32), N4) else if v3 ≤ (100000 : Int32) then ob (hR N4 v0 9 1) (fun x9 => ob (hR N4 x9 7 9) (fun x10 => ob (hI N4 x10 1 0) (fun x11 => if x11 < (16 : Int32) then ob2 (f_X9_save v0 N4) (fun _ N13 => ob (hR N13 v0 9 1) (fun x14 => ob (hR N13 x14 7 9) (fun x15 => ob2 (f_X1_append x15 v1 v2 v3 N13) (fun _ N16 => ob (hR N16 v0 9 1) (fun x17 => ob (hR N16 x17 7 9) (fun x18 => ob (hI N16 x18 1 0) (fun x19 => some (x19, N16)))))))) else some ((-5 : Int32), N4)))) else some ((-3 : Int32), N4) else some ((-2 : Int32), N4))))
set_option maxHeartbeats 4000000 in
set_option maxRecDepth 100000 in
theorem wk_X9_flow {P : Int32 × AH → Prop} (X : CX cX9_flow RX9 4 G aC t b0 p s m args c) (hr : RtI p l e rm_X9_flow s m args below meth c 0 0 Q cX9_flow G aC b0 P) (v0 : Nat) (v1 : Int32) (v2 : Int32) (v3 : Int32) (N : AH) (H : Heap) (locs : List Loc) (ls : Array Slot) (hR : Rp G aC b0 N H) (hS : va_S (fun q => b0 ≤ q) s.heap H locs) (hl : lv_has ls 4 [(0, .ref v0), (1, .int v1), (2, .int v2), (3, .int v3)]) (hp : owp (f_X9_flow v0 v1 v2 v3 N) P) : W p l e rm_X9_flow s m args below meth c H locs 0 0 Q (F0 m 0 ls []) := by
  have hx := X.1.1
  have hb := X.1.2.1
  unfold f_X9_flow at hp
  obtain ⟨_, _, hp⟩ := owp_ob hp
  refine lv_iload_n hx hb dX9_flow_0 rfl (lv_at hl 1 rfl) ?_
  refine lv_bipush (v := (8)) hx hb dX9_flow_1 (by decide) ?_
  obtain ⟨x2, N1, e_N1, hp⟩ := owp_ob2 hp
  refine iv_X9_isOneOf (rest := []) mw_X9_72 X hR hS e_N1 hl.1 (Nat.le_of_ble_eq_true rfl) ⟨Nat.le_of_ble_eq_true rfl, Nat.le_of_ble_eq_true rfl⟩ ⟨Nat.le_of_ble_eq_true rfl, Nat.le_of_ble_eq_true rfl⟩ dX9_flow_3 (fun H locs hR hS => ?_)
  refine lv_if_eq (tgt := 18) hx hb dX9_flow_6 (by decide) (fun k3 => ?_) (fun k3 => ?_)
  · have hp := owp_t k3 hp
    refine lv_bipush (v := (-2)) hx hb dX9_flow_18 (by decide) ?_
    exact hr _ _ _ _ _ _ hR hS dX9_flow_20 hp
  · have hp := owp_f k3 hp
    refine lv_iload_n hx hb dX9_flow_9 rfl (lv_at hl 2 rfl) ?_
    refine lv_bipush (v := (8)) hx hb dX9_flow_10 (by decide) ?_
    obtain ⟨x5, N4, e_N4, hp⟩ := owp_ob2 hp
    refine iv_X9_isOneOf (rest := []) mw_X9_72 X hR hS e_N4 hl.1 (Nat.le_of_ble_eq_true rfl) ⟨Nat.le_of_ble_eq_true rfl, Nat.le_of_ble_eq_true rfl⟩ ⟨Nat.le_of_ble_eq_true rfl, Nat.le_of_ble_eq_true rfl⟩ dX9_flow_12 (fun H locs hR hS => ?_)
    refine lv_if_ne (tgt := 21) hx hb dX9_flow_15 (by decide) (fun k6 => ?_) (fun k6 => ?_)
    · have hp := owp_t k6 hp
      refine lv_iload_n hx hb dX9_flow_21 rfl (lv_at hl 3 rfl) ?_
      refine lv_iconst (v := (1)) hx hb dX9_flow_22 (by decide) ?_
      refine lv_icmp_lt (tgt := 32) hx hb dX9_flow_23 (by decide) (fun k7 => ?_) (fun k7 => ?_)
      · have hp := owp_t k7 hp
        refine lv_bipush (v := (-3)) hx hb dX9_flow_32 (by decide) ?_
        exact hr _ _ _ _ _ _ hR hS dX9_flow_34 hp
      · have hp := owp_f k7 hp
        refine lv_iload_n hx hb dX9_flow_26 rfl (lv_at hl 3 rfl) ?_
        refine lv_ldc (own := RX9) (v := 100000) hx hb X.1.2.2.2.1 (X.1.2.2.2.2 _ (WT_of 506 (by decide +kernel) (by decide +kernel))) dX9_flow_27 ?_
        refine lv_icmp_le (tgt := 35) hx hb dX9_flow_29 (by decide) (fun k8 => ?_) (fun k8 => ?_)
        · have hp := owp_t k8 hp
          refine lv_aload_n hx hb dX9_flow_35 rfl (lv_at hl 0 rfl) ?_
          obtain ⟨x9, e_x9, hp⟩ := owp_ob hp
          refine gf_X9_19 X hR e_x9 dX9_flow_36 ?_
          obtain ⟨x10, e_x10, hp⟩ := owp_ob hp
          refine gf_X9_59 X hR e_x10 dX9_flow_39 ?_
          obtain ⟨x11, e_x11, hp⟩ := owp_ob hp
          refine gf_X9_63 X hR e_x11 dX9_flow_42 ?_
          refine lv_bipush (v := (16)) hx hb dX9_flow_45 (by decide) ?_
          refine lv_icmp_lt (tgt := 53) hx hb dX9_flow_47 (by decide) (fun k12 => ?_) (fun k12 => ?_)
          · have hp := owp_t k12 hp
            refine lv_aload_n hx hb dX9_flow_53 rfl (lv_at hl 0 rfl) ?_
            obtain ⟨_, N13, e_N13, hp⟩ := owp_ob2 hp
            refine iv_X9_save (rest := []) mw_X9_77 X hR hS e_N13 hl.1 (Nat.le_of_ble_eq_true rfl) ⟨Nat.le_of_ble_eq_true rfl, Nat.le_of_ble_eq_true rfl⟩ ⟨Nat.le_of_ble_eq_true rfl, Nat.le_of_ble_eq_true rfl⟩ dX9_flow_54 (fun H locs hR hS => ?_)
            refine lv_aload_n hx hb dX9_flow_57 rfl (lv_at hl 0 rfl) ?_
            obtain ⟨x14, e_x14, hp⟩ := owp_ob hp
            refine gf_X9_19 X hR e_x14 dX9_flow_58 ?_
            obtain ⟨x15, e_x15, hp⟩ := owp_ob hp
            refine gf_X9_59 X hR e_x15 dX9_flow_61 ?_
            refine lv_iload_n hx hb dX9_flow_64 rfl (lv_at hl 1 rfl) ?_
            refine lv_iload_n hx hb dX9_flow_65 rfl (lv_at hl 2 rfl) ?_
            refine lv_iload_n hx hb dX9_flow_66 rfl (lv_at hl 3 rfl) ?_
            obtain ⟨_, N16, e_N16, hp⟩ := owp_ob2 hp
            refine iv_X1_append (rest := []) mw_X9_80 X hR hS e_N16 hl.1 (Nat.le_of_ble_eq_true rfl) ⟨Nat.le_of_ble_eq_true rfl, Nat.le_of_ble_eq_true rfl⟩ ⟨Nat.le_of_ble_eq_true rfl, Nat.le_of_ble_eq_true rfl⟩ dX9_flow_67 (fun H locs hR hS => ?_)
            refine lv_aload_n hx hb dX9_flow_70 rfl (lv_at hl 0 rfl) ?_
            obtain ⟨x17, e_x17, hp⟩ := owp_ob hp
            refine gf_X9_19 X hR e_x17 dX9_flow_71 ?_
            obtain ⟨x18, e_x18, hp⟩ := owp_ob hp
            refine gf_X9_59 X hR e_x18 dX9_flow_74 ?_
            obtain ⟨x19, e_x19, hp⟩ := owp_ob hp
            refine gf_X9_63 X hR e_x19 dX9_flow_77 ?_
            exact hr _ _ _ _ _ _ hR hS dX9_flow_80 hp
          · have hp := owp_f k12 hp
            refine lv_bipush (v := (-5)) hx hb dX9_flow_50 (by decide) ?_
            exact hr _ _ _ _ _ _ hR hS dX9_flow_52 hp
        · have hp := owp_f k8 hp
          refine lv_bipush (v := (-3)) hx hb dX9_flow_32 (by decide) ?_
          exact hr _ _ _ _ _ _ hR hS dX9_flow_34 hp
    · have hp := owp_f (fun q => q k6) hp
      refine lv_bipush (v := (-2)) hx hb dX9_flow_18 (by decide) ?_
      exact hr _ _ _ _ _ _ hR hS dX9_flow_20 hp
end
theorem ct_X9_flow {v0 : Nat} {v1 : Int32} {v2 : Int32} {v3 : Int32} {N N1 : AH} {r : Int32} (h : f_X9_flow v0 v1 v2 v3 N = some (r, N1)) : Ct yX9_flow cX9_flow 4 (some .int) rm_X9_flow [.ref v0, .int v1, .int v2, .int v3] N (some (.int r)) N1 :=
  ab_met (own := RX9) (by decide +kernel) rfl (Nat.le_of_ble_eq_true rfl) (fun l G aC t b0 p e s m below meth c ls X hr hlk hnm hR hS hl => wk_X9_flow X (RtI_met X.1.1 X.1.2.1 hr hlk) _ _ _ _ _ _ _ _ hR hS hl (owp_of h))
theorem cw_X9_flow : Cond.code yX9_flow cX9_flow 4 (some .int) ∈ WT := WT_of 504 (by decide +kernel) (by decide +kernel)
theorem iv_X9_flow {p : Program} {l : Launch} {e : Env} {R : Room} {s : State} {m : MethodId} {args : Array Value} {below : List Frame} {meth : Method} {c : Code} {H : Heap} {locs : List Loc} {cells slots : Nat} {Q : State → Prop} {cc : ByteArray} {own : String} {nL : Nat} {G : va_G} {aC : Nat → ClassId} {t b0 : Nat} {N N1 : AH} {pc index : Nat} {ls : Array Slot} {rest : List Value} {v0 : Nat} {v1 : Int32} {v2 : Int32} {v3 : Int32} {r : Int32} (w1 : Cond.methodLink own index yX9_flow ∈ WT) (X : CX cc own nL G aC t b0 p s m args c) (hR : Rp G aC b0 N H) (hS : va_S (fun q => b0 ≤ q) s.heap H locs) (h : f_X9_flow v0 v1 v2 v3 N = some (r, N1)) (hls : ls.size = nL) (hW : (rest.map fun v => v.category).sum ≤ 8) (hR1 : 7 ≤ R.frames ∧ 146 ≤ R.locals) (hcs : cells + 0 ≤ R.cells ∧ slots + 0 ≤ R.slots) (hdg : decode cc pc = .ok (.invokevirtual index, 3)) (kk : ∀ (H1 : Heap) (locs1 : List Loc), Rp G aC b0 N1 H1 → va_S (fun q => b0 ≤ q) s.heap H1 locs1 → W p l e R s m args below meth c H1 locs1 cells slots Q (F0 m (pc + 3) ls (.int r :: rest))) : W p l e R s m args below meth c H locs cells slots Q (F0 m pc ls (.int v3 :: .int v2 :: .int v1 :: .ref v0 :: rest)) :=
  ab_callV (n := 3) (As := [.int v1, .int v2, .int v3]) X hR hS (ct_X9_flow h) (ob_rc (c := 9) (N := N) (a := v0) h) (T := TX9) (k := 6) (C := RX9) rfl w1 (WT_of 502 (by decide +kernel) (by decide +kernel)) (WT_of 503 (by decide +kernel) (by decide +kernel)) (WT_of 81 (by decide +kernel) (by decide +kernel)) cw_X9_flow ⟨rfl, by decide +kernel, by decide +kernel, by decide +kernel⟩ rfl hls hW hR1 hcs rfl hdg kk
-- X9_read
theorem gf_X9_83 {p : Program} {l : Launch} {e : Env} {R : Room} {s : State} {m : MethodId} {args : Array Value} {below : List Frame} {meth : Method} {c : Code} {H : Heap} {locs : List Loc} {cells slots : Nat} {Q : State → Prop} {cc : ByteArray} {nL : Nat} {G : va_G} {aC : Nat → ClassId} {t b0 : Nat} {N : AH} {pc : Nat} {ls : Array Slot} {rest : List Value} {a : Nat} {v : Nat} (X : CX cc RX9 nL G aC t b0 p s m args c) (hR0 : Rp G aC b0 N H) (hv : hR N a 2 3 = some v) (hdg : decode cc pc = .ok (.getfield 83, 3)) (kk : W p l e R s m args below meth c H locs cells slots Q (F0 m (pc + 3) ls (.ref v :: rest))) : W p l e R s m args below meth c H locs cells slots Q (F0 m pc ls (.ref a :: rest)) := by
  obtain ⟨fs, h1, h2⟩ := hR_ok hv
  exact ab_get (C := RX2) (T := TX2) (n := 4) X hR0 h1 h2 rfl inX2 (by decide) (WT_of 158 (by decide +kernel) (by decide +kernel)) hdg kk
theorem mw_X9_86 : Cond.methodLink RX9 86 yX1_appendAll ∈ WT := WT_of 546 (by decide +kernel) (by decide +kernel)
theorem dX9_read_0 : decode cX9_read 0 = .ok (.aload_n 0, 1) := by decide +kernel
theorem dX9_read_1 : decode cX9_read 1 = .ok (.getfield 10, 3) := by decide +kernel
theorem dX9_read_4 : decode cX9_read 4 = .ok (.bipush 16, 2) := by decide +kernel
theorem dX9_read_6 : decode cX9_read 6 = .ok (.aload_n 0, 1) := by decide +kernel
theorem dX9_read_7 : decode cX9_read 7 = .ok (.getfield 19, 3) := by decide +kernel
theorem dX9_read_10 : decode cX9_read 10 = .ok (.getfield 59, 3) := by decide +kernel
theorem dX9_read_13 : decode cX9_read 13 = .ok (.getfield 63, 3) := by decide +kernel
theorem dX9_read_16 : decode cX9_read 16 = .ok (.isub, 1) := by decide +kernel
theorem dX9_read_17 : decode cX9_read 17 = .ok (.invokevirtual 68, 3) := by decide +kernel
theorem dX9_read_20 : decode cX9_read 20 = .ok (.iconst (-1), 1) := by decide +kernel
theorem dX9_read_21 : decode cX9_read 21 = .ok (.if_icmp .eq 6, 3) := by decide +kernel
theorem dX9_read_24 : decode cX9_read 24 = .ok (.bipush (-4), 2) := by decide +kernel
theorem dX9_read_26 : decode cX9_read 26 = .ok (.ireturn, 1) := by decide +kernel
theorem dX9_read_27 : decode cX9_read 27 = .ok (.aload_n 0, 1) := by decide +kernel
theorem dX9_read_28 : decode cX9_read 28 = .ok (.invokevirtual 77, 3) := by decide +kernel
theorem dX9_read_31 : decode cX9_read 31 = .ok (.aload_n 0, 1) := by decide +kernel
theorem dX9_read_32 : decode cX9_read 32 = .ok (.getfield 19, 3) := by decide +kernel
theorem dX9_read_35 : decode cX9_read 35 = .ok (.getfield 59, 3) := by decide +kernel
theorem dX9_read_38 : decode cX9_read 38 = .ok (.aload_n 0, 1) := by decide +kernel
theorem dX9_read_39 : decode cX9_read 39 = .ok (.getfield 10, 3) := by decide +kernel
theorem dX9_read_42 : decode cX9_read 42 = .ok (.getfield 83, 3) := by decide +kernel
theorem dX9_read_45 : decode cX9_read 45 = .ok (.invokevirtual 86, 3) := by decide +kernel
theorem dX9_read_48 : decode cX9_read 48 = .ok (.aload_n 0, 1) := by decide +kernel
theorem dX9_read_49 : decode cX9_read 49 = .ok (.getfield 19, 3) := by decide +kernel
theorem dX9_read_52 : decode cX9_read 52 = .ok (.getfield 59, 3) := by decide +kernel
theorem dX9_read_55 : decode cX9_read 55 = .ok (.getfield 63, 3) := by decide +kernel
theorem dX9_read_58 : decode cX9_read 58 = .ok (.ireturn, 1) := by decide +kernel
def rm_X9_read : Room := { frames := 6, cells := 0, slots := 0, locals := 123 }
section
variable {p : Program} {l : Launch} {e : Env} {s : State} {m : MethodId} {args : Array Value} {below : List Frame} {meth : Method} {c : Code} {Q : State → Prop} {G : va_G} {aC : Nat → ClassId} {t b0 : Nat}
def f_X9_read (v0 : Nat) (N : AH) : Option (Int32 × AH) := ob (iO N v0 9) (fun _ => ob (hR N v0 9 0) (fun x1 => ob (hR N v0 9 1) (fun x2 => ob (hR N x2 7 9) (fun x3 => ob (hI N x3 1 0) (fun x4 => ob2 (f_X2_findFault x1 ((16 : Int32) - x4) N) (fun x6 N5 => if x6 = (-1 : Int32) then ob2 (f_X9_save v0 N5) (fun _ N8 => ob (hR N8 v0 9 1) (fun x9 => ob (hR N8 x9 7 9) (fun x10 => ob (hR N8 v0 9 0) (fun x11 => ob (hR N8 x11 2 3) (fun x12 => ob2 (f_X1_appendAll x10 x12 N8) (fun _ N13 => ob (hR N13 v0 9 1) (fun x14 => ob (hR N13 x14 7 9) (fun x15 => ob (hI N13 x15 1 0) (fun x16 => some (x16, N13)))))))))) else some ((-4 : Int32), N5)))))))
set_option maxHeartbeats 4000000 in
set_option maxRecDepth 100000 in
theorem wk_X9_read {P : Int32 × AH → Prop} (X : CX cX9_read RX9 1 G aC t b0 p s m args c) (hr : RtI p l e rm_X9_read s m args below meth c 0 0 Q cX9_read G aC b0 P) (v0 : Nat) (N : AH) (H : Heap) (locs : List Loc) (ls : Array Slot) (hR : Rp G aC b0 N H) (hS : va_S (fun q => b0 ≤ q) s.heap H locs) (hl : lv_has ls 1 [(0, .ref v0)]) (hp : owp (f_X9_read v0 N) P) : W p l e rm_X9_read s m args below meth c H locs 0 0 Q (F0 m 0 ls []) := by
  have hx := X.1.1
  have hb := X.1.2.1
  unfold f_X9_read at hp
  obtain ⟨_, _, hp⟩ := owp_ob hp
  refine lv_aload_n hx hb dX9_read_0 rfl (lv_at hl 0 rfl) ?_
  obtain ⟨x1, e_x1, hp⟩ := owp_ob hp
  refine gf_X9_10 X hR e_x1 dX9_read_1 ?_
  refine lv_bipush (v := (16)) hx hb dX9_read_4 (by decide) ?_
  refine lv_aload_n hx hb dX9_read_6 rfl (lv_at hl 0 rfl) ?_
  obtain ⟨x2, e_x2, hp⟩ := owp_ob hp
  refine gf_X9_19 X hR e_x2 dX9_read_7 ?_
  obtain ⟨x3, e_x3, hp⟩ := owp_ob hp
  refine gf_X9_59 X hR e_x3 dX9_read_10 ?_
  obtain ⟨x4, e_x4, hp⟩ := owp_ob hp
  refine gf_X9_63 X hR e_x4 dX9_read_13 ?_
  refine lv_isub hx hb dX9_read_16 ?_
  obtain ⟨x6, N5, e_N5, hp⟩ := owp_ob2 hp
  refine iv_X2_findFault (rest := []) mw_X9_68 X hR hS e_N5 hl.1 (Nat.le_of_ble_eq_true rfl) ⟨Nat.le_of_ble_eq_true rfl, Nat.le_of_ble_eq_true rfl⟩ ⟨Nat.le_of_ble_eq_true rfl, Nat.le_of_ble_eq_true rfl⟩ dX9_read_17 (fun H locs hR hS => ?_)
  refine lv_iconst (v := (-1)) hx hb dX9_read_20 (by decide) ?_
  refine lv_icmp_eq (tgt := 27) hx hb dX9_read_21 (by decide) (fun k7 => ?_) (fun k7 => ?_)
  · have hp := owp_t k7 hp
    refine lv_aload_n hx hb dX9_read_27 rfl (lv_at hl 0 rfl) ?_
    obtain ⟨_, N8, e_N8, hp⟩ := owp_ob2 hp
    refine iv_X9_save (rest := []) mw_X9_77 X hR hS e_N8 hl.1 (Nat.le_of_ble_eq_true rfl) ⟨Nat.le_of_ble_eq_true rfl, Nat.le_of_ble_eq_true rfl⟩ ⟨Nat.le_of_ble_eq_true rfl, Nat.le_of_ble_eq_true rfl⟩ dX9_read_28 (fun H locs hR hS => ?_)
    refine lv_aload_n hx hb dX9_read_31 rfl (lv_at hl 0 rfl) ?_
    obtain ⟨x9, e_x9, hp⟩ := owp_ob hp
    refine gf_X9_19 X hR e_x9 dX9_read_32 ?_
    obtain ⟨x10, e_x10, hp⟩ := owp_ob hp
    refine gf_X9_59 X hR e_x10 dX9_read_35 ?_
    refine lv_aload_n hx hb dX9_read_38 rfl (lv_at hl 0 rfl) ?_
    obtain ⟨x11, e_x11, hp⟩ := owp_ob hp
    refine gf_X9_10 X hR e_x11 dX9_read_39 ?_
    obtain ⟨x12, e_x12, hp⟩ := owp_ob hp
    refine gf_X9_83 X hR e_x12 dX9_read_42 ?_
    obtain ⟨_, N13, e_N13, hp⟩ := owp_ob2 hp
    refine iv_X1_appendAll (rest := []) mw_X9_86 X hR hS e_N13 hl.1 (Nat.le_of_ble_eq_true rfl) ⟨Nat.le_of_ble_eq_true rfl, Nat.le_of_ble_eq_true rfl⟩ ⟨Nat.le_of_ble_eq_true rfl, Nat.le_of_ble_eq_true rfl⟩ dX9_read_45 (fun H locs hR hS => ?_)
    refine lv_aload_n hx hb dX9_read_48 rfl (lv_at hl 0 rfl) ?_
    obtain ⟨x14, e_x14, hp⟩ := owp_ob hp
    refine gf_X9_19 X hR e_x14 dX9_read_49 ?_
    obtain ⟨x15, e_x15, hp⟩ := owp_ob hp
    refine gf_X9_59 X hR e_x15 dX9_read_52 ?_
    obtain ⟨x16, e_x16, hp⟩ := owp_ob hp
    refine gf_X9_63 X hR e_x16 dX9_read_55 ?_
    exact hr _ _ _ _ _ _ hR hS dX9_read_58 hp
  · have hp := owp_f k7 hp
    refine lv_bipush (v := (-4)) hx hb dX9_read_24 (by decide) ?_
    exact hr _ _ _ _ _ _ hR hS dX9_read_26 hp
end
theorem ct_X9_read {v0 : Nat} {N N1 : AH} {r : Int32} (h : f_X9_read v0 N = some (r, N1)) : Ct yX9_read cX9_read 1 (some .int) rm_X9_read [.ref v0] N (some (.int r)) N1 :=
  ab_met (own := RX9) (by decide +kernel) rfl (Nat.le_of_ble_eq_true rfl) (fun l G aC t b0 p e s m below meth c ls X hr hlk hnm hR hS hl => wk_X9_read X (RtI_met X.1.1 X.1.2.1 hr hlk) _ _ _ _ _ hR hS hl (owp_of h))
theorem cw_X9_read : Cond.code yX9_read cX9_read 1 (some .int) ∈ WT := WT_of 545 (by decide +kernel) (by decide +kernel)
theorem iv_X9_read {p : Program} {l : Launch} {e : Env} {R : Room} {s : State} {m : MethodId} {args : Array Value} {below : List Frame} {meth : Method} {c : Code} {H : Heap} {locs : List Loc} {cells slots : Nat} {Q : State → Prop} {cc : ByteArray} {own : String} {nL : Nat} {G : va_G} {aC : Nat → ClassId} {t b0 : Nat} {N N1 : AH} {pc index : Nat} {ls : Array Slot} {rest : List Value} {v0 : Nat} {r : Int32} (w1 : Cond.methodLink own index yX9_read ∈ WT) (X : CX cc own nL G aC t b0 p s m args c) (hR : Rp G aC b0 N H) (hS : va_S (fun q => b0 ≤ q) s.heap H locs) (h : f_X9_read v0 N = some (r, N1)) (hls : ls.size = nL) (hW : (rest.map fun v => v.category).sum ≤ 8) (hR1 : 7 ≤ R.frames ∧ 143 ≤ R.locals) (hcs : cells + 0 ≤ R.cells ∧ slots + 0 ≤ R.slots) (hdg : decode cc pc = .ok (.invokevirtual index, 3)) (kk : ∀ (H1 : Heap) (locs1 : List Loc), Rp G aC b0 N1 H1 → va_S (fun q => b0 ≤ q) s.heap H1 locs1 → W p l e R s m args below meth c H1 locs1 cells slots Q (F0 m (pc + 3) ls (.int r :: rest))) : W p l e R s m args below meth c H locs cells slots Q (F0 m pc ls (.ref v0 :: rest)) :=
  ab_callV (n := 0) (As := []) X hR hS (ct_X9_read h) (ob_rc (c := 9) (N := N) (a := v0) h) (T := TX9) (k := 6) (C := RX9) rfl w1 (WT_of 543 (by decide +kernel) (by decide +kernel)) (WT_of 544 (by decide +kernel) (by decide +kernel)) (WT_of 81 (by decide +kernel) (by decide +kernel)) cw_X9_read ⟨rfl, by decide +kernel, by decide +kernel, by decide +kernel⟩ rfl hls hW hR1 hcs rfl hdg kk
-- X9_dropDraft
theorem pf_X9_63 {p : Program} {l : Launch} {e : Env} {R : Room} {s : State} {m : MethodId} {args : Array Value} {below : List Frame} {meth : Method} {c : Code} {H : Heap} {locs : List Loc} {cells slots : Nat} {Q : State → Prop} {cc : ByteArray} {nL : Nat} {G : va_G} {aC : Nat → ClassId} {t b0 : Nat} {N : AH} {pc : Nat} {ls : Array Slot} {rest : List Value} {N1 : AH} {a : Nat} {v : Int32} (X : CX cc RX9 nL G aC t b0 p s m args c) (hR0 : Rp G aC b0 N H) (hS : va_S (fun q => b0 ≤ q) s.heap H locs) (hv : pI N a 1 0 v = some N1) (hdg : decode cc pc = .ok (.putfield 63, 3)) (kk : ∀ (H1 : Heap) (locs1 : List Loc), Rp G aC b0 N1 H1 → va_S (fun q => b0 ≤ q) s.heap H1 locs1 → W p l e R s m args below meth c H1 locs1 cells slots Q (F0 m (pc + 3) ls rest)) : W p l e R s m args below meth c H locs cells slots Q (F0 m pc ls (.int v :: .ref a :: rest)) := by
  obtain ⟨fs, h1, h2, h3⟩ := pV_ok hv
  subst h3
  exact ab_put (C := RX1) (T := TX1) (n := 6) X hR0 hS h1 h2 rfl inX1 tyX1 tyX1_ok nmX1 (by decide) (WT_of 119 (by decide +kernel) (by decide +kernel)) rfl rfl rfl hdg kk
theorem dX9_dropDraft_0 : decode cX9_dropDraft 0 = .ok (.aload_n 0, 1) := by decide +kernel
theorem dX9_dropDraft_1 : decode cX9_dropDraft 1 = .ok (.invokevirtual 77, 3) := by decide +kernel
theorem dX9_dropDraft_4 : decode cX9_dropDraft 4 = .ok (.aload_n 0, 1) := by decide +kernel
theorem dX9_dropDraft_5 : decode cX9_dropDraft 5 = .ok (.getfield 19, 3) := by decide +kernel
theorem dX9_dropDraft_8 : decode cX9_dropDraft 8 = .ok (.getfield 59, 3) := by decide +kernel
theorem dX9_dropDraft_11 : decode cX9_dropDraft 11 = .ok (.getfield 63, 3) := by decide +kernel
theorem dX9_dropDraft_14 : decode cX9_dropDraft 14 = .ok (.istore_n 1, 1) := by decide +kernel
theorem dX9_dropDraft_15 : decode cX9_dropDraft 15 = .ok (.aload_n 0, 1) := by decide +kernel
theorem dX9_dropDraft_16 : decode cX9_dropDraft 16 = .ok (.getfield 19, 3) := by decide +kernel
theorem dX9_dropDraft_19 : decode cX9_dropDraft 19 = .ok (.getfield 59, 3) := by decide +kernel
theorem dX9_dropDraft_22 : decode cX9_dropDraft 22 = .ok (.iconst 0, 1) := by decide +kernel
theorem dX9_dropDraft_23 : decode cX9_dropDraft 23 = .ok (.putfield 63, 3) := by decide +kernel
theorem dX9_dropDraft_26 : decode cX9_dropDraft 26 = .ok (.iload_n 1, 1) := by decide +kernel
theorem dX9_dropDraft_27 : decode cX9_dropDraft 27 = .ok (.ireturn, 1) := by decide +kernel
def rm_X9_dropDraft : Room := { frames := 6, cells := 0, slots := 0, locals := 123 }
section
variable {p : Program} {l : Launch} {e : Env} {s : State} {m : MethodId} {args : Array Value} {below : List Frame} {meth : Method} {c : Code} {Q : State → Prop} {G : va_G} {aC : Nat → ClassId} {t b0 : Nat}
def f_X9_dropDraft (v0 : Nat) (N : AH) : Option (Int32 × AH) := ob (iO N v0 9) (fun _ => ob2 (f_X9_save v0 N) (fun _ N1 => ob (hR N1 v0 9 1) (fun x2 => ob (hR N1 x2 7 9) (fun x3 => ob (hI N1 x3 1 0) (fun x4 => ob (hR N1 v0 9 1) (fun x5 => ob (hR N1 x5 7 9) (fun x6 => ob (pI N1 x6 1 0 (0 : Int32)) (fun N7 => some (x4, N7)))))))))
set_option maxHeartbeats 4000000 in
set_option maxRecDepth 100000 in
theorem wk_X9_dropDraft {P : Int32 × AH → Prop} (X : CX cX9_dropDraft RX9 2 G aC t b0 p s m args c) (hr : RtI p l e rm_X9_dropDraft s m args below meth c 0 0 Q cX9_dropDraft G aC b0 P) (v0 : Nat) (N : AH) (H : Heap) (locs : List Loc) (ls : Array Slot) (hR : Rp G aC b0 N H) (hS : va_S (fun q => b0 ≤ q) s.heap H locs) (hl : lv_has ls 2 [(0, .ref v0)]) (hp : owp (f_X9_dropDraft v0 N) P) : W p l e rm_X9_dropDraft s m args below meth c H locs 0 0 Q (F0 m 0 ls []) := by
  have hx := X.1.1
  have hb := X.1.2.1
  unfold f_X9_dropDraft at hp
  obtain ⟨_, _, hp⟩ := owp_ob hp
  refine lv_aload_n hx hb dX9_dropDraft_0 rfl (lv_at hl 0 rfl) ?_
  obtain ⟨_, N1, e_N1, hp⟩ := owp_ob2 hp
  refine iv_X9_save (rest := []) mw_X9_77 X hR hS e_N1 hl.1 (Nat.le_of_ble_eq_true rfl) ⟨Nat.le_of_ble_eq_true rfl, Nat.le_of_ble_eq_true rfl⟩ ⟨Nat.le_of_ble_eq_true rfl, Nat.le_of_ble_eq_true rfl⟩ dX9_dropDraft_1 (fun H locs hR hS => ?_)
  refine lv_aload_n hx hb dX9_dropDraft_4 rfl (lv_at hl 0 rfl) ?_
  obtain ⟨x2, e_x2, hp⟩ := owp_ob hp
  refine gf_X9_19 X hR e_x2 dX9_dropDraft_5 ?_
  obtain ⟨x3, e_x3, hp⟩ := owp_ob hp
  refine gf_X9_59 X hR e_x3 dX9_dropDraft_8 ?_
  obtain ⟨x4, e_x4, hp⟩ := owp_ob hp
  refine gf_X9_63 X hR e_x4 dX9_dropDraft_11 ?_
  refine lv_istore_n (lv' := [(1, .int x4), (0, .ref v0)]) hx hb dX9_dropDraft_14 rfl hl (by decide) rfl (fun ls hl => ?_)
  refine lv_aload_n hx hb dX9_dropDraft_15 rfl (lv_at hl 1 rfl) ?_
  obtain ⟨x5, e_x5, hp⟩ := owp_ob hp
  refine gf_X9_19 X hR e_x5 dX9_dropDraft_16 ?_
  obtain ⟨x6, e_x6, hp⟩ := owp_ob hp
  refine gf_X9_59 X hR e_x6 dX9_dropDraft_19 ?_
  refine lv_iconst (v := (0)) hx hb dX9_dropDraft_22 (by decide) ?_
  obtain ⟨N7, e_N7, hp⟩ := owp_ob hp
  refine pf_X9_63 X hR hS e_N7 dX9_dropDraft_23 (fun H locs hR hS => ?_)
  refine lv_iload_n hx hb dX9_dropDraft_26 rfl (lv_at hl 0 rfl) ?_
  exact hr _ _ _ _ _ _ hR hS dX9_dropDraft_27 hp
end
theorem ct_X9_dropDraft {v0 : Nat} {N N1 : AH} {r : Int32} (h : f_X9_dropDraft v0 N = some (r, N1)) : Ct yX9_dropDraft cX9_dropDraft 2 (some .int) rm_X9_dropDraft [.ref v0] N (some (.int r)) N1 :=
  ab_met (own := RX9) (by decide +kernel) rfl (Nat.le_of_ble_eq_true rfl) (fun l G aC t b0 p e s m below meth c ls X hr hlk hnm hR hS hl => wk_X9_dropDraft X (RtI_met X.1.1 X.1.2.1 hr hlk) _ _ _ _ _ hR hS hl (owp_of h))
theorem cw_X9_dropDraft : Cond.code yX9_dropDraft cX9_dropDraft 2 (some .int) ∈ WT := WT_of 554 (by decide +kernel) (by decide +kernel)
theorem iv_X9_dropDraft {p : Program} {l : Launch} {e : Env} {R : Room} {s : State} {m : MethodId} {args : Array Value} {below : List Frame} {meth : Method} {c : Code} {H : Heap} {locs : List Loc} {cells slots : Nat} {Q : State → Prop} {cc : ByteArray} {own : String} {nL : Nat} {G : va_G} {aC : Nat → ClassId} {t b0 : Nat} {N N1 : AH} {pc index : Nat} {ls : Array Slot} {rest : List Value} {v0 : Nat} {r : Int32} (w1 : Cond.methodLink own index yX9_dropDraft ∈ WT) (X : CX cc own nL G aC t b0 p s m args c) (hR : Rp G aC b0 N H) (hS : va_S (fun q => b0 ≤ q) s.heap H locs) (h : f_X9_dropDraft v0 N = some (r, N1)) (hls : ls.size = nL) (hW : (rest.map fun v => v.category).sum ≤ 8) (hR1 : 7 ≤ R.frames ∧ 144 ≤ R.locals) (hcs : cells + 0 ≤ R.cells ∧ slots + 0 ≤ R.slots) (hdg : decode cc pc = .ok (.invokevirtual index, 3)) (kk : ∀ (H1 : Heap) (locs1 : List Loc), Rp G aC b0 N1 H1 → va_S (fun q => b0 ≤ q) s.heap H1 locs1 → W p l e R s m args below meth c H1 locs1 cells slots Q (F0 m (pc + 3) ls (.int r :: rest))) : W p l e R s m args below meth c H locs cells slots Q (F0 m pc ls (.ref v0 :: rest)) :=
  ab_callV (n := 0) (As := []) X hR hS (ct_X9_dropDraft h) (ob_rc (c := 9) (N := N) (a := v0) h) (T := TX9) (k := 6) (C := RX9) rfl w1 (WT_of 552 (by decide +kernel) (by decide +kernel)) (WT_of 553 (by decide +kernel) (by decide +kernel)) (WT_of 81 (by decide +kernel) (by decide +kernel)) cw_X9_dropDraft ⟨rfl, by decide +kernel, by decide +kernel, by decide +kernel⟩ rfl hls hW hR1 hcs rfl hdg kk
-- X9_addGroup
theorem gf_X9_40 {p : Program} {l : Launch} {e : Env} {R : Room} {s : State} {m : MethodId} {args : Array Value} {below : List Frame} {meth : Method} {c : Code} {H : Heap} {locs : List Loc} {cells slots : Nat} {Q : State → Prop} {cc : ByteArray} {nL : Nat} {G : va_G} {aC : Nat → ClassId} {t b0 : Nat} {N : AH} {pc : Nat} {ls : Array Slot} {rest : List Value} {a : Nat} {v : Nat} (X : CX cc RX9 nL G aC t b0 p s m args c) (hR0 : Rp G aC b0 N H) (hv : hR N a 9 4 = some v) (hdg : decode cc pc = .ok (.getfield 40, 3)) (kk : W p l e R s m args below meth c H locs cells slots Q (F0 m (pc + 3) ls (.ref v :: rest))) : W p l e R s m args below meth c H locs cells slots Q (F0 m pc ls (.ref a :: rest)) := by
  obtain ⟨fs, h1, h2⟩ := hR_ok hv
  exact ab_get (C := RX9) (T := TX9) (n := 6) X hR0 h1 h2 rfl inX9 (by decide) (WT_of 437 (by decide +kernel) (by decide +kernel)) hdg kk
theorem gf_X9_90 {p : Program} {l : Launch} {e : Env} {R : Room} {s : State} {m : MethodId} {args : Array Value} {below : List Frame} {meth : Method} {c : Code} {H : Heap} {locs : List Loc} {cells slots : Nat} {Q : State → Prop} {cc : ByteArray} {nL : Nat} {G : va_G} {aC : Nat → ClassId} {t b0 : Nat} {N : AH} {pc : Nat} {ls : Array Slot} {rest : List Value} {a : Nat} {v : Int32} (X : CX cc RX9 nL G aC t b0 p s m args c) (hR0 : Rp G aC b0 N H) (hv : hI N a 7 6 = some v) (hdg : decode cc pc = .ok (.getfield 90, 3)) (kk : W p l e R s m args below meth c H locs cells slots Q (F0 m (pc + 3) ls (.int v :: rest))) : W p l e R s m args below meth c H locs cells slots Q (F0 m pc ls (.ref a :: rest)) := by
  obtain ⟨fs, h1, h2⟩ := hI_ok hv
  exact ab_get (C := RX7) (T := TX7) (n := 12) X hR0 h1 h2 rfl inX7 (by decide) (WT_of 277 (by decide +kernel) (by decide +kernel)) hdg kk
theorem gf_X9_93 {p : Program} {l : Launch} {e : Env} {R : Room} {s : State} {m : MethodId} {args : Array Value} {below : List Frame} {meth : Method} {c : Code} {H : Heap} {locs : List Loc} {cells slots : Nat} {Q : State → Prop} {cc : ByteArray} {nL : Nat} {G : va_G} {aC : Nat → ClassId} {t b0 : Nat} {N : AH} {pc : Nat} {ls : Array Slot} {rest : List Value} {a : Nat} {v : Int32} (X : CX cc RX9 nL G aC t b0 p s m args c) (hR0 : Rp G aC b0 N H) (hv : hI N a 7 3 = some v) (hdg : decode cc pc = .ok (.getfield 93, 3)) (kk : W p l e R s m args below meth c H locs cells slots Q (F0 m (pc + 3) ls (.int v :: rest))) : W p l e R s m args below meth c H locs cells slots Q (F0 m pc ls (.ref a :: rest)) := by
  obtain ⟨fs, h1, h2⟩ := hI_ok hv
  exact ab_get (C := RX7) (T := TX7) (n := 12) X hR0 h1 h2 rfl inX7 (by decide) (WT_of 266 (by decide +kernel) (by decide +kernel)) hdg kk
theorem mw_X9_97 : Cond.methodLink RX9 97 yX6_haveRoomFor ∈ WT := WT_of 559 (by decide +kernel) (by decide +kernel)
theorem mw_X9_101 : Cond.methodLink RX9 101 yX7_makeGroup ∈ WT := WT_of 586 (by decide +kernel) (by decide +kernel)
theorem dX9_addGroup_0 : decode cX9_addGroup 0 = .ok (.iload_n 1, 1) := by decide +kernel
theorem dX9_addGroup_1 : decode cX9_addGroup 1 = .ok (.ifCond .lt 32, 3) := by decide +kernel
theorem dX9_addGroup_4 : decode cX9_addGroup 4 = .ok (.iload_n 1, 1) := by decide +kernel
theorem dX9_addGroup_5 : decode cX9_addGroup 5 = .ok (.sipush 1000, 3) := by decide +kernel
theorem dX9_addGroup_8 : decode cX9_addGroup 8 = .ok (.if_icmp .gt 25, 3) := by decide +kernel
theorem dX9_addGroup_11 : decode cX9_addGroup 11 = .ok (.iload_n 2, 1) := by decide +kernel
theorem dX9_addGroup_12 : decode cX9_addGroup 12 = .ok (.iconst 1, 1) := by decide +kernel
theorem dX9_addGroup_13 : decode cX9_addGroup 13 = .ok (.if_icmp .lt 20, 3) := by decide +kernel
theorem dX9_addGroup_16 : decode cX9_addGroup 16 = .ok (.iload_n 2, 1) := by decide +kernel
theorem dX9_addGroup_17 : decode cX9_addGroup 17 = .ok (.bipush 100, 2) := by decide +kernel
theorem dX9_addGroup_19 : decode cX9_addGroup 19 = .ok (.if_icmp .gt 14, 3) := by decide +kernel
theorem dX9_addGroup_22 : decode cX9_addGroup 22 = .ok (.iload_n 3, 1) := by decide +kernel
theorem dX9_addGroup_23 : decode cX9_addGroup 23 = .ok (.ifCond .lt 10, 3) := by decide +kernel
theorem dX9_addGroup_26 : decode cX9_addGroup 26 = .ok (.iload_n 3, 1) := by decide +kernel
theorem dX9_addGroup_27 : decode cX9_addGroup 27 = .ok (.sipush 10000, 3) := by decide +kernel
theorem dX9_addGroup_30 : decode cX9_addGroup 30 = .ok (.if_icmp .le 6, 3) := by decide +kernel
theorem dX9_addGroup_33 : decode cX9_addGroup 33 = .ok (.bipush (-3), 2) := by decide +kernel
theorem dX9_addGroup_35 : decode cX9_addGroup 35 = .ok (.ireturn, 1) := by decide +kernel
theorem dX9_addGroup_36 : decode cX9_addGroup 36 = .ok (.aload_n 0, 1) := by decide +kernel
theorem dX9_addGroup_37 : decode cX9_addGroup 37 = .ok (.getfield 19, 3) := by decide +kernel
theorem dX9_addGroup_40 : decode cX9_addGroup 40 = .ok (.getfield 59, 3) := by decide +kernel
theorem dX9_addGroup_43 : decode cX9_addGroup 43 = .ok (.getfield 63, 3) := by decide +kernel
theorem dX9_addGroup_46 : decode cX9_addGroup 46 = .ok (.ifCond .ne 6, 3) := by decide +kernel
theorem dX9_addGroup_49 : decode cX9_addGroup 49 = .ok (.bipush (-4), 2) := by decide +kernel
theorem dX9_addGroup_51 : decode cX9_addGroup 51 = .ok (.ireturn, 1) := by decide +kernel
theorem dX9_addGroup_52 : decode cX9_addGroup 52 = .ok (.aload_n 0, 1) := by decide +kernel
theorem dX9_addGroup_53 : decode cX9_addGroup 53 = .ok (.getfield 19, 3) := by decide +kernel
theorem dX9_addGroup_56 : decode cX9_addGroup 56 = .ok (.getfield 90, 3) := by decide +kernel
theorem dX9_addGroup_59 : decode cX9_addGroup 59 = .ok (.bipush 12, 2) := by decide +kernel
theorem dX9_addGroup_61 : decode cX9_addGroup 61 = .ok (.if_icmp .lt 6, 3) := by decide +kernel
theorem dX9_addGroup_64 : decode cX9_addGroup 64 = .ok (.bipush (-5), 2) := by decide +kernel
theorem dX9_addGroup_66 : decode cX9_addGroup 66 = .ok (.ireturn, 1) := by decide +kernel
theorem dX9_addGroup_67 : decode cX9_addGroup 67 = .ok (.aload_n 0, 1) := by decide +kernel
theorem dX9_addGroup_68 : decode cX9_addGroup 68 = .ok (.invokevirtual 77, 3) := by decide +kernel
theorem dX9_addGroup_71 : decode cX9_addGroup 71 = .ok (.aload_n 0, 1) := by decide +kernel
theorem dX9_addGroup_72 : decode cX9_addGroup 72 = .ok (.getfield 19, 3) := by decide +kernel
theorem dX9_addGroup_75 : decode cX9_addGroup 75 = .ok (.getfield 93, 3) := by decide +kernel
theorem dX9_addGroup_78 : decode cX9_addGroup 78 = .ok (.ifCond .eq 26, 3) := by decide +kernel
theorem dX9_addGroup_81 : decode cX9_addGroup 81 = .ok (.iload_n 3, 1) := by decide +kernel
theorem dX9_addGroup_82 : decode cX9_addGroup 82 = .ok (.ifCond .le 22, 3) := by decide +kernel
theorem dX9_addGroup_85 : decode cX9_addGroup 85 = .ok (.aload_n 0, 1) := by decide +kernel
theorem dX9_addGroup_86 : decode cX9_addGroup 86 = .ok (.getfield 40, 3) := by decide +kernel
theorem dX9_addGroup_89 : decode cX9_addGroup 89 = .ok (.aload_n 0, 1) := by decide +kernel
theorem dX9_addGroup_90 : decode cX9_addGroup 90 = .ok (.getfield 19, 3) := by decide +kernel
theorem dX9_addGroup_93 : decode cX9_addGroup 93 = .ok (.iload_n 3, 1) := by decide +kernel
theorem dX9_addGroup_94 : decode cX9_addGroup 94 = .ok (.invokevirtual 97, 3) := by decide +kernel
theorem dX9_addGroup_97 : decode cX9_addGroup 97 = .ok (.ifCond .ne 7, 3) := by decide +kernel
theorem dX9_addGroup_100 : decode cX9_addGroup 100 = .ok (.iconst 1, 1) := by decide +kernel
theorem dX9_addGroup_101 : decode cX9_addGroup 101 = .ok (.goto 4, 3) := by decide +kernel
theorem dX9_addGroup_104 : decode cX9_addGroup 104 = .ok (.iconst 0, 1) := by decide +kernel
theorem dX9_addGroup_105 : decode cX9_addGroup 105 = .ok (.istore 4, 2) := by decide +kernel
theorem dX9_addGroup_107 : decode cX9_addGroup 107 = .ok (.aload_n 0, 1) := by decide +kernel
theorem dX9_addGroup_108 : decode cX9_addGroup 108 = .ok (.getfield 19, 3) := by decide +kernel
theorem dX9_addGroup_111 : decode cX9_addGroup 111 = .ok (.iload_n 1, 1) := by decide +kernel
theorem dX9_addGroup_112 : decode cX9_addGroup 112 = .ok (.iload_n 2, 1) := by decide +kernel
theorem dX9_addGroup_113 : decode cX9_addGroup 113 = .ok (.iload_n 3, 1) := by decide +kernel
theorem dX9_addGroup_114 : decode cX9_addGroup 114 = .ok (.iload 4, 2) := by decide +kernel
theorem dX9_addGroup_116 : decode cX9_addGroup 116 = .ok (.invokevirtual 101, 3) := by decide +kernel
theorem dX9_addGroup_119 : decode cX9_addGroup 119 = .ok (.ireturn, 1) := by decide +kernel
def rm_X9_addGroup : Room := { frames := 6, cells := 0, slots := 0, locals := 123 }
section
variable {p : Program} {l : Launch} {e : Env} {s : State} {m : MethodId} {args : Array Value} {below : List Frame} {meth : Method} {c : Code} {Q : State → Prop} {G : va_G} {aC : Nat → ClassId} {t b0 : Nat}
def f_X9_addGroup_J105 (v0 : Nat) (v1 : Int32) (v2 : Int32) (v3 : Int32) (w0 : Int32) (N : AH) : Option (Int32 × AH) := ob (hR N v0 9 1) (fun x18 => ob2 (f_X7_makeGroup x18 v1 v2 v3 w0 N) (fun x20 N19 => some (x20, N19)))
set_option maxHeartbeats 4000000 in
set_option maxRecDepth 100000 in
theorem w_X9_addGroup_J105 {P : Int32 × AH → Prop} (X : CX cX9_addGroup RX9 5 G aC t b0 p s m args c) (hr : RtI p l e rm_X9_addGroup s m args below meth c 0 0 Q cX9_addGroup G aC b0 P) (v0 : Nat) (v1 : Int32) (v2 : Int32) (v3 : Int32) (w0 : Int32) (N : AH) (H : Heap) (locs : List Loc) (ls : Array Slot) (hR : Rp G aC b0 N H) (hS : va_S (fun q => b0 ≤ q) s.heap H locs) (hl : lv_has ls 5 [(0, .ref v0), (1, .int v1), (2, .int v2), (3, .int v3)]) (hp : owp (f_X9_addGroup_J105 v0 v1 v2 v3 w0 N) P) : W p l e rm_X9_addGroup s m args below meth c H locs 0 0 Q (F0 m 105 ls [.int w0]) := by
  have hx := X.1.1
  have hb := X.1.2.1
  unfold f_X9_addGroup_J105 at hp
  refine lv_istore (lv' := [(4, .int w0), (0, .ref v0), (1, .int v1), (2, .int v2), (3, .int v3)]) hx hb dX9_addGroup_105 hl (by decide) rfl (fun ls hl => ?_)
  refine lv_aload_n hx hb dX9_addGroup_107 rfl (lv_at hl 1 rfl) ?_
  obtain ⟨x18, e_x18, hp⟩ := owp_ob hp
  refine gf_X9_19 X hR e_x18 dX9_addGroup_108 ?_
  refine lv_iload_n hx hb dX9_addGroup_111 rfl (lv_at hl 2 rfl) ?_
  refine lv_iload_n hx hb dX9_addGroup_112 rfl (lv_at hl 3 rfl) ?_
  refine lv_iload_n hx hb dX9_addGroup_113 rfl (lv_at hl 4 rfl) ?_
  refine lv_iload hx hb dX9_addGroup_114 (lv_at hl 0 rfl) ?_
  obtain ⟨x20, N19, e_N19, hp⟩ := owp_ob2 hp
  refine iv_X7_makeGroup (rest := []) mw_X9_101 X hR hS e_N19 hl.1 (Nat.le_of_ble_eq_true rfl) ⟨Nat.le_of_ble_eq_true rfl, Nat.le_of_ble_eq_true rfl⟩ ⟨Nat.le_of_ble_eq_true rfl, Nat.le_of_ble_eq_true rfl⟩ dX9_addGroup_116 (fun H locs hR hS => ?_)
  exact hr _ _ _ _ _ _ hR hS dX9_addGroup_119 hp
def f_X9_addGroup_J104 (v0 : Nat) (v1 : Int32) (v2 : Int32) (v3 : Int32) (N : AH) : Option (Int32 × AH) := f_X9_addGroup_J105 v0 v1 v2 v3 (0 : Int32) N
set_option maxHeartbeats 4000000 in
set_option maxRecDepth 100000 in
theorem w_X9_addGroup_J104 {P : Int32 × AH → Prop} (X : CX cX9_addGroup RX9 5 G aC t b0 p s m args c) (hr : RtI p l e rm_X9_addGroup s m args below meth c 0 0 Q cX9_addGroup G aC b0 P) (v0 : Nat) (v1 : Int32) (v2 : Int32) (v3 : Int32) (N : AH) (H : Heap) (locs : List Loc) (ls : Array Slot) (hR : Rp G aC b0 N H) (hS : va_S (fun q => b0 ≤ q) s.heap H locs) (hl : lv_has ls 5 [(0, .ref v0), (1, .int v1), (2, .int v2), (3, .int v3)]) (hp : owp (f_X9_addGroup_J104 v0 v1 v2 v3 N) P) : W p l e rm_X9_addGroup s m args below meth c H locs 0 0 Q (F0 m 104 ls []) := by
  have hx := X.1.1
  have hb := X.1.2.1
  unfold f_X9_addGroup_J104 at hp
  refine lv_iconst (v := (0)) hx hb dX9_addGroup_104 (by decide) ?_
  exact w_X9_addGroup_J105 X hr _ _ _ _ _ _ _ _ _ hR hS hl hp
def f_X9_addGroup (v0 : Nat) (v1 : Int32) (v2 : Int32) (v3 : Int32) (N : AH) : Option (Int32 × AH) := ob (iO N v0 9) (fun _ => if v1 < 0 then some ((-3 : Int32), N) else if (1000 : Int32) < v1 then some ((-3 : Int32), N) else if v2 < (1 : Int32) then some ((-3 : Int32), N) else if (100 : Int32) < v2 then some ((-3 : Int32), N) else if v3 < 0 then some ((-3 : Int32), N) else if v3 ≤ (10000 : Int32) then ob (hR N v0 9 1) (fun x7 => ob (hR N x7 7 9) (fun x8 => ob (hI N x8 1 0) (fun x9 => if ¬ x9 = 0 then ob (hR N v0 9 1) (fun x11 => ob (hI N x11 7 6) (fun x12 => if x12 < (12 : Int32) then ob2 (f_X9_save v0 N) (fun _ N14 => ob (hR N14 v0 9 1) (fun x15 => ob (hI N14 x15 7 3) (fun x16 => if x16 = 0 then f_X9_addGroup_J104 v0 v1 v2 v3 N14 else if v3 ≤ 0 then f_X9_addGroup_J104 v0 v1 v2 v3 N14 else ob (hR N14 v0 9 4) (fun x22 => ob (hR N14 v0 9 1) (fun x23 => ob2 (f_X6_haveRoomFor x22 x23 v3 N14) (fun x25 N24 => if ¬ x25 = 0 then f_X9_addGroup_J104 v0 v1 v2 v3 N24 else f_X9_addGroup_J105 v0 v1 v2 v3 (1 : Int32) N24)))))) else some ((-5 : Int32), N))) else some ((-4 : Int32), N)))) else some ((-3 : Int32), N))
set_option maxHeartbeats 4000000 in
set_option maxRecDepth 100000 in
theorem wk_X9_addGroup {P : Int32 × AH → Prop} (X : CX cX9_addGroup RX9 5 G aC t b0 p s m args c) (hr : RtI p l e rm_X9_addGroup s m args below meth c 0 0 Q cX9_addGroup G aC b0 P) (v0 : Nat) (v1 : Int32) (v2 : Int32) (v3 : Int32) (N : AH) (H : Heap) (locs : List Loc) (ls : Array Slot) (hR : Rp G aC b0 N H) (hS : va_S (fun q => b0 ≤ q) s.heap H locs) (hl : lv_has ls 5 [(0, .ref v0), (1, .int v1), (2, .int v2), (3, .int v3)]) (hp : owp (f_X9_addGroup v0 v1 v2 v3 N) P) : W p l e rm_X9_addGroup s m args below meth c H locs 0 0 Q (F0 m 0 ls []) := by
  have hx := X.1.1
  have hb := X.1.2.1
  unfold f_X9_addGroup at hp
  obtain ⟨_, _, hp⟩ := owp_ob hp
  refine lv_iload_n hx hb dX9_addGroup_0 rfl (lv_at hl 1 rfl) ?_
  refine lv_if_lt (tgt := 33) hx hb dX9_addGroup_1 (by decide) (fun k1 => ?_) (fun k1 => ?_)
  · have hp := owp_t k1 hp
    refine lv_bipush (v := (-3)) hx hb dX9_addGroup_33 (by decide) ?_
    exact hr _ _ _ _ _ _ hR hS dX9_addGroup_35 hp
  · have hp := owp_f k1 hp
    refine lv_iload_n hx hb dX9_addGroup_4 rfl (lv_at hl 1 rfl) ?_
    refine lv_sipush (v := (1000)) hx hb dX9_addGroup_5 (by decide) ?_
    refine lv_icmp_gt (tgt := 33) hx hb dX9_addGroup_8 (by decide) (fun k2 => ?_) (fun k2 => ?_)
    · have hp := owp_t k2 hp
      refine lv_bipush (v := (-3)) hx hb dX9_addGroup_33 (by decide) ?_
      exact hr _ _ _ _ _ _ hR hS dX9_addGroup_35 hp
    · have hp := owp_f k2 hp
      refine lv_iload_n hx hb dX9_addGroup_11 rfl (lv_at hl 2 rfl) ?_
      refine lv_iconst (v := (1)) hx hb dX9_addGroup_12 (by decide) ?_
      refine lv_icmp_lt (tgt := 33) hx hb dX9_addGroup_13 (by decide) (fun k3 => ?_) (fun k3 => ?_)
      · have hp := owp_t k3 hp
        refine lv_bipush (v := (-3)) hx hb dX9_addGroup_33 (by decide) ?_
        exact hr _ _ _ _ _ _ hR hS dX9_addGroup_35 hp
      · have hp := owp_f k3 hp
        refine lv_iload_n hx hb dX9_addGroup_16 rfl (lv_at hl 2 rfl) ?_
        refine lv_bipush (v := (100)) hx hb dX9_addGroup_17 (by decide) ?_
        refine lv_icmp_gt (tgt := 33) hx hb dX9_addGroup_19 (by decide) (fun k4 => ?_) (fun k4 => ?_)
        · have hp := owp_t k4 hp
          refine lv_bipush (v := (-3)) hx hb dX9_addGroup_33 (by decide) ?_
          exact hr _ _ _ _ _ _ hR hS dX9_addGroup_35 hp
        · have hp := owp_f k4 hp
          refine lv_iload_n hx hb dX9_addGroup_22 rfl (lv_at hl 3 rfl) ?_
          refine lv_if_lt (tgt := 33) hx hb dX9_addGroup_23 (by decide) (fun k5 => ?_) (fun k5 => ?_)
          · have hp := owp_t k5 hp
            refine lv_bipush (v := (-3)) hx hb dX9_addGroup_33 (by decide) ?_
            exact hr _ _ _ _ _ _ hR hS dX9_addGroup_35 hp
          · have hp := owp_f k5 hp
            refine lv_iload_n hx hb dX9_addGroup_26 rfl (lv_at hl 3 rfl) ?_
            refine lv_sipush (v := (10000)) hx hb dX9_addGroup_27 (by decide) ?_
            refine lv_icmp_le (tgt := 36) hx hb dX9_addGroup_30 (by decide) (fun k6 => ?_) (fun k6 => ?_)
            · have hp := owp_t k6 hp
              refine lv_aload_n hx hb dX9_addGroup_36 rfl (lv_at hl 0 rfl) ?_
              obtain ⟨x7, e_x7, hp⟩ := owp_ob hp
              refine gf_X9_19 X hR e_x7 dX9_addGroup_37 ?_
              obtain ⟨x8, e_x8, hp⟩ := owp_ob hp
              refine gf_X9_59 X hR e_x8 dX9_addGroup_40 ?_
              obtain ⟨x9, e_x9, hp⟩ := owp_ob hp
              refine gf_X9_63 X hR e_x9 dX9_addGroup_43 ?_
              refine lv_if_ne (tgt := 52) hx hb dX9_addGroup_46 (by decide) (fun k10 => ?_) (fun k10 => ?_)
              · have hp := owp_t k10 hp
                refine lv_aload_n hx hb dX9_addGroup_52 rfl (lv_at hl 0 rfl) ?_
                obtain ⟨x11, e_x11, hp⟩ := owp_ob hp
                refine gf_X9_19 X hR e_x11 dX9_addGroup_53 ?_
                obtain ⟨x12, e_x12, hp⟩ := owp_ob hp
                refine gf_X9_90 X hR e_x12 dX9_addGroup_56 ?_
                refine lv_bipush (v := (12)) hx hb dX9_addGroup_59 (by decide) ?_
                refine lv_icmp_lt (tgt := 67) hx hb dX9_addGroup_61 (by decide) (fun k13 => ?_) (fun k13 => ?_)
                · have hp := owp_t k13 hp
                  refine lv_aload_n hx hb dX9_addGroup_67 rfl (lv_at hl 0 rfl) ?_
                  obtain ⟨_, N14, e_N14, hp⟩ := owp_ob2 hp
                  refine iv_X9_save (rest := []) mw_X9_77 X hR hS e_N14 hl.1 (Nat.le_of_ble_eq_true rfl) ⟨Nat.le_of_ble_eq_true rfl, Nat.le_of_ble_eq_true rfl⟩ ⟨Nat.le_of_ble_eq_true rfl, Nat.le_of_ble_eq_true rfl⟩ dX9_addGroup_68 (fun H locs hR hS => ?_)
                  refine lv_aload_n hx hb dX9_addGroup_71 rfl (lv_at hl 0 rfl) ?_
                  obtain ⟨x15, e_x15, hp⟩ := owp_ob hp
                  refine gf_X9_19 X hR e_x15 dX9_addGroup_72 ?_
                  obtain ⟨x16, e_x16, hp⟩ := owp_ob hp
                  refine gf_X9_93 X hR e_x16 dX9_addGroup_75 ?_
                  refine lv_if_eq (tgt := 104) hx hb dX9_addGroup_78 (by decide) (fun k17 => ?_) (fun k17 => ?_)
                  · have hp := owp_t k17 hp
                    exact w_X9_addGroup_J104 X hr _ _ _ _ _ _ _ _ hR hS hl hp
                  · have hp := owp_f k17 hp
                    refine lv_iload_n hx hb dX9_addGroup_81 rfl (lv_at hl 3 rfl) ?_
                    refine lv_if_le (tgt := 104) hx hb dX9_addGroup_82 (by decide) (fun k21 => ?_) (fun k21 => ?_)
                    · have hp := owp_t k21 hp
                      exact w_X9_addGroup_J104 X hr _ _ _ _ _ _ _ _ hR hS hl hp
                    · have hp := owp_f k21 hp
                      refine lv_aload_n hx hb dX9_addGroup_85 rfl (lv_at hl 0 rfl) ?_
                      obtain ⟨x22, e_x22, hp⟩ := owp_ob hp
                      refine gf_X9_40 X hR e_x22 dX9_addGroup_86 ?_
                      refine lv_aload_n hx hb dX9_addGroup_89 rfl (lv_at hl 0 rfl) ?_
                      obtain ⟨x23, e_x23, hp⟩ := owp_ob hp
                      refine gf_X9_19 X hR e_x23 dX9_addGroup_90 ?_
                      refine lv_iload_n hx hb dX9_addGroup_93 rfl (lv_at hl 3 rfl) ?_
                      obtain ⟨x25, N24, e_N24, hp⟩ := owp_ob2 hp
                      refine iv_X6_haveRoomFor (rest := []) mw_X9_97 X hR hS e_N24 hl.1 (Nat.le_of_ble_eq_true rfl) ⟨Nat.le_of_ble_eq_true rfl, Nat.le_of_ble_eq_true rfl⟩ ⟨Nat.le_of_ble_eq_true rfl, Nat.le_of_ble_eq_true rfl⟩ dX9_addGroup_94 (fun H locs hR hS => ?_)
                      refine lv_if_ne (tgt := 104) hx hb dX9_addGroup_97 (by decide) (fun k26 => ?_) (fun k26 => ?_)
                      · have hp := owp_t k26 hp
                        exact w_X9_addGroup_J104 X hr _ _ _ _ _ _ _ _ hR hS hl hp
                      · have hp := owp_f (fun q => q k26) hp
                        refine lv_iconst (v := (1)) hx hb dX9_addGroup_100 (by decide) ?_
                        refine lv_goto (tgt := 105) hx hb dX9_addGroup_101 (by decide) ?_
                        exact w_X9_addGroup_J105 X hr _ _ _ _ _ _ _ _ _ hR hS hl hp
                · have hp := owp_f k13 hp
                  refine lv_bipush (v := (-5)) hx hb dX9_addGroup_64 (by decide) ?_
                  exact hr _ _ _ _ _ _ hR hS dX9_addGroup_66 hp
              · have hp := owp_f (fun q => q k10) hp
                refine lv_bipush (v := (-4)) hx hb dX9_addGroup_49 (by decide) ?_
                exact hr _ _ _ _ _ _ hR hS dX9_addGroup_51 hp
            · have hp := owp_f k6 hp
              refine lv_bipush (v := (-3)) hx hb dX9_addGroup_33 (by decide) ?_
              exact hr _ _ _ _ _ _ hR hS dX9_addGroup_35 hp
end
theorem ct_X9_addGroup {v0 : Nat} {v1 : Int32} {v2 : Int32} {v3 : Int32} {N N1 : AH} {r : Int32} (h : f_X9_addGroup v0 v1 v2 v3 N = some (r, N1)) : Ct yX9_addGroup cX9_addGroup 5 (some .int) rm_X9_addGroup [.ref v0, .int v1, .int v2, .int v3] N (some (.int r)) N1 :=
  ab_met (own := RX9) (by decide +kernel) rfl (Nat.le_of_ble_eq_true rfl) (fun l G aC t b0 p e s m below meth c ls X hr hlk hnm hR hS hl => wk_X9_addGroup X (RtI_met X.1.1 X.1.2.1 hr hlk) _ _ _ _ _ _ _ _ hR hS hl (owp_of h))
theorem cw_X9_addGroup : Cond.code yX9_addGroup cX9_addGroup 5 (some .int) ∈ WT := WT_of 558 (by decide +kernel) (by decide +kernel)
theorem iv_X9_addGroup {p : Program} {l : Launch} {e : Env} {R : Room} {s : State} {m : MethodId} {args : Array Value} {below : List Frame} {meth : Method} {c : Code} {H : Heap} {locs : List Loc} {cells slots : Nat} {Q : State → Prop} {cc : ByteArray} {own : String} {nL : Nat} {G : va_G} {aC : Nat → ClassId} {t b0 : Nat} {N N1 : AH} {pc index : Nat} {ls : Array Slot} {rest : List Value} {v0 : Nat} {v1 : Int32} {v2 : Int32} {v3 : Int32} {r : Int32} (w1 : Cond.methodLink own index yX9_addGroup ∈ WT) (X : CX cc own nL G aC t b0 p s m args c) (hR : Rp G aC b0 N H) (hS : va_S (fun q => b0 ≤ q) s.heap H locs) (h : f_X9_addGroup v0 v1 v2 v3 N = some (r, N1)) (hls : ls.size = nL) (hW : (rest.map fun v => v.category).sum ≤ 8) (hR1 : 7 ≤ R.frames ∧ 147 ≤ R.locals) (hcs : cells + 0 ≤ R.cells ∧ slots + 0 ≤ R.slots) (hdg : decode cc pc = .ok (.invokevirtual index, 3)) (kk : ∀ (H1 : Heap) (locs1 : List Loc), Rp G aC b0 N1 H1 → va_S (fun q => b0 ≤ q) s.heap H1 locs1 → W p l e R s m args below meth c H1 locs1 cells slots Q (F0 m (pc + 3) ls (.int r :: rest))) : W p l e R s m args below meth c H locs cells slots Q (F0 m pc ls (.int v3 :: .int v2 :: .int v1 :: .ref v0 :: rest)) :=
  ab_callV (n := 3) (As := [.int v1, .int v2, .int v3]) X hR hS (ct_X9_addGroup h) (ob_rc (c := 9) (N := N) (a := v0) h) (T := TX9) (k := 6) (C := RX9) rfl w1 (WT_of 556 (by decide +kernel) (by decide +kernel)) (WT_of 557 (by decide +kernel) (by decide +kernel)) (WT_of 81 (by decide +kernel) (by decide +kernel)) cw_X9_addGroup ⟨rfl, by decide +kernel, by decide +kernel, by decide +kernel⟩ rfl hls hW hR1 hcs rfl hdg kk
-- X9_setCapacity
theorem gf_X9_105 {p : Program} {l : Launch} {e : Env} {R : Room} {s : State} {m : MethodId} {args : Array Value} {below : List Frame} {meth : Method} {c : Code} {H : Heap} {locs : List Loc} {cells slots : Nat} {Q : State → Prop} {cc : ByteArray} {nL : Nat} {G : va_G} {aC : Nat → ClassId} {t b0 : Nat} {N : AH} {pc : Nat} {ls : Array Slot} {rest : List Value} {a : Nat} {v : Nat} (X : CX cc RX9 nL G aC t b0 p s m args c) (hR0 : Rp G aC b0 N H) (hv : hR N a 7 7 = some v) (hdg : decode cc pc = .ok (.getfield 105, 3)) (kk : W p l e R s m args below meth c H locs cells slots Q (F0 m (pc + 3) ls (.ref v :: rest))) : W p l e R s m args below meth c H locs cells slots Q (F0 m pc ls (.ref a :: rest)) := by
  obtain ⟨fs, h1, h2⟩ := hR_ok hv
  exact ab_get (C := RX7) (T := TX7) (n := 12) X hR0 h1 h2 rfl inX7 (by decide) (WT_of 281 (by decide +kernel) (by decide +kernel)) hdg kk
theorem dX9_setCapacity_0 : decode cX9_setCapacity 0 = .ok (.iload_n 1, 1) := by decide +kernel
theorem dX9_setCapacity_1 : decode cX9_setCapacity 1 = .ok (.bipush 16, 2) := by decide +kernel
theorem dX9_setCapacity_3 : decode cX9_setCapacity 3 = .ok (.invokestatic 72, 3) := by decide +kernel
theorem dX9_setCapacity_6 : decode cX9_setCapacity 6 = .ok (.ifCond .ne 6, 3) := by decide +kernel
theorem dX9_setCapacity_9 : decode cX9_setCapacity 9 = .ok (.bipush (-2), 2) := by decide +kernel
theorem dX9_setCapacity_11 : decode cX9_setCapacity 11 = .ok (.ireturn, 1) := by decide +kernel
theorem dX9_setCapacity_12 : decode cX9_setCapacity 12 = .ok (.iload_n 2, 1) := by decide +kernel
theorem dX9_setCapacity_13 : decode cX9_setCapacity 13 = .ok (.ifCond .lt 10, 3) := by decide +kernel
theorem dX9_setCapacity_16 : decode cX9_setCapacity 16 = .ok (.iload_n 2, 1) := by decide +kernel
theorem dX9_setCapacity_17 : decode cX9_setCapacity 17 = .ok (.sipush 1000, 3) := by decide +kernel
theorem dX9_setCapacity_20 : decode cX9_setCapacity 20 = .ok (.if_icmp .le 6, 3) := by decide +kernel
theorem dX9_setCapacity_23 : decode cX9_setCapacity 23 = .ok (.bipush (-3), 2) := by decide +kernel
theorem dX9_setCapacity_25 : decode cX9_setCapacity 25 = .ok (.ireturn, 1) := by decide +kernel
theorem dX9_setCapacity_26 : decode cX9_setCapacity 26 = .ok (.aload_n 0, 1) := by decide +kernel
theorem dX9_setCapacity_27 : decode cX9_setCapacity 27 = .ok (.invokevirtual 77, 3) := by decide +kernel
theorem dX9_setCapacity_30 : decode cX9_setCapacity 30 = .ok (.aload_n 0, 1) := by decide +kernel
theorem dX9_setCapacity_31 : decode cX9_setCapacity 31 = .ok (.getfield 19, 3) := by decide +kernel
theorem dX9_setCapacity_34 : decode cX9_setCapacity 34 = .ok (.getfield 105, 3) := by decide +kernel
theorem dX9_setCapacity_37 : decode cX9_setCapacity 37 = .ok (.iload_n 1, 1) := by decide +kernel
theorem dX9_setCapacity_38 : decode cX9_setCapacity 38 = .ok (.iaload, 1) := by decide +kernel
theorem dX9_setCapacity_39 : decode cX9_setCapacity 39 = .ok (.istore_n 3, 1) := by decide +kernel
theorem dX9_setCapacity_40 : decode cX9_setCapacity 40 = .ok (.aload_n 0, 1) := by decide +kernel
theorem dX9_setCapacity_41 : decode cX9_setCapacity 41 = .ok (.getfield 19, 3) := by decide +kernel
theorem dX9_setCapacity_44 : decode cX9_setCapacity 44 = .ok (.getfield 105, 3) := by decide +kernel
theorem dX9_setCapacity_47 : decode cX9_setCapacity 47 = .ok (.iload_n 1, 1) := by decide +kernel
theorem dX9_setCapacity_48 : decode cX9_setCapacity 48 = .ok (.iload_n 2, 1) := by decide +kernel
theorem dX9_setCapacity_49 : decode cX9_setCapacity 49 = .ok (.iastore, 1) := by decide +kernel
theorem dX9_setCapacity_50 : decode cX9_setCapacity 50 = .ok (.iload_n 3, 1) := by decide +kernel
theorem dX9_setCapacity_51 : decode cX9_setCapacity 51 = .ok (.ireturn, 1) := by decide +kernel
def rm_X9_setCapacity : Room := { frames := 6, cells := 0, slots := 0, locals := 123 }
section
variable {p : Program} {l : Launch} {e : Env} {s : State} {m : MethodId} {args : Array Value} {below : List Frame} {meth : Method} {c : Code} {Q : State → Prop} {G : va_G} {aC : Nat → ClassId} {t b0 : Nat}
def f_X9_setCapacity (v0 : Nat) (v1 : Int32) (v2 : Int32) (N : AH) : Option (Int32 × AH) := ob (iO N v0 9) (fun _ => ob2 (f_X9_isOneOf v1 (16 : Int32) N) (fun x2 N1 => if ¬ x2 = 0 then if v2 < 0 then some ((-3 : Int32), N1) else if v2 ≤ (1000 : Int32) then ob2 (f_X9_save v0 N1) (fun _ N6 => ob (hR N6 v0 9 1) (fun x7 => ob (hR N6 x7 7 7) (fun x8 => ob (aI N6 x8 v1) (fun x9 => ob (hR N6 v0 9 1) (fun x10 => ob (hR N6 x10 7 7) (fun x11 => ob (sI N6 x11 v1 v2) (fun N12 => some (x9, N12)))))))) else some ((-3 : Int32), N1) else some ((-2 : Int32), N1)))
set_option maxHeartbeats 4000000 in
set_option maxRecDepth 100000 in
theorem wk_X9_setCapacity {P : Int32 × AH → Prop} (X : CX cX9_setCapacity RX9 4 G aC t b0 p s m args c) (hr : RtI p l e rm_X9_setCapacity s m args below meth c 0 0 Q cX9_setCapacity G aC b0 P) (v0 : Nat) (v1 : Int32) (v2 : Int32) (N : AH) (H : Heap) (locs : List Loc) (ls : Array Slot) (hR : Rp G aC b0 N H) (hS : va_S (fun q => b0 ≤ q) s.heap H locs) (hl : lv_has ls 4 [(0, .ref v0), (1, .int v1), (2, .int v2)]) (hp : owp (f_X9_setCapacity v0 v1 v2 N) P) : W p l e rm_X9_setCapacity s m args below meth c H locs 0 0 Q (F0 m 0 ls []) := by
  have hx := X.1.1
  have hb := X.1.2.1
  unfold f_X9_setCapacity at hp
  obtain ⟨_, _, hp⟩ := owp_ob hp
  refine lv_iload_n hx hb dX9_setCapacity_0 rfl (lv_at hl 1 rfl) ?_
  refine lv_bipush (v := (16)) hx hb dX9_setCapacity_1 (by decide) ?_
  obtain ⟨x2, N1, e_N1, hp⟩ := owp_ob2 hp
  refine iv_X9_isOneOf (rest := []) mw_X9_72 X hR hS e_N1 hl.1 (Nat.le_of_ble_eq_true rfl) ⟨Nat.le_of_ble_eq_true rfl, Nat.le_of_ble_eq_true rfl⟩ ⟨Nat.le_of_ble_eq_true rfl, Nat.le_of_ble_eq_true rfl⟩ dX9_setCapacity_3 (fun H locs hR hS => ?_)
  refine lv_if_ne (tgt := 12) hx hb dX9_setCapacity_6 (by decide) (fun k3 => ?_) (fun k3 => ?_)
  · have hp := owp_t k3 hp
    refine lv_iload_n hx hb dX9_setCapacity_12 rfl (lv_at hl 2 rfl) ?_
    refine lv_if_lt (tgt := 23) hx hb dX9_setCapacity_13 (by decide) (fun k4 => ?_) (fun k4 => ?_)
    · have hp := owp_t k4 hp
      refine lv_bipush (v := (-3)) hx hb dX9_setCapacity_23 (by decide) ?_
      exact hr _ _ _ _ _ _ hR hS dX9_setCapacity_25 hp
    · have hp := owp_f k4 hp
      refine lv_iload_n hx hb dX9_setCapacity_16 rfl (lv_at hl 2 rfl) ?_
      refine lv_sipush (v := (1000)) hx hb dX9_setCapacity_17 (by decide) ?_
      refine lv_icmp_le (tgt := 26) hx hb dX9_setCapacity_20 (by decide) (fun k5 => ?_) (fun k5 => ?_)
      · have hp := owp_t k5 hp
        refine lv_aload_n hx hb dX9_setCapacity_26 rfl (lv_at hl 0 rfl) ?_
        obtain ⟨_, N6, e_N6, hp⟩ := owp_ob2 hp
        refine iv_X9_save (rest := []) mw_X9_77 X hR hS e_N6 hl.1 (Nat.le_of_ble_eq_true rfl) ⟨Nat.le_of_ble_eq_true rfl, Nat.le_of_ble_eq_true rfl⟩ ⟨Nat.le_of_ble_eq_true rfl, Nat.le_of_ble_eq_true rfl⟩ dX9_setCapacity_27 (fun H locs hR hS => ?_)
        refine lv_aload_n hx hb dX9_setCapacity_30 rfl (lv_at hl 0 rfl) ?_
        obtain ⟨x7, e_x7, hp⟩ := owp_ob hp
        refine gf_X9_19 X hR e_x7 dX9_setCapacity_31 ?_
        obtain ⟨x8, e_x8, hp⟩ := owp_ob hp
        refine gf_X9_105 X hR e_x8 dX9_setCapacity_34 ?_
        refine lv_iload_n hx hb dX9_setCapacity_37 rfl (lv_at hl 1 rfl) ?_
        obtain ⟨x9, e_x9, hp⟩ := owp_ob hp
        refine ab_iald X hR e_x9 dX9_setCapacity_38 ?_
        refine lv_istore_n (lv' := [(3, .int x9), (0, .ref v0), (1, .int v1), (2, .int v2)]) hx hb dX9_setCapacity_39 rfl hl (by decide) rfl (fun ls hl => ?_)
        refine lv_aload_n hx hb dX9_setCapacity_40 rfl (lv_at hl 1 rfl) ?_
        obtain ⟨x10, e_x10, hp⟩ := owp_ob hp
        refine gf_X9_19 X hR e_x10 dX9_setCapacity_41 ?_
        obtain ⟨x11, e_x11, hp⟩ := owp_ob hp
        refine gf_X9_105 X hR e_x11 dX9_setCapacity_44 ?_
        refine lv_iload_n hx hb dX9_setCapacity_47 rfl (lv_at hl 2 rfl) ?_
        refine lv_iload_n hx hb dX9_setCapacity_48 rfl (lv_at hl 3 rfl) ?_
        obtain ⟨N12, e_N12, hp⟩ := owp_ob hp
        refine ab_iast X hR hS e_N12 dX9_setCapacity_49 (fun H locs hR hS => ?_)
        refine lv_iload_n hx hb dX9_setCapacity_50 rfl (lv_at hl 0 rfl) ?_
        exact hr _ _ _ _ _ _ hR hS dX9_setCapacity_51 hp
      · have hp := owp_f k5 hp
        refine lv_bipush (v := (-3)) hx hb dX9_setCapacity_23 (by decide) ?_
        exact hr _ _ _ _ _ _ hR hS dX9_setCapacity_25 hp
  · have hp := owp_f (fun q => q k3) hp
    refine lv_bipush (v := (-2)) hx hb dX9_setCapacity_9 (by decide) ?_
    exact hr _ _ _ _ _ _ hR hS dX9_setCapacity_11 hp
end
theorem ct_X9_setCapacity {v0 : Nat} {v1 : Int32} {v2 : Int32} {N N1 : AH} {r : Int32} (h : f_X9_setCapacity v0 v1 v2 N = some (r, N1)) : Ct yX9_setCapacity cX9_setCapacity 4 (some .int) rm_X9_setCapacity [.ref v0, .int v1, .int v2] N (some (.int r)) N1 :=
  ab_met (own := RX9) (by decide +kernel) rfl (Nat.le_of_ble_eq_true rfl) (fun l G aC t b0 p e s m below meth c ls X hr hlk hnm hR hS hl => wk_X9_setCapacity X (RtI_met X.1.1 X.1.2.1 hr hlk) _ _ _ _ _ _ _ hR hS hl (owp_of h))
theorem cw_X9_setCapacity : Cond.code yX9_setCapacity cX9_setCapacity 4 (some .int) ∈ WT := WT_of 598 (by decide +kernel) (by decide +kernel)
theorem iv_X9_setCapacity {p : Program} {l : Launch} {e : Env} {R : Room} {s : State} {m : MethodId} {args : Array Value} {below : List Frame} {meth : Method} {c : Code} {H : Heap} {locs : List Loc} {cells slots : Nat} {Q : State → Prop} {cc : ByteArray} {own : String} {nL : Nat} {G : va_G} {aC : Nat → ClassId} {t b0 : Nat} {N N1 : AH} {pc index : Nat} {ls : Array Slot} {rest : List Value} {v0 : Nat} {v1 : Int32} {v2 : Int32} {r : Int32} (w1 : Cond.methodLink own index yX9_setCapacity ∈ WT) (X : CX cc own nL G aC t b0 p s m args c) (hR : Rp G aC b0 N H) (hS : va_S (fun q => b0 ≤ q) s.heap H locs) (h : f_X9_setCapacity v0 v1 v2 N = some (r, N1)) (hls : ls.size = nL) (hW : (rest.map fun v => v.category).sum ≤ 8) (hR1 : 7 ≤ R.frames ∧ 146 ≤ R.locals) (hcs : cells + 0 ≤ R.cells ∧ slots + 0 ≤ R.slots) (hdg : decode cc pc = .ok (.invokevirtual index, 3)) (kk : ∀ (H1 : Heap) (locs1 : List Loc), Rp G aC b0 N1 H1 → va_S (fun q => b0 ≤ q) s.heap H1 locs1 → W p l e R s m args below meth c H1 locs1 cells slots Q (F0 m (pc + 3) ls (.int r :: rest))) : W p l e R s m args below meth c H locs cells slots Q (F0 m pc ls (.int v2 :: .int v1 :: .ref v0 :: rest)) :=
  ab_callV (n := 2) (As := [.int v1, .int v2]) X hR hS (ct_X9_setCapacity h) (ob_rc (c := 9) (N := N) (a := v0) h) (T := TX9) (k := 6) (C := RX9) rfl w1 (WT_of 596 (by decide +kernel) (by decide +kernel)) (WT_of 597 (by decide +kernel) (by decide +kernel)) (WT_of 81 (by decide +kernel) (by decide +kernel)) cw_X9_setCapacity ⟨rfl, by decide +kernel, by decide +kernel, by decide +kernel⟩ rfl hls hW hR1 hcs rfl hdg kk
