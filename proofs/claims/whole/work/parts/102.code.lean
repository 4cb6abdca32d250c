-- X8_spread
theorem mw_X8_207 : Cond.methodLink RX8 207 yX8_raise ∈ WT := WT_of 700 (by decide +kernel) (by decide +kernel)
theorem dX8_spread_0 : decode cX8_spread 0 = .ok (.iconst 0, 1) := by decide +kernel
theorem dX8_spread_1 : decode cX8_spread 1 = .ok (.istore_n 3, 1) := by decide +kernel
theorem dX8_spread_2 : decode cX8_spread 2 = .ok (.iload_n 3, 1) := by decide +kernel
theorem dX8_spread_3 : decode cX8_spread 3 = .ok (.aload_n 1, 1) := by decide +kernel
theorem dX8_spread_4 : decode cX8_spread 4 = .ok (.getfield 198, 3) := by decide +kernel
theorem dX8_spread_7 : decode cX8_spread 7 = .ok (.if_icmp .ge 25, 3) := by decide +kernel
theorem dX8_spread_10 : decode cX8_spread 10 = .ok (.aload_n 0, 1) := by decide +kernel
theorem dX8_spread_11 : decode cX8_spread 11 = .ok (.aload_n 1, 1) := by decide +kernel
theorem dX8_spread_12 : decode cX8_spread 12 = .ok (.iload_n 3, 1) := by decide +kernel
theorem dX8_spread_13 : decode cX8_spread 13 = .ok (.aload_n 1, 1) := by decide +kernel
theorem dX8_spread_14 : decode cX8_spread 14 = .ok (.getfield 201, 3) := by decide +kernel
theorem dX8_spread_17 : decode cX8_spread 17 = .ok (.iload_n 3, 1) := by decide +kernel
theorem dX8_spread_18 : decode cX8_spread 18 = .ok (.iaload, 1) := by decide +kernel
theorem dX8_spread_19 : decode cX8_spread 19 = .ok (.iload_n 2, 1) := by decide +kernel
theorem dX8_spread_20 : decode cX8_spread 20 = .ok (.invokestatic 204, 3) := by decide +kernel
theorem dX8_spread_23 : decode cX8_spread 23 = .ok (.invokevirtual 207, 3) := by decide +kernel
theorem dX8_spread_26 : decode cX8_spread 26 = .ok (.iinc 3 1, 3) := by decide +kernel
theorem dX8_spread_29 : decode cX8_spread 29 = .ok (.goto (-27), 3) := by decide +kernel
theorem dX8_spread_32 : decode cX8_spread 32 = .ok (.return_, 1) := by decide +kernel
def rm_X8_spread : Room := { frames := 1, cells := 0, slots := 0, locals := 23 }
section
variable {p : Program} {l : Launch} {e : Env} {s : State} {m : MethodId} {args : Array Value} {below : List Frame} {meth : Method} {c : Code} {Q : State → Prop} {G : va_G} {aC : Nat → ClassId} {t b0 : Nat}
def f_X8_spread_L2 (v0 : Nat) (v1 : Nat) (v2 : Int32) (k32 : AH → Option (Unit × AH)) : Nat → Int32 → AH → Option (Unit × AH)
  | 0, _, _ => none
  | n + 1, v3, N => ob (hI N v1 1 0) (fun x1 => if x1 ≤ v3 then k32 N else ob (hR N v1 1 4) (fun x3 => ob (aI N x3 v3) (fun x4 => ob2 (f_X9_roundedUp x4 v2 N) (fun x6 N5 => ob2 (f_X8_raise v0 v1 v3 x6 N5) (fun _ N7 => f_X8_spread_L2 v0 v1 v2 k32 n (v3 + 1) N7)))))
set_option maxHeartbeats 4000000 in
set_option maxRecDepth 100000 in
theorem w_X8_spread_L2 {P : Unit × AH → Prop} (X : CX cX8_spread RX8 4 G aC t b0 p s m args c) (hr : RtV p l e rm_X8_spread s m args below meth c 0 0 Q cX8_spread G aC b0 P) (v0 : Nat) (v1 : Nat) (v2 : Int32) {k32 : AH → Option (Unit × AH)}
    (hk32 : ∀ (N : AH) (H : Heap) (locs : List Loc) (ls : Array Slot), Rp G aC b0 N H → va_S (fun q => b0 ≤ q) s.heap H locs → lv_has ls 4 [] → owp (k32 N) P → W p l e rm_X8_spread s m args below meth c H locs 0 0 Q (F0 m 32 ls [])) :
    ∀ (n : Nat) (v3 : Int32) (N : AH) (H : Heap) (locs : List Loc) (ls : Array Slot), Rp G aC b0 N H → va_S (fun q => b0 ≤ q) s.heap H locs → lv_has ls 4 [(0, .ref v0), (1, .ref v1), (2, .int v2), (3, .int v3)] → owp (f_X8_spread_L2 v0 v1 v2 k32 n v3 N) P → W p l e rm_X8_spread s m args below meth c H locs 0 0 Q (F0 m 2 ls []) := by
  have hx := X.1.1
  have hb := X.1.2.1
  intro n
  induction n with
  | zero =>
    intro v3 N H locs ls hR hS hl hp
    exact (show False from hp).elim
  | succ n ih =>
    intro v3 N H locs ls hR hS hl hp
    rw [f_X8_spread_L2] at hp
    refine lv_iload_n hx hb dX8_spread_2 rfl (lv_at hl 3 rfl) ?_
    refine lv_aload_n hx hb dX8_spread_3 rfl (lv_at hl 1 rfl) ?_
    obtain ⟨x1, e_x1, hp⟩ := owp_ob hp
    refine gf_X8_198 X hR e_x1 dX8_spread_4 ?_
    refine lv_icmp_ge (tgt := 32) hx hb dX8_spread_7 (by decide) (fun k2 => ?_) (fun k2 => ?_)
    · have hp := owp_t k2 hp
      exact hk32 _ _ _ _ hR hS (lv_sub hl [] rfl) hp
    · have hp := owp_f k2 hp
      refine lv_aload_n hx hb dX8_spread_10 rfl (lv_at hl 0 rfl) ?_
      refine lv_aload_n hx hb dX8_spread_11 rfl (lv_at hl 1 rfl) ?_
      refine lv_iload_n hx hb dX8_spread_12 rfl (lv_at hl 3 rfl) ?_
      refine lv_aload_n hx hb dX8_spread_13 rfl (lv_at hl 1 rfl) ?_
      obtain ⟨x3, e_x3, hp⟩ := owp_ob hp
      refine gf_X8_201 X hR e_x3 dX8_spread_14 ?_
      refine lv_iload_n hx hb dX8_spread_17 rfl (lv_at hl 3 rfl) ?_
      obtain ⟨x4, e_x4, hp⟩ := owp_ob hp
      refine ab_iald X hR e_x4 dX8_spread_18 ?_
      refine lv_iload_n hx hb dX8_spread_19 rfl (lv_at hl 2 rfl) ?_
      obtain ⟨x6, N5, e_N5, hp⟩ := owp_ob2 hp
      refine ivN_X9_roundedUp (rest := [.int v3, .ref v1, .ref v0]) (by simp [NWs, yX9_roundedUp]) X hR hS e_N5 hl.1 (Nat.le_of_ble_eq_true rfl) ⟨Nat.le_of_ble_eq_true rfl, Nat.le_of_ble_eq_true rfl⟩ ⟨Nat.le_of_ble_eq_true rfl, Nat.le_of_ble_eq_true rfl⟩ dX8_spread_20 (fun H locs hR hS => ?_)
      obtain ⟨_, N7, e_N7, hp⟩ := owp_ob2 hp
      refine iv_X8_raise (rest := []) mw_X8_207 X hR hS e_N7 hl.1 (Nat.le_of_ble_eq_true rfl) ⟨Nat.le_of_ble_eq_true rfl, Nat.le_of_ble_eq_true rfl⟩ ⟨Nat.le_of_ble_eq_true rfl, Nat.le_of_ble_eq_true rfl⟩ dX8_spread_23 (fun H locs hR hS => ?_)
      refine lv_iinc (v := v3 + 1) (lv' := [(3, .int (v3 + 1)), (0, .ref v0), (1, .ref v1), (2, .int v2)]) hx hb dX8_spread_26 hl (k := 3) rfl rfl (by decide) rfl (fun ls hl => ?_)
      refine lv_goto (tgt := 2) hx hb dX8_spread_29 (by decide) ?_
      exact ih _ _ _ _ _ hR hS (lv_sub hl [1, 2, 3, 0] rfl) hp
def f_X8_spread (v0 : Nat) (v1 : Nat) (v2 : Int32) (N : AH) : Option (Unit × AH) := ob (iO N v0 8) (fun _ => f_X8_spread_L2 v0 v1 v2 (fun N8 => some ((), N8)) FU (0 : Int32) N)
set_option maxHeartbeats 4000000 in
set_option maxRecDepth 100000 in
theorem wk_X8_spread {P : Unit × AH → Prop} (X : CX cX8_spread RX8 4 G aC t b0 p s m args c) (hr : RtV p l e rm_X8_spread s m args below meth c 0 0 Q cX8_spread G aC b0 P) (v0 : Nat) (v1 : Nat) (v2 : Int32) (N : AH) (H : Heap) (locs : List Loc) (ls : Array Slot) (hR : Rp G aC b0 N H) (hS : va_S (fun q => b0 ≤ q) s.heap H locs) (hl : lv_has ls 4 [(0, .ref v0), (1, .ref v1), (2, .int v2)]) (hp : owp (f_X8_spread v0 v1 v2 N) P) : W p l e rm_X8_spread s m args below meth c H locs 0 0 Q (F0 m 0 ls []) := by
  have hx := X.1.1
  have hb := X.1.2.1
  unfold f_X8_spread at hp
  obtain ⟨_, _, hp⟩ := owp_ob hp
  refine lv_iconst (v := (0)) hx hb dX8_spread_0 (by decide) ?_
  refine lv_istore_n (lv' := [(3, .int (0 : Int32)), (0, .ref v0), (1, .ref v1), (2, .int v2)]) hx hb dX8_spread_1 rfl hl (by decide) rfl (fun ls hl => ?_)
  refine w_X8_spread_L2 X hr _ _ _ (fun N8 H locs ls hR hS hl hp => ?_) _ _ _ _ _ _ hR hS (lv_sub hl [1, 2, 3, 0] rfl) hp
  exact hr _ _ _ _ _ hR hS dX8_spread_32 hp
end
theorem ct_X8_spread {v0 : Nat} {v1 : Nat} {v2 : Int32} {N N1 : AH} {r : Unit} (h : f_X8_spread v0 v1 v2 N = some (r, N1)) : Ct yX8_spread cX8_spread 4 none rm_X8_spread [.ref v0, .ref v1, .int v2] N none N1 :=
  ab_met (own := RX8) (by decide +kernel) rfl (Nat.le_of_ble_eq_true rfl) (fun l G aC t b0 p e s m below meth c ls X hr hlk hnm hR hS hl => wk_X8_spread X (RtV_met X.1.1 X.1.2.1 hr hlk) _ _ _ _ _ _ _ hR hS hl (owp_of h))
theorem cw_X8_spread : Cond.code yX8_spread cX8_spread 4 none ∈ WT := WT_of 699 (by decide +kernel) (by decide +kernel)
theorem iv_X8_spread {p : Program} {l : Launch} {e : Env} {R : Room} {s : State} {m : MethodId} {args : Array Value} {below : List Frame} {meth : Method} {c : Code} {H : Heap} {locs : List Loc} {cells slots : Nat} {Q : State → Prop} {cc : ByteArray} {own : String} {nL : Nat} {G : va_G} {aC : Nat → ClassId} {t b0 : Nat} {N N1 : AH} {pc index : Nat} {ls : Array Slot} {rest : List Value} {v0 : Nat} {v1 : Nat} {v2 : Int32} {r : Unit} (w1 : Cond.methodLink own index yX8_spread ∈ WT) (X : CX cc own nL G aC t b0 p s m args c) (hR : Rp G aC b0 N H) (hS : va_S (fun q => b0 ≤ q) s.heap H locs) (h : f_X8_spread v0 v1 v2 N = some (r, N1)) (hls : ls.size = nL) (hW : (rest.map fun v => v.category).sum ≤ 8) (hR1 : 2 ≤ R.frames ∧ 46 ≤ R.locals) (hcs : cells + 0 ≤ R.cells ∧ slots + 0 ≤ R.slots) (hdg : decode cc pc = .ok (.invokevirtual index, 3)) (kk : ∀ (H1 : Heap) (locs1 : List Loc), Rp G aC b0 N1 H1 → va_S (fun q => b0 ≤ q) s.heap H1 locs1 → W p l e R s m args below meth c H1 locs1 cells slots Q (F0 m (pc + 3) ls rest)) : W p l e R s m args below meth c H locs cells slots Q (F0 m pc ls (.int v2 :: .ref v1 :: .ref v0 :: rest)) :=
  ab_callV (n := 2) (As := [.ref v1, .int v2]) X hR hS (ct_X8_spread h) (ob_rc (c := 8) (N := N) (a := v0) h) (T := TX8) (k := 11) (C := RX8) rfl w1 (WT_of 698 (by decide +kernel) (by decide +kernel)) (WT_of 16 (by decide +kernel) (by decide +kernel)) (WT_of 89 (by decide +kernel) (by decide +kernel)) cw_X8_spread ⟨rfl, by decide +kernel, by decide +kernel, by decide +kernel⟩ rfl hls hW hR1 hcs rfl hdg kk
-- X8_giveJustRates
theorem gf_X8_15 {p : Program} {l : Launch} {e : Env} {R : Room} {s : State} {m : MethodId} {args : Array Value} {below : List Frame} {meth : Method} {c : Code} {H : Heap} {locs : List Loc} {cells slots : Nat} {Q : State → Prop} {cc : ByteArray} {nL : Nat} {G : va_G} {aC : Nat → ClassId} {t b0 : Nat} {N : AH} {pc : Nat} {ls : Array Slot} {rest : List Value} {a : Nat} {v : Nat} (X : CX cc RX8 nL G aC t b0 p s m args c) (hR0 : Rp G aC b0 N H) (hv : hR N a 8 2 = some v) (hdg : decode cc pc = .ok (.getfield 15, 3)) (kk : W p l e R s m args below meth c H locs cells slots Q (F0 m (pc + 3) ls (.ref v :: rest))) : W p l e R s m args below meth c H locs cells slots Q (F0 m pc ls (.ref a :: rest)) := by
  obtain ⟨fs, h1, h2⟩ := hR_ok hv
  exact ab_get (C := RX8) (T := TX8) (n := 11) X hR0 h1 h2 rfl inX8 (by decide) (WT_of 349 (by decide +kernel) (by decide +kernel)) hdg kk
theorem mw_X8_194 : Cond.methodLink RX8 194 yX8_spread ∈ WT := WT_of 696 (by decide +kernel) (by decide +kernel)
theorem dX8_giveJustRates_0 : decode cX8_giveJustRates 0 = .ok (.aload_n 1, 1) := by decide +kernel
theorem dX8_giveJustRates_1 : decode cX8_giveJustRates 1 = .ok (.getfield 113, 3) := by decide +kernel
theorem dX8_giveJustRates_4 : decode cX8_giveJustRates 4 = .ok (.iconst 0, 1) := by decide +kernel
theorem dX8_giveJustRates_5 : decode cX8_giveJustRates 5 = .ok (.aload_n 0, 1) := by decide +kernel
theorem dX8_giveJustRates_6 : decode cX8_giveJustRates 6 = .ok (.getfield 18, 3) := by decide +kernel
theorem dX8_giveJustRates_9 : decode cX8_giveJustRates 9 = .ok (.iconst 0, 1) := by decide +kernel
theorem dX8_giveJustRates_10 : decode cX8_giveJustRates 10 = .ok (.bipush 16, 2) := by decide +kernel
theorem dX8_giveJustRates_12 : decode cX8_giveJustRates 12 = .ok (.invokestatic 173, 3) := by decide +kernel
theorem dX8_giveJustRates_15 : decode cX8_giveJustRates 15 = .ok (.iconst 0, 1) := by decide +kernel
theorem dX8_giveJustRates_16 : decode cX8_giveJustRates 16 = .ok (.istore_n 2, 1) := by decide +kernel
theorem dX8_giveJustRates_17 : decode cX8_giveJustRates 17 = .ok (.iload_n 2, 1) := by decide +kernel
theorem dX8_giveJustRates_18 : decode cX8_giveJustRates 18 = .ok (.aload_n 1, 1) := by decide +kernel
theorem dX8_giveJustRates_19 : decode cX8_giveJustRates 19 = .ok (.getfield 82, 3) := by decide +kernel
theorem dX8_giveJustRates_22 : decode cX8_giveJustRates 22 = .ok (.if_icmp .ge 25, 3) := by decide +kernel
theorem dX8_giveJustRates_25 : decode cX8_giveJustRates 25 = .ok (.aload_n 1, 1) := by decide +kernel
theorem dX8_giveJustRates_26 : decode cX8_giveJustRates 26 = .ok (.getfield 85, 3) := by decide +kernel
theorem dX8_giveJustRates_29 : decode cX8_giveJustRates 29 = .ok (.iload_n 2, 1) := by decide +kernel
theorem dX8_giveJustRates_30 : decode cX8_giveJustRates 30 = .ok (.aaload, 1) := by decide +kernel
theorem dX8_giveJustRates_31 : decode cX8_giveJustRates 31 = .ok (.getfield 109, 3) := by decide +kernel
theorem dX8_giveJustRates_34 : decode cX8_giveJustRates 34 = .ok (.getfield 179, 3) := by decide +kernel
theorem dX8_giveJustRates_37 : decode cX8_giveJustRates 37 = .ok (.iconst 0, 1) := by decide +kernel
theorem dX8_giveJustRates_38 : decode cX8_giveJustRates 38 = .ok (.invokestatic 182, 3) := by decide +kernel
theorem dX8_giveJustRates_41 : decode cX8_giveJustRates 41 = .ok (.iinc 2 1, 3) := by decide +kernel
theorem dX8_giveJustRates_44 : decode cX8_giveJustRates 44 = .ok (.goto (-27), 3) := by decide +kernel
theorem dX8_giveJustRates_47 : decode cX8_giveJustRates 47 = .ok (.iconst 0, 1) := by decide +kernel
theorem dX8_giveJustRates_48 : decode cX8_giveJustRates 48 = .ok (.istore_n 2, 1) := by decide +kernel
theorem dX8_giveJustRates_49 : decode cX8_giveJustRates 49 = .ok (.iload_n 2, 1) := by decide +kernel
theorem dX8_giveJustRates_50 : decode cX8_giveJustRates 50 = .ok (.aload_n 0, 1) := by decide +kernel
theorem dX8_giveJustRates_51 : decode cX8_giveJustRates 51 = .ok (.getfield 53, 3) := by decide +kernel
theorem dX8_giveJustRates_54 : decode cX8_giveJustRates 54 = .ok (.if_icmp .ge 97, 3) := by decide +kernel
theorem dX8_giveJustRates_57 : decode cX8_giveJustRates 57 = .ok (.aload_n 1, 1) := by decide +kernel
theorem dX8_giveJustRates_58 : decode cX8_giveJustRates 58 = .ok (.getfield 85, 3) := by decide +kernel
theorem dX8_giveJustRates_61 : decode cX8_giveJustRates 61 = .ok (.aload_n 0, 1) := by decide +kernel
theorem dX8_giveJustRates_62 : decode cX8_giveJustRates 62 = .ok (.getfield 9, 3) := by decide +kernel
theorem dX8_giveJustRates_65 : decode cX8_giveJustRates 65 = .ok (.iload_n 2, 1) := by decide +kernel
theorem dX8_giveJustRates_66 : decode cX8_giveJustRates 66 = .ok (.iaload, 1) := by decide +kernel
theorem dX8_giveJustRates_67 : decode cX8_giveJustRates 67 = .ok (.aaload, 1) := by decide +kernel
theorem dX8_giveJustRates_68 : decode cX8_giveJustRates 68 = .ok (.astore_n 3, 1) := by decide +kernel
theorem dX8_giveJustRates_69 : decode cX8_giveJustRates 69 = .ok (.aload_n 0, 1) := by decide +kernel
theorem dX8_giveJustRates_70 : decode cX8_giveJustRates 70 = .ok (.aload_n 3, 1) := by decide +kernel
theorem dX8_giveJustRates_71 : decode cX8_giveJustRates 71 = .ok (.getfield 109, 3) := by decide +kernel
theorem dX8_giveJustRates_74 : decode cX8_giveJustRates 74 = .ok (.aload_n 0, 1) := by decide +kernel
theorem dX8_giveJustRates_75 : decode cX8_giveJustRates 75 = .ok (.getfield 18, 3) := by decide +kernel
theorem dX8_giveJustRates_78 : decode cX8_giveJustRates 78 = .ok (.invokevirtual 116, 3) := by decide +kernel
theorem dX8_giveJustRates_81 : decode cX8_giveJustRates 81 = .ok (.istore 4, 2) := by decide +kernel
theorem dX8_giveJustRates_83 : decode cX8_giveJustRates 83 = .ok (.aload_n 0, 1) := by decide +kernel
theorem dX8_giveJustRates_84 : decode cX8_giveJustRates 84 = .ok (.getfield 15, 3) := by decide +kernel
theorem dX8_giveJustRates_87 : decode cX8_giveJustRates 87 = .ok (.aload_n 0, 1) := by decide +kernel
theorem dX8_giveJustRates_88 : decode cX8_giveJustRates 88 = .ok (.getfield 9, 3) := by decide +kernel
theorem dX8_giveJustRates_91 : decode cX8_giveJustRates 91 = .ok (.iload_n 2, 1) := by decide +kernel
theorem dX8_giveJustRates_92 : decode cX8_giveJustRates 92 = .ok (.iaload, 1) := by decide +kernel
theorem dX8_giveJustRates_93 : decode cX8_giveJustRates 93 = .ok (.iload 4, 2) := by decide +kernel
theorem dX8_giveJustRates_95 : decode cX8_giveJustRates 95 = .ok (.iastore, 1) := by decide +kernel
theorem dX8_giveJustRates_96 : decode cX8_giveJustRates 96 = .ok (.iload 4, 2) := by decide +kernel
theorem dX8_giveJustRates_98 : decode cX8_giveJustRates 98 = .ok (.iconst (-1), 1) := by decide +kernel
theorem dX8_giveJustRates_99 : decode cX8_giveJustRates 99 = .ok (.if_icmp .ne 6, 3) := by decide +kernel
theorem dX8_giveJustRates_102 : decode cX8_giveJustRates 102 = .ok (.goto 43, 3) := by decide +kernel
theorem dX8_giveJustRates_105 : decode cX8_giveJustRates 105 = .ok (.aload_n 1, 1) := by decide +kernel
theorem dX8_giveJustRates_106 : decode cX8_giveJustRates 106 = .ok (.getfield 95, 3) := by decide +kernel
theorem dX8_giveJustRates_109 : decode cX8_giveJustRates 109 = .ok (.ifCond .eq 26, 3) := by decide +kernel
theorem dX8_giveJustRates_112 : decode cX8_giveJustRates 112 = .ok (.aload_n 3, 1) := by decide +kernel
theorem dX8_giveJustRates_113 : decode cX8_giveJustRates 113 = .ok (.getfield 99, 3) := by decide +kernel
theorem dX8_giveJustRates_116 : decode cX8_giveJustRates 116 = .ok (.ifCond .le 19, 3) := by decide +kernel
theorem dX8_giveJustRates_119 : decode cX8_giveJustRates 119 = .ok (.iload 4, 2) := by decide +kernel
theorem dX8_giveJustRates_121 : decode cX8_giveJustRates 121 = .ok (.aload_n 3, 1) := by decide +kernel
theorem dX8_giveJustRates_122 : decode cX8_giveJustRates 122 = .ok (.invokevirtual 102, 3) := by decide +kernel
theorem dX8_giveJustRates_125 : decode cX8_giveJustRates 125 = .ok (.aload_n 1, 1) := by decide +kernel
theorem dX8_giveJustRates_126 : decode cX8_giveJustRates 126 = .ok (.getfield 70, 3) := by decide +kernel
theorem dX8_giveJustRates_129 : decode cX8_giveJustRates 129 = .ok (.isub, 1) := by decide +kernel
theorem dX8_giveJustRates_130 : decode cX8_giveJustRates 130 = .ok (.invokestatic 188, 3) := by decide +kernel
theorem dX8_giveJustRates_133 : decode cX8_giveJustRates 133 = .ok (.istore 4, 2) := by decide +kernel
theorem dX8_giveJustRates_135 : decode cX8_giveJustRates 135 = .ok (.aload_n 0, 1) := by decide +kernel
theorem dX8_giveJustRates_136 : decode cX8_giveJustRates 136 = .ok (.aload_n 3, 1) := by decide +kernel
theorem dX8_giveJustRates_137 : decode cX8_giveJustRates 137 = .ok (.getfield 109, 3) := by decide +kernel
theorem dX8_giveJustRates_140 : decode cX8_giveJustRates 140 = .ok (.iload 4, 2) := by decide +kernel
theorem dX8_giveJustRates_142 : decode cX8_giveJustRates 142 = .ok (.invokevirtual 194, 3) := by decide +kernel
theorem dX8_giveJustRates_145 : decode cX8_giveJustRates 145 = .ok (.iinc 2 1, 3) := by decide +kernel
theorem dX8_giveJustRates_148 : decode cX8_giveJustRates 148 = .ok (.goto (-99), 3) := by decide +kernel
theorem dX8_giveJustRates_151 : decode cX8_giveJustRates 151 = .ok (.return_, 1) := by decide +kernel
def rm_X8_giveJustRates : Room := { frames := 3, cells := 0, slots := 0, locals := 77 }
section
variable {p : Program} {l : Launch} {e : Env} {s : State} {m : MethodId} {args : Array Value} {below : List Frame} {meth : Method} {c : Code} {Q : State → Prop} {G : va_G} {aC : Nat → ClassId} {t b0 : Nat}
def f_X8_giveJustRates_L17 (v0 : Nat) (v1 : Nat) (k47 : AH → Option (Unit × AH)) : Nat → Int32 → AH → Option (Unit × AH)
  | 0, _, _ => none
  | n + 1, v2, N => ob (hI N v1 7 6) (fun x4 => if x4 ≤ v2 then k47 N else ob (hR N v1 7 10) (fun x6 => ob (aR N 2 x6 v2) (fun x7 => ob (hR N x7 4 5) (fun x8 => ob (hR N x8 1 5) (fun x9 => ob2 (f_J7_fill_53178 x9 (0 : Int32) N) (fun _ N10 => f_X8_giveJustRates_L17 v0 v1 k47 n (v2 + 1) N10))))))
set_option maxHeartbeats 4000000 in
set_option maxRecDepth 100000 in
theorem w_X8_giveJustRates_L17 {P : Unit × AH → Prop} (X : CX cX8_giveJustRates RX8 5 G aC t b0 p s m args c) (hr : RtV p l e rm_X8_giveJustRates s m args below meth c 0 0 Q cX8_giveJustRates G aC b0 P) (v0 : Nat) (v1 : Nat) {k47 : AH → Option (Unit × AH)}
    (hk47 : ∀ (N : AH) (H : Heap) (locs : List Loc) (ls : Array Slot), Rp G aC b0 N H → va_S (fun q => b0 ≤ q) s.heap H locs → lv_has ls 5 [(0, .ref v0), (1, .ref v1)] → owp (k47 N) P → W p l e rm_X8_giveJustRates s m args below meth c H locs 0 0 Q (F0 m 47 ls [])) :
    ∀ (n : Nat) (v2 : Int32) (N : AH) (H : Heap) (locs : List Loc) (ls : Array Slot), Rp G aC b0 N H → va_S (fun q => b0 ≤ q) s.heap H locs → lv_has ls 5 [(0, .ref v0), (1, .ref v1), (2, .int v2)] → owp (f_X8_giveJustRates_L17 v0 v1 k47 n v2 N) P → W p l e rm_X8_giveJustRates s m args below meth c H locs 0 0 Q (F0 m 17 ls []) := by
  have hx := X.1.1
  have hb := X.1.2.1
  intro n
  induction n with
  | zero =>
    intro v2 N H locs ls hR hS hl hp
    exact (show False from hp).elim
  | succ n ih =>
    intro v2 N H locs ls hR hS hl hp
    rw [f_X8_giveJustRates_L17] at hp
    refine lv_iload_n hx hb dX8_giveJustRates_17 rfl (lv_at hl 2 rfl) ?_
    refine lv_aload_n hx hb dX8_giveJustRates_18 rfl (lv_at hl 1 rfl) ?_
    obtain ⟨x4, e_x4, hp⟩ := owp_ob hp
    refine gf_X8_82 X hR e_x4 dX8_giveJustRates_19 ?_
    refine lv_icmp_ge (tgt := 47) hx hb dX8_giveJustRates_22 (by decide) (fun k5 => ?_) (fun k5 => ?_)
    · have hp := owp_t k5 hp
      exact hk47 _ _ _ _ hR hS (lv_sub hl [0, 1] rfl) hp
    · have hp := owp_f k5 hp
      refine lv_aload_n hx hb dX8_giveJustRates_25 rfl (lv_at hl 1 rfl) ?_
      obtain ⟨x6, e_x6, hp⟩ := owp_ob hp
      refine gf_X8_85 X hR e_x6 dX8_giveJustRates_26 ?_
      refine lv_iload_n hx hb dX8_giveJustRates_29 rfl (lv_at hl 2 rfl) ?_
      obtain ⟨x7, e_x7, hp⟩ := owp_ob hp
      refine ab_aald X hR (kd := 2) rfl e_x7 dX8_giveJustRates_30 ?_
      obtain ⟨x8, e_x8, hp⟩ := owp_ob hp
      refine gf_X8_109 X hR e_x8 dX8_giveJustRates_31 ?_
      obtain ⟨x9, e_x9, hp⟩ := owp_ob hp
      refine gf_X8_179 X hR e_x9 dX8_giveJustRates_34 ?_
      refine lv_iconst (v := (0)) hx hb dX8_giveJustRates_37 (by decide) ?_
      obtain ⟨_, N10, e_N10, hp⟩ := owp_ob2 hp
      refine iv_J7_fill_53178 (rest := []) mw_X8_182 X hR hS e_N10 hl.1 (Nat.le_of_ble_eq_true rfl) ⟨Nat.le_of_ble_eq_true rfl, Nat.le_of_ble_eq_true rfl⟩ ⟨Nat.le_of_ble_eq_true rfl, Nat.le_of_ble_eq_true rfl⟩ dX8_giveJustRates_38 (fun H locs hR hS => ?_)
      refine lv_iinc (v := v2 + 1) (lv' := [(2, .int (v2 + 1)), (0, .ref v0), (1, .ref v1)]) hx hb dX8_giveJustRates_41 hl (k := 2) rfl rfl (by decide) rfl (fun ls hl => ?_)
      refine lv_goto (tgt := 17) hx hb dX8_giveJustRates_44 (by decide) ?_
      exact ih _ _ _ _ _ hR hS (lv_sub hl [1, 2, 0] rfl) hp
def f_X8_giveJustRates_L49 (v0 : Nat) (v1 : Nat) (k151 : AH → Option (Unit × AH)) : Nat → Int32 → AH → Option (Unit × AH)
  | 0, _, _ => none
  | n + 1, v2, N => ob (hI N v0 8 0) (fun x12 => if x12 ≤ v2 then k151 N else ob (hR N v1 7 10) (fun x14 => ob (hR N v0 8 1) (fun x15 => ob (aI N x15 v2) (fun x16 => ob (aR N 2 x14 x16) (fun x17 => ob (hR N x17 4 5) (fun x18 => ob (hR N v0 8 3) (fun x19 => ob2 (f_X8_spanOf v0 x18 x19 N) (fun x21 N20 => ob (hR N20 v0 8 2) (fun x22 => ob (hR N20 v0 8 1) (fun x23 => ob (aI N20 x23 v2) (fun x24 => ob (sI N20 x22 x24 x21) (fun N25 => if ¬ x21 = (-1 : Int32) then ob (hI N25 v1 7 3) (fun x27 => if x27 = 0 then ob (hR N25 x17 4 5) (fun x29 => ob2 (f_X8_spread v0 x29 x21 N25) (fun _ N30 => f_X8_giveJustRates_L49 v0 v1 k151 n (v2 + 1) N30)) else ob (hI N25 x17 4 2) (fun x31 => if x31 ≤ 0 then ob (hR N25 x17 4 5) (fun x33 => ob2 (f_X8_spread v0 x33 x21 N25) (fun _ N34 => f_X8_giveJustRates_L49 v0 v1 k151 n (v2 + 1) N34)) else ob2 (f_X4_deadlineEnd x17 N25) (fun x36 N35 => ob (hI N35 v1 7 0) (fun x37 => ob2 (f_J9_max_7cf53 x21 (x36 - x37) N35) (fun x39 N38 => ob (hR N38 x17 4 5) (fun x40 => ob2 (f_X8_spread v0 x40 x39 N38) (fun _ N41 => f_X8_giveJustRates_L49 v0 v1 k151 n (v2 + 1) N41))))))) else f_X8_giveJustRates_L49 v0 v1 k151 n (v2 + 1) N25))))))))))))
set_option maxHeartbeats 4000000 in
set_option maxRecDepth 100000 in
theorem w_X8_giveJustRates_L49 {P : Unit × AH → Prop} (X : CX cX8_giveJustRates RX8 5 G aC t b0 p s m args c) (hr : RtV p l e rm_X8_giveJustRates s m args below meth c 0 0 Q cX8_giveJustRates G aC b0 P) (v0 : Nat) (v1 : Nat) {k151 : AH → Option (Unit × AH)}
    (hk151 : ∀ (N : AH) (H : Heap) (locs : List Loc) (ls : Array Slot), Rp G aC b0 N H → va_S (fun q => b0 ≤ q) s.heap H locs → lv_has ls 5 [] → owp (k151 N) P → W p l e rm_X8_giveJustRates s m args below meth c H locs 0 0 Q (F0 m 151 ls [])) :
    ∀ (n : Nat) (v2 : Int32) (N : AH) (H : Heap) (locs : List Loc) (ls : Array Slot), Rp G aC b0 N H → va_S (fun q => b0 ≤ q) s.heap H locs → lv_has ls 5 [(0, .ref v0), (1, .ref v1), (2, .int v2)] → owp (f_X8_giveJustRates_L49 v0 v1 k151 n v2 N) P → W p l e rm_X8_giveJustRates s m args below meth c H locs 0 0 Q (F0 m 49 ls []) := by
  have hx := X.1.1
  have hb := X.1.2.1
  intro n
  induction n with
  | zero =>
    intro v2 N H locs ls hR hS hl hp
    exact (show False from hp).elim
  | succ n ih =>
    intro v2 N H locs ls hR hS hl hp
    rw [f_X8_giveJustRates_L49] at hp
    refine lv_iload_n hx hb dX8_giveJustRates_49 rfl (lv_at hl 2 rfl) ?_
    refine lv_aload_n hx hb dX8_giveJustRates_50 rfl (lv_at hl 0 rfl) ?_
    obtain ⟨x12, e_x12, hp⟩ := owp_ob hp
    refine gf_X8_53 X hR e_x12 dX8_giveJustRates_51 ?_
    refine lv_icmp_ge (tgt := 151) hx hb dX8_giveJustRates_54 (by decide) (fun k13 => ?_) (fun k13 => ?_)
    · have hp := owp_t k13 hp
      exact hk151 _ _ _ _ hR hS (lv_sub hl [] rfl) hp
    · have hp := owp_f k13 hp
      refine lv_aload_n hx hb dX8_giveJustRates_57 rfl (lv_at hl 1 rfl) ?_
      obtain ⟨x14, e_x14, hp⟩ := owp_ob hp
      refine gf_X8_85 X hR e_x14 dX8_giveJustRates_58 ?_
      refine lv_aload_n hx hb dX8_giveJustRates_61 rfl (lv_at hl 0 rfl) ?_
      obtain ⟨x15, e_x15, hp⟩ := owp_ob hp
      refine gf_X8_9 X hR e_x15 dX8_giveJustRates_62 ?_
      refine lv_iload_n hx hb dX8_giveJustRates_65 rfl (lv_at hl 2 rfl) ?_
      obtain ⟨x16, e_x16, hp⟩ := owp_ob hp
      refine ab_iald X hR e_x16 dX8_giveJustRates_66 ?_
      obtain ⟨x17, e_x17, hp⟩ := owp_ob hp
      refine ab_aald X hR (kd := 2) rfl e_x17 dX8_giveJustRates_67 ?_
      refine lv_astore_n (lv' := [(3, .ref x17), (0, .ref v0), (1, .ref v1), (2, .int v2)]) hx hb dX8_giveJustRates_68 rfl hl (by decide) rfl (fun ls hl => ?_)
      refine lv_aload_n hx hb dX8_giveJustRates_69 rfl (lv_at hl 1 rfl) ?_
      refine lv_aload_n hx hb dX8_giveJustRates_70 rfl (lv_at hl 0 rfl) ?_
      obtain ⟨x18, e_x18, hp⟩ := owp_ob hp
      refine gf_X8_109 X hR e_x18 dX8_giveJustRates_71 ?_
      refine lv_aload_n hx hb dX8_giveJustRates_74 rfl (lv_at hl 1 rfl) ?_
      obtain ⟨x19, e_x19, hp⟩ := owp_ob hp
      refine gf_X8_18 X hR e_x19 dX8_giveJustRates_75 ?_
      obtain ⟨x21, N20, e_N20, hp⟩ := owp_ob2 hp
      refine iv_X8_spanOf (rest := []) mw_X8_116 X hR hS e_N20 hl.1 (Nat.le_of_ble_eq_true rfl) ⟨Nat.le_of_ble_eq_true rfl, Nat.le_of_ble_eq_true rfl⟩ ⟨Nat.le_of_ble_eq_true rfl, Nat.le_of_ble_eq_true rfl⟩ dX8_giveJustRates_78 (fun H locs hR hS => ?_)
      refine lv_istore (lv' := [(4, .int x21), (3, .ref x17), (0, .ref v0), (1, .ref v1), (2, .int v2)]) hx hb dX8_giveJustRates_81 hl (by decide) rfl (fun ls hl => ?_)
      refine lv_aload_n hx hb dX8_giveJustRates_83 rfl (lv_at hl 2 rfl) ?_
      obtain ⟨x22, e_x22, hp⟩ := owp_ob hp
      refine gf_X8_15 X hR e_x22 dX8_giveJustRates_84 ?_
      refine lv_aload_n hx hb dX8_giveJustRates_87 rfl (lv_at hl 2 rfl) ?_
      obtain ⟨x23, e_x23, hp⟩ := owp_ob hp
      refine gf_X8_9 X hR e_x23 dX8_giveJustRates_88 ?_
      refine lv_iload_n hx hb dX8_giveJustRates_91 rfl (lv_at hl 4 rfl) ?_
      obtain ⟨x24, e_x24, hp⟩ := owp_ob hp
      refine ab_iald X hR e_x24 dX8_giveJustRates_92 ?_
      refine lv_iload hx hb dX8_giveJustRates_93 (lv_at hl 0 rfl) ?_
      obtain ⟨N25, e_N25, hp⟩ := owp_ob hp
      refine ab_iast X hR hS e_N25 dX8_giveJustRates_95 (fun H locs hR hS => ?_)
      refine lv_iload hx hb dX8_giveJustRates_96 (lv_at hl 0 rfl) ?_
      refine lv_iconst (v := (-1)) hx hb dX8_giveJustRates_98 (by decide) ?_
      refine lv_icmp_ne (tgt := 105) hx hb dX8_giveJustRates_99 (by decide) (fun k26 => ?_) (fun k26 => ?_)
      · have hp := owp_t k26 hp
        refine lv_aload_n hx hb dX8_giveJustRates_105 rfl (lv_at hl 3 rfl) ?_
        obtain ⟨x27, e_x27, hp⟩ := owp_ob hp
        refine gf_X8_95 X hR e_x27 dX8_giveJustRates_106 ?_
        refine lv_if_eq (tgt := 135) hx hb dX8_giveJustRates_109 (by decide) (fun k28 => ?_) (fun k28 => ?_)
        · have hp := owp_t k28 hp
          refine lv_aload_n hx hb dX8_giveJustRates_135 rfl (lv_at hl 2 rfl) ?_
          refine lv_aload_n hx hb dX8_giveJustRates_136 rfl (lv_at hl 1 rfl) ?_
          obtain ⟨x29, e_x29, hp⟩ := owp_ob hp
          refine gf_X8_109 X hR e_x29 dX8_giveJustRates_137 ?_
          refine lv_iload hx hb dX8_giveJustRates_140 (lv_at hl 0 rfl) ?_
          obtain ⟨_, N30, e_N30, hp⟩ := owp_ob2 hp
          refine iv_X8_spread (rest := []) mw_X8_194 X hR hS e_N30 hl.1 (Nat.le_of_ble_eq_true rfl) ⟨Nat.le_of_ble_eq_true rfl, Nat.le_of_ble_eq_true rfl⟩ ⟨Nat.le_of_ble_eq_true rfl, Nat.le_of_ble_eq_true rfl⟩ dX8_giveJustRates_142 (fun H locs hR hS => ?_)
          refine lv_iinc (v := v2 + 1) (lv' := [(2, .int (v2 + 1)), (4, .int x21), (3, .ref x17), (0, .ref v0), (1, .ref v1)]) hx hb dX8_giveJustRates_145 hl (k := 4) rfl rfl (by decide) rfl (fun ls hl => ?_)
          refine lv_goto (tgt := 49) hx hb dX8_giveJustRates_148 (by decide) ?_
          exact ih _ _ _ _ _ hR hS (lv_sub hl [3, 4, 0] rfl) hp
        · have hp := owp_f k28 hp
          refine lv_aload_n hx hb dX8_giveJustRates_112 rfl (lv_at hl 1 rfl) ?_
          obtain ⟨x31, e_x31, hp⟩ := owp_ob hp
          refine gf_X8_99 X hR e_x31 dX8_giveJustRates_113 ?_
          refine lv_if_le (tgt := 135) hx hb dX8_giveJustRates_116 (by decide) (fun k32 => ?_) (fun k32 => ?_)
          · have hp := owp_t k32 hp
            refine lv_aload_n hx hb dX8_giveJustRates_135 rfl (lv_at hl 2 rfl) ?_
            refine lv_aload_n hx hb dX8_giveJustRates_136 rfl (lv_at hl 1 rfl) ?_
            obtain ⟨x33, e_x33, hp⟩ := owp_ob hp
            refine gf_X8_109 X hR e_x33 dX8_giveJustRates_137 ?_
            refine lv_iload hx hb dX8_giveJustRates_140 (lv_at hl 0 rfl) ?_
            obtain ⟨_, N34, e_N34, hp⟩ := owp_ob2 hp
            refine iv_X8_spread (rest := []) mw_X8_194 X hR hS e_N34 hl.1 (Nat.le_of_ble_eq_true rfl) ⟨Nat.le_of_ble_eq_true rfl, Nat.le_of_ble_eq_true rfl⟩ ⟨Nat.le_of_ble_eq_true rfl, Nat.le_of_ble_eq_true rfl⟩ dX8_giveJustRates_142 (fun H locs hR hS => ?_)
            refine lv_iinc (v := v2 + 1) (lv' := [(2, .int (v2 + 1)), (4, .int x21), (3, .ref x17), (0, .ref v0), (1, .ref v1)]) hx hb dX8_giveJustRates_145 hl (k := 4) rfl rfl (by decide) rfl (fun ls hl => ?_)
            refine lv_goto (tgt := 49) hx hb dX8_giveJustRates_148 (by decide) ?_
            exact ih _ _ _ _ _ hR hS (lv_sub hl [3, 4, 0] rfl) hp
          · have hp := owp_f k32 hp
            refine lv_iload hx hb dX8_giveJustRates_119 (lv_at hl 0 rfl) ?_
            refine lv_aload_n hx hb dX8_giveJustRates_121 rfl (lv_at hl 1 rfl) ?_
            obtain ⟨x36, N35, e_N35, hp⟩ := owp_ob2 hp
            refine iv_X4_deadlineEnd (rest := [.int x21]) mw_X8_102 X hR hS e_N35 hl.1 (Nat.le_of_ble_eq_true rfl) ⟨Nat.le_of_ble_eq_true rfl, Nat.le_of_ble_eq_true rfl⟩ ⟨Nat.le_of_ble_eq_true rfl, Nat.le_of_ble_eq_true rfl⟩ dX8_giveJustRates_122 (fun H locs hR hS => ?_)
            refine lv_aload_n hx hb dX8_giveJustRates_125 rfl (lv_at hl 3 rfl) ?_
            obtain ⟨x37, e_x37, hp⟩ := owp_ob hp
            refine gf_X8_70 X hR e_x37 dX8_giveJustRates_126 ?_
            refine lv_isub hx hb dX8_giveJustRates_129 ?_
            obtain ⟨x39, N38, e_N38, hp⟩ := owp_ob2 hp
            refine iv_J9_max_7cf53 (rest := []) mw_X8_188 X hR hS e_N38 hl.1 (Nat.le_of_ble_eq_true rfl) ⟨Nat.le_of_ble_eq_true rfl, Nat.le_of_ble_eq_true rfl⟩ ⟨Nat.le_of_ble_eq_true rfl, Nat.le_of_ble_eq_true rfl⟩ dX8_giveJustRates_130 (fun H locs hR hS => ?_)
            refine lv_istore (lv' := [(4, .int x39), (3, .ref x17), (0, .ref v0), (1, .ref v1), (2, .int v2)]) hx hb dX8_giveJustRates_133 hl (by decide) rfl (fun ls hl => ?_)
            refine lv_aload_n hx hb dX8_giveJustRates_135 rfl (lv_at hl 2 rfl) ?_
            refine lv_aload_n hx hb dX8_giveJustRates_136 rfl (lv_at hl 1 rfl) ?_
            obtain ⟨x40, e_x40, hp⟩ := owp_ob hp
            refine gf_X8_109 X hR e_x40 dX8_giveJustRates_137 ?_
            refine lv_iload hx hb dX8_giveJustRates_140 (lv_at hl 0 rfl) ?_
            obtain ⟨_, N41, e_N41, hp⟩ := owp_ob2 hp
            refine iv_X8_spread (rest := []) mw_X8_194 X hR hS e_N41 hl.1 (Nat.le_of_ble_eq_true rfl) ⟨Nat.le_of_ble_eq_true rfl, Nat.le_of_ble_eq_true rfl⟩ ⟨Nat.le_of_ble_eq_true rfl, Nat.le_of_ble_eq_true rfl⟩ dX8_giveJustRates_142 (fun H locs hR hS => ?_)
            refine lv_iinc (v := v2 + 1) (lv' := [(2, .int (v2 + 1)), (4, .int x39), (3, .ref x17), (0, .ref v0), (1, .ref v1)]) hx hb dX8_giveJustRates_145 hl (k := 4) rfl rfl (by decide) rfl (fun ls hl => ?_)
            refine lv_goto (tgt := 49) hx hb dX8_giveJustRates_148 (by decide) ?_
            exact ih _ _ _ _ _ hR hS (lv_sub hl [3, 4, 0] rfl) hp
      · have hp := owp_f (fun q => q k26) hp
        refine lv_goto (tgt := 145) hx hb dX8_giveJustRates_102 (by decide) ?_
        refine lv_iinc (v := v2 + 1) (lv' := [(2, .int (v2 + 1)), (4, .int x21), (3, .ref x17), (0, .ref v0), (1, .ref v1)]) hx hb dX8_giveJustRates_145 hl (k := 4) rfl rfl (by decide) rfl (fun ls hl => ?_)
        refine lv_goto (tgt := 49) hx hb dX8_giveJustRates_148 (by decide) ?_
        exact ih _ _ _ _ _ hR hS (lv_sub hl [3, 4, 0] rfl) hp
def f_X8_giveJustRates (v0 : Nat) (v1 : Nat) (N : AH) : Option (Unit × AH) := ob (iO N v0 8) (fun _ => ob (hR N v1 7 7) (fun x1 => ob (hR N v0 8 3) (fun x2 => ob (cI N x1 (0 : Int32) x2 (0 : Int32) (16 : Int32)) (fun N3 => f_X8_giveJustRates_L17 v0 v1 (fun N11 => f_X8_giveJustRates_L49 v0 v1 (fun N42 => some ((), N42)) FU (0 : Int32) N11) FU (0 : Int32) N3))))
set_option maxHeartbeats 4000000 in
set_option maxRecDepth 100000 in
theorem wk_X8_giveJustRates {P : Unit × AH → Prop} (X : CX cX8_giveJustRates RX8 5 G aC t b0 p s m args c) (hr : RtV p l e rm_X8_giveJustRates s m args below meth c 0 0 Q cX8_giveJustRates G aC b0 P) (v0 : Nat) (v1 : Nat) (N : AH) (H : Heap) (locs : List Loc) (ls : Array Slot) (hR : Rp G aC b0 N H) (hS : va_S (fun q => b0 ≤ q) s.heap H locs) (hl : lv_has ls 5 [(0, .ref v0), (1, .ref v1)]) (hp : owp (f_X8_giveJustRates v0 v1 N) P) : W p l e rm_X8_giveJustRates s m args below meth c H locs 0 0 Q (F0 m 0 ls []) := by
  have hx := X.1.1
  have hb := X.1.2.1
  unfold f_X8_giveJustRates at hp
  obtain ⟨_, _, hp⟩ := owp_ob hp
  refine lv_aload_n hx hb dX8_giveJustRates_0 rfl (lv_at hl 1 rfl) ?_
  obtain ⟨x1, e_x1, hp⟩ := owp_ob hp
  refine gf_X8_113 X hR e_x1 dX8_giveJustRates_1 ?_
  refine lv_iconst (v := (0)) hx hb dX8_giveJustRates_4 (by decide) ?_
  refine lv_aload_n hx hb dX8_giveJustRates_5 rfl (lv_at hl 0 rfl) ?_
  obtain ⟨x2, e_x2, hp⟩ := owp_ob hp
  refine gf_X8_18 X hR e_x2 dX8_giveJustRates_6 ?_
  refine lv_iconst (v := (0)) hx hb dX8_giveJustRates_9 (by decide) ?_
  refine lv_bipush (v := (16)) hx hb dX8_giveJustRates_10 (by decide) ?_
  obtain ⟨N3, e_N3, hp⟩ := owp_ob hp
  refine ab_copy X hR hS (WT_of 695 (by decide +kernel) (by decide +kernel)) w_acN w_acS w_acI e_N3 hl.1 (Nat.le_of_ble_eq_true rfl) (Nat.le_of_ble_eq_true rfl) dX8_giveJustRates_12 (fun H locs hR hS => ?_)
  refine lv_iconst (v := (0)) hx hb dX8_giveJustRates_15 (by decide) ?_
  refine lv_istore_n (lv' := [(2, .int (0 : Int32)), (0, .ref v0), (1, .ref v1)]) hx hb dX8_giveJustRates_16 rfl hl (by decide) rfl (fun ls hl => ?_)
  refine w_X8_giveJustRates_L17 X hr _ _ (fun N11 H locs ls hR hS hl hp => ?_) _ _ _ _ _ _ hR hS (lv_sub hl [1, 2, 0] rfl) hp
  refine lv_iconst (v := (0)) hx hb dX8_giveJustRates_47 (by decide) ?_
  refine lv_istore_n (lv' := [(2, .int (0 : Int32)), (0, .ref v0), (1, .ref v1)]) hx hb dX8_giveJustRates_48 rfl hl (by decide) rfl (fun ls hl => ?_)
  refine w_X8_giveJustRates_L49 X hr _ _ (fun N42 H locs ls hR hS hl hp => ?_) _ _ _ _ _ _ hR hS (lv_sub hl [1, 2, 0] rfl) hp
  exact hr _ _ _ _ _ hR hS dX8_giveJustRates_151 hp
end
theorem ct_X8_giveJustRates {v0 : Nat} {v1 : Nat} {N N1 : AH} {r : Unit} (h : f_X8_giveJustRates v0 v1 N = some (r, N1)) : Ct yX8_giveJustRates cX8_giveJustRates 5 none rm_X8_giveJustRates [.ref v0, .ref v1] N none N1 :=
  ab_met (own := RX8) (by decide +kernel) rfl (Nat.le_of_ble_eq_true rfl) (fun l G aC t b0 p e s m below meth c ls X hr hlk hnm hR hS hl => wk_X8_giveJustRates X (RtV_met X.1.1 X.1.2.1 hr hlk) _ _ _ _ _ _ hR hS hl (owp_of h))
theorem cw_X8_giveJustRates : Cond.code yX8_giveJustRates cX8_giveJustRates 5 none ∈ WT := WT_of 694 (by decide +kernel) (by decide +kernel)
theorem iv_X8_giveJustRates {p : Program} {l : Launch} {e : Env} {R : Room} {s : State} {m : MethodId} {args : Array Value} {below : List Frame} {meth : Method} {c : Code} {H : Heap} {locs : List Loc} {cells slots : Nat} {Q : State → Prop} {cc : ByteArray} {own : String} {nL : Nat} {G : va_G} {aC : Nat → ClassId} {t b0 : Nat} {N N1 : AH} {pc index : Nat} {ls : Array Slot} {rest : List Value} {v0 : Nat} {v1 : Nat} {r : Unit} (w1 : Cond.methodLink own index yX8_giveJustRates ∈ WT) (X : CX cc own nL G aC t b0 p s m args c) (hR : Rp G aC b0 N H) (hS : va_S (fun q => b0 ≤ q) s.heap H locs) (h : f_X8_giveJustRates v0 v1 N = some (r, N1)) (hls : ls.size = nL) (hW : (rest.map fun v => v.category).sum ≤ 8) (hR1 : 4 ≤ R.frames ∧ 101 ≤ R.locals) (hcs : cells + 0 ≤ R.cells ∧ slots + 0 ≤ R.slots) (hdg : decode cc pc = .ok (.invokevirtual index, 3)) (kk : ∀ (H1 : Heap) (locs1 : List Loc), Rp G aC b0 N1 H1 → va_S (fun q => b0 ≤ q) s.heap H1 locs1 → W p l e R s m args below meth c H1 locs1 cells slots Q (F0 m (pc + 3) ls rest)) : W p l e R s m args below meth c H locs cells slots Q (F0 m pc ls (.ref v1 :: .ref v0 :: rest)) :=
  ab_callV (n := 1) (As := [.ref v1]) X hR hS (ct_X8_giveJustRates h) (ob_rc (c := 8) (N := N) (a := v0) h) (T := TX8) (k := 11) (C := RX8) rfl w1 (WT_of 692 (by decide +kernel) (by decide +kernel)) (WT_of 693 (by decide +kernel) (by decide +kernel)) (WT_of 89 (by decide +kernel) (by decide +kernel)) cw_X8_giveJustRates ⟨rfl, by decide +kernel, by decide +kernel, by decide +kernel⟩ rfl hls hW hR1 hcs rfl hdg kk
-- X8_shareSpare
theorem gf_X8_217 {p : Program} {l : Launch} {e : Env} {R : Room} {s : State} {m : MethodId} {args : Array Value} {below : List Frame} {meth : Method} {c : Code} {H : Heap} {locs : List Loc} {cells slots : Nat} {Q : State → Prop} {cc : ByteArray} {nL : Nat} {G : va_G} {aC : Nat → ClassId} {t b0 : Nat} {N : AH} {pc : Nat} {ls : Array Slot} {rest : List Value} {a : Nat} {v : Int32} (X : CX cc RX8 nL G aC t b0 p s m args c) (hR0 : Rp G aC b0 N H) (hv : hI N a 7 2 = some v) (hdg : decode cc pc = .ok (.getfield 217, 3)) (kk : W p l e R s m args below meth c H locs cells slots Q (F0 m (pc + 3) ls (.int v :: rest))) : W p l e R s m args below meth c H locs cells slots Q (F0 m pc ls (.ref a :: rest)) := by
  obtain ⟨fs, h1, h2⟩ := hI_ok hv
  exact ab_get (C := RX7) (T := TX7) (n := 12) X hR0 h1 h2 rfl inX7 (by decide) (WT_of 263 (by decide +kernel) (by decide +kernel)) hdg kk
theorem dX8_shareSpare_0 : decode cX8_shareSpare 0 = .ok (.aload_n 1, 1) := by decide +kernel
theorem dX8_shareSpare_1 : decode cX8_shareSpare 1 = .ok (.getfield 217, 3) := by decide +kernel
theorem dX8_shareSpare_4 : decode cX8_shareSpare 4 = .ok (.ifCond .ne 4, 3) := by decide +kernel
theorem dX8_shareSpare_7 : decode cX8_shareSpare 7 = .ok (.return_, 1) := by decide +kernel
theorem dX8_shareSpare_8 : decode cX8_shareSpare 8 = .ok (.iconst 0, 1) := by decide +kernel
theorem dX8_shareSpare_9 : decode cX8_shareSpare 9 = .ok (.istore_n 2, 1) := by decide +kernel
theorem dX8_shareSpare_10 : decode cX8_shareSpare 10 = .ok (.iload_n 2, 1) := by decide +kernel
theorem dX8_shareSpare_11 : decode cX8_shareSpare 11 = .ok (.aload_n 0, 1) := by decide +kernel
theorem dX8_shareSpare_12 : decode cX8_shareSpare 12 = .ok (.getfield 53, 3) := by decide +kernel
theorem dX8_shareSpare_15 : decode cX8_shareSpare 15 = .ok (.if_icmp .ge 101, 3) := by decide +kernel
theorem dX8_shareSpare_18 : decode cX8_shareSpare 18 = .ok (.aload_n 1, 1) := by decide +kernel
theorem dX8_shareSpare_19 : decode cX8_shareSpare 19 = .ok (.getfield 85, 3) := by decide +kernel
theorem dX8_shareSpare_22 : decode cX8_shareSpare 22 = .ok (.aload_n 0, 1) := by decide +kernel
theorem dX8_shareSpare_23 : decode cX8_shareSpare 23 = .ok (.getfield 9, 3) := by decide +kernel
theorem dX8_shareSpare_26 : decode cX8_shareSpare 26 = .ok (.iload_n 2, 1) := by decide +kernel
theorem dX8_shareSpare_27 : decode cX8_shareSpare 27 = .ok (.iaload, 1) := by decide +kernel
theorem dX8_shareSpare_28 : decode cX8_shareSpare 28 = .ok (.aaload, 1) := by decide +kernel
theorem dX8_shareSpare_29 : decode cX8_shareSpare 29 = .ok (.getfield 109, 3) := by decide +kernel
theorem dX8_shareSpare_32 : decode cX8_shareSpare 32 = .ok (.astore_n 3, 1) := by decide +kernel
theorem dX8_shareSpare_33 : decode cX8_shareSpare 33 = .ok (.iconst 0, 1) := by decide +kernel
theorem dX8_shareSpare_34 : decode cX8_shareSpare 34 = .ok (.istore 4, 2) := by decide +kernel
theorem dX8_shareSpare_36 : decode cX8_shareSpare 36 = .ok (.iload 4, 2) := by decide +kernel
theorem dX8_shareSpare_38 : decode cX8_shareSpare 38 = .ok (.aload_n 3, 1) := by decide +kernel
theorem dX8_shareSpare_39 : decode cX8_shareSpare 39 = .ok (.getfield 198, 3) := by decide +kernel
theorem dX8_shareSpare_42 : decode cX8_shareSpare 42 = .ok (.if_icmp .ge 68, 3) := by decide +kernel
theorem dX8_shareSpare_45 : decode cX8_shareSpare 45 = .ok (.aload_n 0, 1) := by decide +kernel
theorem dX8_shareSpare_46 : decode cX8_shareSpare 46 = .ok (.getfield 18, 3) := by decide +kernel
theorem dX8_shareSpare_49 : decode cX8_shareSpare 49 = .ok (.aload_n 3, 1) := by decide +kernel
theorem dX8_shareSpare_50 : decode cX8_shareSpare 50 = .ok (.getfield 211, 3) := by decide +kernel
theorem dX8_shareSpare_53 : decode cX8_shareSpare 53 = .ok (.iload 4, 2) := by decide +kernel
theorem dX8_shareSpare_55 : decode cX8_shareSpare 55 = .ok (.iaload, 1) := by decide +kernel
theorem dX8_shareSpare_56 : decode cX8_shareSpare 56 = .ok (.iaload, 1) := by decide +kernel
theorem dX8_shareSpare_57 : decode cX8_shareSpare 57 = .ok (.aload_n 0, 1) := by decide +kernel
theorem dX8_shareSpare_58 : decode cX8_shareSpare 58 = .ok (.getfield 18, 3) := by decide +kernel
theorem dX8_shareSpare_61 : decode cX8_shareSpare 61 = .ok (.bipush 8, 2) := by decide +kernel
theorem dX8_shareSpare_63 : decode cX8_shareSpare 63 = .ok (.aload_n 3, 1) := by decide +kernel
theorem dX8_shareSpare_64 : decode cX8_shareSpare 64 = .ok (.getfield 214, 3) := by decide +kernel
theorem dX8_shareSpare_67 : decode cX8_shareSpare 67 = .ok (.iload 4, 2) := by decide +kernel
theorem dX8_shareSpare_69 : decode cX8_shareSpare 69 = .ok (.iaload, 1) := by decide +kernel
theorem dX8_shareSpare_70 : decode cX8_shareSpare 70 = .ok (.iadd, 1) := by decide +kernel
theorem dX8_shareSpare_71 : decode cX8_shareSpare 71 = .ok (.iaload, 1) := by decide +kernel
theorem dX8_shareSpare_72 : decode cX8_shareSpare 72 = .ok (.invokestatic 220, 3) := by decide +kernel
theorem dX8_shareSpare_75 : decode cX8_shareSpare 75 = .ok (.istore 5, 2) := by decide +kernel
theorem dX8_shareSpare_77 : decode cX8_shareSpare 77 = .ok (.aload_n 0, 1) := by decide +kernel
theorem dX8_shareSpare_78 : decode cX8_shareSpare 78 = .ok (.aload_n 3, 1) := by decide +kernel
theorem dX8_shareSpare_79 : decode cX8_shareSpare 79 = .ok (.iload 4, 2) := by decide +kernel
theorem dX8_shareSpare_81 : decode cX8_shareSpare 81 = .ok (.iload 5, 2) := by decide +kernel
theorem dX8_shareSpare_83 : decode cX8_shareSpare 83 = .ok (.aload_n 3, 1) := by decide +kernel
theorem dX8_shareSpare_84 : decode cX8_shareSpare 84 = .ok (.getfield 201, 3) := by decide +kernel
theorem dX8_shareSpare_87 : decode cX8_shareSpare 87 = .ok (.iload 4, 2) := by decide +kernel
theorem dX8_shareSpare_89 : decode cX8_shareSpare 89 = .ok (.iaload, 1) := by decide +kernel
theorem dX8_shareSpare_90 : decode cX8_shareSpare 90 = .ok (.aload_n 3, 1) := by decide +kernel
theorem dX8_shareSpare_91 : decode cX8_shareSpare 91 = .ok (.getfield 179, 3) := by decide +kernel
theorem dX8_shareSpare_94 : decode cX8_shareSpare 94 = .ok (.iload 4, 2) := by decide +kernel
theorem dX8_shareSpare_96 : decode cX8_shareSpare 96 = .ok (.iaload, 1) := by decide +kernel
theorem dX8_shareSpare_97 : decode cX8_shareSpare 97 = .ok (.isub, 1) := by decide +kernel
theorem dX8_shareSpare_98 : decode cX8_shareSpare 98 = .ok (.invokestatic 220, 3) := by decide +kernel
theorem dX8_shareSpare_101 : decode cX8_shareSpare 101 = .ok (.invokevirtual 207, 3) := by decide +kernel
theorem dX8_shareSpare_104 : decode cX8_shareSpare 104 = .ok (.iinc 4 1, 3) := by decide +kernel
theorem dX8_shareSpare_107 : decode cX8_shareSpare 107 = .ok (.goto (-71), 3) := by decide +kernel
theorem dX8_shareSpare_110 : decode cX8_shareSpare 110 = .ok (.iinc 2 1, 3) := by decide +kernel
theorem dX8_shareSpare_113 : decode cX8_shareSpare 113 = .ok (.goto (-103), 3) := by decide +kernel
theorem dX8_shareSpare_116 : decode cX8_shareSpare 116 = .ok (.return_, 1) := by decide +kernel
def rm_X8_shareSpare : Room := { frames := 1, cells := 0, slots := 0, locals := 23 }
section
variable {p : Program} {l : Launch} {e : Env} {s : State} {m : MethodId} {args : Array Value} {below : List Frame} {meth : Method} {c : Code} {Q : State → Prop} {G : va_G} {aC : Nat → ClassId} {t b0 : Nat}
def f_X8_shareSpare_L36 (v0 : Nat) (v1 : Nat) (v2 : Int32) (v3 : Nat) (k110 : AH → Option (Unit × AH)) : Nat → Int32 → AH → Option (Unit × AH)
  | 0, _, _ => none
  | n + 1, v4, N => ob (hI N v3 1 0) (fun x10 => if x10 ≤ v4 then k110 N else ob (hR N v0 8 3) (fun x12 => ob (hR N v3 1 1) (fun x13 => ob (aI N x13 v4) (fun x14 => ob (aI N x12 x14) (fun x15 => ob (hR N v0 8 3) (fun x16 => ob (hR N v3 1 2) (fun x17 => ob (aI N x17 v4) (fun x18 => ob (aI N x16 ((8 : Int32) + x18)) (fun x19 => ob2 (f_J9_min_7cf53 x15 x19 N) (fun x21 N20 => ob (hR N20 v3 1 4) (fun x22 => ob (aI N20 x22 v4) (fun x23 => ob (hR N20 v3 1 5) (fun x24 => ob (aI N20 x24 v4) (fun x25 => ob2 (f_J9_min_7cf53 x21 (x23 - x25) N20) (fun x27 N26 => ob2 (f_X8_raise v0 v3 v4 x27 N26) (fun _ N28 => f_X8_shareSpare_L36 v0 v1 v2 v3 k110 n (v4 + 1) N28))))))))))))))))
set_option maxHeartbeats 4000000 in
set_option maxRecDepth 100000 in
theorem w_X8_shareSpare_L36 {P : Unit × AH → Prop} (X : CX cX8_shareSpare RX8 6 G aC t b0 p s m args c) (hr : RtV p l e rm_X8_shareSpare s m args below meth c 0 0 Q cX8_shareSpare G aC b0 P) (v0 : Nat) (v1 : Nat) (v2 : Int32) (v3 : Nat) {k110 : AH → Option (Unit × AH)}
    (hk110 : ∀ (N : AH) (H : Heap) (locs : List Loc) (ls : Array Slot), Rp G aC b0 N H → va_S (fun q => b0 ≤ q) s.heap H locs → lv_has ls 6 [(0, .ref v0), (1, .ref v1), (2, .int v2)] → owp (k110 N) P → W p l e rm_X8_shareSpare s m args below meth c H locs 0 0 Q (F0 m 110 ls [])) :
    ∀ (n : Nat) (v4 : Int32) (N : AH) (H : Heap) (locs : List Loc) (ls : Array Slot), Rp G aC b0 N H → va_S (fun q => b0 ≤ q) s.heap H locs → lv_has ls 6 [(0, .ref v0), (1, .ref v1), (2, .int v2), (3, .ref v3), (4, .int v4)] → owp (f_X8_shareSpare_L36 v0 v1 v2 v3 k110 n v4 N) P → W p l e rm_X8_shareSpare s m args below meth c H locs 0 0 Q (F0 m 36 ls []) := by
  have hx := X.1.1
  have hb := X.1.2.1
  intro n
  induction n with
  | zero =>
    intro v4 N H locs ls hR hS hl hp
    exact (show False from hp).elim
  | succ n ih =>
    intro v4 N H locs ls hR hS hl hp
    rw [f_X8_shareSpare_L36] at hp
    refine lv_iload hx hb dX8_shareSpare_36 (lv_at hl 4 rfl) ?_
    refine lv_aload_n hx hb dX8_shareSpare_38 rfl (lv_at hl 3 rfl) ?_
    obtain ⟨x10, e_x10, hp⟩ := owp_ob hp
    refine gf_X8_198 X hR e_x10 dX8_shareSpare_39 ?_
    refine lv_icmp_ge (tgt := 110) hx hb dX8_shareSpare_42 (by decide) (fun k11 => ?_) (fun k11 => ?_)
    · have hp := owp_t k11 hp
      exact hk110 _ _ _ _ hR hS (lv_sub hl [0, 1, 2] rfl) hp
    · have hp := owp_f k11 hp
      refine lv_aload_n hx hb dX8_shareSpare_45 rfl (lv_at hl 0 rfl) ?_
      obtain ⟨x12, e_x12, hp⟩ := owp_ob hp
      refine gf_X8_18 X hR e_x12 dX8_shareSpare_46 ?_
      refine lv_aload_n hx hb dX8_shareSpare_49 rfl (lv_at hl 3 rfl) ?_
      obtain ⟨x13, e_x13, hp⟩ := owp_ob hp
      refine gf_X8_211 X hR e_x13 dX8_shareSpare_50 ?_
      refine lv_iload hx hb dX8_shareSpare_53 (lv_at hl 4 rfl) ?_
      obtain ⟨x14, e_x14, hp⟩ := owp_ob hp
      refine ab_iald X hR e_x14 dX8_shareSpare_55 ?_
      obtain ⟨x15, e_x15, hp⟩ := owp_ob hp
      refine ab_iald X hR e_x15 dX8_shareSpare_56 ?_
      refine lv_aload_n hx hb dX8_shareSpare_57 rfl (lv_at hl 0 rfl) ?_
      obtain ⟨x16, e_x16, hp⟩ := owp_ob hp
      refine gf_X8_18 X hR e_x16 dX8_shareSpare_58 ?_
      refine lv_bipush (v := (8)) hx hb dX8_shareSpare_61 (by decide) ?_
      refine lv_aload_n hx hb dX8_shareSpare_63 rfl (lv_at hl 3 rfl) ?_
      obtain ⟨x17, e_x17, hp⟩ := owp_ob hp
      refine gf_X8_214 X hR e_x17 dX8_shareSpare_64 ?_
      refine lv_iload hx hb dX8_shareSpare_67 (lv_at hl 4 rfl) ?_
      obtain ⟨x18, e_x18, hp⟩ := owp_ob hp
      refine ab_iald X hR e_x18 dX8_shareSpare_69 ?_
      refine lv_iadd hx hb dX8_shareSpare_70 ?_
      obtain ⟨x19, e_x19, hp⟩ := owp_ob hp
      refine ab_iald X hR e_x19 dX8_shareSpare_71 ?_
      obtain ⟨x21, N20, e_N20, hp⟩ := owp_ob2 hp
      refine iv_J9_min_7cf53 (rest := []) mw_X8_220 X hR hS e_N20 hl.1 (Nat.le_of_ble_eq_true rfl) ⟨Nat.le_of_ble_eq_true rfl, Nat.le_of_ble_eq_true rfl⟩ ⟨Nat.le_of_ble_eq_true rfl, Nat.le_of_ble_eq_true rfl⟩ dX8_shareSpare_72 (fun H locs hR hS => ?_)
      refine lv_istore (lv' := [(5, .int x21), (0, .ref v0), (1, .ref v1), (2, .int v2), (3, .ref v3), (4, .int v4)]) hx hb dX8_shareSpare_75 hl (by decide) rfl (fun ls hl => ?_)
      refine lv_aload_n hx hb dX8_shareSpare_77 rfl (lv_at hl 1 rfl) ?_
      refine lv_aload_n hx hb dX8_shareSpare_78 rfl (lv_at hl 4 rfl) ?_
      refine lv_iload hx hb dX8_shareSpare_79 (lv_at hl 5 rfl) ?_
      refine lv_iload hx hb dX8_shareSpare_81 (lv_at hl 0 rfl) ?_
      refine lv_aload_n hx hb dX8_shareSpare_83 rfl (lv_at hl 4 rfl) ?_
      obtain ⟨x22, e_x22, hp⟩ := owp_ob hp
      refine gf_X8_201 X hR e_x22 dX8_shareSpare_84 ?_
      refine lv_iload hx hb dX8_shareSpare_87 (lv_at hl 5 rfl) ?_
      obtain ⟨x23, e_x23, hp⟩ := owp_ob hp
      refine ab_iald X hR e_x23 dX8_shareSpare_89 ?_
      refine lv_aload_n hx hb dX8_shareSpare_90 rfl (lv_at hl 4 rfl) ?_
      obtain ⟨x24, e_x24, hp⟩ := owp_ob hp
      refine gf_X8_179 X hR e_x24 dX8_shareSpare_91 ?_
      refine lv_iload hx hb dX8_shareSpare_94 (lv_at hl 5 rfl) ?_
      obtain ⟨x25, e_x25, hp⟩ := owp_ob hp
      refine ab_iald X hR e_x25 dX8_shareSpare_96 ?_
      refine lv_isub hx hb dX8_shareSpare_97 ?_
      obtain ⟨x27, N26, e_N26, hp⟩ := owp_ob2 hp
      refine iv_J9_min_7cf53 (rest := [.int v4, .ref v3, .ref v0]) mw_X8_220 X hR hS e_N26 hl.1 (Nat.le_of_ble_eq_true rfl) ⟨Nat.le_of_ble_eq_true rfl, Nat.le_of_ble_eq_true rfl⟩ ⟨Nat.le_of_ble_eq_true rfl, Nat.le_of_ble_eq_true rfl⟩ dX8_shareSpare_98 (fun H locs hR hS => ?_)
      obtain ⟨_, N28, e_N28, hp⟩ := owp_ob2 hp
      refine iv_X8_raise (rest := []) mw_X8_207 X hR hS e_N28 hl.1 (Nat.le_of_ble_eq_true rfl) ⟨Nat.le_of_ble_eq_true rfl, Nat.le_of_ble_eq_true rfl⟩ ⟨Nat.le_of_ble_eq_true rfl, Nat.le_of_ble_eq_true rfl⟩ dX8_shareSpare_101 (fun H locs hR hS => ?_)
      refine lv_iinc (v := v4 + 1) (lv' := [(4, .int (v4 + 1)), (5, .int x21), (0, .ref v0), (1, .ref v1), (2, .int v2), (3, .ref v3)]) hx hb dX8_shareSpare_104 hl (k := 5) rfl rfl (by decide) rfl (fun ls hl => ?_)
      refine lv_goto (tgt := 36) hx hb dX8_shareSpare_107 (by decide) ?_
      exact ih _ _ _ _ _ hR hS (lv_sub hl [2, 3, 4, 5, 0] rfl) hp
def f_X8_shareSpare_L10 (v0 : Nat) (v1 : Nat) (k116 : AH → Option (Unit × AH)) : Nat → Int32 → AH → Option (Unit × AH)
  | 0, _, _ => none
  | n + 1, v2, N => ob (hI N v0 8 0) (fun x3 => if x3 ≤ v2 then k116 N else ob (hR N v1 7 10) (fun x5 => ob (hR N v0 8 1) (fun x6 => ob (aI N x6 v2) (fun x7 => ob (aR N 2 x5 x7) (fun x8 => ob (hR N x8 4 5) (fun x9 => f_X8_shareSpare_L36 v0 v1 v2 x9 (fun N29 => f_X8_shareSpare_L10 v0 v1 k116 n (v2 + 1) N29) FU (0 : Int32) N))))))
set_option maxHeartbeats 4000000 in
set_option maxRecDepth 100000 in
theorem w_X8_shareSpare_L10 {P : Unit × AH → Prop} (X : CX cX8_shareSpare RX8 6 G aC t b0 p s m args c) (hr : RtV p l e rm_X8_shareSpare s m args below meth c 0 0 Q cX8_shareSpare G aC b0 P) (v0 : Nat) (v1 : Nat) {k116 : AH → Option (Unit × AH)}
    (hk116 : ∀ (N : AH) (H : Heap) (locs : List Loc) (ls : Array Slot), Rp G aC b0 N H → va_S (fun q => b0 ≤ q) s.heap H locs → lv_has ls 6 [] → owp (k116 N) P → W p l e rm_X8_shareSpare s m args below meth c H locs 0 0 Q (F0 m 116 ls [])) :
    ∀ (n : Nat) (v2 : Int32) (N : AH) (H : Heap) (locs : List Loc) (ls : Array Slot), Rp G aC b0 N H → va_S (fun q => b0 ≤ q) s.heap H locs → lv_has ls 6 [(0, .ref v0), (1, .ref v1), (2, .int v2)] → owp (f_X8_shareSpare_L10 v0 v1 k116 n v2 N) P → W p l e rm_X8_shareSpare s m args below meth c H locs 0 0 Q (F0 m 10 ls []) := by
  have hx := X.1.1
  have hb := X.1.2.1
  intro n
  induction n with
  | zero =>
    intro v2 N H locs ls hR hS hl hp
    exact (show False from hp).elim
  | succ n ih =>
    intro v2 N H locs ls hR hS hl hp
    rw [f_X8_shareSpare_L10] at hp
    refine lv_iload_n hx hb dX8_shareSpare_10 rfl (lv_at hl 2 rfl) ?_
    refine lv_aload_n hx hb dX8_shareSpare_11 rfl (lv_at hl 0 rfl) ?_
    obtain ⟨x3, e_x3, hp⟩ := owp_ob hp
    refine gf_X8_53 X hR e_x3 dX8_shareSpare_12 ?_
    refine lv_icmp_ge (tgt := 116) hx hb dX8_shareSpare_15 (by decide) (fun k4 => ?_) (fun k4 => ?_)
    · have hp := owp_t k4 hp
      exact hk116 _ _ _ _ hR hS (lv_sub hl [] rfl) hp
    · have hp := owp_f k4 hp
      refine lv_aload_n hx hb dX8_shareSpare_18 rfl (lv_at hl 1 rfl) ?_
      obtain ⟨x5, e_x5, hp⟩ := owp_ob hp
      refine gf_X8_85 X hR e_x5 dX8_shareSpare_19 ?_
      refine lv_aload_n hx hb dX8_shareSpare_22 rfl (lv_at hl 0 rfl) ?_
      obtain ⟨x6, e_x6, hp⟩ := owp_ob hp
      refine gf_X8_9 X hR e_x6 dX8_shareSpare_23 ?_
      refine lv_iload_n hx hb dX8_shareSpare_26 rfl (lv_at hl 2 rfl) ?_
      obtain ⟨x7, e_x7, hp⟩ := owp_ob hp
      refine ab_iald X hR e_x7 dX8_shareSpare_27 ?_
      obtain ⟨x8, e_x8, hp⟩ := owp_ob hp
      refine ab_aald X hR (kd := 2) rfl e_x8 dX8_shareSpare_28 ?_
      obtain ⟨x9, e_x9, hp⟩ := owp_ob hp
      refine gf_X8_109 X hR e_x9 dX8_shareSpare_29 ?_
      refine lv_astore_n (lv' := [(3, .ref x9), (0, .ref v0), (1, .ref v1), (2, .int v2)]) hx hb dX8_shareSpare_32 rfl hl (by decide) rfl (fun ls hl => ?_)
      refine lv_iconst (v := (0)) hx hb dX8_shareSpare_33 (by decide) ?_
      refine lv_istore (lv' := [(4, .int (0 : Int32)), (3, .ref x9), (0, .ref v0), (1, .ref v1), (2, .int v2)]) hx hb dX8_shareSpare_34 hl (by decide) rfl (fun ls hl => ?_)
      refine w_X8_shareSpare_L36 X hr _ _ _ _ (fun N29 H locs ls hR hS hl hp => ?_) _ _ _ _ _ _ hR hS (lv_sub hl [2, 3, 4, 1, 0] rfl) hp
      refine lv_iinc (v := v2 + 1) (lv' := [(2, .int (v2 + 1)), (0, .ref v0), (1, .ref v1)]) hx hb dX8_shareSpare_110 hl (k := 2) rfl rfl (by decide) rfl (fun ls hl => ?_)
      refine lv_goto (tgt := 10) hx hb dX8_shareSpare_113 (by decide) ?_
      exact ih _ _ _ _ _ hR hS (lv_sub hl [1, 2, 0] rfl) hp
def f_X8_shareSpare (v0 : Nat) (v1 : Nat) (N : AH) : Option (Unit × AH) := ob (iO N v0 8) (fun _ => ob (hI N v1 7 2) (fun x1 => if ¬ x1 = 0 then f_X8_shareSpare_L10 v0 v1 (fun N30 => some ((), N30)) FU (0 : Int32) N else some ((), N)))
set_option maxHeartbeats 4000000 in
set_option maxRecDepth 100000 in
theorem wk_X8_shareSpare {P : Unit × AH → Prop} (X : CX cX8_shareSpare RX8 6 G aC t b0 p s m args c) (hr : RtV p l e rm_X8_shareSpare s m args below meth c 0 0 Q cX8_shareSpare G aC b0 P) (v0 : Nat) (v1 : Nat) (N : AH) (H : Heap) (locs : List Loc) (ls : Array Slot) (hR : Rp G aC b0 N H) (hS : va_S (fun q => b0 ≤ q) s.heap H locs) (hl : lv_has ls 6 [(0, .ref v0), (1, .ref v1)]) (hp : owp (f_X8_shareSpare v0 v1 N) P) : W p l e rm_X8_shareSpare s m args below meth c H locs 0 0 Q (F0 m 0 ls []) := by
  have hx := X.1.1
  have hb := X.1.2.1
  unfold f_X8_shareSpare at hp
  obtain ⟨_, _, hp⟩ := owp_ob hp
  refine lv_aload_n hx hb dX8_shareSpare_0 rfl (lv_at hl 1 rfl) ?_
  obtain ⟨x1, e_x1, hp⟩ := owp_ob hp
  refine gf_X8_217 X hR e_x1 dX8_shareSpare_1 ?_
  refine lv_if_ne (tgt := 8) hx hb dX8_shareSpare_4 (by decide) (fun k2 => ?_) (fun k2 => ?_)
  · have hp := owp_t k2 hp
    refine lv_iconst (v := (0)) hx hb dX8_shareSpare_8 (by decide) ?_
    refine lv_istore_n (lv' := [(2, .int (0 : Int32)), (0, .ref v0), (1, .ref v1)]) hx hb dX8_shareSpare_9 rfl hl (by decide) rfl (fun ls hl => ?_)
    refine w_X8_shareSpare_L10 X hr _ _ (fun N30 H locs ls hR hS hl hp => ?_) _ _ _ _ _ _ hR hS (lv_sub hl [1, 2, 0] rfl) hp
    exact hr _ _ _ _ _ hR hS dX8_shareSpare_116 hp
  · have hp := owp_f (fun q => q k2) hp
    exact hr _ _ _ _ _ hR hS dX8_shareSpare_7 hp
end
theorem ct_X8_shareSpare {v0 : Nat} {v1 : Nat} {N N1 : AH} {r : Unit} (h : f_X8_shareSpare v0 v1 N = some (r, N1)) : Ct yX8_shareSpare cX8_shareSpare 6 none rm_X8_shareSpare [.ref v0, .ref v1] N none N1 :=
  ab_met (own := RX8) (by decide +kernel) rfl (Nat.le_of_ble_eq_true rfl) (fun l G aC t b0 p e s m below meth c ls X hr hlk hnm hR hS hl => wk_X8_shareSpare X (RtV_met X.1.1 X.1.2.1 hr hlk) _ _ _ _ _ _ hR hS hl (owp_of h))
theorem cw_X8_shareSpare : Cond.code yX8_shareSpare cX8_shareSpare 6 none ∈ WT := WT_of 707 (by decide +kernel) (by decide +kernel)
theorem iv_X8_shareSpare {p : Program} {l : Launch} {e : Env} {R : Room} {s : State} {m : MethodId} {args : Array Value} {below : List Frame} {meth : Method} {c : Code} {H : Heap} {locs : List Loc} {cells slots : Nat} {Q : State → Prop} {cc : ByteArray} {own : String} {nL : Nat} {G : va_G} {aC : Nat → ClassId} {t b0 : Nat} {N N1 : AH} {pc index : Nat} {ls : Array Slot} {rest : List Value} {v0 : Nat} {v1 : Nat} {r : Unit} (w1 : Cond.methodLink own index yX8_shareSpare ∈ WT) (X : CX cc own nL G aC t b0 p s m args c) (hR : Rp G aC b0 N H) (hS : va_S (fun q => b0 ≤ q) s.heap H locs) (h : f_X8_shareSpare v0 v1 N = some (r, N1)) (hls : ls.size = nL) (hW : (rest.map fun v => v.category).sum ≤ 8) (hR1 : 2 ≤ R.frames ∧ 48 ≤ R.locals) (hcs : cells + 0 ≤ R.cells ∧ slots + 0 ≤ R.slots) (hdg : decode cc pc = .ok (.invokevirtual index, 3)) (kk : ∀ (H1 : Heap) (locs1 : List Loc), Rp G aC b0 N1 H1 → va_S (fun q => b0 ≤ q) s.heap H1 locs1 → W p l e R s m args below meth c H1 locs1 cells slots Q (F0 m (pc + 3) ls rest)) : W p l e R s m args below meth c H locs cells slots Q (F0 m pc ls (.ref v1 :: .ref v0 :: rest)) :=
  ab_callV (n := 1) (As := [.ref v1]) X hR hS (ct_X8_shareSpare h) (ob_rc (c := 8) (N := N) (a := v0) h) (T := TX8) (k := 11) (C := RX8) rfl w1 (WT_of 705 (by decide +kernel) (by decide +kernel)) (WT_of 706 (by decide +kernel) (by decide +kernel)) (WT_of 89 (by decide +kernel) (by decide +kernel)) cw_X8_shareSpare ⟨rfl, by decide +kernel, by decide +kernel, by decide +kernel⟩ rfl hls hW hR1 hcs rfl hdg kk
-- X3_planTick
theorem gf_X3_12 {p : Program} {l : Launch} {e : Env} {R : Room} {s : State} {m : MethodId} {args : Array Value} {below : List Frame} {meth : Method} {c : Code} {H : Heap} {locs : List Loc} {cells slots : Nat} {Q : State → Prop} {cc : ByteArray} {nL : Nat} {G : va_G} {aC : Nat → ClassId} {t b0 : Nat} {N : AH} {pc : Nat} {ls : Array Slot} {rest : List Value} {a : Nat} {v : Nat} (X : CX cc RX3 nL G aC t b0 p s m args c) (hR0 : Rp G aC b0 N H) (hv : hR N a 3 0 = some v) (hdg : decode cc pc = .ok (.getfield 12, 3)) (kk : W p l e R s m args below meth c H locs cells slots Q (F0 m (pc + 3) ls (.ref v :: rest))) : W p l e R s m args below meth c H locs cells slots Q (F0 m pc ls (.ref a :: rest)) := by
  obtain ⟨fs, h1, h2⟩ := hR_ok hv
  exact ab_get (C := RX3) (T := TX3) (n := 7) X hR0 h1 h2 rfl inX3 (by decide) (WT_of 407 (by decide +kernel) (by decide +kernel)) hdg kk
theorem gf_X3_21 {p : Program} {l : Launch} {e : Env} {R : Room} {s : State} {m : MethodId} {args : Array Value} {below : List Frame} {meth : Method} {c : Code} {H : Heap} {locs : List Loc} {cells slots : Nat} {Q : State → Prop} {cc : ByteArray} {nL : Nat} {G : va_G} {aC : Nat → ClassId} {t b0 : Nat} {N : AH} {pc : Nat} {ls : Array Slot} {rest : List Value} {a : Nat} {v : Nat} (X : CX cc RX3 nL G aC t b0 p s m args c) (hR0 : Rp G aC b0 N H) (hv : hR N a 3 1 = some v) (hdg : decode cc pc = .ok (.getfield 21, 3)) (kk : W p l e R s m args below meth c H locs cells slots Q (F0 m (pc + 3) ls (.ref v :: rest))) : W p l e R s m args below meth c H locs cells slots Q (F0 m pc ls (.ref a :: rest)) := by
  obtain ⟨fs, h1, h2⟩ := hR_ok hv
  exact ab_get (C := RX3) (T := TX3) (n := 7) X hR0 h1 h2 rfl inX3 (by decide) (WT_of 409 (by decide +kernel) (by decide +kernel)) hdg kk
theorem mw_X3_43 : Cond.methodLink RX3 43 yX7_copyFrom ∈ WT := WT_of 800 (by decide +kernel) (by decide +kernel)
theorem mw_X3_47 : Cond.methodLink RX3 47 yX8_putInOrder ∈ WT := WT_of 801 (by decide +kernel) (by decide +kernel)
theorem mw_X3_50 : Cond.methodLink RX3 50 yX8_giveJustRates ∈ WT := WT_of 802 (by decide +kernel) (by decide +kernel)
theorem mw_X3_53 : Cond.methodLink RX3 53 yX8_shareSpare ∈ WT := WT_of 803 (by decide +kernel) (by decide +kernel)
theorem dX3_planTick_0 : decode cX3_planTick 0 = .ok (.aload_n 0, 1) := by decide +kernel
theorem dX3_planTick_1 : decode cX3_planTick 1 = .ok (.getfield 12, 3) := by decide +kernel
theorem dX3_planTick_4 : decode cX3_planTick 4 = .ok (.aload_n 1, 1) := by decide +kernel
theorem dX3_planTick_5 : decode cX3_planTick 5 = .ok (.invokevirtual 43, 3) := by decide +kernel
theorem dX3_planTick_8 : decode cX3_planTick 8 = .ok (.aload_n 0, 1) := by decide +kernel
theorem dX3_planTick_9 : decode cX3_planTick 9 = .ok (.getfield 21, 3) := by decide +kernel
theorem dX3_planTick_12 : decode cX3_planTick 12 = .ok (.aload_n 0, 1) := by decide +kernel
theorem dX3_planTick_13 : decode cX3_planTick 13 = .ok (.getfield 12, 3) := by decide +kernel
theorem dX3_planTick_16 : decode cX3_planTick 16 = .ok (.invokevirtual 47, 3) := by decide +kernel
theorem dX3_planTick_19 : decode cX3_planTick 19 = .ok (.aload_n 0, 1) := by decide +kernel
theorem dX3_planTick_20 : decode cX3_planTick 20 = .ok (.getfield 21, 3) := by decide +kernel
theorem dX3_planTick_23 : decode cX3_planTick 23 = .ok (.aload_n 0, 1) := by decide +kernel
theorem dX3_planTick_24 : decode cX3_planTick 24 = .ok (.getfield 12, 3) := by decide +kernel
theorem dX3_planTick_27 : decode cX3_planTick 27 = .ok (.invokevirtual 50, 3) := by decide +kernel
theorem dX3_planTick_30 : decode cX3_planTick 30 = .ok (.aload_n 0, 1) := by decide +kernel
theorem dX3_planTick_31 : decode cX3_planTick 31 = .ok (.getfield 21, 3) := by decide +kernel
theorem dX3_planTick_34 : decode cX3_planTick 34 = .ok (.aload_n 0, 1) := by decide +kernel
theorem dX3_planTick_35 : decode cX3_planTick 35 = .ok (.getfield 12, 3) := by decide +kernel
theorem dX3_planTick_38 : decode cX3_planTick 38 = .ok (.invokevirtual 53, 3) := by decide +kernel
theorem dX3_planTick_41 : decode cX3_planTick 41 = .ok (.return_, 1) := by decide +kernel
def rm_X3_planTick : Room := { frames := 4, cells := 0, slots := 0, locals := 101 }
section
variable {p : Program} {l : Launch} {e : Env} {s : State} {m : MethodId} {args : Array Value} {below : List Frame} {meth : Method} {c : Code} {Q : State → Prop} {G : va_G} {aC : Nat → ClassId} {t b0 : Nat}
def f_X3_planTick (v0 : Nat) (v1 : Nat) (N : AH) : Option (Unit × AH) := ob (iO N v0 3) (fun _ => ob (hR N v0 3 0) (fun x1 => ob2 (f_X7_copyFrom x1 v1 N) (fun _ N2 => ob (hR N2 v0 3 1) (fun x3 => ob (hR N2 v0 3 0) (fun x4 => ob2 (f_X8_putInOrder x3 x4 N2) (fun _ N5 => ob (hR N5 v0 3 1) (fun x6 => ob (hR N5 v0 3 0) (fun x7 => ob2 (f_X8_giveJustRates x6 x7 N5) (fun _ N8 => ob (hR N8 v0 3 1) (fun x9 => ob (hR N8 v0 3 0) (fun x10 => ob2 (f_X8_shareSpare x9 x10 N8) (fun _ N11 => some ((), N11)))))))))))))
set_option maxHeartbeats 4000000 in
set_option maxRecDepth 100000 in
theorem wk_X3_planTick {P : Unit × AH → Prop} (X : CX cX3_planTick RX3 2 G aC t b0 p s m args c) (hr : RtV p l e rm_X3_planTick s m args below meth c 0 0 Q cX3_planTick G aC b0 P) (v0 : Nat) (v1 : Nat) (N : AH) (H : Heap) (locs : List Loc) (ls : Array Slot) (hR : Rp G aC b0 N H) (hS : va_S (fun q => b0 ≤ q) s.heap H locs) (hl : lv_has ls 2 [(0, .ref v0), (1, .ref v1)]) (hp : owp (f_X3_planTick v0 v1 N) P) : W p l e rm_X3_planTick s m args below meth c H locs 0 0 Q (F0 m 0 ls []) := by
  have hx := X.1.1
  have hb := X.1.2.1
  unfold f_X3_planTick at hp
  obtain ⟨_, _, hp⟩ := owp_ob hp
  refine lv_aload_n hx hb dX3_planTick_0 rfl (lv_at hl 0 rfl) ?_
  obtain ⟨x1, e_x1, hp⟩ := owp_ob hp
  refine gf_X3_12 X hR e_x1 dX3_planTick_1 ?_
  refine lv_aload_n hx hb dX3_planTick_4 rfl (lv_at hl 1 rfl) ?_
  obtain ⟨_, N2, e_N2, hp⟩ := owp_ob2 hp
  refine iv_X7_copyFrom (rest := []) mw_X3_43 X hR hS e_N2 hl.1 (Nat.le_of_ble_eq_true rfl) ⟨Nat.le_of_ble_eq_true rfl, Nat.le_of_ble_eq_true rfl⟩ ⟨Nat.le_of_ble_eq_true rfl, Nat.le_of_ble_eq_true rfl⟩ dX3_planTick_5 (fun H locs hR hS => ?_)
  refine lv_aload_n hx hb dX3_planTick_8 rfl (lv_at hl 0 rfl) ?_
  obtain ⟨x3, e_x3, hp⟩ := owp_ob hp
  refine gf_X3_21 X hR e_x3 dX3_planTick_9 ?_
  refine lv_aload_n hx hb dX3_planTick_12 rfl (lv_at hl 0 rfl) ?_
  obtain ⟨x4, e_x4, hp⟩ := owp_ob hp
  refine gf_X3_12 X hR e_x4 dX3_planTick_13 ?_
  obtain ⟨_, N5, e_N5, hp⟩ := owp_ob2 hp
  refine iv_X8_putInOrder (rest := []) mw_X3_47 X hR hS e_N5 hl.1 (Nat.le_of_ble_eq_true rfl) ⟨Nat.le_of_ble_eq_true rfl, Nat.le_of_ble_eq_true rfl⟩ ⟨Nat.le_of_ble_eq_true rfl, Nat.le_of_ble_eq_true rfl⟩ dX3_planTick_16 (fun H locs hR hS => ?_)
  refine lv_aload_n hx hb dX3_planTick_19 rfl (lv_at hl 0 rfl) ?_
  obtain ⟨x6, e_x6, hp⟩ := owp_ob hp
  refine gf_X3_21 X hR e_x6 dX3_planTick_20 ?_
  refine lv_aload_n hx hb dX3_planTick_23 rfl (lv_at hl 0 rfl) ?_
  obtain ⟨x7, e_x7, hp⟩ := owp_ob hp
  refine gf_X3_12 X hR e_x7 dX3_planTick_24 ?_
  obtain ⟨_, N8, e_N8, hp⟩ := owp_ob2 hp
  refine iv_X8_giveJustRates (rest := []) mw_X3_50 X hR hS e_N8 hl.1 (Nat.le_of_ble_eq_true rfl) ⟨Nat.le_of_ble_eq_true rfl, Nat.le_of_ble_eq_true rfl⟩ ⟨Nat.le_of_ble_eq_true rfl, Nat.le_of_ble_eq_true rfl⟩ dX3_planTick_27 (fun H locs hR hS => ?_)
  refine lv_aload_n hx hb dX3_planTick_30 rfl (lv_at hl 0 rfl) ?_
  obtain ⟨x9, e_x9, hp⟩ := owp_ob hp
  refine gf_X3_21 X hR e_x9 dX3_planTick_31 ?_
  refine lv_aload_n hx hb dX3_planTick_34 rfl (lv_at hl 0 rfl) ?_
  obtain ⟨x10, e_x10, hp⟩ := owp_ob hp
  refine gf_X3_12 X hR e_x10 dX3_planTick_35 ?_
  obtain ⟨_, N11, e_N11, hp⟩ := owp_ob2 hp
  refine iv_X8_shareSpare (rest := []) mw_X3_53 X hR hS e_N11 hl.1 (Nat.le_of_ble_eq_true rfl) ⟨Nat.le_of_ble_eq_true rfl, Nat.le_of_ble_eq_true rfl⟩ ⟨Nat.le_of_ble_eq_true rfl, Nat.le_of_ble_eq_true rfl⟩ dX3_planTick_38 (fun H locs hR hS => ?_)
  exact hr _ _ _ _ _ hR hS dX3_planTick_41 hp
end
theorem ct_X3_planTick {v0 : Nat} {v1 : Nat} {N N1 : AH} {r : Unit} (h : f_X3_planTick v0 v1 N = some (r, N1)) : Ct yX3_planTick cX3_planTick 2 none rm_X3_planTick [.ref v0, .ref v1] N none N1 :=
  ab_met (own := RX3) (by decide +kernel) rfl (Nat.le_of_ble_eq_true rfl) (fun l G aC t b0 p e s m below meth c ls X hr hlk hnm hR hS hl => wk_X3_planTick X (RtV_met X.1.1 X.1.2.1 hr hlk) _ _ _ _ _ _ hR hS hl (owp_of h))
theorem cw_X3_planTick : Cond.code yX3_planTick cX3_planTick 2 none ∈ WT := WT_of 799 (by decide +kernel) (by decide +kernel)
theorem iv_X3_planTick {p : Program} {l : Launch} {e : Env} {R : Room} {s : State} {m : MethodId} {args : Array Value} {below : List Frame} {meth : Method} {c : Code} {H : Heap} {locs : List Loc} {cells slots : Nat} {Q : State → Prop} {cc : ByteArray} {own : String} {nL : Nat} {G : va_G} {aC : Nat → ClassId} {t b0 : Nat} {N N1 : AH} {pc index : Nat} {ls : Array Slot} {rest : List Value} {v0 : Nat} {v1 : Nat} {r : Unit} (w1 : Cond.methodLink own index yX3_planTick ∈ WT) (X : CX cc own nL G aC t b0 p s m args c) (hR : Rp G aC b0 N H) (hS : va_S (fun q => b0 ≤ q) s.heap H locs) (h : f_X3_planTick v0 v1 N = some (r, N1)) (hls : ls.size = nL) (hW : (rest.map fun v => v.category).sum ≤ 8) (hR1 : 5 ≤ R.frames ∧ 122 ≤ R.locals) (hcs : cells + 0 ≤ R.cells ∧ slots + 0 ≤ R.slots) (hdg : decode cc pc = .ok (.invokevirtual index, 3)) (kk : ∀ (H1 : Heap) (locs1 : List Loc), Rp G aC b0 N1 H1 → va_S (fun q => b0 ≤ q) s.heap H1 locs1 → W p l e R s m args below meth c H1 locs1 cells slots Q (F0 m (pc + 3) ls rest)) : W p l e R s m args below meth c H locs cells slots Q (F0 m pc ls (.ref v1 :: .ref v0 :: rest)) :=
  ab_callV (n := 1) (As := [.ref v1]) X hR hS (ct_X3_planTick h) (ob_rc (c := 3) (N := N) (a := v0) h) (T := TX3) (k := 7) (C := RX3) rfl w1 (WT_of 797 (by decide +kernel) (by decide +kernel)) (WT_of 798 (by decide +kernel) (by decide +kernel)) (WT_of 91 (by decide +kernel) (by decide +kernel)) cw_X3_planTick ⟨rfl, by decide +kernel, by decide +kernel, by decide +kernel⟩ rfl hls hW hR1 hcs rfl hdg kk
-- X4_isOpen
theorem dX4_isOpen_0 : decode cX4_isOpen 0 = .ok (.aload_n 0, 1) := by decide +kernel
theorem dX4_isOpen_1 : decode cX4_isOpen 1 = .ok (.getfield 31, 3) := by decide +kernel
theorem dX4_isOpen_4 : decode cX4_isOpen 4 = .ok (.ifCond .ne 15, 3) := by decide +kernel
theorem dX4_isOpen_7 : decode cX4_isOpen 7 = .ok (.aload_n 0, 1) := by decide +kernel
theorem dX4_isOpen_8 : decode cX4_isOpen 8 = .ok (.getfield 28, 3) := by decide +kernel
theorem dX4_isOpen_11 : decode cX4_isOpen 11 = .ok (.iconst (-1), 1) := by decide +kernel
theorem dX4_isOpen_12 : decode cX4_isOpen 12 = .ok (.if_icmp .ne 7, 3) := by decide +kernel
theorem dX4_isOpen_15 : decode cX4_isOpen 15 = .ok (.iconst 1, 1) := by decide +kernel
theorem dX4_isOpen_16 : decode cX4_isOpen 16 = .ok (.goto 4, 3) := by decide +kernel
theorem dX4_isOpen_19 : decode cX4_isOpen 19 = .ok (.iconst 0, 1) := by decide +kernel
theorem dX4_isOpen_20 : decode cX4_isOpen 20 = .ok (.ireturn, 1) := by decide +kernel
def rm_X4_isOpen : Room := { frames := 0, cells := 0, slots := 0, locals := 0 }
section
variable {p : Program} {l : Launch} {e : Env} {s : State} {m : MethodId} {args : Array Value} {below : List Frame} {meth : Method} {c : Code} {Q : State → Prop} {G : va_G} {aC : Nat → ClassId} {t b0 : Nat}
def f_X4_isOpen (v0 : Nat) (N : AH) : Option (Int32 × AH) := ob (iO N v0 4) (fun _ => ob (hI N v0 4 4) (fun x1 => if ¬ x1 = 0 then some ((0 : Int32), N) else ob (hI N v0 4 3) (fun x3 => if ¬ x3 = (-1 : Int32) then some ((0 : Int32), N) else some ((1 : Int32), N))))
set_option maxHeartbeats 4000000 in
set_option maxRecDepth 100000 in
theorem wk_X4_isOpen {P : Int32 × AH → Prop} (X : CX cX4_isOpen RX4 1 G aC t b0 p s m args c) (hr : RtZ p l e rm_X4_isOpen s m args below meth c 0 0 Q cX4_isOpen G aC b0 P) (v0 : Nat) (N : AH) (H : Heap) (locs : List Loc) (ls : Array Slot) (hR : Rp G aC b0 N H) (hS : va_S (fun q => b0 ≤ q) s.heap H locs) (hl : lv_has ls 1 [(0, .ref v0)]) (hp : owp (f_X4_isOpen v0 N) P) : W p l e rm_X4_isOpen s m args below meth c H locs 0 0 Q (F0 m 0 ls []) := by
  have hx := X.1.1
  have hb := X.1.2.1
  unfold f_X4_isOpen at hp
  obtain ⟨_, _, hp⟩ := owp_ob hp
  refine lv_aload_n hx hb dX4_isOpen_0 rfl (lv_at hl 0 rfl) ?_
  obtain ⟨x1, e_x1, hp⟩ := owp_ob hp
  refine gf_X4_31 X hR e_x1 dX4_isOpen_1 ?_
  refine lv_if_ne (tgt := 19) hx hb dX4_isOpen_4 (by decide) (fun k2 => ?_) (fun k2 => ?_)
  · have hp := owp_t k2 hp
    refine lv_iconst (v := (0)) hx hb dX4_isOpen_19 (by decide) ?_
    exact hr _ _ _ _ _ _ hR hS dX4_isOpen_20 (rZ_0 hp)
  · have hp := owp_f (fun q => q k2) hp
    refine lv_aload_n hx hb dX4_isOpen_7 rfl (lv_at hl 0 rfl) ?_
    obtain ⟨x3, e_x3, hp⟩ := owp_ob hp
    refine gf_X4_28 X hR e_x3 dX4_isOpen_8 ?_
    refine lv_iconst (v := (-1)) hx hb dX4_isOpen_11 (by decide) ?_
    refine lv_icmp_ne (tgt := 19) hx hb dX4_isOpen_12 (by decide) (fun k4 => ?_) (fun k4 => ?_)
    · have hp := owp_t k4 hp
      refine lv_iconst (v := (0)) hx hb dX4_isOpen_19 (by decide) ?_
      exact hr _ _ _ _ _ _ hR hS dX4_isOpen_20 (rZ_0 hp)
    · have hp := owp_f (fun q => q k4) hp
      refine lv_iconst (v := (1)) hx hb dX4_isOpen_15 (by decide) ?_
      refine lv_goto (tgt := 20) hx hb dX4_isOpen_16 (by decide) ?_
      exact hr _ _ _ _ _ _ hR hS dX4_isOpen_20 (rZ_1 hp)
end
theorem ct_X4_isOpen {v0 : Nat} {N N1 : AH} {r : Int32} (h : f_X4_isOpen v0 N = some (r, N1)) : Ct yX4_isOpen cX4_isOpen 1 (some .boolean) rm_X4_isOpen [.ref v0] N (some (.int r)) N1 :=
  ab_met (own := RX4) (by decide +kernel) rfl (Nat.le_of_ble_eq_true rfl) (fun l G aC t b0 p e s m below meth c ls X hr hlk hnm hR hS hl => wk_X4_isOpen X (RtZ_met X.1.1 X.1.2.1 hr hlk) _ _ _ _ _ hR hS hl (owp_of h))
theorem cw_X4_isOpen : Cond.code yX4_isOpen cX4_isOpen 1 (some .boolean) ∈ WT := WT_of 567 (by decide +kernel) (by decide +kernel)
theorem iv_X4_isOpen {p : Program} {l : Launch} {e : Env} {R : Room} {s : State} {m : MethodId} {args : Array Value} {below : List Frame} {meth : Method} {c : Code} {H : Heap} {locs : List Loc} {cells slots : Nat} {Q : State → Prop} {cc : ByteArray} {own : String} {nL : Nat} {G : va_G} {aC : Nat → ClassId} {t b0 : Nat} {N N1 : AH} {pc index : Nat} {ls : Array Slot} {rest : List Value} {v0 : Nat} {r : Int32} (w1 : Cond.methodLink own index yX4_isOpen ∈ WT) (X : CX cc own nL G aC t b0 p s m args c) (hR : Rp G aC b0 N H) (hS : va_S (fun q => b0 ≤ q) s.heap H locs) (h : f_X4_isOpen v0 N = some (r, N1)) (hls : ls.size = nL) (hW : (rest.map fun v => v.category).sum ≤ 8) (hR1 : 1 ≤ R.frames ∧ 20 ≤ R.locals) (hcs : cells + 0 ≤ R.cells ∧ slots + 0 ≤ R.slots) (hdg : decode cc pc = .ok (.invokevirtual index, 3)) (kk : ∀ (H1 : Heap) (locs1 : List Loc), Rp G aC b0 N1 H1 → va_S (fun q => b0 ≤ q) s.heap H1 locs1 → W p l e R s m args below meth c H1 locs1 cells slots Q (F0 m (pc + 3) ls (.int r :: rest))) : W p l e R s m args below meth c H locs cells slots Q (F0 m pc ls (.ref v0 :: rest)) :=
  ab_callV (n := 0) (As := []) X hR hS (ct_X4_isOpen h) (ob_rc (c := 4) (N := N) (a := v0) h) (T := TX4) (k := 6) (C := RX4) rfl w1 (WT_of 565 (by decide +kernel) (by decide +kernel)) (WT_of 566 (by decide +kernel) (by decide +kernel)) (WT_of 86 (by decide +kernel) (by decide +kernel)) cw_X4_isOpen ⟨rfl, by decide +kernel, by decide +kernel, by decide +kernel⟩ rfl hls hW hR1 hcs rfl hdg kk
-- X7_countOpen
theorem mw_X7_117 : Cond.methodLink RX7 117 yX4_isOpen ∈ WT := WT_of 681 (by decide +kernel) (by decide +kernel)
theorem dX7_countOpen_0 : decode cX7_countOpen 0 = .ok (.iconst 0, 1) := by decide +kernel
theorem dX7_countOpen_1 : decode cX7_countOpen 1 = .ok (.istore_n 1, 1) := by decide +kernel
theorem dX7_countOpen_2 : decode cX7_countOpen 2 = .ok (.iconst 0, 1) := by decide +kernel
theorem dX7_countOpen_3 : decode cX7_countOpen 3 = .ok (.istore_n 2, 1) := by decide +kernel
theorem dX7_countOpen_4 : decode cX7_countOpen 4 = .ok (.iload_n 2, 1) := by decide +kernel
theorem dX7_countOpen_5 : decode cX7_countOpen 5 = .ok (.aload_n 0, 1) := by decide +kernel
theorem dX7_countOpen_6 : decode cX7_countOpen 6 = .ok (.getfield 65, 3) := by decide +kernel
theorem dX7_countOpen_9 : decode cX7_countOpen 9 = .ok (.if_icmp .ge 24, 3) := by decide +kernel
theorem dX7_countOpen_12 : decode cX7_countOpen 12 = .ok (.aload_n 0, 1) := by decide +kernel
theorem dX7_countOpen_13 : decode cX7_countOpen 13 = .ok (.getfield 41, 3) := by decide +kernel
theorem dX7_countOpen_16 : decode cX7_countOpen 16 = .ok (.iload_n 2, 1) := by decide +kernel
theorem dX7_countOpen_17 : decode cX7_countOpen 17 = .ok (.aaload, 1) := by decide +kernel
theorem dX7_countOpen_18 : decode cX7_countOpen 18 = .ok (.invokevirtual 117, 3) := by decide +kernel
theorem dX7_countOpen_21 : decode cX7_countOpen 21 = .ok (.ifCond .eq 6, 3) := by decide +kernel
theorem dX7_countOpen_24 : decode cX7_countOpen 24 = .ok (.iinc 1 1, 3) := by decide +kernel
theorem dX7_countOpen_27 : decode cX7_countOpen 27 = .ok (.iinc 2 1, 3) := by decide +kernel
theorem dX7_countOpen_30 : decode cX7_countOpen 30 = .ok (.goto (-26), 3) := by decide +kernel
theorem dX7_countOpen_33 : decode cX7_countOpen 33 = .ok (.iload_n 1, 1) := by decide +kernel
theorem dX7_countOpen_34 : decode cX7_countOpen 34 = .ok (.ireturn, 1) := by decide +kernel
def rm_X7_countOpen : Room := { frames := 1, cells := 0, slots := 0, locals := 20 }
section
variable {p : Program} {l : Launch} {e : Env} {s : State} {m : MethodId} {args : Array Value} {below : List Frame} {meth : Method} {c : Code} {Q : State → Prop} {G : va_G} {aC : Nat → ClassId} {t b0 : Nat}
def f_X7_countOpen_L4 (v0 : Nat) (k33 : Int32 → AH → Option (Int32 × AH)) : Nat → Int32 → Int32 → AH → Option (Int32 × AH)
  | 0, _, _, _ => none
  | n + 1, v1, v2, N => ob (hI N v0 7 6) (fun x1 => if x1 ≤ v2 then k33 v1 N else ob (hR N v0 7 10) (fun x3 => ob (aR N 2 x3 v2) (fun x4 => ob2 (f_X4_isOpen x4 N) (fun x6 N5 => if x6 = 0 then f_X7_countOpen_L4 v0 k33 n v1 (v2 + 1) N5 else f_X7_countOpen_L4 v0 k33 n (v1 + 1) (v2 + 1) N5))))
set_option maxHeartbeats 4000000 in
set_option maxRecDepth 100000 in
theorem w_X7_countOpen_L4 {P : Int32 × AH → Prop} (X : CX cX7_countOpen RX7 3 G aC t b0 p s m args c) (hr : RtI p l e rm_X7_countOpen s m args below meth c 0 0 Q cX7_countOpen G aC b0 P) (v0 : Nat) {k33 : Int32 → AH → Option (Int32 × AH)}
    (hk33 : ∀ (v1 : Int32) (N : AH) (H : Heap) (locs : List Loc) (ls : Array Slot), Rp G aC b0 N H → va_S (fun q => b0 ≤ q) s.heap H locs → lv_has ls 3 [(1, .int v1)] → owp (k33 v1 N) P → W p l e rm_X7_countOpen s m args below meth c H locs 0 0 Q (F0 m 33 ls [])) :
    ∀ (n : Nat) (v1 : Int32) (v2 : Int32) (N : AH) (H : Heap) (locs : List Loc) (ls : Array Slot), Rp G aC b0 N H → va_S (fun q => b0 ≤ q) s.heap H locs → lv_has ls 3 [(0, .ref v0), (1, .int v1), (2, .int v2)] → owp (f_X7_countOpen_L4 v0 k33 n v1 v2 N) P → W p l e rm_X7_countOpen s m args below meth c H locs 0 0 Q (F0 m 4 ls []) := by
  have hx := X.1.1
  have hb := X.1.2.1
  intro n
  induction n with
  | zero =>
    intro v1 v2 N H locs ls hR hS hl hp
    exact (show False from hp).elim
  | succ n ih =>
    intro v1 v2 N H locs ls hR hS hl hp
    rw [f_X7_countOpen_L4] at hp
    refine lv_iload_n hx hb dX7_countOpen_4 rfl (lv_at hl 2 rfl) ?_
    refine lv_aload_n hx hb dX7_countOpen_5 rfl (lv_at hl 0 rfl) ?_
    obtain ⟨x1, e_x1, hp⟩ := owp_ob hp
    refine gf_X7_65 X hR e_x1 dX7_countOpen_6 ?_
    refine lv_icmp_ge (tgt := 33) hx hb dX7_countOpen_9 (by decide) (fun k2 => ?_) (fun k2 => ?_)
    · have hp := owp_t k2 hp
      exact hk33 _ _ _ _ _ hR hS (lv_sub hl [1] rfl) hp
    · have hp := owp_f k2 hp
      refine lv_aload_n hx hb dX7_countOpen_12 rfl (lv_at hl 0 rfl) ?_
      obtain ⟨x3, e_x3, hp⟩ := owp_ob hp
      refine gf_X7_41 X hR e_x3 dX7_countOpen_13 ?_
      refine lv_iload_n hx hb dX7_countOpen_16 rfl (lv_at hl 2 rfl) ?_
      obtain ⟨x4, e_x4, hp⟩ := owp_ob hp
      refine ab_aald X hR (kd := 2) rfl e_x4 dX7_countOpen_17 ?_
      obtain ⟨x6, N5, e_N5, hp⟩ := owp_ob2 hp
      refine iv_X4_isOpen (rest := []) mw_X7_117 X hR hS e_N5 hl.1 (Nat.le_of_ble_eq_true rfl) ⟨Nat.le_of_ble_eq_true rfl, Nat.le_of_ble_eq_true rfl⟩ ⟨Nat.le_of_ble_eq_true rfl, Nat.le_of_ble_eq_true rfl⟩ dX7_countOpen_18 (fun H locs hR hS => ?_)
      refine lv_if_eq (tgt := 27) hx hb dX7_countOpen_21 (by decide) (fun k7 => ?_) (fun k7 => ?_)
      · have hp := owp_t k7 hp
        refine lv_iinc (v := v2 + 1) (lv' := [(2, .int (v2 + 1)), (0, .ref v0), (1, .int v1)]) hx hb dX7_countOpen_27 hl (k := 2) rfl rfl (by decide) rfl (fun ls hl => ?_)
        refine lv_goto (tgt := 4) hx hb dX7_countOpen_30 (by decide) ?_
        exact ih _ _ _ _ _ _ hR hS (lv_sub hl [1, 2, 0] rfl) hp
      · have hp := owp_f k7 hp
        refine lv_iinc (v := v1 + 1) (lv' := [(1, .int (v1 + 1)), (0, .ref v0), (2, .int v2)]) hx hb dX7_countOpen_24 hl (k := 1) rfl rfl (by decide) rfl (fun ls hl => ?_)
        refine lv_iinc (v := v2 + 1) (lv' := [(2, .int (v2 + 1)), (1, .int (v1 + 1)), (0, .ref v0)]) hx hb dX7_countOpen_27 hl (k := 2) rfl rfl (by decide) rfl (fun ls hl => ?_)
        refine lv_goto (tgt := 4) hx hb dX7_countOpen_30 (by decide) ?_
        exact ih _ _ _ _ _ _ hR hS (lv_sub hl [2, 1, 0] rfl) hp
def f_X7_countOpen (v0 : Nat) (N : AH) : Option (Int32 × AH) := ob (iO N v0 7) (fun _ => f_X7_countOpen_L4 v0 (fun v8 N9 => some (v8, N9)) FU (0 : Int32) (0 : Int32) N)
set_option maxHeartbeats 4000000 in
set_option maxRecDepth 100000 in
theorem wk_X7_countOpen {P : Int32 × AH → Prop} (X : CX cX7_countOpen RX7 3 G aC t b0 p s m args c) (hr : RtI p l e rm_X7_countOpen s m args below meth c 0 0 Q cX7_countOpen G aC b0 P) (v0 : Nat) (N : AH) (H : Heap) (locs : List Loc) (ls : Array Slot) (hR : Rp G aC b0 N H) (hS : va_S (fun q => b0 ≤ q) s.heap H locs) (hl : lv_has ls 3 [(0, .ref v0)]) (hp : owp (f_X7_countOpen v0 N) P) : W p l e rm_X7_countOpen s m args below meth c H locs 0 0 Q (F0 m 0 ls []) := by
  have hx := X.1.1
  have hb := X.1.2.1
  unfold f_X7_countOpen at hp
  obtain ⟨_, _, hp⟩ := owp_ob hp
  refine lv_iconst (v := (0)) hx hb dX7_countOpen_0 (by decide) ?_
  refine lv_istore_n (lv' := [(1, .int (0 : Int32)), (0, .ref v0)]) hx hb dX7_countOpen_1 rfl hl (by decide) rfl (fun ls hl => ?_)
  refine lv_iconst (v := (0)) hx hb dX7_countOpen_2 (by decide) ?_
  refine lv_istore_n (lv' := [(2, .int (0 : Int32)), (1, .int (0 : Int32)), (0, .ref v0)]) hx hb dX7_countOpen_3 rfl hl (by decide) rfl (fun ls hl => ?_)
  refine w_X7_countOpen_L4 X hr _ (fun v8 N9 H locs ls hR hS hl hp => ?_) _ _ _ _ _ _ _ hR hS (lv_sub hl [2, 1, 0] rfl) hp
  refine lv_iload_n hx hb dX7_countOpen_33 rfl (lv_at hl 0 rfl) ?_
  exact hr _ _ _ _ _ _ hR hS dX7_countOpen_34 hp
end
theorem ct_X7_countOpen {v0 : Nat} {N N1 : AH} {r : Int32} (h : f_X7_countOpen v0 N = some (r, N1)) : Ct yX7_countOpen cX7_countOpen 3 (some .int) rm_X7_countOpen [.ref v0] N (some (.int r)) N1 :=
  ab_met (own := RX7) (by decide +kernel) rfl (Nat.le_of_ble_eq_true rfl) (fun l G aC t b0 p e s m below meth c ls X hr hlk hnm hR hS hl => wk_X7_countOpen X (RtI_met X.1.1 X.1.2.1 hr hlk) _ _ _ _ _ hR hS hl (owp_of h))
theorem cw_X7_countOpen : Cond.code yX7_countOpen cX7_countOpen 3 (some .int) ∈ WT := WT_of 680 (by decide +kernel) (by decide +kernel)
theorem iv_X7_countOpen {p : Program} {l : Launch} {e : Env} {R : Room} {s : State} {m : MethodId} {args : Array Value} {below : List Frame} {meth : Method} {c : Code} {H : Heap} {locs : List Loc} {cells slots : Nat} {Q : State → Prop} {cc : ByteArray} {own : String} {nL : Nat} {G : va_G} {aC : Nat → ClassId} {t b0 : Nat} {N N1 : AH} {pc index : Nat} {ls : Array Slot} {rest : List Value} {v0 : Nat} {r : Int32} (w1 : Cond.methodLink own index yX7_countOpen ∈ WT) (X : CX cc own nL G aC t b0 p s m args c) (hR : Rp G aC b0 N H) (hS : va_S (fun q => b0 ≤ q) s.heap H locs) (h : f_X7_countOpen v0 N = some (r, N1)) (hls : ls.size = nL) (hW : (rest.map fun v => v.category).sum ≤ 8) (hR1 : 2 ≤ R.frames ∧ 42 ≤ R.locals) (hcs : cells + 0 ≤ R.cells ∧ slots + 0 ≤ R.slots) (hdg : decode cc pc = .ok (.invokevirtual index, 3)) (kk : ∀ (H1 : Heap) (locs1 : List Loc), Rp G aC b0 N1 H1 → va_S (fun q => b0 ≤ q) s.heap H1 locs1 → W p l e R s m args below meth c H1 locs1 cells slots Q (F0 m (pc + 3) ls (.int r :: rest))) : W p l e R s m args below meth c H locs cells slots Q (F0 m pc ls (.ref v0 :: rest)) :=
  ab_callV (n := 0) (As := []) X hR hS (ct_X7_countOpen h) (ob_rc (c := 7) (N := N) (a := v0) h) (T := TX7) (k := 12) (C := RX7) rfl w1 (WT_of 678 (by decide +kernel) (by decide +kernel)) (WT_of 679 (by decide +kernel) (by decide +kernel)) (WT_of 84 (by decide +kernel) (by decide +kernel)) cw_X7_countOpen ⟨rfl, by decide +kernel, by decide +kernel, by decide +kernel⟩ rfl hls hW hR1 hcs rfl hdg kk
-- X8_placeOf
theorem dX8_placeOf_0 : decode cX8_placeOf 0 = .ok (.iconst 0, 1) := by decide +kernel
theorem dX8_placeOf_1 : decode cX8_placeOf 1 = .ok (.istore_n 2, 1) := by decide +kernel
theorem dX8_placeOf_2 : decode cX8_placeOf 2 = .ok (.iload_n 2, 1) := by decide +kernel
theorem dX8_placeOf_3 : decode cX8_placeOf 3 = .ok (.aload_n 0, 1) := by decide +kernel
theorem dX8_placeOf_4 : decode cX8_placeOf 4 = .ok (.getfield 53, 3) := by decide +kernel
theorem dX8_placeOf_7 : decode cX8_placeOf 7 = .ok (.if_icmp .ge 21, 3) := by decide +kernel
theorem dX8_placeOf_10 : decode cX8_placeOf 10 = .ok (.aload_n 0, 1) := by decide +kernel
theorem dX8_placeOf_11 : decode cX8_placeOf 11 = .ok (.getfield 9, 3) := by decide +kernel
theorem dX8_placeOf_14 : decode cX8_placeOf 14 = .ok (.iload_n 2, 1) := by decide +kernel
theorem dX8_placeOf_15 : decode cX8_placeOf 15 = .ok (.iaload, 1) := by decide +kernel
theorem dX8_placeOf_16 : decode cX8_placeOf 16 = .ok (.iload_n 1, 1) := by decide +kernel
theorem dX8_placeOf_17 : decode cX8_placeOf 17 = .ok (.if_icmp .ne 5, 3) := by decide +kernel
theorem dX8_placeOf_20 : decode cX8_placeOf 20 = .ok (.iload_n 2, 1) := by decide +kernel
theorem dX8_placeOf_21 : decode cX8_placeOf 21 = .ok (.ireturn, 1) := by decide +kernel
theorem dX8_placeOf_22 : decode cX8_placeOf 22 = .ok (.iinc 2 1, 3) := by decide +kernel
theorem dX8_placeOf_25 : decode cX8_placeOf 25 = .ok (.goto (-23), 3) := by decide +kernel
theorem dX8_placeOf_28 : decode cX8_placeOf 28 = .ok (.iconst (-1), 1) := by decide +kernel
theorem dX8_placeOf_29 : decode cX8_placeOf 29 = .ok (.ireturn, 1) := by decide +kernel
def rm_X8_placeOf : Room := { frames := 0, cells := 0, slots := 0, locals := 0 }
section
variable {p : Program} {l : Launch} {e : Env} {s : State} {m : MethodId} {args : Array Value} {below : List Frame} {meth : Method} {c : Code} {Q : State → Prop} {G : va_G} {aC : Nat → ClassId} {t b0 : Nat}
def f_X8_placeOf_L2 (v0 : Nat) (v1 : Int32) (k20 : Int32 → AH → Option (Int32 × AH)) (k28 : AH → Option (Int32 × AH)) : Nat → Int32 → AH → Option (Int32 × AH)
  | 0, _, _ => none
  | n + 1, v2, N => ob (hI N v0 8 0) (fun x1 => if x1 ≤ v2 then k28 N else ob (hR N v0 8 1) (fun x3 => ob (aI N x3 v2) (fun x4 => if ¬ x4 = v1 then f_X8_placeOf_L2 v0 v1 k20 k28 n (v2 + 1) N else k20 v2 N)))
set_option maxHeartbeats 4000000 in
set_option maxRecDepth 100000 in
theorem w_X8_placeOf_L2 {P : Int32 × AH → Prop} (X : CX cX8_placeOf RX8 3 G aC t b0 p s m args c) (hr : RtI p l e rm_X8_placeOf s m args below meth c 0 0 Q cX8_placeOf G aC b0 P) (v0 : Nat) (v1 : Int32) {k20 : Int32 → AH → Option (Int32 × AH)} {k28 : AH → Option (Int32 × AH)}
    (hk20 : ∀ (v2 : Int32) (N : AH) (H : Heap) (locs : List Loc) (ls : Array Slot), Rp G aC b0 N H → va_S (fun q => b0 ≤ q) s.heap H locs → lv_has ls 3 [(2, .int v2)] → owp (k20 v2 N) P → W p l e rm_X8_placeOf s m args below meth c H locs 0 0 Q (F0 m 20 ls []))
    (hk28 : ∀ (N : AH) (H : Heap) (locs : List Loc) (ls : Array Slot), Rp G aC b0 N H → va_S (fun q => b0 ≤ q) s.heap H locs → lv_has ls 3 [] → owp (k28 N) P → W p l e rm_X8_placeOf s m args below meth c H locs 0 0 Q (F0 m 28 ls [])) :
    ∀ (n : Nat) (v2 : Int32) (N : AH) (H : Heap) (locs : List Loc) (ls : Array Slot), Rp G aC b0 N H → va_S (fun q => b0 ≤ q) s.heap H locs → lv_has ls 3 [(0, .ref v0), (1, .int v1), (2, .int v2)] → owp (f_X8_placeOf_L2 v0 v1 k20 k28 n v2 N) P → W p l e rm_X8_placeOf s m args below meth c H locs 0 0 Q (F0 m 2 ls []) := by
  have hx := X.1.1
  have hb := X.1.2.1
  intro n
  induction n with
  | zero =>
    intro v2 N H locs ls hR hS hl hp
    exact (show False from hp).elim
  | succ n ih =>
    intro v2 N H locs ls hR hS hl hp
    rw [f_X8_placeOf_L2] at hp
    refine lv_iload_n hx hb dX8_placeOf_2 rfl (lv_at hl 2 rfl) ?_
    refine lv_aload_n hx hb dX8_placeOf_3 rfl (lv_at hl 0 rfl) ?_
    obtain ⟨x1, e_x1, hp⟩ := owp_ob hp
    refine gf_X8_53 X hR e_x1 dX8_placeOf_4 ?_
    refine lv_icmp_ge (tgt := 28) hx hb dX8_placeOf_7 (by decide) (fun k2 => ?_) (fun k2 => ?_)
    · have hp := owp_t k2 hp
      exact hk28 _ _ _ _ hR hS (lv_sub hl [] rfl) hp
    · have hp := owp_f k2 hp
      refine lv_aload_n hx hb dX8_placeOf_10 rfl (lv_at hl 0 rfl) ?_
      obtain ⟨x3, e_x3, hp⟩ := owp_ob hp
      refine gf_X8_9 X hR e_x3 dX8_placeOf_11 ?_
      refine lv_iload_n hx hb dX8_placeOf_14 rfl (lv_at hl 2 rfl) ?_
      obtain ⟨x4, e_x4, hp⟩ := owp_ob hp
      refine ab_iald X hR e_x4 dX8_placeOf_15 ?_
      refine lv_iload_n hx hb dX8_placeOf_16 rfl (lv_at hl 1 rfl) ?_
      refine lv_icmp_ne (tgt := 22) hx hb dX8_placeOf_17 (by decide) (fun k5 => ?_) (fun k5 => ?_)
      · have hp := owp_t k5 hp
        refine lv_iinc (v := v2 + 1) (lv' := [(2, .int (v2 + 1)), (0, .ref v0), (1, .int v1)]) hx hb dX8_placeOf_22 hl (k := 2) rfl rfl (by decide) rfl (fun ls hl => ?_)
        refine lv_goto (tgt := 2) hx hb dX8_placeOf_25 (by decide) ?_
        exact ih _ _ _ _ _ hR hS (lv_sub hl [1, 2, 0] rfl) hp
      · have hp := owp_f (fun q => q k5) hp
        exact hk20 _ _ _ _ _ hR hS (lv_sub hl [2] rfl) hp
def f_X8_placeOf (v0 : Nat) (v1 : Int32) (N : AH) : Option (Int32 × AH) := ob (iO N v0 8) (fun _ => f_X8_placeOf_L2 v0 v1 (fun v6 N7 => some (v6, N7)) (fun N8 => some ((-1 : Int32), N8)) FU (0 : Int32) N)
set_option maxHeartbeats 4000000 in
set_option maxRecDepth 100000 in
theorem wk_X8_placeOf {P : Int32 × AH → Prop} (X : CX cX8_placeOf RX8 3 G aC t b0 p s m args c) (hr : RtI p l e rm_X8_placeOf s m args below meth c 0 0 Q cX8_placeOf G aC b0 P) (v0 : Nat) (v1 : Int32) (N : AH) (H : Heap) (locs : List Loc) (ls : Array Slot) (hR : Rp G aC b0 N H) (hS : va_S (fun q => b0 ≤ q) s.heap H locs) (hl : lv_has ls 3 [(0, .ref v0), (1, .int v1)]) (hp : owp (f_X8_placeOf v0 v1 N) P) : W p l e rm_X8_placeOf s m args below meth c H locs 0 0 Q (F0 m 0 ls []) := by
  have hx := X.1.1
  have hb := X.1.2.1
  unfold f_X8_placeOf at hp
  obtain ⟨_, _, hp⟩ := owp_ob hp
  refine lv_iconst (v := (0)) hx hb dX8_placeOf_0 (by decide) ?_
  refine lv_istore_n (lv' := [(2, .int (0 : Int32)), (0, .ref v0), (1, .int v1)]) hx hb dX8_placeOf_1 rfl hl (by decide) rfl (fun ls hl => ?_)
  refine w_X8_placeOf_L2 X hr _ _ (fun v6 N7 H locs ls hR hS hl hp => ?_) (fun N8 H locs ls hR hS hl hp => ?_) _ _ _ _ _ _ hR hS (lv_sub hl [1, 2, 0] rfl) hp
  · refine lv_iload_n hx hb dX8_placeOf_20 rfl (lv_at hl 0 rfl) ?_
    exact hr _ _ _ _ _ _ hR hS dX8_placeOf_21 hp
  · refine lv_iconst (v := (-1)) hx hb dX8_placeOf_28 (by decide) ?_
    exact hr _ _ _ _ _ _ hR hS dX8_placeOf_29 hp
end
theorem ct_X8_placeOf {v0 : Nat} {v1 : Int32} {N N1 : AH} {r : Int32} (h : f_X8_placeOf v0 v1 N = some (r, N1)) : Ct yX8_placeOf cX8_placeOf 3 (some .int) rm_X8_placeOf [.ref v0, .int v1] N (some (.int r)) N1 :=
  ab_met (own := RX8) (by decide +kernel) rfl (Nat.le_of_ble_eq_true rfl) (fun l G aC t b0 p e s m below meth c ls X hr hlk hnm hR hS hl => wk_X8_placeOf X (RtI_met X.1.1 X.1.2.1 hr hlk) _ _ _ _ _ _ hR hS hl (owp_of h))
theorem cw_X8_placeOf : Cond.code yX8_placeOf cX8_placeOf 3 (some .int) ∈ WT := WT_of 689 (by decide +kernel) (by decide +kernel)
theorem iv_X8_placeOf {p : Program} {l : Launch} {e : Env} {R : Room} {s : State} {m : MethodId} {args : Array Value} {below : List Frame} {meth : Method} {c : Code} {H : Heap} {locs : List Loc} {cells slots : Nat} {Q : State → Prop} {cc : ByteArray} {own : String} {nL : Nat} {G : va_G} {aC : Nat → ClassId} {t b0 : Nat} {N N1 : AH} {pc index : Nat} {ls : Array Slot} {rest : List Value} {v0 : Nat} {v1 : Int32} {r : Int32} (w1 : Cond.methodLink own index yX8_placeOf ∈ WT) (X : CX cc own nL G aC t b0 p s m args c) (hR : Rp G aC b0 N H) (hS : va_S (fun q => b0 ≤ q) s.heap H locs) (h : f_X8_placeOf v0 v1 N = some (r, N1)) (hls : ls.size = nL) (hW : (rest.map fun v => v.category).sum ≤ 8) (hR1 : 1 ≤ R.frames ∧ 22 ≤ R.locals) (hcs : cells + 0 ≤ R.cells ∧ slots + 0 ≤ R.slots) (hdg : decode cc pc = .ok (.invokevirtual index, 3)) (kk : ∀ (H1 : Heap) (locs1 : List Loc), Rp G aC b0 N1 H1 → va_S (fun q => b0 ≤ q) s.heap H1 locs1 → W p l e R s m args below meth c H1 locs1 cells slots Q (F0 m (pc + 3) ls (.int r :: rest))) : W p l e R s m args below meth c H locs cells slots Q (F0 m pc ls (.int v1 :: .ref v0 :: rest)) :=
  ab_callV (n := 1) (As := [.int v1]) X hR hS (ct_X8_placeOf h) (ob_rc (c := 8) (N := N) (a := v0) h) (T := TX8) (k := 11) (C := RX8) rfl w1 (WT_of 687 (by decide +kernel) (by decide +kernel)) (WT_of 688 (by decide +kernel) (by decide +kernel)) (WT_of 89 (by decide +kernel) (by decide +kernel)) cw_X8_placeOf ⟨rfl, by decide +kernel, by decide +kernel, by decide +kernel⟩ rfl hls hW hR1 hcs rfl hdg kk
-- X8_notePreemption
theorem gf_X8_155 {p : Program} {l : Launch} {e : Env} {R : Room} {s : State} {m : MethodId} {args : Array Value} {below : List Frame} {meth : Method} {c : Code} {H : Heap} {locs : List Loc} {cells slots : Nat} {Q : State → Prop} {cc : ByteArray} {nL : Nat} {G : va_G} {aC : Nat → ClassId} {t b0 : Nat} {N : AH} {pc : Nat} {ls : Array Slot} {rest : List Value} {a : Nat} {v : Int32} (X : CX cc RX8 nL G aC t b0 p s m args c) (hR0 : Rp G aC b0 N H) (hv : hI N a 7 5 = some v) (hdg : decode cc pc = .ok (.getfield 155, 3)) (kk : W p l e R s m args below meth c H locs cells slots Q (F0 m (pc + 3) ls (.int v :: rest))) : W p l e R s m args below meth c H locs cells slots Q (F0 m pc ls (.ref a :: rest)) := by
  obtain ⟨fs, h1, h2⟩ := hI_ok hv
  exact ab_get (C := RX7) (T := TX7) (n := 12) X hR0 h1 h2 rfl inX7 (by decide) (WT_of 272 (by decide +kernel) (by decide +kernel)) hdg kk
theorem gf_X8_161 {p : Program} {l : Launch} {e : Env} {R : Room} {s : State} {m : MethodId} {args : Array Value} {below : List Frame} {meth : Method} {c : Code} {H : Heap} {locs : List Loc} {cells slots : Nat} {Q : State → Prop} {cc : ByteArray} {nL : Nat} {G : va_G} {aC : Nat → ClassId} {t b0 : Nat} {N : AH} {pc : Nat} {ls : Array Slot} {rest : List Value} {a : Nat} {v : Int32} (X : CX cc RX8 nL G aC t b0 p s m args c) (hR0 : Rp G aC b0 N H) (hv : hI N a 7 4 = some v) (hdg : decode cc pc = .ok (.getfield 161, 3)) (kk : W p l e R s m args below meth c H locs cells slots Q (F0 m (pc + 3) ls (.int v :: rest))) : W p l e R s m args below meth c H locs cells slots Q (F0 m pc ls (.ref a :: rest)) := by
  obtain ⟨fs, h1, h2⟩ := hI_ok hv
  exact ab_get (C := RX7) (T := TX7) (n := 12) X hR0 h1 h2 rfl inX7 (by decide) (WT_of 269 (by decide +kernel) (by decide +kernel)) hdg kk
theorem gf_X8_164 {p : Program} {l : Launch} {e : Env} {R : Room} {s : State} {m : MethodId} {args : Array Value} {below : List Frame} {meth : Method} {c : Code} {H : Heap} {locs : List Loc} {cells slots : Nat} {Q : State → Prop} {cc : ByteArray} {nL : Nat} {G : va_G} {aC : Nat → ClassId} {t b0 : Nat} {N : AH} {pc : Nat} {ls : Array Slot} {rest : List Value} {a : Nat} {v : Nat} (X : CX cc RX8 nL G aC t b0 p s m args c) (hR0 : Rp G aC b0 N H) (hv : hR N a 7 11 = some v) (hdg : decode cc pc = .ok (.getfield 164, 3)) (kk : W p l e R s m args below meth c H locs cells slots Q (F0 m (pc + 3) ls (.ref v :: rest))) : W p l e R s m args below meth c H locs cells slots Q (F0 m pc ls (.ref a :: rest)) := by
  obtain ⟨fs, h1, h2⟩ := hR_ok hv
  exact ab_get (C := RX7) (T := TX7) (n := 12) X hR0 h1 h2 rfl inX7 (by decide) (WT_of 294 (by decide +kernel) (by decide +kernel)) hdg kk
theorem mw_X8_158 : Cond.methodLink RX8 158 yX8_placeOf ∈ WT := WT_of 686 (by decide +kernel) (by decide +kernel)
theorem mw_X8_168 : Cond.methodLink RX8 168 yX0_add ∈ WT := WT_of 690 (by decide +kernel) (by decide +kernel)
theorem pf_X8_155 {p : Program} {l : Launch} {e : Env} {R : Room} {s : State} {m : MethodId} {args : Array Value} {below : List Frame} {meth : Method} {c : Code} {H : Heap} {locs : List Loc} {cells slots : Nat} {Q : State → Prop} {cc : ByteArray} {nL : Nat} {G : va_G} {aC : Nat → ClassId} {t b0 : Nat} {N : AH} {pc : Nat} {ls : Array Slot} {rest : List Value} {N1 : AH} {a : Nat} {v : Int32} (X : CX cc RX8 nL G aC t b0 p s m args c) (hR0 : Rp G aC b0 N H) (hS : va_S (fun q => b0 ≤ q) s.heap H locs) (hv : pI N a 7 5 v = some N1) (hdg : decode cc pc = .ok (.putfield 155, 3)) (kk : ∀ (H1 : Heap) (locs1 : List Loc), Rp G aC b0 N1 H1 → va_S (fun q => b0 ≤ q) s.heap H1 locs1 → W p l e R s m args below meth c H1 locs1 cells slots Q (F0 m (pc + 3) ls rest)) : W p l e R s m args below meth c H locs cells slots Q (F0 m pc ls (.int v :: .ref a :: rest)) := by
  obtain ⟨fs, h1, h2, h3⟩ := pV_ok hv
  subst h3
  exact ab_put (C := RX7) (T := TX7) (n := 12) X hR0 hS h1 h2 rfl inX7 tyX7 tyX7_ok nmX7 (by decide) (WT_of 272 (by decide +kernel) (by decide +kernel)) rfl rfl rfl hdg kk
theorem pf_X8_161 {p : Program} {l : Launch} {e : Env} {R : Room} {s : State} {m : MethodId} {args : Array Value} {below : List Frame} {meth : Method} {c : Code} {H : Heap} {locs : List Loc} {cells slots : Nat} {Q : State → Prop} {cc : ByteArray} {nL : Nat} {G : va_G} {aC : Nat → ClassId} {t b0 : Nat} {N : AH} {pc : Nat} {ls : Array Slot} {rest : List Value} {N1 : AH} {a : Nat} {v : Int32} (X : CX cc RX8 nL G aC t b0 p s m args c) (hR0 : Rp G aC b0 N H) (hS : va_S (fun q => b0 ≤ q) s.heap H locs) (hv : pI N a 7 4 v = some N1) (hdg : decode cc pc = .ok (.putfield 161, 3)) (kk : ∀ (H1 : Heap) (locs1 : List Loc), Rp G aC b0 N1 H1 → va_S (fun q => b0 ≤ q) s.heap H1 locs1 → W p l e R s m args below meth c H1 locs1 cells slots Q (F0 m (pc + 3) ls rest)) : W p l e R s m args below meth c H locs cells slots Q (F0 m pc ls (.int v :: .ref a :: rest)) := by
  obtain ⟨fs, h1, h2, h3⟩ := pV_ok hv
  subst h3
  exact ab_put (C := RX7) (T := TX7) (n := 12) X hR0 hS h1 h2 rfl inX7 tyX7 tyX7_ok nmX7 (by decide) (WT_of 269 (by decide +kernel) (by decide +kernel)) rfl rfl rfl hdg kk
theorem dX8_notePreemption_0 : decode cX8_notePreemption 0 = .ok (.aload_n 0, 1) := by decide +kernel
theorem dX8_notePreemption_1 : decode cX8_notePreemption 1 = .ok (.getfield 53, 3) := by decide +kernel
theorem dX8_notePreemption_4 : decode cX8_notePreemption 4 = .ok (.ifCond .ne 4, 3) := by decide +kernel
theorem dX8_notePreemption_7 : decode cX8_notePreemption 7 = .ok (.return_, 1) := by decide +kernel
theorem dX8_notePreemption_8 : decode cX8_notePreemption 8 = .ok (.aload_n 1, 1) := by decide +kernel
theorem dX8_notePreemption_9 : decode cX8_notePreemption 9 = .ok (.getfield 155, 3) := by decide +kernel
theorem dX8_notePreemption_12 : decode cX8_notePreemption 12 = .ok (.istore_n 2, 1) := by decide +kernel
theorem dX8_notePreemption_13 : decode cX8_notePreemption 13 = .ok (.aload_n 1, 1) := by decide +kernel
theorem dX8_notePreemption_14 : decode cX8_notePreemption 14 = .ok (.aload_n 0, 1) := by decide +kernel
theorem dX8_notePreemption_15 : decode cX8_notePreemption 15 = .ok (.getfield 9, 3) := by decide +kernel
theorem dX8_notePreemption_18 : decode cX8_notePreemption 18 = .ok (.iconst 0, 1) := by decide +kernel
theorem dX8_notePreemption_19 : decode cX8_notePreemption 19 = .ok (.iaload, 1) := by decide +kernel
theorem dX8_notePreemption_20 : decode cX8_notePreemption 20 = .ok (.putfield 155, 3) := by decide +kernel
theorem dX8_notePreemption_23 : decode cX8_notePreemption 23 = .ok (.iload_n 2, 1) := by decide +kernel
theorem dX8_notePreemption_24 : decode cX8_notePreemption 24 = .ok (.aload_n 0, 1) := by decide +kernel
theorem dX8_notePreemption_25 : decode cX8_notePreemption 25 = .ok (.getfield 9, 3) := by decide +kernel
theorem dX8_notePreemption_28 : decode cX8_notePreemption 28 = .ok (.iconst 0, 1) := by decide +kernel
theorem dX8_notePreemption_29 : decode cX8_notePreemption 29 = .ok (.iaload, 1) := by decide +kernel
theorem dX8_notePreemption_30 : decode cX8_notePreemption 30 = .ok (.if_icmp .eq 35, 3) := by decide +kernel
theorem dX8_notePreemption_33 : decode cX8_notePreemption 33 = .ok (.aload_n 0, 1) := by decide +kernel
theorem dX8_notePreemption_34 : decode cX8_notePreemption 34 = .ok (.iload_n 2, 1) := by decide +kernel
theorem dX8_notePreemption_35 : decode cX8_notePreemption 35 = .ok (.invokevirtual 158, 3) := by decide +kernel
theorem dX8_notePreemption_38 : decode cX8_notePreemption 38 = .ok (.iconst (-1), 1) := by decide +kernel
theorem dX8_notePreemption_39 : decode cX8_notePreemption 39 = .ok (.if_icmp .eq 26, 3) := by decide +kernel
theorem dX8_notePreemption_42 : decode cX8_notePreemption 42 = .ok (.aload_n 1, 1) := by decide +kernel
theorem dX8_notePreemption_43 : decode cX8_notePreemption 43 = .ok (.dup, 1) := by decide +kernel
theorem dX8_notePreemption_44 : decode cX8_notePreemption 44 = .ok (.getfield 161, 3) := by decide +kernel
theorem dX8_notePreemption_47 : decode cX8_notePreemption 47 = .ok (.iconst 1, 1) := by decide +kernel
theorem dX8_notePreemption_48 : decode cX8_notePreemption 48 = .ok (.iadd, 1) := by decide +kernel
theorem dX8_notePreemption_49 : decode cX8_notePreemption 49 = .ok (.putfield 161, 3) := by decide +kernel
theorem dX8_notePreemption_52 : decode cX8_notePreemption 52 = .ok (.aload_n 1, 1) := by decide +kernel
theorem dX8_notePreemption_53 : decode cX8_notePreemption 53 = .ok (.getfield 164, 3) := by decide +kernel
theorem dX8_notePreemption_56 : decode cX8_notePreemption 56 = .ok (.iconst 2, 1) := by decide +kernel
theorem dX8_notePreemption_57 : decode cX8_notePreemption 57 = .ok (.iload_n 2, 1) := by decide +kernel
theorem dX8_notePreemption_58 : decode cX8_notePreemption 58 = .ok (.aload_n 1, 1) := by decide +kernel
theorem dX8_notePreemption_59 : decode cX8_notePreemption 59 = .ok (.getfield 70, 3) := by decide +kernel
theorem dX8_notePreemption_62 : decode cX8_notePreemption 62 = .ok (.invokevirtual 168, 3) := by decide +kernel
theorem dX8_notePreemption_65 : decode cX8_notePreemption 65 = .ok (.return_, 1) := by decide +kernel
def rm_X8_notePreemption : Room := { frames := 1, cells := 0, slots := 0, locals := 23 }
section
variable {p : Program} {l : Launch} {e : Env} {s : State} {m : MethodId} {args : Array Value} {below : List Frame} {meth : Method} {c : Code} {Q : State → Prop} {G : va_G} {aC : Nat → ClassId} {t b0 : Nat}
def f_X8_notePreemption (v0 : Nat) (v1 : Nat) (N : AH) : Option (Unit × AH) := ob (iO N v0 8) (fun _ => ob (hI N v0 8 0) (fun x1 => if ¬ x1 = 0 then ob (hI N v1 7 5) (fun x3 => ob (hR N v0 8 1) (fun x4 => ob (aI N x4 (0 : Int32)) (fun x5 => ob (pI N v1 7 5 x5) (fun N6 => ob (hR N6 v0 8 1) (fun x7 => ob (aI N6 x7 (0 : Int32)) (fun x8 => if x3 = x8 then some ((), N6) else ob2 (f_X8_placeOf v0 x3 N6) (fun x11 N10 => if x11 = (-1 : Int32) then some ((), N10) else ob (hI N10 v1 7 4) (fun x13 => ob (pI N10 v1 7 4 (x13 + (1 : Int32))) (fun N14 => ob (hR N14 v1 7 11) (fun x15 => ob (hI N14 v1 7 0) (fun x16 => ob2 (f_X0_add x15 (2 : Int32) x3 x16 N14) (fun _ N17 => some ((), N17))))))))))))) else some ((), N)))
set_option maxHeartbeats 4000000 in
set_option maxRecDepth 100000 in
theorem wk_X8_notePreemption {P : Unit × AH → Prop} (X : CX cX8_notePreemption RX8 3 G aC t b0 p s m args c) (hr : RtV p l e rm_X8_notePreemption s m args below meth c 0 0 Q cX8_notePreemption G aC b0 P) (v0 : Nat) (v1 : Nat) (N : AH) (H : Heap) (locs : List Loc) (ls : Array Slot) (hR : Rp G aC b0 N H) (hS : va_S (fun q => b0 ≤ q) s.heap H locs) (hl : lv_has ls 3 [(0, .ref v0), (1, .ref v1)]) (hp : owp (f_X8_notePreemption v0 v1 N) P) : W p l e rm_X8_notePreemption s m args below meth c H locs 0 0 Q (F0 m 0 ls []) := by
  have hx := X.1.1
  have hb := X.1.2.1
  unfold f_X8_notePreemption at hp
  obtain ⟨_, _, hp⟩ := owp_ob hp
  refine lv_aload_n hx hb dX8_notePreemption_0 rfl (lv_at hl 0 rfl) ?_
  obtain ⟨x1, e_x1, hp⟩ := owp_ob hp
  refine gf_X8_53 X hR e_x1 dX8_notePreemption_1 ?_
  refine lv_if_ne (tgt := 8) hx hb dX8_notePreemption_4 (by decide) (fun k2 => ?_) (fun k2 => ?_)
  · have hp := owp_t k2 hp
    refine lv_aload_n hx hb dX8_notePreemption_8 rfl (lv_at hl 1 rfl) ?_
    obtain ⟨x3, e_x3, hp⟩ := owp_ob hp
    refine gf_X8_155 X hR e_x3 dX8_notePreemption_9 ?_
    refine lv_istore_n (lv' := [(2, .int x3), (0, .ref v0), (1, .ref v1)]) hx hb dX8_notePreemption_12 rfl hl (by decide) rfl (fun ls hl => ?_)
    refine lv_aload_n hx hb dX8_notePreemption_13 rfl (lv_at hl 2 rfl) ?_
    refine lv_aload_n hx hb dX8_notePreemption_14 rfl (lv_at hl 1 rfl) ?_
    obtain ⟨x4, e_x4, hp⟩ := owp_ob hp
    refine gf_X8_9 X hR e_x4 dX8_notePreemption_15 ?_
    refine lv_iconst (v := (0)) hx hb dX8_notePreemption_18 (by decide) ?_
    obtain ⟨x5, e_x5, hp⟩ := owp_ob hp
    refine ab_iald X hR e_x5 dX8_notePreemption_19 ?_
    obtain ⟨N6, e_N6, hp⟩ := owp_ob hp
    refine pf_X8_155 X hR hS e_N6 dX8_notePreemption_20 (fun H locs hR hS => ?_)
    refine lv_iload_n hx hb dX8_notePreemption_23 rfl (lv_at hl 0 rfl) ?_
    refine lv_aload_n hx hb dX8_notePreemption_24 rfl (lv_at hl 1 rfl) ?_
    obtain ⟨x7, e_x7, hp⟩ := owp_ob hp
    refine gf_X8_9 X hR e_x7 dX8_notePreemption_25 ?_
    refine lv_iconst (v := (0)) hx hb dX8_notePreemption_28 (by decide) ?_
    obtain ⟨x8, e_x8, hp⟩ := owp_ob hp
    refine ab_iald X hR e_x8 dX8_notePreemption_29 ?_
    refine lv_icmp_eq (tgt := 65) hx hb dX8_notePreemption_30 (by decide) (fun k9 => ?_) (fun k9 => ?_)
    · have hp := owp_t k9 hp
      exact hr _ _ _ _ _ hR hS dX8_notePreemption_65 hp
    · have hp := owp_f k9 hp
      refine lv_aload_n hx hb dX8_notePreemption_33 rfl (lv_at hl 1 rfl) ?_
      refine lv_iload_n hx hb dX8_notePreemption_34 rfl (lv_at hl 0 rfl) ?_
      obtain ⟨x11, N10, e_N10, hp⟩ := owp_ob2 hp
      refine iv_X8_placeOf (rest := []) mw_X8_158 X hR hS e_N10 hl.1 (Nat.le_of_ble_eq_true rfl) ⟨Nat.le_of_ble_eq_true rfl, Nat.le_of_ble_eq_true rfl⟩ ⟨Nat.le_of_ble_eq_true rfl, Nat.le_of_ble_eq_true rfl⟩ dX8_notePreemption_35 (fun H locs hR hS => ?_)
      refine lv_iconst (v := (-1)) hx hb dX8_notePreemption_38 (by decide) ?_
      refine lv_icmp_eq (tgt := 65) hx hb dX8_notePreemption_39 (by decide) (fun k12 => ?_) (fun k12 => ?_)
      · have hp := owp_t k12 hp
        exact hr _ _ _ _ _ hR hS dX8_notePreemption_65 hp
      · have hp := owp_f k12 hp
        refine lv_aload_n hx hb dX8_notePreemption_42 rfl (lv_at hl 2 rfl) ?_
        refine lv_dup hx hb dX8_notePreemption_43 rfl ?_
        obtain ⟨x13, e_x13, hp⟩ := owp_ob hp
        refine gf_X8_161 X hR e_x13 dX8_notePreemption_44 ?_
        refine lv_iconst (v := (1)) hx hb dX8_notePreemption_47 (by decide) ?_
        refine lv_iadd hx hb dX8_notePreemption_48 ?_
        obtain ⟨N14, e_N14, hp⟩ := owp_ob hp
        refine pf_X8_161 X hR hS e_N14 dX8_notePreemption_49 (fun H locs hR hS => ?_)
        refine lv_aload_n hx hb dX8_notePreemption_52 rfl (lv_at hl 2 rfl) ?_
        obtain ⟨x15, e_x15, hp⟩ := owp_ob hp
        refine gf_X8_164 X hR e_x15 dX8_notePreemption_53 ?_
        refine lv_iconst (v := (2)) hx hb dX8_notePreemption_56 (by decide) ?_
        refine lv_iload_n hx hb dX8_notePreemption_57 rfl (lv_at hl 0 rfl) ?_
        refine lv_aload_n hx hb dX8_notePreemption_58 rfl (lv_at hl 2 rfl) ?_
        obtain ⟨x16, e_x16, hp⟩ := owp_ob hp
        refine gf_X8_70 X hR e_x16 dX8_notePreemption_59 ?_
        obtain ⟨_, N17, e_N17, hp⟩ := owp_ob2 hp
        refine iv_X0_add (rest := []) mw_X8_168 X hR hS e_N17 hl.1 (Nat.le_of_ble_eq_true rfl) ⟨Nat.le_of_ble_eq_true rfl, Nat.le_of_ble_eq_true rfl⟩ ⟨Nat.le_of_ble_eq_true rfl, Nat.le_of_ble_eq_true rfl⟩ dX8_notePreemption_62 (fun H locs hR hS => ?_)
        exact hr _ _ _ _ _ hR hS dX8_notePreemption_65 hp
  · have hp := owp_f (fun q => q k2) hp
    exact hr _ _ _ _ _ hR hS dX8_notePreemption_7 hp
end
theorem ct_X8_notePreemption {v0 : Nat} {v1 : Nat} {N N1 : AH} {r : Unit} (h : f_X8_notePreemption v0 v1 N = some (r, N1)) : Ct yX8_notePreemption cX8_notePreemption 3 none rm_X8_notePreemption [.ref v0, .ref v1] N none N1 :=
  ab_met (own := RX8) (by decide +kernel) rfl (Nat.le_of_ble_eq_true rfl) (fun l G aC t b0 p e s m below meth c ls X hr hlk hnm hR hS hl => wk_X8_notePreemption X (RtV_met X.1.1 X.1.2.1 hr hlk) _ _ _ _ _ _ hR hS hl (owp_of h))
theorem cw_X8_notePreemption : Cond.code yX8_notePreemption cX8_notePreemption 3 none ∈ WT := WT_of 685 (by decide +kernel) (by decide +kernel)
theorem iv_X8_notePreemption {p : Program} {l : Launch} {e : Env} {R : Room} {s : State} {m : MethodId} {args : Array Value} {below : List Frame} {meth : Method} {c : Code} {H : Heap} {locs : List Loc} {cells slots : Nat} {Q : State → Prop} {cc : ByteArray} {own : String} {nL : Nat} {G : va_G} {aC : Nat → ClassId} {t b0 : Nat} {N N1 : AH} {pc index : Nat} {ls : Array Slot} {rest : List Value} {v0 : Nat} {v1 : Nat} {r : Unit} (w1 : Cond.methodLink own index yX8_notePreemption ∈ WT) (X : CX cc own nL G aC t b0 p s m args c) (hR : Rp G aC b0 N H) (hS : va_S (fun q => b0 ≤ q) s.heap H locs) (h : f_X8_notePreemption v0 v1 N = some (r, N1)) (hls : ls.size = nL) (hW : (rest.map fun v => v.category).sum ≤ 8) (hR1 : 2 ≤ R.frames ∧ 45 ≤ R.locals) (hcs : cells + 0 ≤ R.cells ∧ slots + 0 ≤ R.slots) (hdg : decode cc pc = .ok (.invokevirtual index, 3)) (kk : ∀ (H1 : Heap) (locs1 : List Loc), Rp G aC b0 N1 H1 → va_S (fun q => b0 ≤ q) s.heap H1 locs1 → W p l e R s m args below meth c H1 locs1 cells slots Q (F0 m (pc + 3) ls rest)) : W p l e R s m args below meth c H locs cells slots Q (F0 m pc ls (.ref v1 :: .ref v0 :: rest)) :=
  ab_callV (n := 1) (As := [.ref v1]) X hR hS (ct_X8_notePreemption h) (ob_rc (c := 8) (N := N) (a := v0) h) (T := TX8) (k := 11) (C := RX8) rfl w1 (WT_of 684 (by decide +kernel) (by decide +kernel)) (WT_of 15 (by decide +kernel) (by decide +kernel)) (WT_of 89 (by decide +kernel) (by decide +kernel)) cw_X8_notePreemption ⟨rfl, by decide +kernel, by decide +kernel, by decide +kernel⟩ rfl hls hW hR1 hcs rfl hdg kk
-- X8_sendAll
theorem gf_X8_223 {p : Program} {l : Launch} {e : Env} {R : Room} {s : State} {m : MethodId} {args : Array Value} {below : List Frame} {meth : Method} {c : Code} {H : Heap} {locs : List Loc} {cells slots : Nat} {Q : State → Prop} {cc : ByteArray} {nL : Nat} {G : va_G} {aC : Nat → ClassId} {t b0 : Nat} {N : AH} {pc : Nat} {ls : Array Slot} {rest : List Value} {a : Nat} {v : Nat} (X : CX cc RX8 nL G aC t b0 p s m args c) (hR0 : Rp G aC b0 N H) (hv : hR N a 7 8 = some v) (hdg : decode cc pc = .ok (.getfield 223, 3)) (kk : W p l e R s m args below meth c H locs cells slots Q (F0 m (pc + 3) ls (.ref v :: rest))) : W p l e R s m args below meth c H locs cells slots Q (F0 m pc ls (.ref a :: rest)) := by
  obtain ⟨fs, h1, h2⟩ := hR_ok hv
  exact ab_get (C := RX7) (T := TX7) (n := 12) X hR0 h1 h2 rfl inX7 (by decide) (WT_of 283 (by decide +kernel) (by decide +kernel)) hdg kk
theorem dX8_sendAll_0 : decode cX8_sendAll 0 = .ok (.iconst 0, 1) := by decide +kernel
theorem dX8_sendAll_1 : decode cX8_sendAll 1 = .ok (.istore_n 2, 1) := by decide +kernel
theorem dX8_sendAll_2 : decode cX8_sendAll 2 = .ok (.iconst 0, 1) := by decide +kernel
theorem dX8_sendAll_3 : decode cX8_sendAll 3 = .ok (.istore_n 3, 1) := by decide +kernel
theorem dX8_sendAll_4 : decode cX8_sendAll 4 = .ok (.iload_n 3, 1) := by decide +kernel
theorem dX8_sendAll_5 : decode cX8_sendAll 5 = .ok (.aload_n 0, 1) := by decide +kernel
theorem dX8_sendAll_6 : decode cX8_sendAll 6 = .ok (.getfield 53, 3) := by decide +kernel
theorem dX8_sendAll_9 : decode cX8_sendAll 9 = .ok (.if_icmp .ge 111, 3) := by decide +kernel
theorem dX8_sendAll_12 : decode cX8_sendAll 12 = .ok (.aload_n 1, 1) := by decide +kernel
theorem dX8_sendAll_13 : decode cX8_sendAll 13 = .ok (.getfield 85, 3) := by decide +kernel
theorem dX8_sendAll_16 : decode cX8_sendAll 16 = .ok (.aload_n 0, 1) := by decide +kernel
theorem dX8_sendAll_17 : decode cX8_sendAll 17 = .ok (.getfield 9, 3) := by decide +kernel
theorem dX8_sendAll_20 : decode cX8_sendAll 20 = .ok (.iload_n 3, 1) := by decide +kernel
theorem dX8_sendAll_21 : decode cX8_sendAll 21 = .ok (.iaload, 1) := by decide +kernel
theorem dX8_sendAll_22 : decode cX8_sendAll 22 = .ok (.aaload, 1) := by decide +kernel
theorem dX8_sendAll_23 : decode cX8_sendAll 23 = .ok (.getfield 109, 3) := by decide +kernel
theorem dX8_sendAll_26 : decode cX8_sendAll 26 = .ok (.astore 4, 2) := by decide +kernel
theorem dX8_sendAll_28 : decode cX8_sendAll 28 = .ok (.iconst 0, 1) := by decide +kernel
theorem dX8_sendAll_29 : decode cX8_sendAll 29 = .ok (.istore 5, 2) := by decide +kernel
theorem dX8_sendAll_31 : decode cX8_sendAll 31 = .ok (.iload 5, 2) := by decide +kernel
theorem dX8_sendAll_33 : decode cX8_sendAll 33 = .ok (.aload 4, 2) := by decide +kernel
theorem dX8_sendAll_35 : decode cX8_sendAll 35 = .ok (.getfield 198, 3) := by decide +kernel
theorem dX8_sendAll_38 : decode cX8_sendAll 38 = .ok (.if_icmp .ge 76, 3) := by decide +kernel
theorem dX8_sendAll_41 : decode cX8_sendAll 41 = .ok (.aload 4, 2) := by decide +kernel
theorem dX8_sendAll_43 : decode cX8_sendAll 43 = .ok (.getfield 179, 3) := by decide +kernel
theorem dX8_sendAll_46 : decode cX8_sendAll 46 = .ok (.iload 5, 2) := by decide +kernel
theorem dX8_sendAll_48 : decode cX8_sendAll 48 = .ok (.iaload, 1) := by decide +kernel
theorem dX8_sendAll_49 : decode cX8_sendAll 49 = .ok (.istore 6, 2) := by decide +kernel
theorem dX8_sendAll_51 : decode cX8_sendAll 51 = .ok (.aload 4, 2) := by decide +kernel
theorem dX8_sendAll_53 : decode cX8_sendAll 53 = .ok (.getfield 201, 3) := by decide +kernel
theorem dX8_sendAll_56 : decode cX8_sendAll 56 = .ok (.iload 5, 2) := by decide +kernel
theorem dX8_sendAll_58 : decode cX8_sendAll 58 = .ok (.dup2, 1) := by decide +kernel
theorem dX8_sendAll_59 : decode cX8_sendAll 59 = .ok (.iaload, 1) := by decide +kernel
theorem dX8_sendAll_60 : decode cX8_sendAll 60 = .ok (.iload 6, 2) := by decide +kernel
theorem dX8_sendAll_62 : decode cX8_sendAll 62 = .ok (.isub, 1) := by decide +kernel
theorem dX8_sendAll_63 : decode cX8_sendAll 63 = .ok (.iastore, 1) := by decide +kernel
theorem dX8_sendAll_64 : decode cX8_sendAll 64 = .ok (.aload_n 1, 1) := by decide +kernel
theorem dX8_sendAll_65 : decode cX8_sendAll 65 = .ok (.getfield 223, 3) := by decide +kernel
theorem dX8_sendAll_68 : decode cX8_sendAll 68 = .ok (.aload 4, 2) := by decide +kernel
theorem dX8_sendAll_70 : decode cX8_sendAll 70 = .ok (.getfield 211, 3) := by decide +kernel
theorem dX8_sendAll_73 : decode cX8_sendAll 73 = .ok (.iload 5, 2) := by decide +kernel
theorem dX8_sendAll_75 : decode cX8_sendAll 75 = .ok (.iaload, 1) := by decide +kernel
theorem dX8_sendAll_76 : decode cX8_sendAll 76 = .ok (.dup2, 1) := by decide +kernel
theorem dX8_sendAll_77 : decode cX8_sendAll 77 = .ok (.iaload, 1) := by decide +kernel
theorem dX8_sendAll_78 : decode cX8_sendAll 78 = .ok (.iload 6, 2) := by decide +kernel
theorem dX8_sendAll_80 : decode cX8_sendAll 80 = .ok (.iadd, 1) := by decide +kernel
theorem dX8_sendAll_81 : decode cX8_sendAll 81 = .ok (.iastore, 1) := by decide +kernel
theorem dX8_sendAll_82 : decode cX8_sendAll 82 = .ok (.aload_n 1, 1) := by decide +kernel
theorem dX8_sendAll_83 : decode cX8_sendAll 83 = .ok (.getfield 223, 3) := by decide +kernel
theorem dX8_sendAll_86 : decode cX8_sendAll 86 = .ok (.bipush 8, 2) := by decide +kernel
theorem dX8_sendAll_88 : decode cX8_sendAll 88 = .ok (.aload 4, 2) := by decide +kernel
theorem dX8_sendAll_90 : decode cX8_sendAll 90 = .ok (.getfield 214, 3) := by decide +kernel
theorem dX8_sendAll_93 : decode cX8_sendAll 93 = .ok (.iload 5, 2) := by decide +kernel
theorem dX8_sendAll_95 : decode cX8_sendAll 95 = .ok (.iaload, 1) := by decide +kernel
theorem dX8_sendAll_96 : decode cX8_sendAll 96 = .ok (.iadd, 1) := by decide +kernel
theorem dX8_sendAll_97 : decode cX8_sendAll 97 = .ok (.dup2, 1) := by decide +kernel
theorem dX8_sendAll_98 : decode cX8_sendAll 98 = .ok (.iaload, 1) := by decide +kernel
theorem dX8_sendAll_99 : decode cX8_sendAll 99 = .ok (.iload 6, 2) := by decide +kernel
theorem dX8_sendAll_101 : decode cX8_sendAll 101 = .ok (.iadd, 1) := by decide +kernel
theorem dX8_sendAll_102 : decode cX8_sendAll 102 = .ok (.iastore, 1) := by decide +kernel
theorem dX8_sendAll_103 : decode cX8_sendAll 103 = .ok (.iload_n 2, 1) := by decide +kernel
theorem dX8_sendAll_104 : decode cX8_sendAll 104 = .ok (.iload 6, 2) := by decide +kernel
theorem dX8_sendAll_106 : decode cX8_sendAll 106 = .ok (.iadd, 1) := by decide +kernel
theorem dX8_sendAll_107 : decode cX8_sendAll 107 = .ok (.istore_n 2, 1) := by decide +kernel
theorem dX8_sendAll_108 : decode cX8_sendAll 108 = .ok (.iinc 5 1, 3) := by decide +kernel
theorem dX8_sendAll_111 : decode cX8_sendAll 111 = .ok (.goto (-80), 3) := by decide +kernel
theorem dX8_sendAll_114 : decode cX8_sendAll 114 = .ok (.iinc 3 1, 3) := by decide +kernel
theorem dX8_sendAll_117 : decode cX8_sendAll 117 = .ok (.goto (-113), 3) := by decide +kernel
theorem dX8_sendAll_120 : decode cX8_sendAll 120 = .ok (.iload_n 2, 1) := by decide +kernel
theorem dX8_sendAll_121 : decode cX8_sendAll 121 = .ok (.ireturn, 1) := by decide +kernel
def rm_X8_sendAll : Room := { frames := 0, cells := 0, slots := 0, locals := 0 }
section
variable {p : Program} {l : Launch} {e : Env} {s : State} {m : MethodId} {args : Array Value} {below : List Frame} {meth : Method} {c : Code} {Q : State → Prop} {G : va_G} {aC : Nat → ClassId} {t b0 : Nat}
def f_X8_sendAll_L31 (v0 : Nat) (v1 : Nat) (v3 : Int32) (v4 : Nat) (k114 : Int32 → AH → Option (Int32 × AH)) : Nat → Int32 → Int32 → AH → Option (Int32 × AH)
  | 0, _, _, _ => none
  | n + 1, v2, v5, N => ob (hI N v4 1 0) (fun x8 => if x8 ≤ v5 then k114 v2 N else ob (hR N v4 1 5) (fun x10 => ob (aI N x10 v5) (fun x11 => ob (hR N v4 1 4) (fun x12 => ob (aI N x12 v5) (fun x13 => ob (sI N x12 v5 (x13 - x11)) (fun N14 => ob (hR N14 v1 7 8) (fun x15 => ob (hR N14 v4 1 1) (fun x16 => ob (aI N14 x16 v5) (fun x17 => ob (aI N14 x15 x17) (fun x18 => ob (sI N14 x15 x17 (x18 + x11)) (fun N19 => ob (hR N19 v1 7 8) (fun x20 => ob (hR N19 v4 1 2) (fun x21 => ob (aI N19 x21 v5) (fun x22 => ob (aI N19 x20 ((8 : Int32) + x22)) (fun x23 => ob (sI N19 x20 ((8 : Int32) + x22) (x23 + x11)) (fun N24 => f_X8_sendAll_L31 v0 v1 v3 v4 k114 n (v2 + x11) (v5 + 1) N24))))))))))))))))
set_option maxHeartbeats 4000000 in
set_option maxRecDepth 100000 in
theorem w_X8_sendAll_L31 {P : Int32 × AH → Prop} (X : CX cX8_sendAll RX8 7 G aC t b0 p s m args c) (hr : RtI p l e rm_X8_sendAll s m args below meth c 0 0 Q cX8_sendAll G aC b0 P) (v0 : Nat) (v1 : Nat) (v3 : Int32) (v4 : Nat) {k114 : Int32 → AH → Option (Int32 × AH)}
    (hk114 : ∀ (v2 : Int32) (N : AH) (H : Heap) (locs : List Loc) (ls : Array Slot), Rp G aC b0 N H → va_S (fun q => b0 ≤ q) s.heap H locs → lv_has ls 7 [(0, .ref v0), (1, .ref v1), (2, .int v2), (3, .int v3)] → owp (k114 v2 N) P → W p l e rm_X8_sendAll s m args below meth c H locs 0 0 Q (F0 m 114 ls [])) :
    ∀ (n : Nat) (v2 : Int32) (v5 : Int32) (N : AH) (H : Heap) (locs : List Loc) (ls : Array Slot), Rp G aC b0 N H → va_S (fun q => b0 ≤ q) s.heap H locs → lv_has ls 7 [(0, .ref v0), (1, .ref v1), (2, .int v2), (3, .int v3), (4, .ref v4), (5, .int v5)] → owp (f_X8_sendAll_L31 v0 v1 v3 v4 k114 n v2 v5 N) P → W p l e rm_X8_sendAll s m args below meth c H locs 0 0 Q (F0 m 31 ls []) := by
  have hx := X.1.1
  have hb := X.1.2.1
  intro n
  induction n with
  | zero =>
    intro v2 v5 N H locs ls hR hS hl hp
    exact (show False from hp).elim
  | succ n ih =>
    intro v2 v5 N H locs ls hR hS hl hp
    rw [f_X8_sendAll_L31] at hp
    refine lv_iload hx hb dX8_sendAll_31 (lv_at hl 5 rfl) ?_
    refine lv_aload hx hb dX8_sendAll_33 (lv_at hl 4 rfl) ?_
    obtain ⟨x8, e_x8, hp⟩ := owp_ob hp
    refine gf_X8_198 X hR e_x8 dX8_sendAll_35 ?_
    refine lv_icmp_ge (tgt := 114) hx hb dX8_sendAll_38 (by decide) (fun k9 => ?_) (fun k9 => ?_)
    · have hp := owp_t k9 hp
      exact hk114 _ _ _ _ _ hR hS (lv_sub hl [0, 1, 2, 3] rfl) hp
    · have hp := owp_f k9 hp
      refine lv_aload hx hb dX8_sendAll_41 (lv_at hl 4 rfl) ?_
      obtain ⟨x10, e_x10, hp⟩ := owp_ob hp
      refine gf_X8_179 X hR e_x10 dX8_sendAll_43 ?_
      refine lv_iload hx hb dX8_sendAll_46 (lv_at hl 5 rfl) ?_
      obtain ⟨x11, e_x11, hp⟩ := owp_ob hp
      refine ab_iald X hR e_x11 dX8_sendAll_48 ?_
      refine lv_istore (lv' := [(6, .int x11), (0, .ref v0), (1, .ref v1), (2, .int v2), (3, .int v3), (4, .ref v4), (5, .int v5)]) hx hb dX8_sendAll_49 hl (by decide) rfl (fun ls hl => ?_)
      refine lv_aload hx hb dX8_sendAll_51 (lv_at hl 5 rfl) ?_
      obtain ⟨x12, e_x12, hp⟩ := owp_ob hp
      refine gf_X8_201 X hR e_x12 dX8_sendAll_53 ?_
      refine lv_iload hx hb dX8_sendAll_56 (lv_at hl 6 rfl) ?_
      refine lv_dup2_11 hx hb dX8_sendAll_58 rfl rfl ?_
      obtain ⟨x13, e_x13, hp⟩ := owp_ob hp
      refine ab_iald X hR e_x13 dX8_sendAll_59 ?_
      refine lv_iload hx hb dX8_sendAll_60 (lv_at hl 0 rfl) ?_
      refine lv_isub hx hb dX8_sendAll_62 ?_
      obtain ⟨N14, e_N14, hp⟩ := owp_ob hp
      refine ab_iast X hR hS e_N14 dX8_sendAll_63 (fun H locs hR hS => ?_)
      refine lv_aload_n hx hb dX8_sendAll_64 rfl (lv_at hl 2 rfl) ?_
      obtain ⟨x15, e_x15, hp⟩ := owp_ob hp
      refine gf_X8_223 X hR e_x15 dX8_sendAll_65 ?_
      refine lv_aload hx hb dX8_sendAll_68 (lv_at hl 5 rfl) ?_
      obtain ⟨x16, e_x16, hp⟩ := owp_ob hp
      refine gf_X8_211 X hR e_x16 dX8_sendAll_70 ?_
      refine lv_iload hx hb dX8_sendAll_73 (lv_at hl 6 rfl) ?_
      obtain ⟨x17, e_x17, hp⟩ := owp_ob hp
      refine ab_iald X hR e_x17 dX8_sendAll_75 ?_
      refine lv_dup2_11 hx hb dX8_sendAll_76 rfl rfl ?_
      obtain ⟨x18, e_x18, hp⟩ := owp_ob hp
      refine ab_iald X hR e_x18 dX8_sendAll_77 ?_
      refine lv_iload hx hb dX8_sendAll_78 (lv_at hl 0 rfl) ?_
      refine lv_iadd hx hb dX8_sendAll_80 ?_
      obtain ⟨N19, e_N19, hp⟩ := owp_ob hp
      refine ab_iast X hR hS e_N19 dX8_sendAll_81 (fun H locs hR hS => ?_)
      refine lv_aload_n hx hb dX8_sendAll_82 rfl (lv_at hl 2 rfl) ?_
      obtain ⟨x20, e_x20, hp⟩ := owp_ob hp
      refine gf_X8_223 X hR e_x20 dX8_sendAll_83 ?_
      refine lv_bipush (v := (8)) hx hb dX8_sendAll_86 (by decide) ?_
      refine lv_aload hx hb dX8_sendAll_88 (lv_at hl 5 rfl) ?_
      obtain ⟨x21, e_x21, hp⟩ := owp_ob hp
      refine gf_X8_214 X hR e_x21 dX8_sendAll_90 ?_
      refine lv_iload hx hb dX8_sendAll_93 (lv_at hl 6 rfl) ?_
      obtain ⟨x22, e_x22, hp⟩ := owp_ob hp
      refine ab_iald X hR e_x22 dX8_sendAll_95 ?_
      refine lv_iadd hx hb dX8_sendAll_96 ?_
      refine lv_dup2_11 hx hb dX8_sendAll_97 rfl rfl ?_
      obtain ⟨x23, e_x23, hp⟩ := owp_ob hp
      refine ab_iald X hR e_x23 dX8_sendAll_98 ?_
      refine lv_iload hx hb dX8_sendAll_99 (lv_at hl 0 rfl) ?_
      refine lv_iadd hx hb dX8_sendAll_101 ?_
      obtain ⟨N24, e_N24, hp⟩ := owp_ob hp
      refine ab_iast X hR hS e_N24 dX8_sendAll_102 (fun H locs hR hS => ?_)
      refine lv_iload_n hx hb dX8_sendAll_103 rfl (lv_at hl 3 rfl) ?_
      refine lv_iload hx hb dX8_sendAll_104 (lv_at hl 0 rfl) ?_
      refine lv_iadd hx hb dX8_sendAll_106 ?_
      refine lv_istore_n (lv' := [(2, .int (v2 + x11)), (6, .int x11), (0, .ref v0), (1, .ref v1), (3, .int v3), (4, .ref v4), (5, .int v5)]) hx hb dX8_sendAll_107 rfl hl (by decide) rfl (fun ls hl => ?_)
      refine lv_iinc (v := v5 + 1) (lv' := [(5, .int (v5 + 1)), (2, .int (v2 + x11)), (6, .int x11), (0, .ref v0), (1, .ref v1), (3, .int v3), (4, .ref v4)]) hx hb dX8_sendAll_108 hl (k := 6) rfl rfl (by decide) rfl (fun ls hl => ?_)
      refine lv_goto (tgt := 31) hx hb dX8_sendAll_111 (by decide) ?_
      exact ih _ _ _ _ _ _ hR hS (lv_sub hl [3, 4, 1, 5, 6, 0] rfl) hp
def f_X8_sendAll_L4 (v0 : Nat) (v1 : Nat) (k120 : Int32 → AH → Option (Int32 × AH)) : Nat → Int32 → Int32 → AH → Option (Int32 × AH)
  | 0, _, _, _ => none
  | n + 1, v2, v3, N => ob (hI N v0 8 0) (fun x1 => if x1 ≤ v3 then k120 v2 N else ob (hR N v1 7 10) (fun x3 => ob (hR N v0 8 1) (fun x4 => ob (aI N x4 v3) (fun x5 => ob (aR N 2 x3 x5) (fun x6 => ob (hR N x6 4 5) (fun x7 => f_X8_sendAll_L31 v0 v1 v3 x7 (fun v25 N26 => f_X8_sendAll_L4 v0 v1 k120 n v25 (v3 + 1) N26) FU v2 (0 : Int32) N))))))
set_option maxHeartbeats 4000000 in
set_option maxRecDepth 100000 in
theorem w_X8_sendAll_L4 {P : Int32 × AH → Prop} (X : CX cX8_sendAll RX8 7 G aC t b0 p s m args c) (hr : RtI p l e rm_X8_sendAll s m args below meth c 0 0 Q cX8_sendAll G aC b0 P) (v0 : Nat) (v1 : Nat) {k120 : Int32 → AH → Option (Int32 × AH)}
    (hk120 : ∀ (v2 : Int32) (N : AH) (H : Heap) (locs : List Loc) (ls : Array Slot), Rp G aC b0 N H → va_S (fun q => b0 ≤ q) s.heap H locs → lv_has ls 7 [(2, .int v2)] → owp (k120 v2 N) P → W p l e rm_X8_sendAll s m args below meth c H locs 0 0 Q (F0 m 120 ls [])) :
    ∀ (n : Nat) (v2 : Int32) (v3 : Int32) (N : AH) (H : Heap) (locs : List Loc) (ls : Array Slot), Rp G aC b0 N H → va_S (fun q => b0 ≤ q) s.heap H locs → lv_has ls 7 [(0, .ref v0), (1, .ref v1), (2, .int v2), (3, .int v3)] → owp (f_X8_sendAll_L4 v0 v1 k120 n v2 v3 N) P → W p l e rm_X8_sendAll s m args below meth c H locs 0 0 Q (F0 m 4 ls []) := by
  have hx := X.1.1
  have hb := X.1.2.1
  intro n
  induction n with
  | zero =>
    intro v2 v3 N H locs ls hR hS hl hp
    exact (show False from hp).elim
  | succ n ih =>
    intro v2 v3 N H locs ls hR hS hl hp
    rw [f_X8_sendAll_L4] at hp
    refine lv_iload_n hx hb dX8_sendAll_4 rfl (lv_at hl 3 rfl) ?_
    refine lv_aload_n hx hb dX8_sendAll_5 rfl (lv_at hl 0 rfl) ?_
    obtain ⟨x1, e_x1, hp⟩ := owp_ob hp
    refine gf_X8_53 X hR e_x1 dX8_sendAll_6 ?_
    refine lv_icmp_ge (tgt := 120) hx hb dX8_sendAll_9 (by decide) (fun k2 => ?_) (fun k2 => ?_)
    · have hp := owp_t k2 hp
      exact hk120 _ _ _ _ _ hR hS (lv_sub hl [2] rfl) hp
    · have hp := owp_f k2 hp
      refine lv_aload_n hx hb dX8_sendAll_12 rfl (lv_at hl 1 rfl) ?_
      obtain ⟨x3, e_x3, hp⟩ := owp_ob hp
      refine gf_X8_85 X hR e_x3 dX8_sendAll_13 ?_
      refine lv_aload_n hx hb dX8_sendAll_16 rfl (lv_at hl 0 rfl) ?_
      obtain ⟨x4, e_x4, hp⟩ := owp_ob hp
      refine gf_X8_9 X hR e_x4 dX8_sendAll_17 ?_
      refine lv_iload_n hx hb dX8_sendAll_20 rfl (lv_at hl 3 rfl) ?_
      obtain ⟨x5, e_x5, hp⟩ := owp_ob hp
      refine ab_iald X hR e_x5 dX8_sendAll_21 ?_
      obtain ⟨x6, e_x6, hp⟩ := owp_ob hp
      refine ab_aald X hR (kd := 2) rfl e_x6 dX8_sendAll_22 ?_
      obtain ⟨x7, e_x7, hp⟩ := owp_ob hp
      refine gf_X8_109 X hR e_x7 dX8_sendAll_23 ?_
      refine lv_astore (lv' := [(4, .ref x7), (0, .ref v0), (1, .ref v1), (2, .int v2), (3, .int v3)]) hx hb dX8_sendAll_26 hl (by decide) rfl (fun ls hl => ?_)
      refine lv_iconst (v := (0)) hx hb dX8_sendAll_28 (by decide) ?_
      refine lv_istore (lv' := [(5, .int (0 : Int32)), (4, .ref x7), (0, .ref v0), (1, .ref v1), (2, .int v2), (3, .int v3)]) hx hb dX8_sendAll_29 hl (by decide) rfl (fun ls hl => ?_)
      refine w_X8_sendAll_L31 X hr _ _ _ _ (fun v25 N26 H locs ls hR hS hl hp => ?_) _ _ _ _ _ _ _ hR hS (lv_sub hl [2, 3, 4, 5, 1, 0] rfl) hp
      refine lv_iinc (v := v3 + 1) (lv' := [(3, .int (v3 + 1)), (0, .ref v0), (1, .ref v1), (2, .int v25)]) hx hb dX8_sendAll_114 hl (k := 3) rfl rfl (by decide) rfl (fun ls hl => ?_)
      refine lv_goto (tgt := 4) hx hb dX8_sendAll_117 (by decide) ?_
      exact ih _ _ _ _ _ _ hR hS (lv_sub hl [1, 2, 3, 0] rfl) hp
def f_X8_sendAll (v0 : Nat) (v1 : Nat) (N : AH) : Option (Int32 × AH) := ob (iO N v0 8) (fun _ => f_X8_sendAll_L4 v0 v1 (fun v27 N28 => some (v27, N28)) FU (0 : Int32) (0 : Int32) N)
set_option maxHeartbeats 4000000 in
set_option maxRecDepth 100000 in
theorem wk_X8_sendAll {P : Int32 × AH → Prop} (X : CX cX8_sendAll RX8 7 G aC t b0 p s m args c) (hr : RtI p l e rm_X8_sendAll s m args below meth c 0 0 Q cX8_sendAll G aC b0 P) (v0 : Nat) (v1 : Nat) (N : AH) (H : Heap) (locs : List Loc) (ls : Array Slot) (hR : Rp G aC b0 N H) (hS : va_S (fun q => b0 ≤ q) s.heap H locs) (hl : lv_has ls 7 [(0, .ref v0), (1, .ref v1)]) (hp : owp (f_X8_sendAll v0 v1 N) P) : W p l e rm_X8_sendAll s m args below meth c H locs 0 0 Q (F0 m 0 ls []) := by
  have hx := X.1.1
  have hb := X.1.2.1
  unfold f_X8_sendAll at hp
  obtain ⟨_, _, hp⟩ := owp_ob hp
  refine lv_iconst (v := (0)) hx hb dX8_sendAll_0 (by decide) ?_
  refine lv_istore_n (lv' := [(2, .int (0 : Int32)), (0, .ref v0), (1, .ref v1)]) hx hb dX8_sendAll_1 rfl hl (by decide) rfl (fun ls hl => ?_)
  refine lv_iconst (v := (0)) hx hb dX8_sendAll_2 (by decide) ?_
  refine lv_istore_n (lv' := [(3, .int (0 : Int32)), (2, .int (0 : Int32)), (0, .ref v0), (1, .ref v1)]) hx hb dX8_sendAll_3 rfl hl (by decide) rfl (fun ls hl => ?_)
  refine w_X8_sendAll_L4 X hr _ _ (fun v27 N28 H locs ls hR hS hl hp => ?_) _ _ _ _ _ _ _ hR hS (lv_sub hl [2, 3, 1, 0] rfl) hp
  refine lv_iload_n hx hb dX8_sendAll_120 rfl (lv_at hl 0 rfl) ?_
  exact hr _ _ _ _ _ _ hR hS dX8_sendAll_121 hp
end
theorem ct_X8_sendAll {v0 : Nat} {v1 : Nat} {N N1 : AH} {r : Int32} (h : f_X8_sendAll v0 v1 N = some (r, N1)) : Ct yX8_sendAll cX8_sendAll 7 (some .int) rm_X8_sendAll [.ref v0, .ref v1] N (some (.int r)) N1 :=
  ab_met (own := RX8) (by decide +kernel) rfl (Nat.le_of_ble_eq_true rfl) (fun l G aC t b0 p e s m below meth c ls X hr hlk hnm hR hS hl => wk_X8_sendAll X (RtI_met X.1.1 X.1.2.1 hr hlk) _ _ _ _ _ _ hR hS hl (owp_of h))
theorem cw_X8_sendAll : Cond.code yX8_sendAll cX8_sendAll 7 (some .int) ∈ WT := WT_of 711 (by decide +kernel) (by decide +kernel)
theorem iv_X8_sendAll {p : Program} {l : Launch} {e : Env} {R : Room} {s : State} {m : MethodId} {args : Array Value} {below : List Frame} {meth : Method} {c : Code} {H : Heap} {locs : List Loc} {cells slots : Nat} {Q : State → Prop} {cc : ByteArray} {own : String} {nL : Nat} {G : va_G} {aC : Nat → ClassId} {t b0 : Nat} {N N1 : AH} {pc index : Nat} {ls : Array Slot} {rest : List Value} {v0 : Nat} {v1 : Nat} {r : Int32} (w1 : Cond.methodLink own index yX8_sendAll ∈ WT) (X : CX cc own nL G aC t b0 p s m args c) (hR : Rp G aC b0 N H) (hS : va_S (fun q => b0 ≤ q) s.heap H locs) (h : f_X8_sendAll v0 v1 N = some (r, N1)) (hls : ls.size = nL) (hW : (rest.map fun v => v.category).sum ≤ 8) (hR1 : 1 ≤ R.frames ∧ 26 ≤ R.locals) (hcs : cells + 0 ≤ R.cells ∧ slots + 0 ≤ R.slots) (hdg : decode cc pc = .ok (.invokevirtual index, 3)) (kk : ∀ (H1 : Heap) (locs1 : List Loc), Rp G aC b0 N1 H1 → va_S (fun q => b0 ≤ q) s.heap H1 locs1 → W p l e R s m args below meth c H1 locs1 cells slots Q (F0 m (pc + 3) ls (.int r :: rest))) : W p l e R s m args below meth c H locs cells slots Q (F0 m pc ls (.ref v1 :: .ref v0 :: rest)) :=
  ab_callV (n := 1) (As := [.ref v1]) X hR hS (ct_X8_sendAll h) (ob_rc (c := 8) (N := N) (a := v0) h) (T := TX8) (k := 11) (C := RX8) rfl w1 (WT_of 710 (by decide +kernel) (by decide +kernel)) (WT_of 18 (by decide +kernel) (by decide +kernel)) (WT_of 89 (by decide +kernel) (by decide +kernel)) cw_X8_sendAll ⟨rfl, by decide +kernel, by decide +kernel, by decide +kernel⟩ rfl hls hW hR1 hcs rfl hdg kk
-- X8_noteDone
theorem mw_X8_226 : Cond.methodLink RX8 226 yX4_isOpen ∈ WT := WT_of 716 (by decide +kernel) (by decide +kernel)
theorem pf_X8_230 {p : Program} {l : Launch} {e : Env} {R : Room} {s : State} {m : MethodId} {args : Array Value} {below : List Frame} {meth : Method} {c : Code} {H : Heap} {locs : List Loc} {cells slots : Nat} {Q : State → Prop} {cc : ByteArray} {nL : Nat} {G : va_G} {aC : Nat → ClassId} {t b0 : Nat} {N : AH} {pc : Nat} {ls : Array Slot} {rest : List Value} {N1 : AH} {a : Nat} {v : Int32} (X : CX cc RX8 nL G aC t b0 p s m args c) (hR0 : Rp G aC b0 N H) (hS : va_S (fun q => b0 ≤ q) s.heap H locs) (hv : pI N a 4 3 v = some N1) (hdg : decode cc pc = .ok (.putfield 230, 3)) (kk : ∀ (H1 : Heap) (locs1 : List Loc), Rp G aC b0 N1 H1 → va_S (fun q => b0 ≤ q) s.heap H1 locs1 → W p l e R s m args below meth c H1 locs1 cells slots Q (F0 m (pc + 3) ls rest)) : W p l e R s m args below meth c H locs cells slots Q (F0 m pc ls (.int v :: .ref a :: rest)) := by
  obtain ⟨fs, h1, h2, h3⟩ := pV_ok hv
  subst h3
  exact ab_put (C := RX4) (T := TX4) (n := 6) X hR0 hS h1 h2 rfl inX4 tyX4 tyX4_ok nmX4 (by decide) (WT_of 205 (by decide +kernel) (by decide +kernel)) rfl rfl rfl hdg kk
theorem dX8_noteDone_0 : decode cX8_noteDone 0 = .ok (.iconst 0, 1) := by decide +kernel
theorem dX8_noteDone_1 : decode cX8_noteDone 1 = .ok (.istore_n 2, 1) := by decide +kernel
theorem dX8_noteDone_2 : decode cX8_noteDone 2 = .ok (.iload_n 2, 1) := by decide +kernel
theorem dX8_noteDone_3 : decode cX8_noteDone 3 = .ok (.aload_n 1, 1) := by decide +kernel
theorem dX8_noteDone_4 : decode cX8_noteDone 4 = .ok (.getfield 82, 3) := by decide +kernel
theorem dX8_noteDone_7 : decode cX8_noteDone 7 = .ok (.if_icmp .ge 54, 3) := by decide +kernel
theorem dX8_noteDone_10 : decode cX8_noteDone 10 = .ok (.aload_n 1, 1) := by decide +kernel
theorem dX8_noteDone_11 : decode cX8_noteDone 11 = .ok (.getfield 85, 3) := by decide +kernel
theorem dX8_noteDone_14 : decode cX8_noteDone 14 = .ok (.iload_n 2, 1) := by decide +kernel
theorem dX8_noteDone_15 : decode cX8_noteDone 15 = .ok (.aaload, 1) := by decide +kernel
theorem dX8_noteDone_16 : decode cX8_noteDone 16 = .ok (.astore_n 3, 1) := by decide +kernel
theorem dX8_noteDone_17 : decode cX8_noteDone 17 = .ok (.aload_n 3, 1) := by decide +kernel
theorem dX8_noteDone_18 : decode cX8_noteDone 18 = .ok (.invokevirtual 226, 3) := by decide +kernel
theorem dX8_noteDone_21 : decode cX8_noteDone 21 = .ok (.ifCond .eq 34, 3) := by decide +kernel
theorem dX8_noteDone_24 : decode cX8_noteDone 24 = .ok (.aload_n 3, 1) := by decide +kernel
theorem dX8_noteDone_25 : decode cX8_noteDone 25 = .ok (.getfield 109, 3) := by decide +kernel
theorem dX8_noteDone_28 : decode cX8_noteDone 28 = .ok (.invokevirtual 143, 3) := by decide +kernel
theorem dX8_noteDone_31 : decode cX8_noteDone 31 = .ok (.ifCond .ne 24, 3) := by decide +kernel
theorem dX8_noteDone_34 : decode cX8_noteDone 34 = .ok (.aload_n 3, 1) := by decide +kernel
theorem dX8_noteDone_35 : decode cX8_noteDone 35 = .ok (.aload_n 1, 1) := by decide +kernel
theorem dX8_noteDone_36 : decode cX8_noteDone 36 = .ok (.getfield 70, 3) := by decide +kernel
theorem dX8_noteDone_39 : decode cX8_noteDone 39 = .ok (.putfield 230, 3) := by decide +kernel
theorem dX8_noteDone_42 : decode cX8_noteDone 42 = .ok (.aload_n 1, 1) := by decide +kernel
theorem dX8_noteDone_43 : decode cX8_noteDone 43 = .ok (.getfield 164, 3) := by decide +kernel
theorem dX8_noteDone_46 : decode cX8_noteDone 46 = .ok (.iconst 1, 1) := by decide +kernel
theorem dX8_noteDone_47 : decode cX8_noteDone 47 = .ok (.iload_n 2, 1) := by decide +kernel
theorem dX8_noteDone_48 : decode cX8_noteDone 48 = .ok (.aload_n 1, 1) := by decide +kernel
theorem dX8_noteDone_49 : decode cX8_noteDone 49 = .ok (.getfield 70, 3) := by decide +kernel
theorem dX8_noteDone_52 : decode cX8_noteDone 52 = .ok (.invokevirtual 168, 3) := by decide +kernel
theorem dX8_noteDone_55 : decode cX8_noteDone 55 = .ok (.iinc 2 1, 3) := by decide +kernel
theorem dX8_noteDone_58 : decode cX8_noteDone 58 = .ok (.goto (-56), 3) := by decide +kernel
theorem dX8_noteDone_61 : decode cX8_noteDone 61 = .ok (.return_, 1) := by decide +kernel
def rm_X8_noteDone : Room := { frames := 1, cells := 0, slots := 0, locals := 23 }
section
variable {p : Program} {l : Launch} {e : Env} {s : State} {m : MethodId} {args : Array Value} {below : List Frame} {meth : Method} {c : Code} {Q : State → Prop} {G : va_G} {aC : Nat → ClassId} {t b0 : Nat}
def f_X8_noteDone_L2 (v1 : Nat) (k61 : AH → Option (Unit × AH)) : Nat → Int32 → AH → Option (Unit × AH)
  | 0, _, _ => none
  | n + 1, v2, N => ob (hI N v1 7 6) (fun x1 => if x1 ≤ v2 then k61 N else ob (hR N v1 7 10) (fun x3 => ob (aR N 2 x3 v2) (fun x4 => ob2 (f_X4_isOpen x4 N) (fun x6 N5 => if x6 = 0 then f_X8_noteDone_L2 v1 k61 n (v2 + 1) N5 else ob (hR N5 x4 4 5) (fun x8 => ob2 (f_X1_countUndone x8 N5) (fun x10 N9 => if ¬ x10 = 0 then f_X8_noteDone_L2 v1 k61 n (v2 + 1) N9 else ob (hI N9 v1 7 0) (fun x12 => ob (pI N9 x4 4 3 x12) (fun N13 => ob (hR N13 v1 7 11) (fun x14 => ob (hI N13 v1 7 0) (fun x15 => ob2 (f_X0_add x14 (1 : Int32) v2 x15 N13) (fun _ N16 => f_X8_noteDone_L2 v1 k61 n (v2 + 1) N16)))))))))))
set_option maxHeartbeats 4000000 in
set_option maxRecDepth 100000 in
theorem w_X8_noteDone_L2 {P : Unit × AH → Prop} (X : CX cX8_noteDone RX8 4 G aC t b0 p s m args c) (hr : RtV p l e rm_X8_noteDone s m args below meth c 0 0 Q cX8_noteDone G aC b0 P) (v1 : Nat) {k61 : AH → Option (Unit × AH)}
    (hk61 : ∀ (N : AH) (H : Heap) (locs : List Loc) (ls : Array Slot), Rp G aC b0 N H → va_S (fun q => b0 ≤ q) s.heap H locs → lv_has ls 4 [] → owp (k61 N) P → W p l e rm_X8_noteDone s m args below meth c H locs 0 0 Q (F0 m 61 ls [])) :
    ∀ (n : Nat) (v2 : Int32) (N : AH) (H : Heap) (locs : List Loc) (ls : Array Slot), Rp G aC b0 N H → va_S (fun q => b0 ≤ q) s.heap H locs → lv_has ls 4 [(1, .ref v1), (2, .int v2)] → owp (f_X8_noteDone_L2 v1 k61 n v2 N) P → W p l e rm_X8_noteDone s m args below meth c H locs 0 0 Q (F0 m 2 ls []) := by
  have hx := X.1.1
  have hb := X.1.2.1
  intro n
  induction n with
  | zero =>
    intro v2 N H locs ls hR hS hl hp
    exact (show False from hp).elim
  | succ n ih =>
    intro v2 N H locs ls hR hS hl hp
    rw [f_X8_noteDone_L2] at hp
    refine lv_iload_n hx hb dX8_noteDone_2 rfl (lv_at hl 1 rfl) ?_
    refine lv_aload_n hx hb dX8_noteDone_3 rfl (lv_at hl 0 rfl) ?_
    obtain ⟨x1, e_x1, hp⟩ := owp_ob hp
    refine gf_X8_82 X hR e_x1 dX8_noteDone_4 ?_
    refine lv_icmp_ge (tgt := 61) hx hb dX8_noteDone_7 (by decide) (fun k2 => ?_) (fun k2 => ?_)
    · have hp := owp_t k2 hp
      exact hk61 _ _ _ _ hR hS (lv_sub hl [] rfl) hp
    · have hp := owp_f k2 hp
      refine lv_aload_n hx hb dX8_noteDone_10 rfl (lv_at hl 0 rfl) ?_
      obtain ⟨x3, e_x3, hp⟩ := owp_ob hp
      refine gf_X8_85 X hR e_x3 dX8_noteDone_11 ?_
      refine lv_iload_n hx hb dX8_noteDone_14 rfl (lv_at hl 1 rfl) ?_
      obtain ⟨x4, e_x4, hp⟩ := owp_ob hp
      refine ab_aald X hR (kd := 2) rfl e_x4 dX8_noteDone_15 ?_
      refine lv_astore_n (lv' := [(3, .ref x4), (1, .ref v1), (2, .int v2)]) hx hb dX8_noteDone_16 rfl hl (by decide) rfl (fun ls hl => ?_)
      refine lv_aload_n hx hb dX8_noteDone_17 rfl (lv_at hl 0 rfl) ?_
      obtain ⟨x6, N5, e_N5, hp⟩ := owp_ob2 hp
      refine iv_X4_isOpen (rest := []) mw_X8_226 X hR hS e_N5 hl.1 (Nat.le_of_ble_eq_true rfl) ⟨Nat.le_of_ble_eq_true rfl, Nat.le_of_ble_eq_true rfl⟩ ⟨Nat.le_of_ble_eq_true rfl, Nat.le_of_ble_eq_true rfl⟩ dX8_noteDone_18 (fun H locs hR hS => ?_)
      refine lv_if_eq (tgt := 55) hx hb dX8_noteDone_21 (by decide) (fun k7 => ?_) (fun k7 => ?_)
      · have hp := owp_t k7 hp
        refine lv_iinc (v := v2 + 1) (lv' := [(2, .int (v2 + 1)), (3, .ref x4), (1, .ref v1)]) hx hb dX8_noteDone_55 hl (k := 2) rfl rfl (by decide) rfl (fun ls hl => ?_)
        refine lv_goto (tgt := 2) hx hb dX8_noteDone_58 (by decide) ?_
        exact ih _ _ _ _ _ hR hS (lv_sub hl [2, 0] rfl) hp
      · have hp := owp_f k7 hp
        refine lv_aload_n hx hb dX8_noteDone_24 rfl (lv_at hl 0 rfl) ?_
        obtain ⟨x8, e_x8, hp⟩ := owp_ob hp
        refine gf_X8_109 X hR e_x8 dX8_noteDone_25 ?_
        obtain ⟨x10, N9, e_N9, hp⟩ := owp_ob2 hp
        refine iv_X1_countUndone (rest := []) mw_X8_143 X hR hS e_N9 hl.1 (Nat.le_of_ble_eq_true rfl) ⟨Nat.le_of_ble_eq_true rfl, Nat.le_of_ble_eq_true rfl⟩ ⟨Nat.le_of_ble_eq_true rfl, Nat.le_of_ble_eq_true rfl⟩ dX8_noteDone_28 (fun H locs hR hS => ?_)
        refine lv_if_ne (tgt := 55) hx hb dX8_noteDone_31 (by decide) (fun k11 => ?_) (fun k11 => ?_)
        · have hp := owp_t k11 hp
          refine lv_iinc (v := v2 + 1) (lv' := [(2, .int (v2 + 1)), (3, .ref x4), (1, .ref v1)]) hx hb dX8_noteDone_55 hl (k := 2) rfl rfl (by decide) rfl (fun ls hl => ?_)
          refine lv_goto (tgt := 2) hx hb dX8_noteDone_58 (by decide) ?_
          exact ih _ _ _ _ _ hR hS (lv_sub hl [2, 0] rfl) hp
        · have hp := owp_f (fun q => q k11) hp
          refine lv_aload_n hx hb dX8_noteDone_34 rfl (lv_at hl 0 rfl) ?_
          refine lv_aload_n hx hb dX8_noteDone_35 rfl (lv_at hl 1 rfl) ?_
          obtain ⟨x12, e_x12, hp⟩ := owp_ob hp
          refine gf_X8_70 X hR e_x12 dX8_noteDone_36 ?_
          obtain ⟨N13, e_N13, hp⟩ := owp_ob hp
          refine pf_X8_230 X hR hS e_N13 dX8_noteDone_39 (fun H locs hR hS => ?_)
          refine lv_aload_n hx hb dX8_noteDone_42 rfl (lv_at hl 1 rfl) ?_
          obtain ⟨x14, e_x14, hp⟩ := owp_ob hp
          refine gf_X8_164 X hR e_x14 dX8_noteDone_43 ?_
          refine lv_iconst (v := (1)) hx hb dX8_noteDone_46 (by decide) ?_
          refine lv_iload_n hx hb dX8_noteDone_47 rfl (lv_at hl 2 rfl) ?_
          refine lv_aload_n hx hb dX8_noteDone_48 rfl (lv_at hl 1 rfl) ?_
          obtain ⟨x15, e_x15, hp⟩ := owp_ob hp
          refine gf_X8_70 X hR e_x15 dX8_noteDone_49 ?_
          obtain ⟨_, N16, e_N16, hp⟩ := owp_ob2 hp
          refine iv_X0_add (rest := []) mw_X8_168 X hR hS e_N16 hl.1 (Nat.le_of_ble_eq_true rfl) ⟨Nat.le_of_ble_eq_true rfl, Nat.le_of_ble_eq_true rfl⟩ ⟨Nat.le_of_ble_eq_true rfl, Nat.le_of_ble_eq_true rfl⟩ dX8_noteDone_52 (fun H locs hR hS => ?_)
          refine lv_iinc (v := v2 + 1) (lv' := [(2, .int (v2 + 1)), (3, .ref x4), (1, .ref v1)]) hx hb dX8_noteDone_55 hl (k := 2) rfl rfl (by decide) rfl (fun ls hl => ?_)
          refine lv_goto (tgt := 2) hx hb dX8_noteDone_58 (by decide) ?_
          exact ih _ _ _ _ _ hR hS (lv_sub hl [2, 0] rfl) hp
def f_X8_noteDone (v0 : Nat) (v1 : Nat) (N : AH) : Option (Unit × AH) := ob (iO N v0 8) (fun _ => f_X8_noteDone_L2 v1 (fun N17 => some ((), N17)) FU (0 : Int32) N)
set_option maxHeartbeats 4000000 in
set_option maxRecDepth 100000 in
theorem wk_X8_noteDone {P : Unit × AH → Prop} (X : CX cX8_noteDone RX8 4 G aC t b0 p s m args c) (hr : RtV p l e rm_X8_noteDone s m args below meth c 0 0 Q cX8_noteDone G aC b0 P) (v0 : Nat) (v1 : Nat) (N : AH) (H : Heap) (locs : List Loc) (ls : Array Slot) (hR : Rp G aC b0 N H) (hS : va_S (fun q => b0 ≤ q) s.heap H locs) (hl : lv_has ls 4 [(0, .ref v0), (1, .ref v1)]) (hp : owp (f_X8_noteDone v0 v1 N) P) : W p l e rm_X8_noteDone s m args below meth c H locs 0 0 Q (F0 m 0 ls []) := by
  have hx := X.1.1
  have hb := X.1.2.1
  unfold f_X8_noteDone at hp
  obtain ⟨_, _, hp⟩ := owp_ob hp
  refine lv_iconst (v := (0)) hx hb dX8_noteDone_0 (by decide) ?_
  refine lv_istore_n (lv' := [(2, .int (0 : Int32)), (0, .ref v0), (1, .ref v1)]) hx hb dX8_noteDone_1 rfl hl (by decide) rfl (fun ls hl => ?_)
  refine w_X8_noteDone_L2 X hr _ (fun N17 H locs ls hR hS hl hp => ?_) _ _ _ _ _ _ hR hS (lv_sub hl [2, 0] rfl) hp
  exact hr _ _ _ _ _ hR hS dX8_noteDone_61 hp
end
theorem ct_X8_noteDone {v0 : Nat} {v1 : Nat} {N N1 : AH} {r : Unit} (h : f_X8_noteDone v0 v1 N = some (r, N1)) : Ct yX8_noteDone cX8_noteDone 4 none rm_X8_noteDone [.ref v0, .ref v1] N none N1 :=
  ab_met (own := RX8) (by decide +kernel) rfl (Nat.le_of_ble_eq_true rfl) (fun l G aC t b0 p e s m below meth c ls X hr hlk hnm hR hS hl => wk_X8_noteDone X (RtV_met X.1.1 X.1.2.1 hr hlk) _ _ _ _ _ _ hR hS hl (owp_of h))
theorem cw_X8_noteDone : Cond.code yX8_noteDone cX8_noteDone 4 none ∈ WT := WT_of 715 (by decide +kernel) (by decide +kernel)
theorem iv_X8_noteDone {p : Program} {l : Launch} {e : Env} {R : Room} {s : State} {m : MethodId} {args : Array Value} {below : List Frame} {meth : Method} {c : Code} {H : Heap} {locs : List Loc} {cells slots : Nat} {Q : State → Prop} {cc : ByteArray} {own : String} {nL : Nat} {G : va_G} {aC : Nat → ClassId} {t b0 : Nat} {N N1 : AH} {pc index : Nat} {ls : Array Slot} {rest : List Value} {v0 : Nat} {v1 : Nat} {r : Unit} (w1 : Cond.methodLink own index yX8_noteDone ∈ WT) (X : CX cc own nL G aC t b0 p s m args c) (hR : Rp G aC b0 N H) (hS : va_S (fun q => b0 ≤ q) s.heap H locs) (h : f_X8_noteDone v0 v1 N = some (r, N1)) (hls : ls.size = nL) (hW : (rest.map fun v => v.category).sum ≤ 8) (hR1 : 2 ≤ R.frames ∧ 46 ≤ R.locals) (hcs : cells + 0 ≤ R.cells ∧ slots + 0 ≤ R.slots) (hdg : decode cc pc = .ok (.invokevirtual index, 3)) (kk : ∀ (H1 : Heap) (locs1 : List Loc), Rp G aC b0 N1 H1 → va_S (fun q => b0 ≤ q) s.heap H1 locs1 → W p l e R s m args below meth c H1 locs1 cells slots Q (F0 m (pc + 3) ls rest)) : W p l e R s m args below meth c H locs cells slots Q (F0 m pc ls (.ref v1 :: .ref v0 :: rest)) :=
  ab_callV (n := 1) (As := [.ref v1]) X hR hS (ct_X8_noteDone h) (ob_rc (c := 8) (N := N) (a := v0) h) (T := TX8) (k := 11) (C := RX8) rfl w1 (WT_of 714 (by decide +kernel) (by decide +kernel)) (WT_of 19 (by decide +kernel) (by decide +kernel)) (WT_of 89 (by decide +kernel) (by decide +kernel)) cw_X8_noteDone ⟨rfl, by decide +kernel, by decide +kernel, by decide +kernel⟩ rfl hls hW hR1 hcs rfl hdg kk
-- X8_noteLate
theorem dX8_noteLate_0 : decode cX8_noteLate 0 = .ok (.iconst 0, 1) := by decide +kernel
theorem dX8_noteLate_1 : decode cX8_noteLate 1 = .ok (.istore_n 2, 1) := by decide +kernel
theorem dX8_noteLate_2 : decode cX8_noteLate 2 = .ok (.iload_n 2, 1) := by decide +kernel
theorem dX8_noteLate_3 : decode cX8_noteLate 3 = .ok (.aload_n 1, 1) := by decide +kernel
theorem dX8_noteLate_4 : decode cX8_noteLate 4 = .ok (.getfield 82, 3) := by decide +kernel
theorem dX8_noteLate_7 : decode cX8_noteLate 7 = .ok (.if_icmp .ge 54, 3) := by decide +kernel
theorem dX8_noteLate_10 : decode cX8_noteLate 10 = .ok (.aload_n 1, 1) := by decide +kernel
theorem dX8_noteLate_11 : decode cX8_noteLate 11 = .ok (.getfield 85, 3) := by decide +kernel
theorem dX8_noteLate_14 : decode cX8_noteLate 14 = .ok (.iload_n 2, 1) := by decide +kernel
theorem dX8_noteLate_15 : decode cX8_noteLate 15 = .ok (.aaload, 1) := by decide +kernel
theorem dX8_noteLate_16 : decode cX8_noteLate 16 = .ok (.astore_n 3, 1) := by decide +kernel
theorem dX8_noteLate_17 : decode cX8_noteLate 17 = .ok (.aload_n 3, 1) := by decide +kernel
theorem dX8_noteLate_18 : decode cX8_noteLate 18 = .ok (.invokevirtual 226, 3) := by decide +kernel
theorem dX8_noteLate_21 : decode cX8_noteLate 21 = .ok (.ifCond .eq 34, 3) := by decide +kernel
theorem dX8_noteLate_24 : decode cX8_noteLate 24 = .ok (.aload_n 3, 1) := by decide +kernel
theorem dX8_noteLate_25 : decode cX8_noteLate 25 = .ok (.getfield 99, 3) := by decide +kernel
theorem dX8_noteLate_28 : decode cX8_noteLate 28 = .ok (.ifCond .le 27, 3) := by decide +kernel
theorem dX8_noteLate_31 : decode cX8_noteLate 31 = .ok (.aload_n 3, 1) := by decide +kernel
theorem dX8_noteLate_32 : decode cX8_noteLate 32 = .ok (.invokevirtual 102, 3) := by decide +kernel
theorem dX8_noteLate_35 : decode cX8_noteLate 35 = .ok (.aload_n 1, 1) := by decide +kernel
theorem dX8_noteLate_36 : decode cX8_noteLate 36 = .ok (.getfield 70, 3) := by decide +kernel
theorem dX8_noteLate_39 : decode cX8_noteLate 39 = .ok (.if_icmp .ne 16, 3) := by decide +kernel
theorem dX8_noteLate_42 : decode cX8_noteLate 42 = .ok (.aload_n 1, 1) := by decide +kernel
theorem dX8_noteLate_43 : decode cX8_noteLate 43 = .ok (.getfield 164, 3) := by decide +kernel
theorem dX8_noteLate_46 : decode cX8_noteLate 46 = .ok (.iconst 4, 1) := by decide +kernel
theorem dX8_noteLate_47 : decode cX8_noteLate 47 = .ok (.iload_n 2, 1) := by decide +kernel
theorem dX8_noteLate_48 : decode cX8_noteLate 48 = .ok (.aload_n 1, 1) := by decide +kernel
theorem dX8_noteLate_49 : decode cX8_noteLate 49 = .ok (.getfield 70, 3) := by decide +kernel
theorem dX8_noteLate_52 : decode cX8_noteLate 52 = .ok (.invokevirtual 168, 3) := by decide +kernel
theorem dX8_noteLate_55 : decode cX8_noteLate 55 = .ok (.iinc 2 1, 3) := by decide +kernel
theorem dX8_noteLate_58 : decode cX8_noteLate 58 = .ok (.goto (-56), 3) := by decide +kernel
theorem dX8_noteLate_61 : decode cX8_noteLate 61 = .ok (.return_, 1) := by decide +kernel
def rm_X8_noteLate : Room := { frames := 1, cells := 0, slots := 0, locals := 23 }
section
variable {p : Program} {l : Launch} {e : Env} {s : State} {m : MethodId} {args : Array Value} {below : List Frame} {meth : Method} {c : Code} {Q : State → Prop} {G : va_G} {aC : Nat → ClassId} {t b0 : Nat}
def f_X8_noteLate_L2 (v1 : Nat) (k61 : AH → Option (Unit × AH)) : Nat → Int32 → AH → Option (Unit × AH)
  | 0, _, _ => none
  | n + 1, v2, N => ob (hI N v1 7 6) (fun x1 => if x1 ≤ v2 then k61 N else ob (hR N v1 7 10) (fun x3 => ob (aR N 2 x3 v2) (fun x4 => ob2 (f_X4_isOpen x4 N) (fun x6 N5 => if x6 = 0 then f_X8_noteLate_L2 v1 k61 n (v2 + 1) N5 else ob (hI N5 x4 4 2) (fun x8 => if x8 ≤ 0 then f_X8_noteLate_L2 v1 k61 n (v2 + 1) N5 else ob2 (f_X4_deadlineEnd x4 N5) (fun x11 N10 => ob (hI N10 v1 7 0) (fun x12 => if ¬ x11 = x12 then f_X8_noteLate_L2 v1 k61 n (v2 + 1) N10 else ob (hR N10 v1 7 11) (fun x14 => ob (hI N10 v1 7 0) (fun x15 => ob2 (f_X0_add x14 (4 : Int32) v2 x15 N10) (fun _ N16 => f_X8_noteLate_L2 v1 k61 n (v2 + 1) N16))))))))))
set_option maxHeartbeats 4000000 in
set_option maxRecDepth 100000 in
theorem w_X8_noteLate_L2 {P : Unit × AH → Prop} (X : CX cX8_noteLate RX8 4 G aC t b0 p s m args c) (hr : RtV p l e rm_X8_noteLate s m args below meth c 0 0 Q cX8_noteLate G aC b0 P) (v1 : Nat) {k61 : AH → Option (Unit × AH)}
    (hk61 : ∀ (N : AH) (H : Heap) (locs : List Loc) (ls : Array Slot), Rp G aC b0 N H → va_S (fun q => b0 ≤ q) s.heap H locs → lv_has ls 4 [] → owp (k61 N) P → W p l e rm_X8_noteLate s m args below meth c H locs 0 0 Q (F0 m 61 ls [])) :
    ∀ (n : Nat) (v2 : Int32) (N : AH) (H : Heap) (locs : List Loc) (ls : Array Slot), Rp G aC b0 N H → va_S (fun q => b0 ≤ q) s.heap H locs → lv_has ls 4 [(1, .ref v1), (2, .int v2)] → owp (f_X8_noteLate_L2 v1 k61 n v2 N) P → W p l e rm_X8_noteLate s m args below meth c H locs 0 0 Q (F0 m 2 ls []) := by
  have hx := X.1.1
  have hb := X.1.2.1
  intro n
  induction n with
  | zero =>
    intro v2 N H locs ls hR hS hl hp
    exact (show False from hp).elim
  | succ n ih =>
    intro v2 N H locs ls hR hS hl hp
    rw [f_X8_noteLate_L2] at hp
    refine lv_iload_n hx hb dX8_noteLate_2 rfl (lv_at hl 1 rfl) ?_
    refine lv_aload_n hx hb dX8_noteLate_3 rfl (lv_at hl 0 rfl) ?_
    obtain ⟨x1, e_x1, hp⟩ := owp_ob hp
    refine gf_X8_82 X hR e_x1 dX8_noteLate_4 ?_
    refine lv_icmp_ge (tgt := 61) hx hb dX8_noteLate_7 (by decide) (fun k2 => ?_) (fun k2 => ?_)
    · have hp := owp_t k2 hp
      exact hk61 _ _ _ _ hR hS (lv_sub hl [] rfl) hp
    · have hp := owp_f k2 hp
      refine lv_aload_n hx hb dX8_noteLate_10 rfl (lv_at hl 0 rfl) ?_
      obtain ⟨x3, e_x3, hp⟩ := owp_ob hp
      refine gf_X8_85 X hR e_x3 dX8_noteLate_11 ?_
      refine lv_iload_n hx hb dX8_noteLate_14 rfl (lv_at hl 1 rfl) ?_
      obtain ⟨x4, e_x4, hp⟩ := owp_ob hp
      refine ab_aald X hR (kd := 2) rfl e_x4 dX8_noteLate_15 ?_
      refine lv_astore_n (lv' := [(3, .ref x4), (1, .ref v1), (2, .int v2)]) hx hb dX8_noteLate_16 rfl hl (by decide) rfl (fun ls hl => ?_)
      refine lv_aload_n hx hb dX8_noteLate_17 rfl (lv_at hl 0 rfl) ?_
      obtain ⟨x6, N5, e_N5, hp⟩ := owp_ob2 hp
      refine iv_X4_isOpen (rest := []) mw_X8_226 X hR hS e_N5 hl.1 (Nat.le_of_ble_eq_true rfl) ⟨Nat.le_of_ble_eq_true rfl, Nat.le_of_ble_eq_true rfl⟩ ⟨Nat.le_of_ble_eq_true rfl, Nat.le_of_ble_eq_true rfl⟩ dX8_noteLate_18 (fun H locs hR hS => ?_)
      refine lv_if_eq (tgt := 55) hx hb dX8_noteLate_21 (by decide) (fun k7 => ?_) (fun k7 => ?_)
      · have hp := owp_t k7 hp
        refine lv_iinc (v := v2 + 1) (lv' := [(2, .int (v2 + 1)), (3, .ref x4), (1, .ref v1)]) hx hb dX8_noteLate_55 hl (k := 2) rfl rfl (by decide) rfl (fun ls hl => ?_)
        refine lv_goto (tgt := 2) hx hb dX8_noteLate_58 (by decide) ?_
        exact ih _ _ _ _ _ hR hS (lv_sub hl [2, 0] rfl) hp
      · have hp := owp_f k7 hp
        refine lv_aload_n hx hb dX8_noteLate_24 rfl (lv_at hl 0 rfl) ?_
        obtain ⟨x8, e_x8, hp⟩ := owp_ob hp
        refine gf_X8_99 X hR e_x8 dX8_noteLate_25 ?_
        refine lv_if_le (tgt := 55) hx hb dX8_noteLate_28 (by decide) (fun k9 => ?_) (fun k9 => ?_)
        · have hp := owp_t k9 hp
          refine lv_iinc (v := v2 + 1) (lv' := [(2, .int (v2 + 1)), (3, .ref x4), (1, .ref v1)]) hx hb dX8_noteLate_55 hl (k := 2) rfl rfl (by decide) rfl (fun ls hl => ?_)
          refine lv_goto (tgt := 2) hx hb dX8_noteLate_58 (by decide) ?_
          exact ih _ _ _ _ _ hR hS (lv_sub hl [2, 0] rfl) hp
        · have hp := owp_f k9 hp
          refine lv_aload_n hx hb dX8_noteLate_31 rfl (lv_at hl 0 rfl) ?_
          obtain ⟨x11, N10, e_N10, hp⟩ := owp_ob2 hp
          refine iv_X4_deadlineEnd (rest := []) mw_X8_102 X hR hS e_N10 hl.1 (Nat.le_of_ble_eq_true rfl) ⟨Nat.le_of_ble_eq_true rfl, Nat.le_of_ble_eq_true rfl⟩ ⟨Nat.le_of_ble_eq_true rfl, Nat.le_of_ble_eq_true rfl⟩ dX8_noteLate_32 (fun H locs hR hS => ?_)
          refine lv_aload_n hx hb dX8_noteLate_35 rfl (lv_at hl 1 rfl) ?_
          obtain ⟨x12, e_x12, hp⟩ := owp_ob hp
          refine gf_X8_70 X hR e_x12 dX8_noteLate_36 ?_
          refine lv_icmp_ne (tgt := 55) hx hb dX8_noteLate_39 (by decide) (fun k13 => ?_) (fun k13 => ?_)
          · have hp := owp_t k13 hp
            refine lv_iinc (v := v2 + 1) (lv' := [(2, .int (v2 + 1)), (3, .ref x4), (1, .ref v1)]) hx hb dX8_noteLate_55 hl (k := 2) rfl rfl (by decide) rfl (fun ls hl => ?_)
            refine lv_goto (tgt := 2) hx hb dX8_noteLate_58 (by decide) ?_
            exact ih _ _ _ _ _ hR hS (lv_sub hl [2, 0] rfl) hp
          · have hp := owp_f (fun q => q k13) hp
            refine lv_aload_n hx hb dX8_noteLate_42 rfl (lv_at hl 1 rfl) ?_
            obtain ⟨x14, e_x14, hp⟩ := owp_ob hp
            refine gf_X8_164 X hR e_x14 dX8_noteLate_43 ?_
            refine lv_iconst (v := (4)) hx hb dX8_noteLate_46 (by decide) ?_
            refine lv_iload_n hx hb dX8_noteLate_47 rfl (lv_at hl 2 rfl) ?_
            refine lv_aload_n hx hb dX8_noteLate_48 rfl (lv_at hl 1 rfl) ?_
            obtain ⟨x15, e_x15, hp⟩ := owp_ob hp
            refine gf_X8_70 X hR e_x15 dX8_noteLate_49 ?_
            obtain ⟨_, N16, e_N16, hp⟩ := owp_ob2 hp
            refine iv_X0_add (rest := []) mw_X8_168 X hR hS e_N16 hl.1 (Nat.le_of_ble_eq_true rfl) ⟨Nat.le_of_ble_eq_true rfl, Nat.le_of_ble_eq_true rfl⟩ ⟨Nat.le_of_ble_eq_true rfl, Nat.le_of_ble_eq_true rfl⟩ dX8_noteLate_52 (fun H locs hR hS => ?_)
            refine lv_iinc (v := v2 + 1) (lv' := [(2, .int (v2 + 1)), (3, .ref x4), (1, .ref v1)]) hx hb dX8_noteLate_55 hl (k := 2) rfl rfl (by decide) rfl (fun ls hl => ?_)
            refine lv_goto (tgt := 2) hx hb dX8_noteLate_58 (by decide) ?_
            exact ih _ _ _ _ _ hR hS (lv_sub hl [2, 0] rfl) hp
def f_X8_noteLate (v0 : Nat) (v1 : Nat) (N : AH) : Option (Unit × AH) := ob (iO N v0 8) (fun _ => f_X8_noteLate_L2 v1 (fun N17 => some ((), N17)) FU (0 : Int32) N)
set_option maxHeartbeats 4000000 in
set_option maxRecDepth 100000 in
theorem wk_X8_noteLate {P : Unit × AH → Prop} (X : CX cX8_noteLate RX8 4 G aC t b0 p s m args c) (hr : RtV p l e rm_X8_noteLate s m args below meth c 0 0 Q cX8_noteLate G aC b0 P) (v0 : Nat) (v1 : Nat) (N : AH) (H : Heap) (locs : List Loc) (ls : Array Slot) (hR : Rp G aC b0 N H) (hS : va_S (fun q => b0 ≤ q) s.heap H locs) (hl : lv_has ls 4 [(0, .ref v0), (1, .ref v1)]) (hp : owp (f_X8_noteLate v0 v1 N) P) : W p l e rm_X8_noteLate s m args below meth c H locs 0 0 Q (F0 m 0 ls []) := by
  have hx := X.1.1
  have hb := X.1.2.1
  unfold f_X8_noteLate at hp
  obtain ⟨_, _, hp⟩ := owp_ob hp
  refine lv_iconst (v := (0)) hx hb dX8_noteLate_0 (by decide) ?_
  refine lv_istore_n (lv' := [(2, .int (0 : Int32)), (0, .ref v0), (1, .ref v1)]) hx hb dX8_noteLate_1 rfl hl (by decide) rfl (fun ls hl => ?_)
  refine w_X8_noteLate_L2 X hr _ (fun N17 H locs ls hR hS hl hp => ?_) _ _ _ _ _ _ hR hS (lv_sub hl [2, 0] rfl) hp
  exact hr _ _ _ _ _ hR hS dX8_noteLate_61 hp
end
theorem ct_X8_noteLate {v0 : Nat} {v1 : Nat} {N N1 : AH} {r : Unit} (h : f_X8_noteLate v0 v1 N = some (r, N1)) : Ct yX8_noteLate cX8_noteLate 4 none rm_X8_noteLate [.ref v0, .ref v1] N none N1 :=
  ab_met (own := RX8) (by decide +kernel) rfl (Nat.le_of_ble_eq_true rfl) (fun l G aC t b0 p e s m below meth c ls X hr hlk hnm hR hS hl => wk_X8_noteLate X (RtV_met X.1.1 X.1.2.1 hr hlk) _ _ _ _ _ _ hR hS hl (owp_of h))
theorem cw_X8_noteLate : Cond.code yX8_noteLate cX8_noteLate 4 none ∈ WT := WT_of 720 (by decide +kernel) (by decide +kernel)
theorem iv_X8_noteLate {p : Program} {l : Launch} {e : Env} {R : Room} {s : State} {m : MethodId} {args : Array Value} {below : List Frame} {meth : Method} {c : Code} {H : Heap} {locs : List Loc} {cells slots : Nat} {Q : State → Prop} {cc : ByteArray} {own : String} {nL : Nat} {G : va_G} {aC : Nat → ClassId} {t b0 : Nat} {N N1 : AH} {pc index : Nat} {ls : Array Slot} {rest : List Value} {v0 : Nat} {v1 : Nat} {r : Unit} (w1 : Cond.methodLink own index yX8_noteLate ∈ WT) (X : CX cc own nL G aC t b0 p s m args c) (hR : Rp G aC b0 N H) (hS : va_S (fun q => b0 ≤ q) s.heap H locs) (h : f_X8_noteLate v0 v1 N = some (r, N1)) (hls : ls.size = nL) (hW : (rest.map fun v => v.category).sum ≤ 8) (hR1 : 2 ≤ R.frames ∧ 46 ≤ R.locals) (hcs : cells + 0 ≤ R.cells ∧ slots + 0 ≤ R.slots) (hdg : decode cc pc = .ok (.invokevirtual index, 3)) (kk : ∀ (H1 : Heap) (locs1 : List Loc), Rp G aC b0 N1 H1 → va_S (fun q => b0 ≤ q) s.heap H1 locs1 → W p l e R s m args below meth c H1 locs1 cells slots Q (F0 m (pc + 3) ls rest)) : W p l e R s m args below meth c H locs cells slots Q (F0 m pc ls (.ref v1 :: .ref v0 :: rest)) :=
  ab_callV (n := 1) (As := [.ref v1]) X hR hS (ct_X8_noteLate h) (ob_rc (c := 8) (N := N) (a := v0) h) (T := TX8) (k := 11) (C := RX8) rfl w1 (WT_of 719 (by decide +kernel) (by decide +kernel)) (WT_of 20 (by decide +kernel) (by decide +kernel)) (WT_of 89 (by decide +kernel) (by decide +kernel)) cw_X8_noteLate ⟨rfl, by decide +kernel, by decide +kernel, by decide +kernel⟩ rfl hls hW hR1 hcs rfl hdg kk
-- X8_perform
theorem mw_X8_43 : Cond.methodLink RX8 43 yX8_putInOrder ∈ WT := WT_of 615 (by decide +kernel) (by decide +kernel)
theorem mw_X8_47 : Cond.methodLink RX8 47 yX7_countOpen ∈ WT := WT_of 677 (by decide +kernel) (by decide +kernel)
theorem mw_X8_57 : Cond.methodLink RX8 57 yX8_notePreemption ∈ WT := WT_of 682 (by decide +kernel) (by decide +kernel)
theorem mw_X8_60 : Cond.methodLink RX8 60 yX8_giveJustRates ∈ WT := WT_of 691 (by decide +kernel) (by decide +kernel)
theorem mw_X8_63 : Cond.methodLink RX8 63 yX8_shareSpare ∈ WT := WT_of 704 (by decide +kernel) (by decide +kernel)
theorem mw_X8_66 : Cond.methodLink RX8 66 yX8_sendAll ∈ WT := WT_of 708 (by decide +kernel) (by decide +kernel)
theorem mw_X8_73 : Cond.methodLink RX8 73 yX8_noteDone ∈ WT := WT_of 712 (by decide +kernel) (by decide +kernel)
theorem mw_X8_76 : Cond.methodLink RX8 76 yX8_noteLate ∈ WT := WT_of 717 (by decide +kernel) (by decide +kernel)
theorem pf_X8_70 {p : Program} {l : Launch} {e : Env} {R : Room} {s : State} {m : MethodId} {args : Array Value} {below : List Frame} {meth : Method} {c : Code} {H : Heap} {locs : List Loc} {cells slots : Nat} {Q : State → Prop} {cc : ByteArray} {nL : Nat} {G : va_G} {aC : Nat → ClassId} {t b0 : Nat} {N : AH} {pc : Nat} {ls : Array Slot} {rest : List Value} {N1 : AH} {a : Nat} {v : Int32} (X : CX cc RX8 nL G aC t b0 p s m args c) (hR0 : Rp G aC b0 N H) (hS : va_S (fun q => b0 ≤ q) s.heap H locs) (hv : pI N a 7 0 v = some N1) (hdg : decode cc pc = .ok (.putfield 70, 3)) (kk : ∀ (H1 : Heap) (locs1 : List Loc), Rp G aC b0 N1 H1 → va_S (fun q => b0 ≤ q) s.heap H1 locs1 → W p l e R s m args below meth c H1 locs1 cells slots Q (F0 m (pc + 3) ls rest)) : W p l e R s m args below meth c H locs cells slots Q (F0 m pc ls (.int v :: .ref a :: rest)) := by
  obtain ⟨fs, h1, h2, h3⟩ := pV_ok hv
  subst h3
  exact ab_put (C := RX7) (T := TX7) (n := 12) X hR0 hS h1 h2 rfl inX7 tyX7 tyX7_ok nmX7 (by decide) (WT_of 254 (by decide +kernel) (by decide +kernel)) rfl rfl rfl hdg kk
theorem dX8_perform_0 : decode cX8_perform 0 = .ok (.aload_n 0, 1) := by decide +kernel
theorem dX8_perform_1 : decode cX8_perform 1 = .ok (.aload_n 1, 1) := by decide +kernel
theorem dX8_perform_2 : decode cX8_perform 2 = .ok (.invokevirtual 43, 3) := by decide +kernel
theorem dX8_perform_5 : decode cX8_perform 5 = .ok (.aload_n 1, 1) := by decide +kernel
theorem dX8_perform_6 : decode cX8_perform 6 = .ok (.invokevirtual 47, 3) := by decide +kernel
theorem dX8_perform_9 : decode cX8_perform 9 = .ok (.aload_n 0, 1) := by decide +kernel
theorem dX8_perform_10 : decode cX8_perform 10 = .ok (.getfield 53, 3) := by decide +kernel
theorem dX8_perform_13 : decode cX8_perform 13 = .ok (.if_icmp .le 7, 3) := by decide +kernel
theorem dX8_perform_16 : decode cX8_perform 16 = .ok (.iconst 1, 1) := by decide +kernel
theorem dX8_perform_17 : decode cX8_perform 17 = .ok (.goto 4, 3) := by decide +kernel
theorem dX8_perform_20 : decode cX8_perform 20 = .ok (.iconst 0, 1) := by decide +kernel
theorem dX8_perform_21 : decode cX8_perform 21 = .ok (.istore_n 2, 1) := by decide +kernel
theorem dX8_perform_22 : decode cX8_perform 22 = .ok (.aload_n 0, 1) := by decide +kernel
theorem dX8_perform_23 : decode cX8_perform 23 = .ok (.aload_n 1, 1) := by decide +kernel
theorem dX8_perform_24 : decode cX8_perform 24 = .ok (.invokevirtual 57, 3) := by decide +kernel
theorem dX8_perform_27 : decode cX8_perform 27 = .ok (.aload_n 0, 1) := by decide +kernel
theorem dX8_perform_28 : decode cX8_perform 28 = .ok (.aload_n 1, 1) := by decide +kernel
theorem dX8_perform_29 : decode cX8_perform 29 = .ok (.invokevirtual 60, 3) := by decide +kernel
theorem dX8_perform_32 : decode cX8_perform 32 = .ok (.aload_n 0, 1) := by decide +kernel
theorem dX8_perform_33 : decode cX8_perform 33 = .ok (.aload_n 1, 1) := by decide +kernel
theorem dX8_perform_34 : decode cX8_perform 34 = .ok (.invokevirtual 63, 3) := by decide +kernel
theorem dX8_perform_37 : decode cX8_perform 37 = .ok (.aload_n 0, 1) := by decide +kernel
theorem dX8_perform_38 : decode cX8_perform 38 = .ok (.aload_n 1, 1) := by decide +kernel
theorem dX8_perform_39 : decode cX8_perform 39 = .ok (.invokevirtual 66, 3) := by decide +kernel
theorem dX8_perform_42 : decode cX8_perform 42 = .ok (.istore_n 3, 1) := by decide +kernel
theorem dX8_perform_43 : decode cX8_perform 43 = .ok (.aload_n 1, 1) := by decide +kernel
theorem dX8_perform_44 : decode cX8_perform 44 = .ok (.dup, 1) := by decide +kernel
theorem dX8_perform_45 : decode cX8_perform 45 = .ok (.getfield 70, 3) := by decide +kernel
theorem dX8_perform_48 : decode cX8_perform 48 = .ok (.iconst 1, 1) := by decide +kernel
theorem dX8_perform_49 : decode cX8_perform 49 = .ok (.iadd, 1) := by decide +kernel
theorem dX8_perform_50 : decode cX8_perform 50 = .ok (.putfield 70, 3) := by decide +kernel
theorem dX8_perform_53 : decode cX8_perform 53 = .ok (.aload_n 0, 1) := by decide +kernel
theorem dX8_perform_54 : decode cX8_perform 54 = .ok (.aload_n 1, 1) := by decide +kernel
theorem dX8_perform_55 : decode cX8_perform 55 = .ok (.invokevirtual 73, 3) := by decide +kernel
theorem dX8_perform_58 : decode cX8_perform 58 = .ok (.aload_n 0, 1) := by decide +kernel
theorem dX8_perform_59 : decode cX8_perform 59 = .ok (.aload_n 1, 1) := by decide +kernel
theorem dX8_perform_60 : decode cX8_perform 60 = .ok (.invokevirtual 76, 3) := by decide +kernel
theorem dX8_perform_63 : decode cX8_perform 63 = .ok (.iload_n 3, 1) := by decide +kernel
theorem dX8_perform_64 : decode cX8_perform 64 = .ok (.ifCond .gt 7, 3) := by decide +kernel
theorem dX8_perform_67 : decode cX8_perform 67 = .ok (.iload_n 2, 1) := by decide +kernel
theorem dX8_perform_68 : decode cX8_perform 68 = .ok (.ifCond .eq 7, 3) := by decide +kernel
theorem dX8_perform_71 : decode cX8_perform 71 = .ok (.iconst 1, 1) := by decide +kernel
theorem dX8_perform_72 : decode cX8_perform 72 = .ok (.goto 4, 3) := by decide +kernel
theorem dX8_perform_75 : decode cX8_perform 75 = .ok (.iconst 0, 1) := by decide +kernel
theorem dX8_perform_76 : decode cX8_perform 76 = .ok (.ireturn, 1) := by decide +kernel
def rm_X8_perform : Room := { frames := 4, cells := 0, slots := 0, locals := 101 }
section
variable {p : Program} {l : Launch} {e : Env} {s : State} {m : MethodId} {args : Array Value} {below : List Frame} {meth : Method} {c : Code} {Q : State → Prop} {G : va_G} {aC : Nat → ClassId} {t b0 : Nat}
def f_X8_perform_J21 (v0 : Nat) (v1 : Nat) (w0 : Int32) (N : AH) : Option (Int32 × AH) := ob2 (f_X8_notePreemption v0 v1 N) (fun _ N6 => ob2 (f_X8_giveJustRates v0 v1 N6) (fun _ N7 => ob2 (f_X8_shareSpare v0 v1 N7) (fun _ N8 => ob2 (f_X8_sendAll v0 v1 N8) (fun x10 N9 => ob (hI N9 v1 7 0) (fun x11 => ob (pI N9 v1 7 0 (x11 + (1 : Int32))) (fun N12 => ob2 (f_X8_noteDone v0 v1 N12) (fun _ N13 => ob2 (f_X8_noteLate v0 v1 N13) (fun _ N14 => if 0 < x10 then some ((1 : Int32), N14) else if w0 = 0 then some ((0 : Int32), N14) else some ((1 : Int32), N14)))))))))
set_option maxHeartbeats 4000000 in
set_option maxRecDepth 100000 in
theorem w_X8_perform_J21 {P : Int32 × AH → Prop} (X : CX cX8_perform RX8 4 G aC t b0 p s m args c) (hr : RtZ p l e rm_X8_perform s m args below meth c 0 0 Q cX8_perform G aC b0 P) (v0 : Nat) (v1 : Nat) (w0 : Int32) (N : AH) (H : Heap) (locs : List Loc) (ls : Array Slot) (hR : Rp G aC b0 N H) (hS : va_S (fun q => b0 ≤ q) s.heap H locs) (hl : lv_has ls 4 [(0, .ref v0), (1, .ref v1)]) (hp : owp (f_X8_perform_J21 v0 v1 w0 N) P) : W p l e rm_X8_perform s m args below meth c H locs 0 0 Q (F0 m 21 ls [.int w0]) := by
  have hx := X.1.1
  have hb := X.1.2.1
  unfold f_X8_perform_J21 at hp
  refine lv_istore_n (lv' := [(2, .int w0), (0, .ref v0), (1, .ref v1)]) hx hb dX8_perform_21 rfl hl (by decide) rfl (fun ls hl => ?_)
  refine lv_aload_n hx hb dX8_perform_22 rfl (lv_at hl 1 rfl) ?_
  refine lv_aload_n hx hb dX8_perform_23 rfl (lv_at hl 2 rfl) ?_
  obtain ⟨_, N6, e_N6, hp⟩ := owp_ob2 hp
  refine iv_X8_notePreemption (rest := []) mw_X8_57 X hR hS e_N6 hl.1 (Nat.le_of_ble_eq_true rfl) ⟨Nat.le_of_ble_eq_true rfl, Nat.le_of_ble_eq_true rfl⟩ ⟨Nat.le_of_ble_eq_true rfl, Nat.le_of_ble_eq_true rfl⟩ dX8_perform_24 (fun H locs hR hS => ?_)
  refine lv_aload_n hx hb dX8_perform_27 rfl (lv_at hl 1 rfl) ?_
  refine lv_aload_n hx hb dX8_perform_28 rfl (lv_at hl 2 rfl) ?_
  obtain ⟨_, N7, e_N7, hp⟩ := owp_ob2 hp
  refine iv_X8_giveJustRates (rest := []) mw_X8_60 X hR hS e_N7 hl.1 (Nat.le_of_ble_eq_true rfl) ⟨Nat.le_of_ble_eq_true rfl, Nat.le_of_ble_eq_true rfl⟩ ⟨Nat.le_of_ble_eq_true rfl, Nat.le_of_ble_eq_true rfl⟩ dX8_perform_29 (fun H locs hR hS => ?_)
  refine lv_aload_n hx hb dX8_perform_32 rfl (lv_at hl 1 rfl) ?_
  refine lv_aload_n hx hb dX8_perform_33 rfl (lv_at hl 2 rfl) ?_
  obtain ⟨_, N8, e_N8, hp⟩ := owp_ob2 hp
  refine iv_X8_shareSpare (rest := []) mw_X8_63 X hR hS e_N8 hl.1 (Nat.le_of_ble_eq_true rfl) ⟨Nat.le_of_ble_eq_true rfl, Nat.le_of_ble_eq_true rfl⟩ ⟨Nat.le_of_ble_eq_true rfl, Nat.le_of_ble_eq_true rfl⟩ dX8_perform_34 (fun H locs hR hS => ?_)
  refine lv_aload_n hx hb dX8_perform_37 rfl (lv_at hl 1 rfl) ?_
  refine lv_aload_n hx hb dX8_perform_38 rfl (lv_at hl 2 rfl) ?_
  obtain ⟨x10, N9, e_N9, hp⟩ := owp_ob2 hp
  refine iv_X8_sendAll (rest := []) mw_X8_66 X hR hS e_N9 hl.1 (Nat.le_of_ble_eq_true rfl) ⟨Nat.le_of_ble_eq_true rfl, Nat.le_of_ble_eq_true rfl⟩ ⟨Nat.le_of_ble_eq_true rfl, Nat.le_of_ble_eq_true rfl⟩ dX8_perform_39 (fun H locs hR hS => ?_)
  refine lv_istore_n (lv' := [(3, .int x10), (2, .int w0), (0, .ref v0), (1, .ref v1)]) hx hb dX8_perform_42 rfl hl (by decide) rfl (fun ls hl => ?_)
  refine lv_aload_n hx hb dX8_perform_43 rfl (lv_at hl 3 rfl) ?_
  refine lv_dup hx hb dX8_perform_44 rfl ?_
  obtain ⟨x11, e_x11, hp⟩ := owp_ob hp
  refine gf_X8_70 X hR e_x11 dX8_perform_45 ?_
  refine lv_iconst (v := (1)) hx hb dX8_perform_48 (by decide) ?_
  refine lv_iadd hx hb dX8_perform_49 ?_
  obtain ⟨N12, e_N12, hp⟩ := owp_ob hp
  refine pf_X8_70 X hR hS e_N12 dX8_perform_50 (fun H locs hR hS => ?_)
  refine lv_aload_n hx hb dX8_perform_53 rfl (lv_at hl 2 rfl) ?_
  refine lv_aload_n hx hb dX8_perform_54 rfl (lv_at hl 3 rfl) ?_
  obtain ⟨_, N13, e_N13, hp⟩ := owp_ob2 hp
  refine iv_X8_noteDone (rest := []) mw_X8_73 X hR hS e_N13 hl.1 (Nat.le_of_ble_eq_true rfl) ⟨Nat.le_of_ble_eq_true rfl, Nat.le_of_ble_eq_true rfl⟩ ⟨Nat.le_of_ble_eq_true rfl, Nat.le_of_ble_eq_true rfl⟩ dX8_perform_55 (fun H locs hR hS => ?_)
  refine lv_aload_n hx hb dX8_perform_58 rfl (lv_at hl 2 rfl) ?_
  refine lv_aload_n hx hb dX8_perform_59 rfl (lv_at hl 3 rfl) ?_
  obtain ⟨_, N14, e_N14, hp⟩ := owp_ob2 hp
  refine iv_X8_noteLate (rest := []) mw_X8_76 X hR hS e_N14 hl.1 (Nat.le_of_ble_eq_true rfl) ⟨Nat.le_of_ble_eq_true rfl, Nat.le_of_ble_eq_true rfl⟩ ⟨Nat.le_of_ble_eq_true rfl, Nat.le_of_ble_eq_true rfl⟩ dX8_perform_60 (fun H locs hR hS => ?_)
  refine lv_iload_n hx hb dX8_perform_63 rfl (lv_at hl 0 rfl) ?_
  refine lv_if_gt (tgt := 71) hx hb dX8_perform_64 (by decide) (fun k15 => ?_) (fun k15 => ?_)
  · have hp := owp_t k15 hp
    refine lv_iconst (v := (1)) hx hb dX8_perform_71 (by decide) ?_
    refine lv_goto (tgt := 76) hx hb dX8_perform_72 (by decide) ?_
    exact hr _ _ _ _ _ _ hR hS dX8_perform_76 (rZ_1 hp)
  · have hp := owp_f k15 hp
    refine lv_iload_n hx hb dX8_perform_67 rfl (lv_at hl 1 rfl) ?_
    refine lv_if_eq (tgt := 75) hx hb dX8_perform_68 (by decide) (fun k16 => ?_) (fun k16 => ?_)
    · have hp := owp_t k16 hp
      refine lv_iconst (v := (0)) hx hb dX8_perform_75 (by decide) ?_
      exact hr _ _ _ _ _ _ hR hS dX8_perform_76 (rZ_0 hp)
    · have hp := owp_f k16 hp
      refine lv_iconst (v := (1)) hx hb dX8_perform_71 (by decide) ?_
      refine lv_goto (tgt := 76) hx hb dX8_perform_72 (by decide) ?_
      exact hr _ _ _ _ _ _ hR hS dX8_perform_76 (rZ_1 hp)
def f_X8_perform (v0 : Nat) (v1 : Nat) (N : AH) : Option (Int32 × AH) := ob (iO N v0 8) (fun _ => ob2 (f_X8_putInOrder v0 v1 N) (fun _ N1 => ob2 (f_X7_countOpen v1 N1) (fun x3 N2 => ob (hI N2 v0 8 0) (fun x4 => if x3 ≤ x4 then f_X8_perform_J21 v0 v1 (0 : Int32) N2 else f_X8_perform_J21 v0 v1 (1 : Int32) N2))))
set_option maxHeartbeats 4000000 in
set_option maxRecDepth 100000 in
theorem wk_X8_perform {P : Int32 × AH → Prop} (X : CX cX8_perform RX8 4 G aC t b0 p s m args c) (hr : RtZ p l e rm_X8_perform s m args below meth c 0 0 Q cX8_perform G aC b0 P) (v0 : Nat) (v1 : Nat) (N : AH) (H : Heap) (locs : List Loc) (ls : Array Slot) (hR : Rp G aC b0 N H) (hS : va_S (fun q => b0 ≤ q) s.heap H locs) (hl : lv_has ls 4 [(0, .ref v0), (1, .ref v1)]) (hp : owp (f_X8_perform v0 v1 N) P) : W p l e rm_X8_perform s m args below meth c H locs 0 0 Q (F0 m 0 ls []) := by
  have hx := X.1.1
  have hb := X.1.2.1
  unfold f_X8_perform at hp
  obtain ⟨_, _, hp⟩ := owp_ob hp
  refine lv_aload_n hx hb dX8_perform_0 rfl (lv_at hl 0 rfl) ?_
  refine lv_aload_n hx hb dX8_perform_1 rfl (lv_at hl 1 rfl) ?_
  obtain ⟨_, N1, e_N1, hp⟩ := owp_ob2 hp
  refine iv_X8_putInOrder (rest := []) mw_X8_43 X hR hS e_N1 hl.1 (Nat.le_of_ble_eq_true rfl) ⟨Nat.le_of_ble_eq_true rfl, Nat.le_of_ble_eq_true rfl⟩ ⟨Nat.le_of_ble_eq_true rfl, Nat.le_of_ble_eq_true rfl⟩ dX8_perform_2 (fun H locs hR hS => ?_)
  refine lv_aload_n hx hb dX8_perform_5 rfl (lv_at hl 1 rfl) ?_
  obtain ⟨x3, N2, e_N2, hp⟩ := owp_ob2 hp
  refine iv_X7_countOpen (rest := []) mw_X8_47 X hR hS e_N2 hl.1 (Nat.le_of_ble_eq_true rfl) ⟨Nat.le_of_ble_eq_true rfl, Nat.le_of_ble_eq_true rfl⟩ ⟨Nat.le_of_ble_eq_true rfl, Nat.le_of_ble_eq_true rfl⟩ dX8_perform_6 (fun H locs hR hS => ?_)
  refine lv_aload_n hx hb dX8_perform_9 rfl (lv_at hl 0 rfl) ?_
  obtain ⟨x4, e_x4, hp⟩ := owp_ob hp
  refine gf_X8_53 X hR e_x4 dX8_perform_10 ?_
  refine lv_icmp_le (tgt := 20) hx hb dX8_perform_13 (by decide) (fun k5 => ?_) (fun k5 => ?_)
  · have hp := owp_t k5 hp
    refine lv_iconst (v := (0)) hx hb dX8_perform_20 (by decide) ?_
    exact w_X8_perform_J21 X hr _ _ _ _ _ _ _ hR hS hl hp
  · have hp := owp_f k5 hp
    refine lv_iconst (v := (1)) hx hb dX8_perform_16 (by decide) ?_
    refine lv_goto (tgt := 21) hx hb dX8_perform_17 (by decide) ?_
    exact w_X8_perform_J21 X hr _ _ _ _ _ _ _ hR hS hl hp
end
theorem ct_X8_perform {v0 : Nat} {v1 : Nat} {N N1 : AH} {r : Int32} (h : f_X8_perform v0 v1 N = some (r, N1)) : Ct yX8_perform cX8_perform 4 (some .boolean) rm_X8_perform [.ref v0, .ref v1] N (some (.int r)) N1 :=
  ab_met (own := RX8) (by decide +kernel) rfl (Nat.le_of_ble_eq_true rfl) (fun l G aC t b0 p e s m below meth c ls X hr hlk hnm hR hS hl => wk_X8_perform X (RtZ_met X.1.1 X.1.2.1 hr hlk) _ _ _ _ _ _ hR hS hl (owp_of h))
theorem cw_X8_perform : Cond.code yX8_perform cX8_perform 4 (some .boolean) ∈ WT := WT_of 614 (by decide +kernel) (by decide +kernel)
theorem iv_X8_perform {p : Program} {l : Launch} {e : Env} {R : Room} {s : State} {m : MethodId} {args : Array Value} {below : List Frame} {meth : Method} {c : Code} {H : Heap} {locs : List Loc} {cells slots : Nat} {Q : State → Prop} {cc : ByteArray} {own : String} {nL : Nat} {G : va_G} {aC : Nat → ClassId} {t b0 : Nat} {N N1 : AH} {pc index : Nat} {ls : Array Slot} {rest : List Value} {v0 : Nat} {v1 : Nat} {r : Int32} (w1 : Cond.methodLink own index yX8_perform ∈ WT) (X : CX cc own nL G aC t b0 p s m args c) (hR : Rp G aC b0 N H) (hS : va_S (fun q => b0 ≤ q) s.heap H locs) (h : f_X8_perform v0 v1 N = some (r, N1)) (hls : ls.size = nL) (hW : (rest.map fun v => v.category).sum ≤ 8) (hR1 : 5 ≤ R.frames ∧ 124 ≤ R.locals) (hcs : cells + 0 ≤ R.cells ∧ slots + 0 ≤ R.slots) (hdg : decode cc pc = .ok (.invokevirtual index, 3)) (kk : ∀ (H1 : Heap) (locs1 : List Loc), Rp G aC b0 N1 H1 → va_S (fun q => b0 ≤ q) s.heap H1 locs1 → W p l e R s m args below meth c H1 locs1 cells slots Q (F0 m (pc + 3) ls (.int r :: rest))) : W p l e R s m args below meth c H locs cells slots Q (F0 m pc ls (.ref v1 :: .ref v0 :: rest)) :=
  ab_callV (n := 1) (As := [.ref v1]) X hR hS (ct_X8_perform h) (ob_rc (c := 8) (N := N) (a := v0) h) (T := TX8) (k := 11) (C := RX8) rfl w1 (WT_of 612 (by decide +kernel) (by decide +kernel)) (WT_of 613 (by decide +kernel) (by decide +kernel)) (WT_of 89 (by decide +kernel) (by decide +kernel)) cw_X8_perform ⟨rfl, by decide +kernel, by decide +kernel, by decide +kernel⟩ rfl hls hW hR1 hcs rfl hdg kk
-- X3_endOf
theorem gf_X3_56 {p : Program} {l : Launch} {e : Env} {R : Room} {s : State} {m : MethodId} {args : Array Value} {below : List Frame} {meth : Method} {c : Code} {H : Heap} {locs : List Loc} {cells slots : Nat} {Q : State → Prop} {cc : ByteArray} {nL : Nat} {G : va_G} {aC : Nat → ClassId} {t b0 : Nat} {N : AH} {pc : Nat} {ls : Array Slot} {rest : List Value} {a : Nat} {v : Nat} (X : CX cc RX3 nL G aC t b0 p s m args c) (hR0 : Rp G aC b0 N H) (hv : hR N a 7 10 = some v) (hdg : decode cc pc = .ok (.getfield 56, 3)) (kk : W p l e R s m args below meth c H locs cells slots Q (F0 m (pc + 3) ls (.ref v :: rest))) : W p l e R s m args below meth c H locs cells slots Q (F0 m pc ls (.ref a :: rest)) := by
  obtain ⟨fs, h1, h2⟩ := hR_ok hv
  exact ab_get (C := RX7) (T := TX7) (n := 12) X hR0 h1 h2 rfl inX7 (by decide) (WT_of 291 (by decide +kernel) (by decide +kernel)) hdg kk
theorem gf_X3_70 {p : Program} {l : Launch} {e : Env} {R : Room} {s : State} {m : MethodId} {args : Array Value} {below : List Frame} {meth : Method} {c : Code} {H : Heap} {locs : List Loc} {cells slots : Nat} {Q : State → Prop} {cc : ByteArray} {nL : Nat} {G : va_G} {aC : Nat → ClassId} {t b0 : Nat} {N : AH} {pc : Nat} {ls : Array Slot} {rest : List Value} {a : Nat} {v : Int32} (X : CX cc RX3 nL G aC t b0 p s m args c) (hR0 : Rp G aC b0 N H) (hv : hI N a 4 3 = some v) (hdg : decode cc pc = .ok (.getfield 70, 3)) (kk : W p l e R s m args below meth c H locs cells slots Q (F0 m (pc + 3) ls (.int v :: rest))) : W p l e R s m args below meth c H locs cells slots Q (F0 m pc ls (.ref a :: rest)) := by
  obtain ⟨fs, h1, h2⟩ := hI_ok hv
  exact ab_get (C := RX4) (T := TX4) (n := 6) X hR0 h1 h2 rfl inX4 (by decide) (WT_of 204 (by decide +kernel) (by decide +kernel)) hdg kk
theorem mw_X3_60 : Cond.methodLink RX3 60 yX4_isOpen ∈ WT := WT_of 820 (by decide +kernel) (by decide +kernel)
theorem mw_X3_66 : Cond.methodLink RX3 66 yX8_perform ∈ WT := WT_of 821 (by decide +kernel) (by decide +kernel)
theorem dX3_endOf_0 : decode cX3_endOf 0 = .ok (.aload_n 0, 1) := by decide +kernel
theorem dX3_endOf_1 : decode cX3_endOf 1 = .ok (.getfield 12, 3) := by decide +kernel
theorem dX3_endOf_4 : decode cX3_endOf 4 = .ok (.aload_n 1, 1) := by decide +kernel
theorem dX3_endOf_5 : decode cX3_endOf 5 = .ok (.invokevirtual 43, 3) := by decide +kernel
theorem dX3_endOf_8 : decode cX3_endOf 8 = .ok (.aload_n 0, 1) := by decide +kernel
theorem dX3_endOf_9 : decode cX3_endOf 9 = .ok (.getfield 12, 3) := by decide +kernel
theorem dX3_endOf_12 : decode cX3_endOf 12 = .ok (.getfield 56, 3) := by decide +kernel
theorem dX3_endOf_15 : decode cX3_endOf 15 = .ok (.iload_n 2, 1) := by decide +kernel
theorem dX3_endOf_16 : decode cX3_endOf 16 = .ok (.aaload, 1) := by decide +kernel
theorem dX3_endOf_17 : decode cX3_endOf 17 = .ok (.astore_n 3, 1) := by decide +kernel
theorem dX3_endOf_18 : decode cX3_endOf 18 = .ok (.aload_n 3, 1) := by decide +kernel
theorem dX3_endOf_19 : decode cX3_endOf 19 = .ok (.invokevirtual 60, 3) := by decide +kernel
theorem dX3_endOf_22 : decode cX3_endOf 22 = .ok (.istore 4, 2) := by decide +kernel
theorem dX3_endOf_24 : decode cX3_endOf 24 = .ok (.iconst 0, 1) := by decide +kernel
theorem dX3_endOf_25 : decode cX3_endOf 25 = .ok (.istore 5, 2) := by decide +kernel
theorem dX3_endOf_27 : decode cX3_endOf 27 = .ok (.iload 5, 2) := by decide +kernel
theorem dX3_endOf_29 : decode cX3_endOf 29 = .ok (.sipush 1000, 3) := by decide +kernel
theorem dX3_endOf_32 : decode cX3_endOf 32 = .ok (.if_icmp .ge 42, 3) := by decide +kernel
theorem dX3_endOf_35 : decode cX3_endOf 35 = .ok (.iload 4, 2) := by decide +kernel
theorem dX3_endOf_37 : decode cX3_endOf 37 = .ok (.ifCond .eq 37, 3) := by decide +kernel
theorem dX3_endOf_40 : decode cX3_endOf 40 = .ok (.aload_n 0, 1) := by decide +kernel
theorem dX3_endOf_41 : decode cX3_endOf 41 = .ok (.getfield 21, 3) := by decide +kernel
theorem dX3_endOf_44 : decode cX3_endOf 44 = .ok (.aload_n 0, 1) := by decide +kernel
theorem dX3_endOf_45 : decode cX3_endOf 45 = .ok (.getfield 12, 3) := by decide +kernel
theorem dX3_endOf_48 : decode cX3_endOf 48 = .ok (.invokevirtual 66, 3) := by decide +kernel
theorem dX3_endOf_51 : decode cX3_endOf 51 = .ok (.ifCond .eq 14, 3) := by decide +kernel
theorem dX3_endOf_54 : decode cX3_endOf 54 = .ok (.aload_n 3, 1) := by decide +kernel
theorem dX3_endOf_55 : decode cX3_endOf 55 = .ok (.invokevirtual 60, 3) := by decide +kernel
theorem dX3_endOf_58 : decode cX3_endOf 58 = .ok (.ifCond .eq 7, 3) := by decide +kernel
theorem dX3_endOf_61 : decode cX3_endOf 61 = .ok (.iconst 1, 1) := by decide +kernel
theorem dX3_endOf_62 : decode cX3_endOf 62 = .ok (.goto 4, 3) := by decide +kernel
theorem dX3_endOf_65 : decode cX3_endOf 65 = .ok (.iconst 0, 1) := by decide +kernel
theorem dX3_endOf_66 : decode cX3_endOf 66 = .ok (.istore 4, 2) := by decide +kernel
theorem dX3_endOf_68 : decode cX3_endOf 68 = .ok (.iinc 5 1, 3) := by decide +kernel
theorem dX3_endOf_71 : decode cX3_endOf 71 = .ok (.goto (-44), 3) := by decide +kernel
theorem dX3_endOf_74 : decode cX3_endOf 74 = .ok (.aload_n 3, 1) := by decide +kernel
theorem dX3_endOf_75 : decode cX3_endOf 75 = .ok (.getfield 70, 3) := by decide +kernel
theorem dX3_endOf_78 : decode cX3_endOf 78 = .ok (.ireturn, 1) := by decide +kernel
def rm_X3_endOf : Room := { frames := 5, cells := 0, slots := 0, locals := 124 }
section
variable {p : Program} {l : Launch} {e : Env} {s : State} {m : MethodId} {args : Array Value} {below : List Frame} {meth : Method} {c : Code} {Q : State → Prop} {G : va_G} {aC : Nat → ClassId} {t b0 : Nat}
def f_X3_endOf_L27 (v0 : Nat) (v3 : Nat) (k74 : AH → Option (Int32 × AH)) : Nat → Int32 → Int32 → AH → Option (Int32 × AH)
  | 0, _, _, _ => none
  | n + 1, v4, v5, N => if (1000 : Int32) ≤ v5 then k74 N else if v4 = 0 then k74 N else ob (hR N v0 3 1) (fun x10 => ob (hR N v0 3 0) (fun x11 => ob2 (f_X8_perform x10 x11 N) (fun x13 N12 => if x13 = 0 then f_X3_endOf_L27 v0 v3 k74 n (0 : Int32) (v5 + 1) N12 else ob2 (f_X4_isOpen v3 N12) (fun x16 N15 => if x16 = 0 then f_X3_endOf_L27 v0 v3 k74 n (0 : Int32) (v5 + 1) N15 else f_X3_endOf_L27 v0 v3 k74 n (1 : Int32) (v5 + 1) N15))))
set_option maxHeartbeats 4000000 in
set_option maxRecDepth 100000 in
theorem w_X3_endOf_L27 {P : Int32 × AH → Prop} (X : CX cX3_endOf RX3 6 G aC t b0 p s m args c) (hr : RtI p l e rm_X3_endOf s m args below meth c 0 0 Q cX3_endOf G aC b0 P) (v0 : Nat) (v3 : Nat) {k74 : AH → Option (Int32 × AH)}
    (hk74 : ∀ (N : AH) (H : Heap) (locs : List Loc) (ls : Array Slot), Rp G aC b0 N H → va_S (fun q => b0 ≤ q) s.heap H locs → lv_has ls 6 [(3, .ref v3)] → owp (k74 N) P → W p l e rm_X3_endOf s m args below meth c H locs 0 0 Q (F0 m 74 ls [])) :
    ∀ (n : Nat) (v4 : Int32) (v5 : Int32) (N : AH) (H : Heap) (locs : List Loc) (ls : Array Slot), Rp G aC b0 N H → va_S (fun q => b0 ≤ q) s.heap H locs → lv_has ls 6 [(0, .ref v0), (3, .ref v3), (4, .int v4), (5, .int v5)] → owp (f_X3_endOf_L27 v0 v3 k74 n v4 v5 N) P → W p l e rm_X3_endOf s m args below meth c H locs 0 0 Q (F0 m 27 ls []) := by
  have hx := X.1.1
  have hb := X.1.2.1
  intro n
  induction n with
  | zero =>
    intro v4 v5 N H locs ls hR hS hl hp
    exact (show False from hp).elim
  | succ n ih =>
    intro v4 v5 N H locs ls hR hS hl hp
    rw [f_X3_endOf_L27] at hp
    refine lv_iload hx hb dX3_endOf_27 (lv_at hl 3 rfl) ?_
    refine lv_sipush (v := (1000)) hx hb dX3_endOf_29 (by decide) ?_
    refine lv_icmp_ge (tgt := 74) hx hb dX3_endOf_32 (by decide) (fun k8 => ?_) (fun k8 => ?_)
    · have hp := owp_t k8 hp
      exact hk74 _ _ _ _ hR hS (lv_sub hl [1] rfl) hp
    · have hp := owp_f k8 hp
      refine lv_iload hx hb dX3_endOf_35 (lv_at hl 2 rfl) ?_
      refine lv_if_eq (tgt := 74) hx hb dX3_endOf_37 (by decide) (fun k9 => ?_) (fun k9 => ?_)
      · have hp := owp_t k9 hp
        exact hk74 _ _ _ _ hR hS (lv_sub hl [1] rfl) hp
      · have hp := owp_f k9 hp
        refine lv_aload_n hx hb dX3_endOf_40 rfl (lv_at hl 0 rfl) ?_
        obtain ⟨x10, e_x10, hp⟩ := owp_ob hp
        refine gf_X3_21 X hR e_x10 dX3_endOf_41 ?_
        refine lv_aload_n hx hb dX3_endOf_44 rfl (lv_at hl 0 rfl) ?_
        obtain ⟨x11, e_x11, hp⟩ := owp_ob hp
        refine gf_X3_12 X hR e_x11 dX3_endOf_45 ?_
        obtain ⟨x13, N12, e_N12, hp⟩ := owp_ob2 hp
        refine iv_X8_perform (rest := []) mw_X3_66 X hR hS e_N12 hl.1 (Nat.le_of_ble_eq_true rfl) ⟨Nat.le_of_ble_eq_true rfl, Nat.le_of_ble_eq_true rfl⟩ ⟨Nat.le_of_ble_eq_true rfl, Nat.le_of_ble_eq_true rfl⟩ dX3_endOf_48 (fun H locs hR hS => ?_)
        refine lv_if_eq (tgt := 65) hx hb dX3_endOf_51 (by decide) (fun k14 => ?_) (fun k14 => ?_)
        · have hp := owp_t k14 hp
          refine lv_iconst (v := (0)) hx hb dX3_endOf_65 (by decide) ?_
          refine lv_istore (lv' := [(4, .int (0 : Int32)), (0, .ref v0), (3, .ref v3), (5, .int v5)]) hx hb dX3_endOf_66 hl (by decide) rfl (fun ls hl => ?_)
          refine lv_iinc (v := v5 + 1) (lv' := [(5, .int (v5 + 1)), (4, .int (0 : Int32)), (0, .ref v0), (3, .ref v3)]) hx hb dX3_endOf_68 hl (k := 3) rfl rfl (by decide) rfl (fun ls hl => ?_)
          refine lv_goto (tgt := 27) hx hb dX3_endOf_71 (by decide) ?_
          exact ih _ _ _ _ _ _ hR hS (lv_sub hl [2, 3, 1, 0] rfl) hp
        · have hp := owp_f k14 hp
          refine lv_aload_n hx hb dX3_endOf_54 rfl (lv_at hl 1 rfl) ?_
          obtain ⟨x16, N15, e_N15, hp⟩ := owp_ob2 hp
          refine iv_X4_isOpen (rest := []) mw_X3_60 X hR hS e_N15 hl.1 (Nat.le_of_ble_eq_true rfl) ⟨Nat.le_of_ble_eq_true rfl, Nat.le_of_ble_eq_true rfl⟩ ⟨Nat.le_of_ble_eq_true rfl, Nat.le_of_ble_eq_true rfl⟩ dX3_endOf_55 (fun H locs hR hS => ?_)
          refine lv_if_eq (tgt := 65) hx hb dX3_endOf_58 (by decide) (fun k17 => ?_) (fun k17 => ?_)
          · have hp := owp_t k17 hp
            refine lv_iconst (v := (0)) hx hb dX3_endOf_65 (by decide) ?_
            refine lv_istore (lv' := [(4, .int (0 : Int32)), (0, .ref v0), (3, .ref v3), (5, .int v5)]) hx hb dX3_endOf_66 hl (by decide) rfl (fun ls hl => ?_)
            refine lv_iinc (v := v5 + 1) (lv' := [(5, .int (v5 + 1)), (4, .int (0 : Int32)), (0, .ref v0), (3, .ref v3)]) hx hb dX3_endOf_68 hl (k := 3) rfl rfl (by decide) rfl (fun ls hl => ?_)
            refine lv_goto (tgt := 27) hx hb dX3_endOf_71 (by decide) ?_
            exact ih _ _ _ _ _ _ hR hS (lv_sub hl [2, 3, 1, 0] rfl) hp
          · have hp := owp_f k17 hp
            refine lv_iconst (v := (1)) hx hb dX3_endOf_61 (by decide) ?_
            refine lv_goto (tgt := 66) hx hb dX3_endOf_62 (by decide) ?_
            refine lv_istore (lv' := [(4, .int (1 : Int32)), (0, .ref v0), (3, .ref v3), (5, .int v5)]) hx hb dX3_endOf_66 hl (by decide) rfl (fun ls hl => ?_)
            refine lv_iinc (v := v5 + 1) (lv' := [(5, .int (v5 + 1)), (4, .int (1 : Int32)), (0, .ref v0), (3, .ref v3)]) hx hb dX3_endOf_68 hl (k := 3) rfl rfl (by decide) rfl (fun ls hl => ?_)
            refine lv_goto (tgt := 27) hx hb dX3_endOf_71 (by decide) ?_
            exact ih _ _ _ _ _ _ hR hS (lv_sub hl [2, 3, 1, 0] rfl) hp
def f_X3_endOf (v0 : Nat) (v1 : Nat) (v2 : Int32) (N : AH) : Option (Int32 × AH) := ob (iO N v0 3) (fun _ => ob (hR N v0 3 0) (fun x1 => ob2 (f_X7_copyFrom x1 v1 N) (fun _ N2 => ob (hR N2 v0 3 0) (fun x3 => ob (hR N2 x3 7 10) (fun x4 => ob (aR N2 2 x4 v2) (fun x5 => ob2 (f_X4_isOpen x5 N2) (fun x7 N6 => f_X3_endOf_L27 v0 x5 (fun N18 => ob (hI N18 x5 4 3) (fun x19 => some (x19, N18))) FU x7 (0 : Int32) N6)))))))
set_option maxHeartbeats 4000000 in
set_option maxRecDepth 100000 in
theorem wk_X3_endOf {P : Int32 × AH → Prop} (X : CX cX3_endOf RX3 6 G aC t b0 p s m args c) (hr : RtI p l e rm_X3_endOf s m args below meth c 0 0 Q cX3_endOf G aC b0 P) (v0 : Nat) (v1 : Nat) (v2 : Int32) (N : AH) (H : Heap) (locs : List Loc) (ls : Array Slot) (hR : Rp G aC b0 N H) (hS : va_S (fun q => b0 ≤ q) s.heap H locs) (hl : lv_has ls 6 [(0, .ref v0), (1, .ref v1), (2, .int v2)]) (hp : owp (f_X3_endOf v0 v1 v2 N) P) : W p l e rm_X3_endOf s m args below meth c H locs 0 0 Q (F0 m 0 ls []) := by
  have hx := X.1.1
  have hb := X.1.2.1
  unfold f_X3_endOf at hp
  obtain ⟨_, _, hp⟩ := owp_ob hp
  refine lv_aload_n hx hb dX3_endOf_0 rfl (lv_at hl 0 rfl) ?_
  obtain ⟨x1, e_x1, hp⟩ := owp_ob hp
  refine gf_X3_12 X hR e_x1 dX3_endOf_1 ?_
  refine lv_aload_n hx hb dX3_endOf_4 rfl (lv_at hl 1 rfl) ?_
  obtain ⟨_, N2, e_N2, hp⟩ := owp_ob2 hp
  refine iv_X7_copyFrom (rest := []) mw_X3_43 X hR hS e_N2 hl.1 (Nat.le_of_ble_eq_true rfl) ⟨Nat.le_of_ble_eq_true rfl, Nat.le_of_ble_eq_true rfl⟩ ⟨Nat.le_of_ble_eq_true rfl, Nat.le_of_ble_eq_true rfl⟩ dX3_endOf_5 (fun H locs hR hS => ?_)
  refine lv_aload_n hx hb dX3_endOf_8 rfl (lv_at hl 0 rfl) ?_
  obtain ⟨x3, e_x3, hp⟩ := owp_ob hp
  refine gf_X3_12 X hR e_x3 dX3_endOf_9 ?_
  obtain ⟨x4, e_x4, hp⟩ := owp_ob hp
  refine gf_X3_56 X hR e_x4 dX3_endOf_12 ?_
  refine lv_iload_n hx hb dX3_endOf_15 rfl (lv_at hl 2 rfl) ?_
  obtain ⟨x5, e_x5, hp⟩ := owp_ob hp
  refine ab_aald X hR (kd := 2) rfl e_x5 dX3_endOf_16 ?_
  refine lv_astore_n (lv' := [(3, .ref x5), (0, .ref v0), (1, .ref v1), (2, .int v2)]) hx hb dX3_endOf_17 rfl hl (by decide) rfl (fun ls hl => ?_)
  refine lv_aload_n hx hb dX3_endOf_18 rfl (lv_at hl 0 rfl) ?_
  obtain ⟨x7, N6, e_N6, hp⟩ := owp_ob2 hp
  refine iv_X4_isOpen (rest := []) mw_X3_60 X hR hS e_N6 hl.1 (Nat.le_of_ble_eq_true rfl) ⟨Nat.le_of_ble_eq_true rfl, Nat.le_of_ble_eq_true rfl⟩ ⟨Nat.le_of_ble_eq_true rfl, Nat.le_of_ble_eq_true rfl⟩ dX3_endOf_19 (fun H locs hR hS => ?_)
  refine lv_istore (lv' := [(4, .int x7), (3, .ref x5), (0, .ref v0), (1, .ref v1), (2, .int v2)]) hx hb dX3_endOf_22 hl (by decide) rfl (fun ls hl => ?_)
  refine lv_iconst (v := (0)) hx hb dX3_endOf_24 (by decide) ?_
  refine lv_istore (lv' := [(5, .int (0 : Int32)), (4, .int x7), (3, .ref x5), (0, .ref v0), (1, .ref v1), (2, .int v2)]) hx hb dX3_endOf_25 hl (by decide) rfl (fun ls hl => ?_)
  refine w_X3_endOf_L27 X hr _ _ (fun N18 H locs ls hR hS hl hp => ?_) _ _ _ _ _ _ _ hR hS (lv_sub hl [3, 2, 1, 0] rfl) hp
  refine lv_aload_n hx hb dX3_endOf_74 rfl (lv_at hl 0 rfl) ?_
  obtain ⟨x19, e_x19, hp⟩ := owp_ob hp
  refine gf_X3_70 X hR e_x19 dX3_endOf_75 ?_
  exact hr _ _ _ _ _ _ hR hS dX3_endOf_78 hp
end
theorem ct_X3_endOf {v0 : Nat} {v1 : Nat} {v2 : Int32} {N N1 : AH} {r : Int32} (h : f_X3_endOf v0 v1 v2 N = some (r, N1)) : Ct yX3_endOf cX3_endOf 6 (some .int) rm_X3_endOf [.ref v0, .ref v1, .int v2] N (some (.int r)) N1 :=
  ab_met (own := RX3) (by decide +kernel) rfl (Nat.le_of_ble_eq_true rfl) (fun l G aC t b0 p e s m below meth c ls X hr hlk hnm hR hS hl => wk_X3_endOf X (RtI_met X.1.1 X.1.2.1 hr hlk) _ _ _ _ _ _ _ hR hS hl (owp_of h))
theorem cw_X3_endOf : Cond.code yX3_endOf cX3_endOf 6 (some .int) ∈ WT := WT_of 819 (by decide +kernel) (by decide +kernel)
theorem iv_X3_endOf {p : Program} {l : Launch} {e : Env} {R : Room} {s : State} {m : MethodId} {args : Array Value} {below : List Frame} {meth : Method} {c : Code} {H : Heap} {locs : List Loc} {cells slots : Nat} {Q : State → Prop} {cc : ByteArray} {own : String} {nL : Nat} {G : va_G} {aC : Nat → ClassId} {t b0 : Nat} {N N1 : AH} {pc index : Nat} {ls : Array Slot} {rest : List Value} {v0 : Nat} {v1 : Nat} {v2 : Int32} {r : Int32} (w1 : Cond.methodLink own index yX3_endOf ∈ WT) (X : CX cc own nL G aC t b0 p s m args c) (hR : Rp G aC b0 N H) (hS : va_S (fun q => b0 ≤ q) s.heap H locs) (h : f_X3_endOf v0 v1 v2 N = some (r, N1)) (hls : ls.size = nL) (hW : (rest.map fun v => v.category).sum ≤ 8) (hR1 : 6 ≤ R.frames ∧ 149 ≤ R.locals) (hcs : cells + 0 ≤ R.cells ∧ slots + 0 ≤ R.slots) (hdg : decode cc pc = .ok (.invokevirtual index, 3)) (kk : ∀ (H1 : Heap) (locs1 : List Loc), Rp G aC b0 N1 H1 → va_S (fun q => b0 ≤ q) s.heap H1 locs1 → W p l e R s m args below meth c H1 locs1 cells slots Q (F0 m (pc + 3) ls (.int r :: rest))) : W p l e R s m args below meth c H locs cells slots Q (F0 m pc ls (.int v2 :: .ref v1 :: .ref v0 :: rest)) :=
  ab_callV (n := 2) (As := [.ref v1, .int v2]) X hR hS (ct_X3_endOf h) (ob_rc (c := 3) (N := N) (a := v0) h) (T := TX3) (k := 7) (C := RX3) rfl w1 (WT_of 817 (by decide +kernel) (by decide +kernel)) (WT_of 818 (by decide +kernel) (by decide +kernel)) (WT_of 91 (by decide +kernel) (by decide +kernel)) cw_X3_endOf ⟨rfl, by decide +kernel, by decide +kernel, by decide +kernel⟩ rfl hls hW hR1 hcs rfl hdg kk
-- X6_add
theorem gf_X6_9 {p : Program} {l : Launch} {e : Env} {R : Room} {s : State} {m : MethodId} {args : Array Value} {below : List Frame} {meth : Method} {c : Code} {H : Heap} {locs : List Loc} {cells slots : Nat} {Q : State → Prop} {cc : ByteArray} {nL : Nat} {G : va_G} {aC : Nat → ClassId} {t b0 : Nat} {N : AH} {pc : Nat} {ls : Array Slot} {rest : List Value} {a : Nat} {v : Nat} (X : CX cc RX6 nL G aC t b0 p s m args c) (hR0 : Rp G aC b0 N H) (hv : hR N a 6 0 = some v) (hdg : decode cc pc = .ok (.getfield 9, 3)) (kk : W p l e R s m args below meth c H locs cells slots Q (F0 m (pc + 3) ls (.ref v :: rest))) : W p l e R s m args below meth c H locs cells slots Q (F0 m pc ls (.ref a :: rest)) := by
  obtain ⟨fs, h1, h2⟩ := hR_ok hv
  exact ab_get (C := RX6) (T := TX6) (n := 1) X hR0 h1 h2 rfl inX6 (by decide) (WT_of 391 (by decide +kernel) (by decide +kernel)) hdg kk
theorem gf_X6_15 {p : Program} {l : Launch} {e : Env} {R : Room} {s : State} {m : MethodId} {args : Array Value} {below : List Frame} {meth : Method} {c : Code} {H : Heap} {locs : List Loc} {cells slots : Nat} {Q : State → Prop} {cc : ByteArray} {nL : Nat} {G : va_G} {aC : Nat → ClassId} {t b0 : Nat} {N : AH} {pc : Nat} {ls : Array Slot} {rest : List Value} {a : Nat} {v : Nat} (X : CX cc RX6 nL G aC t b0 p s m args c) (hR0 : Rp G aC b0 N H) (hv : hR N a 1 1 = some v) (hdg : decode cc pc = .ok (.getfield 15, 3)) (kk : W p l e R s m args below meth c H locs cells slots Q (F0 m (pc + 3) ls (.ref v :: rest))) : W p l e R s m args below meth c H locs cells slots Q (F0 m pc ls (.ref a :: rest)) := by
  obtain ⟨fs, h1, h2⟩ := hR_ok hv
  exact ab_get (C := RX1) (T := TX1) (n := 6) X hR0 h1 h2 rfl inX1 (by decide) (WT_of 122 (by decide +kernel) (by decide +kernel)) hdg kk
theorem gf_X6_20 {p : Program} {l : Launch} {e : Env} {R : Room} {s : State} {m : MethodId} {args : Array Value} {below : List Frame} {meth : Method} {c : Code} {H : Heap} {locs : List Loc} {cells slots : Nat} {Q : State → Prop} {cc : ByteArray} {nL : Nat} {G : va_G} {aC : Nat → ClassId} {t b0 : Nat} {N : AH} {pc : Nat} {ls : Array Slot} {rest : List Value} {a : Nat} {v : Nat} (X : CX cc RX6 nL G aC t b0 p s m args c) (hR0 : Rp G aC b0 N H) (hv : hR N a 1 2 = some v) (hdg : decode cc pc = .ok (.getfield 20, 3)) (kk : W p l e R s m args below meth c H locs cells slots Q (F0 m (pc + 3) ls (.ref v :: rest))) : W p l e R s m args below meth c H locs cells slots Q (F0 m pc ls (.ref a :: rest)) := by
  obtain ⟨fs, h1, h2⟩ := hR_ok hv
  exact ab_get (C := RX1) (T := TX1) (n := 6) X hR0 h1 h2 rfl inX1 (by decide) (WT_of 126 (by decide +kernel) (by decide +kernel)) hdg kk
theorem dX6_add_0 : decode cX6_add 0 = .ok (.aload_n 0, 1) := by decide +kernel
theorem dX6_add_1 : decode cX6_add 1 = .ok (.getfield 9, 3) := by decide +kernel
theorem dX6_add_4 : decode cX6_add 4 = .ok (.aload_n 1, 1) := by decide +kernel
theorem dX6_add_5 : decode cX6_add 5 = .ok (.getfield 15, 3) := by decide +kernel
theorem dX6_add_8 : decode cX6_add 8 = .ok (.iload_n 2, 1) := by decide +kernel
theorem dX6_add_9 : decode cX6_add 9 = .ok (.iaload, 1) := by decide +kernel
theorem dX6_add_10 : decode cX6_add 10 = .ok (.dup2, 1) := by decide +kernel
theorem dX6_add_11 : decode cX6_add 11 = .ok (.iaload, 1) := by decide +kernel
theorem dX6_add_12 : decode cX6_add 12 = .ok (.iload_n 3, 1) := by decide +kernel
theorem dX6_add_13 : decode cX6_add 13 = .ok (.iadd, 1) := by decide +kernel
theorem dX6_add_14 : decode cX6_add 14 = .ok (.iastore, 1) := by decide +kernel
theorem dX6_add_15 : decode cX6_add 15 = .ok (.aload_n 0, 1) := by decide +kernel
theorem dX6_add_16 : decode cX6_add 16 = .ok (.getfield 9, 3) := by decide +kernel
theorem dX6_add_19 : decode cX6_add 19 = .ok (.bipush 8, 2) := by decide +kernel
theorem dX6_add_21 : decode cX6_add 21 = .ok (.aload_n 1, 1) := by decide +kernel
theorem dX6_add_22 : decode cX6_add 22 = .ok (.getfield 20, 3) := by decide +kernel
theorem dX6_add_25 : decode cX6_add 25 = .ok (.iload_n 2, 1) := by decide +kernel
theorem dX6_add_26 : decode cX6_add 26 = .ok (.iaload, 1) := by decide +kernel
theorem dX6_add_27 : decode cX6_add 27 = .ok (.iadd, 1) := by decide +kernel
theorem dX6_add_28 : decode cX6_add 28 = .ok (.dup2, 1) := by decide +kernel
theorem dX6_add_29 : decode cX6_add 29 = .ok (.iaload, 1) := by decide +kernel
theorem dX6_add_30 : decode cX6_add 30 = .ok (.iload_n 3, 1) := by decide +kernel
theorem dX6_add_31 : decode cX6_add 31 = .ok (.iadd, 1) := by decide +kernel
theorem dX6_add_32 : decode cX6_add 32 = .ok (.iastore, 1) := by decide +kernel
theorem dX6_add_33 : decode cX6_add 33 = .ok (.return_, 1) := by decide +kernel
def rm_X6_add : Room := { frames := 0, cells := 0, slots := 0, locals := 0 }
section
variable {p : Program} {l : Launch} {e : Env} {s : State} {m : MethodId} {args : Array Value} {below : List Frame} {meth : Method} {c : Code} {Q : State → Prop} {G : va_G} {aC : Nat → ClassId} {t b0 : Nat}
def f_X6_add (v0 : Nat) (v1 : Nat) (v2 : Int32) (v3 : Int32) (N : AH) : Option (Unit × AH) := ob (iO N v0 6) (fun _ => ob (hR N v0 6 0) (fun x1 => ob (hR N v1 1 1) (fun x2 => ob (aI N x2 v2) (fun x3 => ob (aI N x1 x3) (fun x4 => ob (sI N x1 x3 (x4 + v3)) (fun N5 => ob (hR N5 v0 6 0) (fun x6 => ob (hR N5 v1 1 2) (fun x7 => ob (aI N5 x7 v2) (fun x8 => ob (aI N5 x6 ((8 : Int32) + x8)) (fun x9 => ob (sI N5 x6 ((8 : Int32) + x8) (x9 + v3)) (fun N10 => some ((), N10))))))))))))
set_option maxHeartbeats 4000000 in
set_option maxRecDepth 100000 in
theorem wk_X6_add {P : Unit × AH → Prop} (X : CX cX6_add RX6 4 G aC t b0 p s m args c) (hr : RtV p l e rm_X6_add s m args below meth c 0 0 Q cX6_add G aC b0 P) (v0 : Nat) (v1 : Nat) (v2 : Int32) (v3 : Int32) (N : AH) (H : Heap) (locs : List Loc) (ls : Array Slot) (hR : Rp G aC b0 N H) (hS : va_S (fun q => b0 ≤ q) s.heap H locs) (hl : lv_has ls 4 [(0, .ref v0), (1, .ref v1), (2, .int v2), (3, .int v3)]) (hp : owp (f_X6_add v0 v1 v2 v3 N) P) : W p l e rm_X6_add s m args below meth c H locs 0 0 Q (F0 m 0 ls []) := by
  have hx := X.1.1
  have hb := X.1.2.1
  unfold f_X6_add at hp
  obtain ⟨_, _, hp⟩ := owp_ob hp
  refine lv_aload_n hx hb dX6_add_0 rfl (lv_at hl 0 rfl) ?_
  obtain ⟨x1, e_x1, hp⟩ := owp_ob hp
  refine gf_X6_9 X hR e_x1 dX6_add_1 ?_
  refine lv_aload_n hx hb dX6_add_4 rfl (lv_at hl 1 rfl) ?_
  obtain ⟨x2, e_x2, hp⟩ := owp_ob hp
  refine gf_X6_15 X hR e_x2 dX6_add_5 ?_
  refine lv_iload_n hx hb dX6_add_8 rfl (lv_at hl 2 rfl) ?_
  obtain ⟨x3, e_x3, hp⟩ := owp_ob hp
  refine ab_iald X hR e_x3 dX6_add_9 ?_
  refine lv_dup2_11 hx hb dX6_add_10 rfl rfl ?_
  obtain ⟨x4, e_x4, hp⟩ := owp_ob hp
  refine ab_iald X hR e_x4 dX6_add_11 ?_
  refine lv_iload_n hx hb dX6_add_12 rfl (lv_at hl 3 rfl) ?_
  refine lv_iadd hx hb dX6_add_13 ?_
  obtain ⟨N5, e_N5, hp⟩ := owp_ob hp
  refine ab_iast X hR hS e_N5 dX6_add_14 (fun H locs hR hS => ?_)
  refine lv_aload_n hx hb dX6_add_15 rfl (lv_at hl 0 rfl) ?_
  obtain ⟨x6, e_x6, hp⟩ := owp_ob hp
  refine gf_X6_9 X hR e_x6 dX6_add_16 ?_
  refine lv_bipush (v := (8)) hx hb dX6_add_19 (by decide) ?_
  refine lv_aload_n hx hb dX6_add_21 rfl (lv_at hl 1 rfl) ?_
  obtain ⟨x7, e_x7, hp⟩ := owp_ob hp
  refine gf_X6_20 X hR e_x7 dX6_add_22 ?_
  refine lv_iload_n hx hb dX6_add_25 rfl (lv_at hl 2 rfl) ?_
  obtain ⟨x8, e_x8, hp⟩ := owp_ob hp
  refine ab_iald X hR e_x8 dX6_add_26 ?_
  refine lv_iadd hx hb dX6_add_27 ?_
  refine lv_dup2_11 hx hb dX6_add_28 rfl rfl ?_
  obtain ⟨x9, e_x9, hp⟩ := owp_ob hp
  refine ab_iald X hR e_x9 dX6_add_29 ?_
  refine lv_iload_n hx hb dX6_add_30 rfl (lv_at hl 3 rfl) ?_
  refine lv_iadd hx hb dX6_add_31 ?_
  obtain ⟨N10, e_N10, hp⟩ := owp_ob hp
  refine ab_iast X hR hS e_N10 dX6_add_32 (fun H locs hR hS => ?_)
  exact hr _ _ _ _ _ hR hS dX6_add_33 hp
end
theorem ct_X6_add {v0 : Nat} {v1 : Nat} {v2 : Int32} {v3 : Int32} {N N1 : AH} {r : Unit} (h : f_X6_add v0 v1 v2 v3 N = some (r, N1)) : Ct yX6_add cX6_add 4 none rm_X6_add [.ref v0, .ref v1, .int v2, .int v3] N none N1 :=
  ab_met (own := RX6) (by decide +kernel) rfl (Nat.le_of_ble_eq_true rfl) (fun l G aC t b0 p e s m below meth c ls X hr hlk hnm hR hS hl => wk_X6_add X (RtV_met X.1.1 X.1.2.1 hr hlk) _ _ _ _ _ _ _ _ hR hS hl (owp_of h))
theorem cw_X6_add : Cond.code yX6_add cX6_add 4 none ∈ WT := WT_of 585 (by decide +kernel) (by decide +kernel)
theorem iv_X6_add {p : Program} {l : Launch} {e : Env} {R : Room} {s : State} {m : MethodId} {args : Array Value} {below : List Frame} {meth : Method} {c : Code} {H : Heap} {locs : List Loc} {cells slots : Nat} {Q : State → Prop} {cc : ByteArray} {own : String} {nL : Nat} {G : va_G} {aC : Nat → ClassId} {t b0 : Nat} {N N1 : AH} {pc index : Nat} {ls : Array Slot} {rest : List Value} {v0 : Nat} {v1 : Nat} {v2 : Int32} {v3 : Int32} {r : Unit} (w1 : Cond.methodLink own index yX6_add ∈ WT) (X : CX cc own nL G aC t b0 p s m args c) (hR : Rp G aC b0 N H) (hS : va_S (fun q => b0 ≤ q) s.heap H locs) (h : f_X6_add v0 v1 v2 v3 N = some (r, N1)) (hls : ls.size = nL) (hW : (rest.map fun v => v.category).sum ≤ 8) (hR1 : 1 ≤ R.frames ∧ 23 ≤ R.locals) (hcs : cells + 0 ≤ R.cells ∧ slots + 0 ≤ R.slots) (hdg : decode cc pc = .ok (.invokevirtual index, 3)) (kk : ∀ (H1 : Heap) (locs1 : List Loc), Rp G aC b0 N1 H1 → va_S (fun q => b0 ≤ q) s.heap H1 locs1 → W p l e R s m args below meth c H1 locs1 cells slots Q (F0 m (pc + 3) ls rest)) : W p l e R s m args below meth c H locs cells slots Q (F0 m pc ls (.int v3 :: .int v2 :: .ref v1 :: .ref v0 :: rest)) :=
  ab_callV (n := 3) (As := [.ref v1, .int v2, .int v3]) X hR hS (ct_X6_add h) (ob_rc (c := 6) (N := N) (a := v0) h) (T := TX6) (k := 1) (C := RX6) rfl w1 (WT_of 584 (by decide +kernel) (by decide +kernel)) (WT_of 7 (by decide +kernel) (by decide +kernel)) (WT_of 90 (by decide +kernel) (by decide +kernel)) cw_X6_add ⟨rfl, by decide +kernel, by decide +kernel, by decide +kernel⟩ rfl hls hW hR1 hcs rfl hdg kk
-- X6_addRests
theorem gf_X6_72 {p : Program} {l : Launch} {e : Env} {R : Room} {s : State} {m : MethodId} {args : Array Value} {below : List Frame} {meth : Method} {c : Code} {H : Heap} {locs : List Loc} {cells slots : Nat} {Q : State → Prop} {cc : ByteArray} {nL : Nat} {G : va_G} {aC : Nat → ClassId} {t b0 : Nat} {N : AH} {pc : Nat} {ls : Array Slot} {rest : List Value} {a : Nat} {v : Int32} (X : CX cc RX6 nL G aC t b0 p s m args c) (hR0 : Rp G aC b0 N H) (hv : hI N a 1 0 = some v) (hdg : decode cc pc = .ok (.getfield 72, 3)) (kk : W p l e R s m args below meth c H locs cells slots Q (F0 m (pc + 3) ls (.int v :: rest))) : W p l e R s m args below meth c H locs cells slots Q (F0 m pc ls (.ref a :: rest)) := by
  obtain ⟨fs, h1, h2⟩ := hI_ok hv
  exact ab_get (C := RX1) (T := TX1) (n := 6) X hR0 h1 h2 rfl inX1 (by decide) (WT_of 118 (by decide +kernel) (by decide +kernel)) hdg kk
theorem gf_X6_91 {p : Program} {l : Launch} {e : Env} {R : Room} {s : State} {m : MethodId} {args : Array Value} {below : List Frame} {meth : Method} {c : Code} {H : Heap} {locs : List Loc} {cells slots : Nat} {Q : State → Prop} {cc : ByteArray} {nL : Nat} {G : va_G} {aC : Nat → ClassId} {t b0 : Nat} {N : AH} {pc : Nat} {ls : Array Slot} {rest : List Value} {a : Nat} {v : Nat} (X : CX cc RX6 nL G aC t b0 p s m args c) (hR0 : Rp G aC b0 N H) (hv : hR N a 1 4 = some v) (hdg : decode cc pc = .ok (.getfield 91, 3)) (kk : W p l e R s m args below meth c H locs cells slots Q (F0 m (pc + 3) ls (.ref v :: rest))) : W p l e R s m args below meth c H locs cells slots Q (F0 m pc ls (.ref a :: rest)) := by
  obtain ⟨fs, h1, h2⟩ := hR_ok hv
  exact ab_get (C := RX1) (T := TX1) (n := 6) X hR0 h1 h2 rfl inX1 (by decide) (WT_of 133 (by decide +kernel) (by decide +kernel)) hdg kk
theorem mw_X6_81 : Cond.methodLink RX6 81 yX6_add ∈ WT := WT_of 582 (by decide +kernel) (by decide +kernel)
theorem dX6_addRests_0 : decode cX6_addRests 0 = .ok (.iconst 0, 1) := by decide +kernel
theorem dX6_addRests_1 : decode cX6_addRests 1 = .ok (.istore_n 2, 1) := by decide +kernel
theorem dX6_addRests_2 : decode cX6_addRests 2 = .ok (.iload_n 2, 1) := by decide +kernel
theorem dX6_addRests_3 : decode cX6_addRests 3 = .ok (.aload_n 1, 1) := by decide +kernel
theorem dX6_addRests_4 : decode cX6_addRests 4 = .ok (.getfield 72, 3) := by decide +kernel
theorem dX6_addRests_7 : decode cX6_addRests 7 = .ok (.if_icmp .ge 21, 3) := by decide +kernel
theorem dX6_addRests_10 : decode cX6_addRests 10 = .ok (.aload_n 0, 1) := by decide +kernel
theorem dX6_addRests_11 : decode cX6_addRests 11 = .ok (.aload_n 1, 1) := by decide +kernel
theorem dX6_addRests_12 : decode cX6_addRests 12 = .ok (.iload_n 2, 1) := by decide +kernel
theorem dX6_addRests_13 : decode cX6_addRests 13 = .ok (.aload_n 1, 1) := by decide +kernel
theorem dX6_addRests_14 : decode cX6_addRests 14 = .ok (.getfield 91, 3) := by decide +kernel
theorem dX6_addRests_17 : decode cX6_addRests 17 = .ok (.iload_n 2, 1) := by decide +kernel
theorem dX6_addRests_18 : decode cX6_addRests 18 = .ok (.iaload, 1) := by decide +kernel
theorem dX6_addRests_19 : decode cX6_addRests 19 = .ok (.invokevirtual 81, 3) := by decide +kernel
theorem dX6_addRests_22 : decode cX6_addRests 22 = .ok (.iinc 2 1, 3) := by decide +kernel
theorem dX6_addRests_25 : decode cX6_addRests 25 = .ok (.goto (-23), 3) := by decide +kernel
theorem dX6_addRests_28 : decode cX6_addRests 28 = .ok (.return_, 1) := by decide +kernel
def rm_X6_addRests : Room := { frames := 1, cells := 0, slots := 0, locals := 23 }
section
variable {p : Program} {l : Launch} {e : Env} {s : State} {m : MethodId} {args : Array Value} {below : List Frame} {meth : Method} {c : Code} {Q : State → Prop} {G : va_G} {aC : Nat → ClassId} {t b0 : Nat}
def f_X6_addRests_L2 (v0 : Nat) (v1 : Nat) (k28 : AH → Option (Unit × AH)) : Nat → Int32 → AH → Option (Unit × AH)
  | 0, _, _ => none
  | n + 1, v2, N => ob (hI N v1 1 0) (fun x1 => if x1 ≤ v2 then k28 N else ob (hR N v1 1 4) (fun x3 => ob (aI N x3 v2) (fun x4 => ob2 (f_X6_add v0 v1 v2 x4 N) (fun _ N5 => f_X6_addRests_L2 v0 v1 k28 n (v2 + 1) N5))))
set_option maxHeartbeats 4000000 in
set_option maxRecDepth 100000 in
theorem w_X6_addRests_L2 {P : Unit × AH → Prop} (X : CX cX6_addRests RX6 3 G aC t b0 p s m args c) (hr : RtV p l e rm_X6_addRests s m args below meth c 0 0 Q cX6_addRests G aC b0 P) (v0 : Nat) (v1 : Nat) {k28 : AH → Option (Unit × AH)}
    (hk28 : ∀ (N : AH) (H : Heap) (locs : List Loc) (ls : Array Slot), Rp G aC b0 N H → va_S (fun q => b0 ≤ q) s.heap H locs → lv_has ls 3 [] → owp (k28 N) P → W p l e rm_X6_addRests s m args below meth c H locs 0 0 Q (F0 m 28 ls [])) :
    ∀ (n : Nat) (v2 : Int32) (N : AH) (H : Heap) (locs : List Loc) (ls : Array Slot), Rp G aC b0 N H → va_S (fun q => b0 ≤ q) s.heap H locs → lv_has ls 3 [(0, .ref v0), (1, .ref v1), (2, .int v2)] → owp (f_X6_addRests_L2 v0 v1 k28 n v2 N) P → W p l e rm_X6_addRests s m args below meth c H locs 0 0 Q (F0 m 2 ls []) := by
  have hx := X.1.1
  have hb := X.1.2.1
  intro n
  induction n with
  | zero =>
    intro v2 N H locs ls hR hS hl hp
    exact (show False from hp).elim
  | succ n ih =>
    intro v2 N H locs ls hR hS hl hp
    rw [f_X6_addRests_L2] at hp
    refine lv_iload_n hx hb dX6_addRests_2 rfl (lv_at hl 2 rfl) ?_
    refine lv_aload_n hx hb dX6_addRests_3 rfl (lv_at hl 1 rfl) ?_
    obtain ⟨x1, e_x1, hp⟩ := owp_ob hp
    refine gf_X6_72 X hR e_x1 dX6_addRests_4 ?_
    refine lv_icmp_ge (tgt := 28) hx hb dX6_addRests_7 (by decide) (fun k2 => ?_) (fun k2 => ?_)
    · have hp := owp_t k2 hp
      exact hk28 _ _ _ _ hR hS (lv_sub hl [] rfl) hp
    · have hp := owp_f k2 hp
      refine lv_aload_n hx hb dX6_addRests_10 rfl (lv_at hl 0 rfl) ?_
      refine lv_aload_n hx hb dX6_addRests_11 rfl (lv_at hl 1 rfl) ?_
      refine lv_iload_n hx hb dX6_addRests_12 rfl (lv_at hl 2 rfl) ?_
      refine lv_aload_n hx hb dX6_addRests_13 rfl (lv_at hl 1 rfl) ?_
      obtain ⟨x3, e_x3, hp⟩ := owp_ob hp
      refine gf_X6_91 X hR e_x3 dX6_addRests_14 ?_
      refine lv_iload_n hx hb dX6_addRests_17 rfl (lv_at hl 2 rfl) ?_
      obtain ⟨x4, e_x4, hp⟩ := owp_ob hp
      refine ab_iald X hR e_x4 dX6_addRests_18 ?_
      obtain ⟨_, N5, e_N5, hp⟩ := owp_ob2 hp
      refine iv_X6_add (rest := []) mw_X6_81 X hR hS e_N5 hl.1 (Nat.le_of_ble_eq_true rfl) ⟨Nat.le_of_ble_eq_true rfl, Nat.le_of_ble_eq_true rfl⟩ ⟨Nat.le_of_ble_eq_true rfl, Nat.le_of_ble_eq_true rfl⟩ dX6_addRests_19 (fun H locs hR hS => ?_)
      refine lv_iinc (v := v2 + 1) (lv' := [(2, .int (v2 + 1)), (0, .ref v0), (1, .ref v1)]) hx hb dX6_addRests_22 hl (k := 2) rfl rfl (by decide) rfl (fun ls hl => ?_)
      refine lv_goto (tgt := 2) hx hb dX6_addRests_25 (by decide) ?_
      exact ih _ _ _ _ _ hR hS (lv_sub hl [1, 2, 0] rfl) hp
def f_X6_addRests (v0 : Nat) (v1 : Nat) (N : AH) : Option (Unit × AH) := ob (iO N v0 6) (fun _ => f_X6_addRests_L2 v0 v1 (fun N6 => some ((), N6)) FU (0 : Int32) N)
set_option maxHeartbeats 4000000 in
set_option maxRecDepth 100000 in
theorem wk_X6_addRests {P : Unit × AH → Prop} (X : CX cX6_addRests RX6 3 G aC t b0 p s m args c) (hr : RtV p l e rm_X6_addRests s m args below meth c 0 0 Q cX6_addRests G aC b0 P) (v0 : Nat) (v1 : Nat) (N : AH) (H : Heap) (locs : List Loc) (ls : Array Slot) (hR : Rp G aC b0 N H) (hS : va_S (fun q => b0 ≤ q) s.heap H locs) (hl : lv_has ls 3 [(0, .ref v0), (1, .ref v1)]) (hp : owp (f_X6_addRests v0 v1 N) P) : W p l e rm_X6_addRests s m args below meth c H locs 0 0 Q (F0 m 0 ls []) := by
  have hx := X.1.1
  have hb := X.1.2.1
  unfold f_X6_addRests at hp
  obtain ⟨_, _, hp⟩ := owp_ob hp
  refine lv_iconst (v := (0)) hx hb dX6_addRests_0 (by decide) ?_
  refine lv_istore_n (lv' := [(2, .int (0 : Int32)), (0, .ref v0), (1, .ref v1)]) hx hb dX6_addRests_1 rfl hl (by decide) rfl (fun ls hl => ?_)
  refine w_X6_addRests_L2 X hr _ _ (fun N6 H locs ls hR hS hl hp => ?_) _ _ _ _ _ _ hR hS (lv_sub hl [1, 2, 0] rfl) hp
  exact hr _ _ _ _ _ hR hS dX6_addRests_28 hp
end
theorem ct_X6_addRests {v0 : Nat} {v1 : Nat} {N N1 : AH} {r : Unit} (h : f_X6_addRests v0 v1 N = some (r, N1)) : Ct yX6_addRests cX6_addRests 3 none rm_X6_addRests [.ref v0, .ref v1] N none N1 :=
  ab_met (own := RX6) (by decide +kernel) rfl (Nat.le_of_ble_eq_true rfl) (fun l G aC t b0 p e s m below meth c ls X hr hlk hnm hR hS hl => wk_X6_addRests X (RtV_met X.1.1 X.1.2.1 hr hlk) _ _ _ _ _ _ hR hS hl (owp_of h))
theorem cw_X6_addRests : Cond.code yX6_addRests cX6_addRests 3 none ∈ WT := WT_of 841 (by decide +kernel) (by decide +kernel)
theorem iv_X6_addRests {p : Program} {l : Launch} {e : Env} {R : Room} {s : State} {m : MethodId} {args : Array Value} {below : List Frame} {meth : Method} {c : Code} {H : Heap} {locs : List Loc} {cells slots : Nat} {Q : State → Prop} {cc : ByteArray} {own : String} {nL : Nat} {G : va_G} {aC : Nat → ClassId} {t b0 : Nat} {N N1 : AH} {pc index : Nat} {ls : Array Slot} {rest : List Value} {v0 : Nat} {v1 : Nat} {r : Unit} (w1 : Cond.methodLink own index yX6_addRests ∈ WT) (X : CX cc own nL G aC t b0 p s m args c) (hR : Rp G aC b0 N H) (hS : va_S (fun q => b0 ≤ q) s.heap H locs) (h : f_X6_addRests v0 v1 N = some (r, N1)) (hls : ls.size = nL) (hW : (rest.map fun v => v.category).sum ≤ 8) (hR1 : 2 ≤ R.frames ∧ 45 ≤ R.locals) (hcs : cells + 0 ≤ R.cells ∧ slots + 0 ≤ R.slots) (hdg : decode cc pc = .ok (.invokevirtual index, 3)) (kk : ∀ (H1 : Heap) (locs1 : List Loc), Rp G aC b0 N1 H1 → va_S (fun q => b0 ≤ q) s.heap H1 locs1 → W p l e R s m args below meth c H1 locs1 cells slots Q (F0 m (pc + 3) ls rest)) : W p l e R s m args below meth c H locs cells slots Q (F0 m pc ls (.ref v1 :: .ref v0 :: rest)) :=
  ab_callV (n := 1) (As := [.ref v1]) X hR hS (ct_X6_addRests h) (ob_rc (c := 6) (N := N) (a := v0) h) (T := TX6) (k := 1) (C := RX6) rfl w1 (WT_of 840 (by decide +kernel) (by decide +kernel)) (WT_of 23 (by decide +kernel) (by decide +kernel)) (WT_of 90 (by decide +kernel) (by decide +kernel)) cw_X6_addRests ⟨rfl, by decide +kernel, by decide +kernel, by decide +kernel⟩ rfl hls hW hR1 hcs rfl hdg kk
-- X6_boundOf
theorem gf_X6_29 {p : Program} {l : Launch} {e : Env} {R : Room} {s : State} {m : MethodId} {args : Array Value} {below : List Frame} {meth : Method} {c : Code} {H : Heap} {locs : List Loc} {cells slots : Nat} {Q : State → Prop} {cc : ByteArray} {nL : Nat} {G : va_G} {aC : Nat → ClassId} {t b0 : Nat} {N : AH} {pc : Nat} {ls : Array Slot} {rest : List Value} {a : Nat} {v : Int32} (X : CX cc RX6 nL G aC t b0 p s m args c) (hR0 : Rp G aC b0 N H) (hv : hI N a 7 6 = some v) (hdg : decode cc pc = .ok (.getfield 29, 3)) (kk : W p l e R s m args below meth c H locs cells slots Q (F0 m (pc + 3) ls (.int v :: rest))) : W p l e R s m args below meth c H locs cells slots Q (F0 m pc ls (.ref a :: rest)) := by
  obtain ⟨fs, h1, h2⟩ := hI_ok hv
  exact ab_get (C := RX7) (T := TX7) (n := 12) X hR0 h1 h2 rfl inX7 (by decide) (WT_of 274 (by decide +kernel) (by decide +kernel)) hdg kk
theorem gf_X6_35 {p : Program} {l : Launch} {e : Env} {R : Room} {s : State} {m : MethodId} {args : Array Value} {below : List Frame} {meth : Method} {c : Code} {H : Heap} {locs : List Loc} {cells slots : Nat} {Q : State → Prop} {cc : ByteArray} {nL : Nat} {G : va_G} {aC : Nat → ClassId} {t b0 : Nat} {N : AH} {pc : Nat} {ls : Array Slot} {rest : List Value} {a : Nat} {v : Nat} (X : CX cc RX6 nL G aC t b0 p s m args c) (hR0 : Rp G aC b0 N H) (hv : hR N a 7 10 = some v) (hdg : decode cc pc = .ok (.getfield 35, 3)) (kk : W p l e R s m args below meth c H locs cells slots Q (F0 m (pc + 3) ls (.ref v :: rest))) : W p l e R s m args below meth c H locs cells slots Q (F0 m pc ls (.ref a :: rest)) := by
  obtain ⟨fs, h1, h2⟩ := hR_ok hv
  exact ab_get (C := RX7) (T := TX7) (n := 12) X hR0 h1 h2 rfl inX7 (by decide) (WT_of 289 (by decide +kernel) (by decide +kernel)) hdg kk
theorem gf_X6_85 {p : Program} {l : Launch} {e : Env} {R : Room} {s : State} {m : MethodId} {args : Array Value} {below : List Frame} {meth : Method} {c : Code} {H : Heap} {locs : List Loc} {cells slots : Nat} {Q : State → Prop} {cc : ByteArray} {nL : Nat} {G : va_G} {aC : Nat → ClassId} {t b0 : Nat} {N : AH} {pc : Nat} {ls : Array Slot} {rest : List Value} {a : Nat} {v : Nat} (X : CX cc RX6 nL G aC t b0 p s m args c) (hR0 : Rp G aC b0 N H) (hv : hR N a 7 7 = some v) (hdg : decode cc pc = .ok (.getfield 85, 3)) (kk : W p l e R s m args below meth c H locs cells slots Q (F0 m (pc + 3) ls (.ref v :: rest))) : W p l e R s m args below meth c H locs cells slots Q (F0 m pc ls (.ref a :: rest)) := by
  obtain ⟨fs, h1, h2⟩ := hR_ok hv
  exact ab_get (C := RX7) (T := TX7) (n := 12) X hR0 h1 h2 rfl inX7 (by decide) (WT_of 280 (by decide +kernel) (by decide +kernel)) hdg kk
theorem gf_X6_88 {p : Program} {l : Launch} {e : Env} {R : Room} {s : State} {m : MethodId} {args : Array Value} {below : List Frame} {meth : Method} {c : Code} {H : Heap} {locs : List Loc} {cells slots : Nat} {Q : State → Prop} {cc : ByteArray} {nL : Nat} {G : va_G} {aC : Nat → ClassId} {t b0 : Nat} {N : AH} {pc : Nat} {ls : Array Slot} {rest : List Value} {a : Nat} {v : Nat} (X : CX cc RX6 nL G aC t b0 p s m args c) (hR0 : Rp G aC b0 N H) (hv : hR N a 4 5 = some v) (hdg : decode cc pc = .ok (.getfield 88, 3)) (kk : W p l e R s m args below meth c H locs cells slots Q (F0 m (pc + 3) ls (.ref v :: rest))) : W p l e R s m args below meth c H locs cells slots Q (F0 m pc ls (.ref a :: rest)) := by
  obtain ⟨fs, h1, h2⟩ := hR_ok hv
  exact ab_get (C := RX4) (T := TX4) (n := 6) X hR0 h1 h2 rfl inX4 (by decide) (WT_of 212 (by decide +kernel) (by decide +kernel)) hdg kk
theorem mw_X6_23 : Cond.methodLink RX6 23 yJ7_fill_53178 ∈ WT := WT_of 563 (by decide +kernel) (by decide +kernel)
theorem mw_X6_39 : Cond.methodLink RX6 39 yX4_isOpen ∈ WT := WT_of 564 (by decide +kernel) (by decide +kernel)
theorem mw_X6_58 : Cond.methodLink RX6 58 yJ9_max_7cf53 ∈ WT := WT_of 572 (by decide +kernel) (by decide +kernel)
theorem mw_X6_94 : Cond.methodLink RX6 94 yX6_addRests ∈ WT := WT_of 838 (by decide +kernel) (by decide +kernel)
theorem dX6_boundOf_0 : decode cX6_boundOf 0 = .ok (.aload_n 0, 1) := by decide +kernel
theorem dX6_boundOf_1 : decode cX6_boundOf 1 = .ok (.getfield 9, 3) := by decide +kernel
theorem dX6_boundOf_4 : decode cX6_boundOf 4 = .ok (.iconst 0, 1) := by decide +kernel
theorem dX6_boundOf_5 : decode cX6_boundOf 5 = .ok (.invokestatic 23, 3) := by decide +kernel
theorem dX6_boundOf_8 : decode cX6_boundOf 8 = .ok (.iconst 0, 1) := by decide +kernel
theorem dX6_boundOf_9 : decode cX6_boundOf 9 = .ok (.istore_n 2, 1) := by decide +kernel
theorem dX6_boundOf_10 : decode cX6_boundOf 10 = .ok (.iload_n 2, 1) := by decide +kernel
theorem dX6_boundOf_11 : decode cX6_boundOf 11 = .ok (.aload_n 1, 1) := by decide +kernel
theorem dX6_boundOf_12 : decode cX6_boundOf 12 = .ok (.getfield 29, 3) := by decide +kernel
theorem dX6_boundOf_15 : decode cX6_boundOf 15 = .ok (.if_icmp .ge 31, 3) := by decide +kernel
theorem dX6_boundOf_18 : decode cX6_boundOf 18 = .ok (.aload_n 1, 1) := by decide +kernel
theorem dX6_boundOf_19 : decode cX6_boundOf 19 = .ok (.getfield 35, 3) := by decide +kernel
theorem dX6_boundOf_22 : decode cX6_boundOf 22 = .ok (.iload_n 2, 1) := by decide +kernel
theorem dX6_boundOf_23 : decode cX6_boundOf 23 = .ok (.aaload, 1) := by decide +kernel
theorem dX6_boundOf_24 : decode cX6_boundOf 24 = .ok (.astore_n 3, 1) := by decide +kernel
theorem dX6_boundOf_25 : decode cX6_boundOf 25 = .ok (.aload_n 3, 1) := by decide +kernel
theorem dX6_boundOf_26 : decode cX6_boundOf 26 = .ok (.invokevirtual 39, 3) := by decide +kernel
theorem dX6_boundOf_29 : decode cX6_boundOf 29 = .ok (.ifCond .eq 11, 3) := by decide +kernel
theorem dX6_boundOf_32 : decode cX6_boundOf 32 = .ok (.aload_n 0, 1) := by decide +kernel
theorem dX6_boundOf_33 : decode cX6_boundOf 33 = .ok (.aload_n 3, 1) := by decide +kernel
theorem dX6_boundOf_34 : decode cX6_boundOf 34 = .ok (.getfield 88, 3) := by decide +kernel
theorem dX6_boundOf_37 : decode cX6_boundOf 37 = .ok (.invokevirtual 94, 3) := by decide +kernel
theorem dX6_boundOf_40 : decode cX6_boundOf 40 = .ok (.iinc 2 1, 3) := by decide +kernel
theorem dX6_boundOf_43 : decode cX6_boundOf 43 = .ok (.goto (-33), 3) := by decide +kernel
theorem dX6_boundOf_46 : decode cX6_boundOf 46 = .ok (.iconst 0, 1) := by decide +kernel
theorem dX6_boundOf_47 : decode cX6_boundOf 47 = .ok (.istore_n 2, 1) := by decide +kernel
theorem dX6_boundOf_48 : decode cX6_boundOf 48 = .ok (.iconst 0, 1) := by decide +kernel
theorem dX6_boundOf_49 : decode cX6_boundOf 49 = .ok (.istore_n 3, 1) := by decide +kernel
theorem dX6_boundOf_50 : decode cX6_boundOf 50 = .ok (.iload_n 3, 1) := by decide +kernel
theorem dX6_boundOf_51 : decode cX6_boundOf 51 = .ok (.bipush 16, 2) := by decide +kernel
theorem dX6_boundOf_53 : decode cX6_boundOf 53 = .ok (.if_icmp .ge 49, 3) := by decide +kernel
theorem dX6_boundOf_56 : decode cX6_boundOf 56 = .ok (.aload_n 0, 1) := by decide +kernel
theorem dX6_boundOf_57 : decode cX6_boundOf 57 = .ok (.getfield 9, 3) := by decide +kernel
theorem dX6_boundOf_60 : decode cX6_boundOf 60 = .ok (.iload_n 3, 1) := by decide +kernel
theorem dX6_boundOf_61 : decode cX6_boundOf 61 = .ok (.iaload, 1) := by decide +kernel
theorem dX6_boundOf_62 : decode cX6_boundOf 62 = .ok (.ifCond .le 14, 3) := by decide +kernel
theorem dX6_boundOf_65 : decode cX6_boundOf 65 = .ok (.aload_n 1, 1) := by decide +kernel
theorem dX6_boundOf_66 : decode cX6_boundOf 66 = .ok (.getfield 85, 3) := by decide +kernel
theorem dX6_boundOf_69 : decode cX6_boundOf 69 = .ok (.iload_n 3, 1) := by decide +kernel
theorem dX6_boundOf_70 : decode cX6_boundOf 70 = .ok (.iaload, 1) := by decide +kernel
theorem dX6_boundOf_71 : decode cX6_boundOf 71 = .ok (.ifCond .ne 5, 3) := by decide +kernel
theorem dX6_boundOf_74 : decode cX6_boundOf 74 = .ok (.iconst (-1), 1) := by decide +kernel
theorem dX6_boundOf_75 : decode cX6_boundOf 75 = .ok (.ireturn, 1) := by decide +kernel
theorem dX6_boundOf_76 : decode cX6_boundOf 76 = .ok (.iload_n 2, 1) := by decide +kernel
theorem dX6_boundOf_77 : decode cX6_boundOf 77 = .ok (.aload_n 0, 1) := by decide +kernel
theorem dX6_boundOf_78 : decode cX6_boundOf 78 = .ok (.getfield 9, 3) := by decide +kernel
theorem dX6_boundOf_81 : decode cX6_boundOf 81 = .ok (.iload_n 3, 1) := by decide +kernel
theorem dX6_boundOf_82 : decode cX6_boundOf 82 = .ok (.iaload, 1) := by decide +kernel
theorem dX6_boundOf_83 : decode cX6_boundOf 83 = .ok (.aload_n 1, 1) := by decide +kernel
theorem dX6_boundOf_84 : decode cX6_boundOf 84 = .ok (.getfield 85, 3) := by decide +kernel
theorem dX6_boundOf_87 : decode cX6_boundOf 87 = .ok (.iload_n 3, 1) := by decide +kernel
theorem dX6_boundOf_88 : decode cX6_boundOf 88 = .ok (.iaload, 1) := by decide +kernel
theorem dX6_boundOf_89 : decode cX6_boundOf 89 = .ok (.invokestatic 78, 3) := by decide +kernel
theorem dX6_boundOf_92 : decode cX6_boundOf 92 = .ok (.invokestatic 58, 3) := by decide +kernel
theorem dX6_boundOf_95 : decode cX6_boundOf 95 = .ok (.istore_n 2, 1) := by decide +kernel
theorem dX6_boundOf_96 : decode cX6_boundOf 96 = .ok (.iinc 3 1, 3) := by decide +kernel
theorem dX6_boundOf_99 : decode cX6_boundOf 99 = .ok (.goto (-49), 3) := by decide +kernel
theorem dX6_boundOf_102 : decode cX6_boundOf 102 = .ok (.iload_n 2, 1) := by decide +kernel
theorem dX6_boundOf_103 : decode cX6_boundOf 103 = .ok (.ireturn, 1) := by decide +kernel
def rm_X6_boundOf : Room := { frames := 2, cells := 0, slots := 0, locals := 45 }
section
variable {p : Program} {l : Launch} {e : Env} {s : State} {m : MethodId} {args : Array Value} {below : List Frame} {meth : Method} {c : Code} {Q : State → Prop} {G : va_G} {aC : Nat → ClassId} {t b0 : Nat}
def f_X6_boundOf_L10 (v0 : Nat) (v1 : Nat) (k46 : AH → Option (Int32 × AH)) : Nat → Int32 → AH → Option (Int32 × AH)
  | 0, _, _ => none
  | n + 1, v2, N => ob (hI N v1 7 6) (fun x3 => if x3 ≤ v2 then k46 N else ob (hR N v1 7 10) (fun x5 => ob (aR N 2 x5 v2) (fun x6 => ob2 (f_X4_isOpen x6 N) (fun x8 N7 => if x8 = 0 then f_X6_boundOf_L10 v0 v1 k46 n (v2 + 1) N7 else ob (hR N7 x6 4 5) (fun x10 => ob2 (f_X6_addRests v0 x10 N7) (fun _ N11 => f_X6_boundOf_L10 v0 v1 k46 n (v2 + 1) N11))))))
set_option maxHeartbeats 4000000 in
set_option maxRecDepth 100000 in
theorem w_X6_boundOf_L10 {P : Int32 × AH → Prop} (X : CX cX6_boundOf RX6 4 G aC t b0 p s m args c) (hr : RtI p l e rm_X6_boundOf s m args below meth c 0 0 Q cX6_boundOf G aC b0 P) (v0 : Nat) (v1 : Nat) {k46 : AH → Option (Int32 × AH)}
    (hk46 : ∀ (N : AH) (H : Heap) (locs : List Loc) (ls : Array Slot), Rp G aC b0 N H → va_S (fun q => b0 ≤ q) s.heap H locs → lv_has ls 4 [(0, .ref v0), (1, .ref v1)] → owp (k46 N) P → W p l e rm_X6_boundOf s m args below meth c H locs 0 0 Q (F0 m 46 ls [])) :
    ∀ (n : Nat) (v2 : Int32) (N : AH) (H : Heap) (locs : List Loc) (ls : Array Slot), Rp G aC b0 N H → va_S (fun q => b0 ≤ q) s.heap H locs → lv_has ls 4 [(0, .ref v0), (1, .ref v1), (2, .int v2)] → owp (f_X6_boundOf_L10 v0 v1 k46 n v2 N) P → W p l e rm_X6_boundOf s m args below meth c H locs 0 0 Q (F0 m 10 ls []) := by
  have hx := X.1.1
  have hb := X.1.2.1
  intro n
  induction n with
  | zero =>
    intro v2 N H locs ls hR hS hl hp
    exact (show False from hp).elim
  | succ n ih =>
    intro v2 N H locs ls hR hS hl hp
    rw [f_X6_boundOf_L10] at hp
    refine lv_iload_n hx hb dX6_boundOf_10 rfl (lv_at hl 2 rfl) ?_
    refine lv_aload_n hx hb dX6_boundOf_11 rfl (lv_at hl 1 rfl) ?_
    obtain ⟨x3, e_x3, hp⟩ := owp_ob hp
    refine gf_X6_29 X hR e_x3 dX6_boundOf_12 ?_
    refine lv_icmp_ge (tgt := 46) hx hb dX6_boundOf_15 (by decide) (fun k4 => ?_) (fun k4 => ?_)
    · have hp := owp_t k4 hp
      exact hk46 _ _ _ _ hR hS (lv_sub hl [0, 1] rfl) hp
    · have hp := owp_f k4 hp
      refine lv_aload_n hx hb dX6_boundOf_18 rfl (lv_at hl 1 rfl) ?_
      obtain ⟨x5, e_x5, hp⟩ := owp_ob hp
      refine gf_X6_35 X hR e_x5 dX6_boundOf_19 ?_
      refine lv_iload_n hx hb dX6_boundOf_22 rfl (lv_at hl 2 rfl) ?_
      obtain ⟨x6, e_x6, hp⟩ := owp_ob hp
      refine ab_aald X hR (kd := 2) rfl e_x6 dX6_boundOf_23 ?_
      refine lv_astore_n (lv' := [(3, .ref x6), (0, .ref v0), (1, .ref v1), (2, .int v2)]) hx hb dX6_boundOf_24 rfl hl (by decide) rfl (fun ls hl => ?_)
      refine lv_aload_n hx hb dX6_boundOf_25 rfl (lv_at hl 0 rfl) ?_
      obtain ⟨x8, N7, e_N7, hp⟩ := owp_ob2 hp
      refine iv_X4_isOpen (rest := []) mw_X6_39 X hR hS e_N7 hl.1 (Nat.le_of_ble_eq_true rfl) ⟨Nat.le_of_ble_eq_true rfl, Nat.le_of_ble_eq_true rfl⟩ ⟨Nat.le_of_ble_eq_true rfl, Nat.le_of_ble_eq_true rfl⟩ dX6_boundOf_26 (fun H locs hR hS => ?_)
      refine lv_if_eq (tgt := 40) hx hb dX6_boundOf_29 (by decide) (fun k9 => ?_) (fun k9 => ?_)
      · have hp := owp_t k9 hp
        refine lv_iinc (v := v2 + 1) (lv' := [(2, .int (v2 + 1)), (3, .ref x6), (0, .ref v0), (1, .ref v1)]) hx hb dX6_boundOf_40 hl (k := 3) rfl rfl (by decide) rfl (fun ls hl => ?_)
        refine lv_goto (tgt := 10) hx hb dX6_boundOf_43 (by decide) ?_
        exact ih _ _ _ _ _ hR hS (lv_sub hl [2, 3, 0] rfl) hp
      · have hp := owp_f k9 hp
        refine lv_aload_n hx hb dX6_boundOf_32 rfl (lv_at hl 1 rfl) ?_
        refine lv_aload_n hx hb dX6_boundOf_33 rfl (lv_at hl 0 rfl) ?_
        obtain ⟨x10, e_x10, hp⟩ := owp_ob hp
        refine gf_X6_88 X hR e_x10 dX6_boundOf_34 ?_
        obtain ⟨_, N11, e_N11, hp⟩ := owp_ob2 hp
        refine iv_X6_addRests (rest := []) mw_X6_94 X hR hS e_N11 hl.1 (Nat.le_of_ble_eq_true rfl) ⟨Nat.le_of_ble_eq_true rfl, Nat.le_of_ble_eq_true rfl⟩ ⟨Nat.le_of_ble_eq_true rfl, Nat.le_of_ble_eq_true rfl⟩ dX6_boundOf_37 (fun H locs hR hS => ?_)
        refine lv_iinc (v := v2 + 1) (lv' := [(2, .int (v2 + 1)), (3, .ref x6), (0, .ref v0), (1, .ref v1)]) hx hb dX6_boundOf_40 hl (k := 3) rfl rfl (by decide) rfl (fun ls hl => ?_)
        refine lv_goto (tgt := 10) hx hb dX6_boundOf_43 (by decide) ?_
        exact ih _ _ _ _ _ hR hS (lv_sub hl [2, 3, 0] rfl) hp
def f_X6_boundOf_J76 (k50 : Int32 → Int32 → AH → Option (Int32 × AH)) (v0 : Nat) (v1 : Nat) (v2 : Int32) (v3 : Int32) (N : AH) : Option (Int32 × AH) := ob (hR N v0 6 0) (fun x17 => ob (aI N x17 v3) (fun x18 => ob (hR N v1 7 7) (fun x19 => ob (aI N x19 v3) (fun x20 => ob2 (f_X9_roundedUp x18 x20 N) (fun x22 N21 => ob2 (f_J9_max_7cf53 v2 x22 N21) (fun x24 N23 => k50 x24 (v3 + 1) N23))))))
set_option maxHeartbeats 4000000 in
set_option maxRecDepth 100000 in
theorem w_X6_boundOf_J76 {P : Int32 × AH → Prop} (X : CX cX6_boundOf RX6 4 G aC t b0 p s m args c) (hr : RtI p l e rm_X6_boundOf s m args below meth c 0 0 Q cX6_boundOf G aC b0 P) (v0 : Nat) (v1 : Nat) (v2 : Int32) (v3 : Int32) {k50 : Int32 → Int32 → AH → Option (Int32 × AH)}
    (hk50 : ∀ (v2 : Int32) (v3 : Int32) (N : AH) (H : Heap) (locs : List Loc) (ls : Array Slot), Rp G aC b0 N H → va_S (fun q => b0 ≤ q) s.heap H locs → lv_has ls 4 [(0, .ref v0), (1, .ref v1), (2, .int v2), (3, .int v3)] → owp (k50 v2 v3 N) P → W p l e rm_X6_boundOf s m args below meth c H locs 0 0 Q (F0 m 50 ls [])) (N : AH) (H : Heap) (locs : List Loc) (ls : Array Slot) (hR : Rp G aC b0 N H) (hS : va_S (fun q => b0 ≤ q) s.heap H locs) (hl : lv_has ls 4 [(0, .ref v0), (1, .ref v1), (2, .int v2), (3, .int v3)]) (hp : owp (f_X6_boundOf_J76 k50 v0 v1 v2 v3 N) P) : W p l e rm_X6_boundOf s m args below meth c H locs 0 0 Q (F0 m 76 ls []) := by
  have hx := X.1.1
  have hb := X.1.2.1
  unfold f_X6_boundOf_J76 at hp
  refine lv_iload_n hx hb dX6_boundOf_76 rfl (lv_at hl 2 rfl) ?_
  refine lv_aload_n hx hb dX6_boundOf_77 rfl (lv_at hl 0 rfl) ?_
  obtain ⟨x17, e_x17, hp⟩ := owp_ob hp
  refine gf_X6_9 X hR e_x17 dX6_boundOf_78 ?_
  refine lv_iload_n hx hb dX6_boundOf_81 rfl (lv_at hl 3 rfl) ?_
  obtain ⟨x18, e_x18, hp⟩ := owp_ob hp
  refine ab_iald X hR e_x18 dX6_boundOf_82 ?_
  refine lv_aload_n hx hb dX6_boundOf_83 rfl (lv_at hl 1 rfl) ?_
  obtain ⟨x19, e_x19, hp⟩ := owp_ob hp
  refine gf_X6_85 X hR e_x19 dX6_boundOf_84 ?_
  refine lv_iload_n hx hb dX6_boundOf_87 rfl (lv_at hl 3 rfl) ?_
  obtain ⟨x20, e_x20, hp⟩ := owp_ob hp
  refine ab_iald X hR e_x20 dX6_boundOf_88 ?_
  obtain ⟨x22, N21, e_N21, hp⟩ := owp_ob2 hp
  refine ivN_X9_roundedUp (rest := [.int v2]) (by simp [NWs, yX9_roundedUp]) X hR hS e_N21 hl.1 (Nat.le_of_ble_eq_true rfl) ⟨Nat.le_of_ble_eq_true rfl, Nat.le_of_ble_eq_true rfl⟩ ⟨Nat.le_of_ble_eq_true rfl, Nat.le_of_ble_eq_true rfl⟩ dX6_boundOf_89 (fun H locs hR hS => ?_)
  obtain ⟨x24, N23, e_N23, hp⟩ := owp_ob2 hp
  refine iv_J9_max_7cf53 (rest := []) mw_X6_58 X hR hS e_N23 hl.1 (Nat.le_of_ble_eq_true rfl) ⟨Nat.le_of_ble_eq_true rfl, Nat.le_of_ble_eq_true rfl⟩ ⟨Nat.le_of_ble_eq_true rfl, Nat.le_of_ble_eq_true rfl⟩ dX6_boundOf_92 (fun H locs hR hS => ?_)
  refine lv_istore_n (lv' := [(2, .int x24), (0, .ref v0), (1, .ref v1), (3, .int v3)]) hx hb dX6_boundOf_95 rfl hl (by decide) rfl (fun ls hl => ?_)
  refine lv_iinc (v := v3 + 1) (lv' := [(3, .int (v3 + 1)), (2, .int x24), (0, .ref v0), (1, .ref v1)]) hx hb dX6_boundOf_96 hl (k := 3) rfl rfl (by decide) rfl (fun ls hl => ?_)
  refine lv_goto (tgt := 50) hx hb dX6_boundOf_99 (by decide) ?_
  exact hk50 _ _ _ _ _ _ hR hS (lv_sub hl [2, 3, 1, 0] rfl) hp
def f_X6_boundOf_L50 (v0 : Nat) (v1 : Nat) (k74 : AH → Option (Int32 × AH)) (k102 : Int32 → AH → Option (Int32 × AH)) : Nat → Int32 → Int32 → AH → Option (Int32 × AH)
  | 0, _, _, _ => none
  | n + 1, v2, v3, N => if (16 : Int32) ≤ v3 then k102 v2 N else ob (hR N v0 6 0) (fun x14 => ob (aI N x14 v3) (fun x15 => if x15 ≤ 0 then f_X6_boundOf_J76 (f_X6_boundOf_L50 v0 v1 k74 k102 n) v0 v1 v2 v3 N else ob (hR N v1 7 7) (fun x25 => ob (aI N x25 v3) (fun x26 => if ¬ x26 = 0 then f_X6_boundOf_J76 (f_X6_boundOf_L50 v0 v1 k74 k102 n) v0 v1 v2 v3 N else k74 N))))
set_option maxHeartbeats 4000000 in
set_option maxRecDepth 100000 in
theorem w_X6_boundOf_L50 {P : Int32 × AH → Prop} (X : CX cX6_boundOf RX6 4 G aC t b0 p s m args c) (hr : RtI p l e rm_X6_boundOf s m args below meth c 0 0 Q cX6_boundOf G aC b0 P) (v0 : Nat) (v1 : Nat) {k74 : AH → Option (Int32 × AH)} {k102 : Int32 → AH → Option (Int32 × AH)}
    (hk74 : ∀ (N : AH) (H : Heap) (locs : List Loc) (ls : Array Slot), Rp G aC b0 N H → va_S (fun q => b0 ≤ q) s.heap H locs → lv_has ls 4 [] → owp (k74 N) P → W p l e rm_X6_boundOf s m args below meth c H locs 0 0 Q (F0 m 74 ls []))
    (hk102 : ∀ (v2 : Int32) (N : AH) (H : Heap) (locs : List Loc) (ls : Array Slot), Rp G aC b0 N H → va_S (fun q => b0 ≤ q) s.heap H locs → lv_has ls 4 [(2, .int v2)] → owp (k102 v2 N) P → W p l e rm_X6_boundOf s m args below meth c H locs 0 0 Q (F0 m 102 ls [])) :
    ∀ (n : Nat) (v2 : Int32) (v3 : Int32) (N : AH) (H : Heap) (locs : List Loc) (ls : Array Slot), Rp G aC b0 N H → va_S (fun q => b0 ≤ q) s.heap H locs → lv_has ls 4 [(0, .ref v0), (1, .ref v1), (2, .int v2), (3, .int v3)] → owp (f_X6_boundOf_L50 v0 v1 k74 k102 n v2 v3 N) P → W p l e rm_X6_boundOf s m args below meth c H locs 0 0 Q (F0 m 50 ls []) := by
  have hx := X.1.1
  have hb := X.1.2.1
  intro n
  induction n with
  | zero =>
    intro v2 v3 N H locs ls hR hS hl hp
    exact (show False from hp).elim
  | succ n ih =>
    intro v2 v3 N H locs ls hR hS hl hp
    rw [f_X6_boundOf_L50] at hp
    refine lv_iload_n hx hb dX6_boundOf_50 rfl (lv_at hl 3 rfl) ?_
    refine lv_bipush (v := (16)) hx hb dX6_boundOf_51 (by decide) ?_
    refine lv_icmp_ge (tgt := 102) hx hb dX6_boundOf_53 (by decide) (fun k13 => ?_) (fun k13 => ?_)
    · have hp := owp_t k13 hp
      exact hk102 _ _ _ _ _ hR hS (lv_sub hl [2] rfl) hp
    · have hp := owp_f k13 hp
      refine lv_aload_n hx hb dX6_boundOf_56 rfl (lv_at hl 0 rfl) ?_
      obtain ⟨x14, e_x14, hp⟩ := owp_ob hp
      refine gf_X6_9 X hR e_x14 dX6_boundOf_57 ?_
      refine lv_iload_n hx hb dX6_boundOf_60 rfl (lv_at hl 3 rfl) ?_
      obtain ⟨x15, e_x15, hp⟩ := owp_ob hp
      refine ab_iald X hR e_x15 dX6_boundOf_61 ?_
      refine lv_if_le (tgt := 76) hx hb dX6_boundOf_62 (by decide) (fun k16 => ?_) (fun k16 => ?_)
      · have hp := owp_t k16 hp
        exact w_X6_boundOf_J76 X hr _ _ _ _ ih _ _ _ _ hR hS hl hp
      · have hp := owp_f k16 hp
        refine lv_aload_n hx hb dX6_boundOf_65 rfl (lv_at hl 1 rfl) ?_
        obtain ⟨x25, e_x25, hp⟩ := owp_ob hp
        refine gf_X6_85 X hR e_x25 dX6_boundOf_66 ?_
        refine lv_iload_n hx hb dX6_boundOf_69 rfl (lv_at hl 3 rfl) ?_
        obtain ⟨x26, e_x26, hp⟩ := owp_ob hp
        refine ab_iald X hR e_x26 dX6_boundOf_70 ?_
        refine lv_if_ne (tgt := 76) hx hb dX6_boundOf_71 (by decide) (fun k27 => ?_) (fun k27 => ?_)
        · have hp := owp_t k27 hp
          exact w_X6_boundOf_J76 X hr _ _ _ _ ih _ _ _ _ hR hS hl hp
        · have hp := owp_f (fun q => q k27) hp
          exact hk74 _ _ _ _ hR hS (lv_sub hl [] rfl) hp
def f_X6_boundOf (v0 : Nat) (v1 : Nat) (N : AH) : Option (Int32 × AH) := ob (iO N v0 6) (fun _ => ob (hR N v0 6 0) (fun x1 => ob2 (f_J7_fill_53178 x1 (0 : Int32) N) (fun _ N2 => f_X6_boundOf_L10 v0 v1 (fun N12 => f_X6_boundOf_L50 v0 v1 (fun N28 => some ((-1 : Int32), N28)) (fun v29 N30 => some (v29, N30)) FU (0 : Int32) (0 : Int32) N12) FU (0 : Int32) N2)))
set_option maxHeartbeats 4000000 in
set_option maxRecDepth 100000 in
theorem wk_X6_boundOf {P : Int32 × AH → Prop} (X : CX cX6_boundOf RX6 4 G aC t b0 p s m args c) (hr : RtI p l e rm_X6_boundOf s m args below meth c 0 0 Q cX6_boundOf G aC b0 P) (v0 : Nat) (v1 : Nat) (N : AH) (H : Heap) (locs : List Loc) (ls : Array Slot) (hR : Rp G aC b0 N H) (hS : va_S (fun q => b0 ≤ q) s.heap H locs) (hl : lv_has ls 4 [(0, .ref v0), (1, .ref v1)]) (hp : owp (f_X6_boundOf v0 v1 N) P) : W p l e rm_X6_boundOf s m args below meth c H locs 0 0 Q (F0 m 0 ls []) := by
  have hx := X.1.1
  have hb := X.1.2.1
  unfold f_X6_boundOf at hp
  obtain ⟨_, _, hp⟩ := owp_ob hp
  refine lv_aload_n hx hb dX6_boundOf_0 rfl (lv_at hl 0 rfl) ?_
  obtain ⟨x1, e_x1, hp⟩ := owp_ob hp
  refine gf_X6_9 X hR e_x1 dX6_boundOf_1 ?_
  refine lv_iconst (v := (0)) hx hb dX6_boundOf_4 (by decide) ?_
  obtain ⟨_, N2, e_N2, hp⟩ := owp_ob2 hp
  refine iv_J7_fill_53178 (rest := []) mw_X6_23 X hR hS e_N2 hl.1 (Nat.le_of_ble_eq_true rfl) ⟨Nat.le_of_ble_eq_true rfl, Nat.le_of_ble_eq_true rfl⟩ ⟨Nat.le_of_ble_eq_true rfl, Nat.le_of_ble_eq_true rfl⟩ dX6_boundOf_5 (fun H locs hR hS => ?_)
  refine lv_iconst (v := (0)) hx hb dX6_boundOf_8 (by decide) ?_
  refine lv_istore_n (lv' := [(2, .int (0 : Int32)), (0, .ref v0), (1, .ref v1)]) hx hb dX6_boundOf_9 rfl hl (by decide) rfl (fun ls hl => ?_)
  refine w_X6_boundOf_L10 X hr _ _ (fun N12 H locs ls hR hS hl hp => ?_) _ _ _ _ _ _ hR hS (lv_sub hl [1, 2, 0] rfl) hp
  refine lv_iconst (v := (0)) hx hb dX6_boundOf_46 (by decide) ?_
  refine lv_istore_n (lv' := [(2, .int (0 : Int32)), (0, .ref v0), (1, .ref v1)]) hx hb dX6_boundOf_47 rfl hl (by decide) rfl (fun ls hl => ?_)
  refine lv_iconst (v := (0)) hx hb dX6_boundOf_48 (by decide) ?_
  refine lv_istore_n (lv' := [(3, .int (0 : Int32)), (2, .int (0 : Int32)), (0, .ref v0), (1, .ref v1)]) hx hb dX6_boundOf_49 rfl hl (by decide) rfl (fun ls hl => ?_)
  refine w_X6_boundOf_L50 X hr _ _ (fun N28 H locs ls hR hS hl hp => ?_) (fun v29 N30 H locs ls hR hS hl hp => ?_) _ _ _ _ _ _ _ hR hS (lv_sub hl [2, 3, 1, 0] rfl) hp
  · refine lv_iconst (v := (-1)) hx hb dX6_boundOf_74 (by decide) ?_
    exact hr _ _ _ _ _ _ hR hS dX6_boundOf_75 hp
  · refine lv_iload_n hx hb dX6_boundOf_102 rfl (lv_at hl 0 rfl) ?_
    exact hr _ _ _ _ _ _ hR hS dX6_boundOf_103 hp
end
theorem ct_X6_boundOf {v0 : Nat} {v1 : Nat} {N N1 : AH} {r : Int32} (h : f_X6_boundOf v0 v1 N = some (r, N1)) : Ct yX6_boundOf cX6_boundOf 4 (some .int) rm_X6_boundOf [.ref v0, .ref v1] N (some (.int r)) N1 :=
  ab_met (own := RX6) (by decide +kernel) rfl (Nat.le_of_ble_eq_true rfl) (fun l G aC t b0 p e s m below meth c ls X hr hlk hnm hR hS hl => wk_X6_boundOf X (RtI_met X.1.1 X.1.2.1 hr hlk) _ _ _ _ _ _ hR hS hl (owp_of h))
theorem cw_X6_boundOf : Cond.code yX6_boundOf cX6_boundOf 4 (some .int) ∈ WT := WT_of 837 (by decide +kernel) (by decide +kernel)
theorem iv_X6_boundOf {p : Program} {l : Launch} {e : Env} {R : Room} {s : State} {m : MethodId} {args : Array Value} {below : List Frame} {meth : Method} {c : Code} {H : Heap} {locs : List Loc} {cells slots : Nat} {Q : State → Prop} {cc : ByteArray} {own : String} {nL : Nat} {G : va_G} {aC : Nat → ClassId} {t b0 : Nat} {N N1 : AH} {pc index : Nat} {ls : Array Slot} {rest : List Value} {v0 : Nat} {v1 : Nat} {r : Int32} (w1 : Cond.methodLink own index yX6_boundOf ∈ WT) (X : CX cc own nL G aC t b0 p s m args c) (hR : Rp G aC b0 N H) (hS : va_S (fun q => b0 ≤ q) s.heap H locs) (h : f_X6_boundOf v0 v1 N = some (r, N1)) (hls : ls.size = nL) (hW : (rest.map fun v => v.category).sum ≤ 8) (hR1 : 3 ≤ R.frames ∧ 68 ≤ R.locals) (hcs : cells + 0 ≤ R.cells ∧ slots + 0 ≤ R.slots) (hdg : decode cc pc = .ok (.invokevirtual index, 3)) (kk : ∀ (H1 : Heap) (locs1 : List Loc), Rp G aC b0 N1 H1 → va_S (fun q => b0 ≤ q) s.heap H1 locs1 → W p l e R s m args below meth c H1 locs1 cells slots Q (F0 m (pc + 3) ls (.int r :: rest))) : W p l e R s m args below meth c H locs cells slots Q (F0 m pc ls (.ref v1 :: .ref v0 :: rest)) :=
  ab_callV (n := 1) (As := [.ref v1]) X hR hS (ct_X6_boundOf h) (ob_rc (c := 6) (N := N) (a := v0) h) (T := TX6) (k := 1) (C := RX6) rfl w1 (WT_of 835 (by decide +kernel) (by decide +kernel)) (WT_of 836 (by decide +kernel) (by decide +kernel)) (WT_of 90 (by decide +kernel) (by decide +kernel)) cw_X6_boundOf ⟨rfl, by decide +kernel, by decide +kernel, by decide +kernel⟩ rfl hls hW hR1 hcs rfl hdg kk
-- X6_needMoreThan
theorem mw_X6_98 : Cond.methodLink RX6 98 yX6_boundOf ∈ WT := WT_of 834 (by decide +kernel) (by decide +kernel)
theorem dX6_needMoreThan_0 : decode cX6_needMoreThan 0 = .ok (.aload_n 0, 1) := by decide +kernel
theorem dX6_needMoreThan_1 : decode cX6_needMoreThan 1 = .ok (.aload_n 1, 1) := by decide +kernel
theorem dX6_needMoreThan_2 : decode cX6_needMoreThan 2 = .ok (.invokevirtual 98, 3) := by decide +kernel
theorem dX6_needMoreThan_5 : decode cX6_needMoreThan 5 = .ok (.istore_n 3, 1) := by decide +kernel
theorem dX6_needMoreThan_6 : decode cX6_needMoreThan 6 = .ok (.iload_n 3, 1) := by decide +kernel
theorem dX6_needMoreThan_7 : decode cX6_needMoreThan 7 = .ok (.iconst (-1), 1) := by decide +kernel
theorem dX6_needMoreThan_8 : decode cX6_needMoreThan 8 = .ok (.if_icmp .eq 8, 3) := by decide +kernel
theorem dX6_needMoreThan_11 : decode cX6_needMoreThan 11 = .ok (.iload_n 3, 1) := by decide +kernel
theorem dX6_needMoreThan_12 : decode cX6_needMoreThan 12 = .ok (.iload_n 2, 1) := by decide +kernel
theorem dX6_needMoreThan_13 : decode cX6_needMoreThan 13 = .ok (.if_icmp .le 7, 3) := by decide +kernel
theorem dX6_needMoreThan_16 : decode cX6_needMoreThan 16 = .ok (.iconst 1, 1) := by decide +kernel
theorem dX6_needMoreThan_17 : decode cX6_needMoreThan 17 = .ok (.goto 4, 3) := by decide +kernel
theorem dX6_needMoreThan_20 : decode cX6_needMoreThan 20 = .ok (.iconst 0, 1) := by decide +kernel
theorem dX6_needMoreThan_21 : decode cX6_needMoreThan 21 = .ok (.ireturn, 1) := by decide +kernel
def rm_X6_needMoreThan : Room := { frames := 3, cells := 0, slots := 0, locals := 68 }
section
variable {p : Program} {l : Launch} {e : Env} {s : State} {m : MethodId} {args : Array Value} {below : List Frame} {meth : Method} {c : Code} {Q : State → Prop} {G : va_G} {aC : Nat → ClassId} {t b0 : Nat}
def f_X6_needMoreThan (v0 : Nat) (v1 : Nat) (v2 : Int32) (N : AH) : Option (Int32 × AH) := ob (iO N v0 6) (fun _ => ob2 (f_X6_boundOf v0 v1 N) (fun x2 N1 => if x2 = (-1 : Int32) then some ((1 : Int32), N1) else if x2 ≤ v2 then some ((0 : Int32), N1) else some ((1 : Int32), N1)))
set_option maxHeartbeats 4000000 in
set_option maxRecDepth 100000 in
theorem wk_X6_needMoreThan {P : Int32 × AH → Prop} (X : CX cX6_needMoreThan RX6 4 G aC t b0 p s m args c) (hr : RtZ p l e rm_X6_needMoreThan s m args below meth c 0 0 Q cX6_needMoreThan G aC b0 P) (v0 : Nat) (v1 : Nat) (v2 : Int32) (N : AH) (H : Heap) (locs : List Loc) (ls : Array Slot) (hR : Rp G aC b0 N H) (hS : va_S (fun q => b0 ≤ q) s.heap H locs) (hl : lv_has ls 4 [(0, .ref v0), (1, .ref v1), (2, .int v2)]) (hp : owp (f_X6_needMoreThan v0 v1 v2 N) P) : W p l e rm_X6_needMoreThan s m args below meth c H locs 0 0 Q (F0 m 0 ls []) := by
  have hx := X.1.1
  have hb := X.1.2.1
  unfold f_X6_needMoreThan at hp
  obtain ⟨_, _, hp⟩ := owp_ob hp
  refine lv_aload_n hx hb dX6_needMoreThan_0 rfl (lv_at hl 0 rfl) ?_
  refine lv_aload_n hx hb dX6_needMoreThan_1 rfl (lv_at hl 1 rfl) ?_
  obtain ⟨x2, N1, e_N1, hp⟩ := owp_ob2 hp
  refine iv_X6_boundOf (rest := []) mw_X6_98 X hR hS e_N1 hl.1 (Nat.le_of_ble_eq_true rfl) ⟨Nat.le_of_ble_eq_true rfl, Nat.le_of_ble_eq_true rfl⟩ ⟨Nat.le_of_ble_eq_true rfl, Nat.le_of_ble_eq_true rfl⟩ dX6_needMoreThan_2 (fun H locs hR hS => ?_)
  refine lv_istore_n (lv' := [(3, .int x2), (0, .ref v0), (1, .ref v1), (2, .int v2)]) hx hb dX6_needMoreThan_5 rfl hl (by decide) rfl (fun ls hl => ?_)
  refine lv_iload_n hx hb dX6_needMoreThan_6 rfl (lv_at hl 0 rfl) ?_
  refine lv_iconst (v := (-1)) hx hb dX6_needMoreThan_7 (by decide) ?_
  refine lv_icmp_eq (tgt := 16) hx hb dX6_needMoreThan_8 (by decide) (fun k3 => ?_) (fun k3 => ?_)
  · have hp := owp_t k3 hp
    refine lv_iconst (v := (1)) hx hb dX6_needMoreThan_16 (by decide) ?_
    refine lv_goto (tgt := 21) hx hb dX6_needMoreThan_17 (by decide) ?_
    exact hr _ _ _ _ _ _ hR hS dX6_needMoreThan_21 (rZ_1 hp)
  · have hp := owp_f k3 hp
    refine lv_iload_n hx hb dX6_needMoreThan_11 rfl (lv_at hl 0 rfl) ?_
    refine lv_iload_n hx hb dX6_needMoreThan_12 rfl (lv_at hl 3 rfl) ?_
    refine lv_icmp_le (tgt := 20) hx hb dX6_needMoreThan_13 (by decide) (fun k4 => ?_) (fun k4 => ?_)
    · have hp := owp_t k4 hp
      refine lv_iconst (v := (0)) hx hb dX6_needMoreThan_20 (by decide) ?_
      exact hr _ _ _ _ _ _ hR hS dX6_needMoreThan_21 (rZ_0 hp)
    · have hp := owp_f k4 hp
      refine lv_iconst (v := (1)) hx hb dX6_needMoreThan_16 (by decide) ?_
      refine lv_goto (tgt := 21) hx hb dX6_needMoreThan_17 (by decide) ?_
      exact hr _ _ _ _ _ _ hR hS dX6_needMoreThan_21 (rZ_1 hp)
end
theorem ct_X6_needMoreThan {v0 : Nat} {v1 : Nat} {v2 : Int32} {N N1 : AH} {r : Int32} (h : f_X6_needMoreThan v0 v1 v2 N = some (r, N1)) : Ct yX6_needMoreThan cX6_needMoreThan 4 (some .boolean) rm_X6_needMoreThan [.ref v0, .ref v1, .int v2] N (some (.int r)) N1 :=
  ab_met (own := RX6) (by decide +kernel) rfl (Nat.le_of_ble_eq_true rfl) (fun l G aC t b0 p e s m below meth c ls X hr hlk hnm hR hS hl => wk_X6_needMoreThan X (RtZ_met X.1.1 X.1.2.1 hr hlk) _ _ _ _ _ _ _ hR hS hl (owp_of h))
theorem cw_X6_needMoreThan : Cond.code yX6_needMoreThan cX6_needMoreThan 4 (some .boolean) ∈ WT := WT_of 833 (by decide +kernel) (by decide +kernel)
theorem iv_X6_needMoreThan {p : Program} {l : Launch} {e : Env} {R : Room} {s : State} {m : MethodId} {args : Array Value} {below : List Frame} {meth : Method} {c : Code} {H : Heap} {locs : List Loc} {cells slots : Nat} {Q : State → Prop} {cc : ByteArray} {own : String} {nL : Nat} {G : va_G} {aC : Nat → ClassId} {t b0 : Nat} {N N1 : AH} {pc index : Nat} {ls : Array Slot} {rest : List Value} {v0 : Nat} {v1 : Nat} {v2 : Int32} {r : Int32} (w1 : Cond.methodLink own index yX6_needMoreThan ∈ WT) (X : CX cc own nL G aC t b0 p s m args c) (hR : Rp G aC b0 N H) (hS : va_S (fun q => b0 ≤ q) s.heap H locs) (h : f_X6_needMoreThan v0 v1 v2 N = some (r, N1)) (hls : ls.size = nL) (hW : (rest.map fun v => v.category).sum ≤ 8) (hR1 : 4 ≤ R.frames ∧ 91 ≤ R.locals) (hcs : cells + 0 ≤ R.cells ∧ slots + 0 ≤ R.slots) (hdg : decode cc pc = .ok (.invokevirtual index, 3)) (kk : ∀ (H1 : Heap) (locs1 : List Loc), Rp G aC b0 N1 H1 → va_S (fun q => b0 ≤ q) s.heap H1 locs1 → W p l e R s m args below meth c H1 locs1 cells slots Q (F0 m (pc + 3) ls (.int r :: rest))) : W p l e R s m args below meth c H locs cells slots Q (F0 m pc ls (.int v2 :: .ref v1 :: .ref v0 :: rest)) :=
  ab_callV (n := 2) (As := [.ref v1, .int v2]) X hR hS (ct_X6_needMoreThan h) (ob_rc (c := 6) (N := N) (a := v0) h) (T := TX6) (k := 1) (C := RX6) rfl w1 (WT_of 831 (by decide +kernel) (by decide +kernel)) (WT_of 832 (by decide +kernel) (by decide +kernel)) (WT_of 90 (by decide +kernel) (by decide +kernel)) cw_X6_needMoreThan ⟨rfl, by decide +kernel, by decide +kernel, by decide +kernel⟩ rfl hls hW hR1 hcs rfl hdg kk
-- X7_totalWhenAllDone
theorem gf_X7_88 {p : Program} {l : Launch} {e : Env} {R : Room} {s : State} {m : MethodId} {args : Array Value} {below : List Frame} {meth : Method} {c : Code} {H : Heap} {locs : List Loc} {cells slots : Nat} {Q : State → Prop} {cc : ByteArray} {nL : Nat} {G : va_G} {aC : Nat → ClassId} {t b0 : Nat} {N : AH} {pc : Nat} {ls : Array Slot} {rest : List Value} {a : Nat} {v : Int32} (X : CX cc RX7 nL G aC t b0 p s m args c) (hR0 : Rp G aC b0 N H) (hv : hI N a 4 0 = some v) (hdg : decode cc pc = .ok (.getfield 88, 3)) (kk : W p l e R s m args below meth c H locs cells slots Q (F0 m (pc + 3) ls (.int v :: rest))) : W p l e R s m args below meth c H locs cells slots Q (F0 m pc ls (.ref a :: rest)) := by
  obtain ⟨fs, h1, h2⟩ := hI_ok hv
  exact ab_get (C := RX4) (T := TX4) (n := 6) X hR0 h1 h2 rfl inX4 (by decide) (WT_of 189 (by decide +kernel) (by decide +kernel)) hdg kk
theorem gf_X7_97 {p : Program} {l : Launch} {e : Env} {R : Room} {s : State} {m : MethodId} {args : Array Value} {below : List Frame} {meth : Method} {c : Code} {H : Heap} {locs : List Loc} {cells slots : Nat} {Q : State → Prop} {cc : ByteArray} {nL : Nat} {G : va_G} {aC : Nat → ClassId} {t b0 : Nat} {N : AH} {pc : Nat} {ls : Array Slot} {rest : List Value} {a : Nat} {v : Int32} (X : CX cc RX7 nL G aC t b0 p s m args c) (hR0 : Rp G aC b0 N H) (hv : hI N a 4 3 = some v) (hdg : decode cc pc = .ok (.getfield 97, 3)) (kk : W p l e R s m args below meth c H locs cells slots Q (F0 m (pc + 3) ls (.int v :: rest))) : W p l e R s m args below meth c H locs cells slots Q (F0 m pc ls (.ref a :: rest)) := by
  obtain ⟨fs, h1, h2⟩ := hI_ok hv
  exact ab_get (C := RX4) (T := TX4) (n := 6) X hR0 h1 h2 rfl inX4 (by decide) (WT_of 203 (by decide +kernel) (by decide +kernel)) hdg kk
theorem gf_X7_100 {p : Program} {l : Launch} {e : Env} {R : Room} {s : State} {m : MethodId} {args : Array Value} {below : List Frame} {meth : Method} {c : Code} {H : Heap} {locs : List Loc} {cells slots : Nat} {Q : State → Prop} {cc : ByteArray} {nL : Nat} {G : va_G} {aC : Nat → ClassId} {t b0 : Nat} {N : AH} {pc : Nat} {ls : Array Slot} {rest : List Value} {a : Nat} {v : Int32} (X : CX cc RX7 nL G aC t b0 p s m args c) (hR0 : Rp G aC b0 N H) (hv : hI N a 4 4 = some v) (hdg : decode cc pc = .ok (.getfield 100, 3)) (kk : W p l e R s m args below meth c H locs cells slots Q (F0 m (pc + 3) ls (.int v :: rest))) : W p l e R s m args below meth c H locs cells slots Q (F0 m pc ls (.ref a :: rest)) := by
  obtain ⟨fs, h1, h2⟩ := hI_ok hv
  exact ab_get (C := RX4) (T := TX4) (n := 6) X hR0 h1 h2 rfl inX4 (by decide) (WT_of 208 (by decide +kernel) (by decide +kernel)) hdg kk
theorem dX7_totalWhenAllDone_0 : decode cX7_totalWhenAllDone 0 = .ok (.iconst 0, 1) := by decide +kernel
theorem dX7_totalWhenAllDone_1 : decode cX7_totalWhenAllDone 1 = .ok (.istore_n 1, 1) := by decide +kernel
theorem dX7_totalWhenAllDone_2 : decode cX7_totalWhenAllDone 2 = .ok (.iconst 0, 1) := by decide +kernel
theorem dX7_totalWhenAllDone_3 : decode cX7_totalWhenAllDone 3 = .ok (.istore_n 2, 1) := by decide +kernel
theorem dX7_totalWhenAllDone_4 : decode cX7_totalWhenAllDone 4 = .ok (.iload_n 2, 1) := by decide +kernel
theorem dX7_totalWhenAllDone_5 : decode cX7_totalWhenAllDone 5 = .ok (.aload_n 0, 1) := by decide +kernel
theorem dX7_totalWhenAllDone_6 : decode cX7_totalWhenAllDone 6 = .ok (.getfield 65, 3) := by decide +kernel
theorem dX7_totalWhenAllDone_9 : decode cX7_totalWhenAllDone 9 = .ok (.if_icmp .ge 44, 3) := by decide +kernel
theorem dX7_totalWhenAllDone_12 : decode cX7_totalWhenAllDone 12 = .ok (.aload_n 0, 1) := by decide +kernel
theorem dX7_totalWhenAllDone_13 : decode cX7_totalWhenAllDone 13 = .ok (.getfield 41, 3) := by decide +kernel
theorem dX7_totalWhenAllDone_16 : decode cX7_totalWhenAllDone 16 = .ok (.iload_n 2, 1) := by decide +kernel
theorem dX7_totalWhenAllDone_17 : decode cX7_totalWhenAllDone 17 = .ok (.aaload, 1) := by decide +kernel
theorem dX7_totalWhenAllDone_18 : decode cX7_totalWhenAllDone 18 = .ok (.astore_n 3, 1) := by decide +kernel
theorem dX7_totalWhenAllDone_19 : decode cX7_totalWhenAllDone 19 = .ok (.aload_n 3, 1) := by decide +kernel
theorem dX7_totalWhenAllDone_20 : decode cX7_totalWhenAllDone 20 = .ok (.invokevirtual 117, 3) := by decide +kernel
theorem dX7_totalWhenAllDone_23 : decode cX7_totalWhenAllDone 23 = .ok (.ifCond .eq 5, 3) := by decide +kernel
theorem dX7_totalWhenAllDone_26 : decode cX7_totalWhenAllDone 26 = .ok (.iconst (-1), 1) := by decide +kernel
theorem dX7_totalWhenAllDone_27 : decode cX7_totalWhenAllDone 27 = .ok (.ireturn, 1) := by decide +kernel
theorem dX7_totalWhenAllDone_28 : decode cX7_totalWhenAllDone 28 = .ok (.aload_n 3, 1) := by decide +kernel
theorem dX7_totalWhenAllDone_29 : decode cX7_totalWhenAllDone 29 = .ok (.getfield 100, 3) := by decide +kernel
theorem dX7_totalWhenAllDone_32 : decode cX7_totalWhenAllDone 32 = .ok (.ifCond .ne 15, 3) := by decide +kernel
theorem dX7_totalWhenAllDone_35 : decode cX7_totalWhenAllDone 35 = .ok (.iload_n 1, 1) := by decide +kernel
theorem dX7_totalWhenAllDone_36 : decode cX7_totalWhenAllDone 36 = .ok (.aload_n 3, 1) := by decide +kernel
theorem dX7_totalWhenAllDone_37 : decode cX7_totalWhenAllDone 37 = .ok (.getfield 97, 3) := by decide +kernel
theorem dX7_totalWhenAllDone_40 : decode cX7_totalWhenAllDone 40 = .ok (.aload_n 3, 1) := by decide +kernel
theorem dX7_totalWhenAllDone_41 : decode cX7_totalWhenAllDone 41 = .ok (.getfield 88, 3) := by decide +kernel
theorem dX7_totalWhenAllDone_44 : decode cX7_totalWhenAllDone 44 = .ok (.isub, 1) := by decide +kernel
theorem dX7_totalWhenAllDone_45 : decode cX7_totalWhenAllDone 45 = .ok (.iadd, 1) := by decide +kernel
theorem dX7_totalWhenAllDone_46 : decode cX7_totalWhenAllDone 46 = .ok (.istore_n 1, 1) := by decide +kernel
theorem dX7_totalWhenAllDone_47 : decode cX7_totalWhenAllDone 47 = .ok (.iinc 2 1, 3) := by decide +kernel
theorem dX7_totalWhenAllDone_50 : decode cX7_totalWhenAllDone 50 = .ok (.goto (-46), 3) := by decide +kernel
theorem dX7_totalWhenAllDone_53 : decode cX7_totalWhenAllDone 53 = .ok (.iload_n 1, 1) := by decide +kernel
theorem dX7_totalWhenAllDone_54 : decode cX7_totalWhenAllDone 54 = .ok (.ireturn, 1) := by decide +kernel
def rm_X7_totalWhenAllDone : Room := { frames := 1, cells := 0, slots := 0, locals := 20 }
section
variable {p : Program} {l : Launch} {e : Env} {s : State} {m : MethodId} {args : Array Value} {below : List Frame} {meth : Method} {c : Code} {Q : State → Prop} {G : va_G} {aC : Nat → ClassId} {t b0 : Nat}
def f_X7_totalWhenAllDone_L4 (v0 : Nat) (k26 : AH → Option (Int32 × AH)) (k53 : Int32 → AH → Option (Int32 × AH)) : Nat → Int32 → Int32 → AH → Option (Int32 × AH)
  | 0, _, _, _ => none
  | n + 1, v1, v2, N => ob (hI N v0 7 6) (fun x1 => if x1 ≤ v2 then k53 v1 N else ob (hR N v0 7 10) (fun x3 => ob (aR N 2 x3 v2) (fun x4 => ob2 (f_X4_isOpen x4 N) (fun x6 N5 => if x6 = 0 then ob (hI N5 x4 4 4) (fun x8 => if ¬ x8 = 0 then f_X7_totalWhenAllDone_L4 v0 k26 k53 n v1 (v2 + 1) N5 else ob (hI N5 x4 4 3) (fun x10 => ob (hI N5 x4 4 0) (fun x11 => f_X7_totalWhenAllDone_L4 v0 k26 k53 n (v1 + (x10 - x11)) (v2 + 1) N5))) else k26 N5))))
set_option maxHeartbeats 4000000 in
set_option maxRecDepth 100000 in
theorem w_X7_totalWhenAllDone_L4 {P : Int32 × AH → Prop} (X : CX cX7_totalWhenAllDone RX7 4 G aC t b0 p s m args c) (hr : RtI p l e rm_X7_totalWhenAllDone s m args below meth c 0 0 Q cX7_totalWhenAllDone G aC b0 P) (v0 : Nat) {k26 : AH → Option (Int32 × AH)} {k53 : Int32 → AH → Option (Int32 × AH)}
    (hk26 : ∀ (N : AH) (H : Heap) (locs : List Loc) (ls : Array Slot), Rp G aC b0 N H → va_S (fun q => b0 ≤ q) s.heap H locs → lv_has ls 4 [] → owp (k26 N) P → W p l e rm_X7_totalWhenAllDone s m args below meth c H locs 0 0 Q (F0 m 26 ls []))
    (hk53 : ∀ (v1 : Int32) (N : AH) (H : Heap) (locs : List Loc) (ls : Array Slot), Rp G aC b0 N H → va_S (fun q => b0 ≤ q) s.heap H locs → lv_has ls 4 [(1, .int v1)] → owp (k53 v1 N) P → W p l e rm_X7_totalWhenAllDone s m args below meth c H locs 0 0 Q (F0 m 53 ls [])) :
    ∀ (n : Nat) (v1 : Int32) (v2 : Int32) (N : AH) (H : Heap) (locs : List Loc) (ls : Array Slot), Rp G aC b0 N H → va_S (fun q => b0 ≤ q) s.heap H locs → lv_has ls 4 [(0, .ref v0), (1, .int v1), (2, .int v2)] → owp (f_X7_totalWhenAllDone_L4 v0 k26 k53 n v1 v2 N) P → W p l e rm_X7_totalWhenAllDone s m args below meth c H locs 0 0 Q (F0 m 4 ls []) := by
  have hx := X.1.1
  have hb := X.1.2.1
  intro n
  induction n with
  | zero =>
    intro v1 v2 N H locs ls hR hS hl hp
    exact (show False from hp).elim
  | succ n ih =>
    intro v1 v2 N H locs ls hR hS hl hp
    rw [f_X7_totalWhenAllDone_L4] at hp
    refine lv_iload_n hx hb dX7_totalWhenAllDone_4 rfl (lv_at hl 2 rfl) ?_
    refine lv_aload_n hx hb dX7_totalWhenAllDone_5 rfl (lv_at hl 0 rfl) ?_
    obtain ⟨x1, e_x1, hp⟩ := owp_ob hp
    refine gf_X7_65 X hR e_x1 dX7_totalWhenAllDone_6 ?_
    refine lv_icmp_ge (tgt := 53) hx hb dX7_totalWhenAllDone_9 (by decide) (fun k2 => ?_) (fun k2 => ?_)
    · have hp := owp_t k2 hp
      exact hk53 _ _ _ _ _ hR hS (lv_sub hl [1] rfl) hp
    · have hp := owp_f k2 hp
      refine lv_aload_n hx hb dX7_totalWhenAllDone_12 rfl (lv_at hl 0 rfl) ?_
      obtain ⟨x3, e_x3, hp⟩ := owp_ob hp
      refine gf_X7_41 X hR e_x3 dX7_totalWhenAllDone_13 ?_
      refine lv_iload_n hx hb dX7_totalWhenAllDone_16 rfl (lv_at hl 2 rfl) ?_
      obtain ⟨x4, e_x4, hp⟩ := owp_ob hp
      refine ab_aald X hR (kd := 2) rfl e_x4 dX7_totalWhenAllDone_17 ?_
      refine lv_astore_n (lv' := [(3, .ref x4), (0, .ref v0), (1, .int v1), (2, .int v2)]) hx hb dX7_totalWhenAllDone_18 rfl hl (by decide) rfl (fun ls hl => ?_)
      refine lv_aload_n hx hb dX7_totalWhenAllDone_19 rfl (lv_at hl 0 rfl) ?_
      obtain ⟨x6, N5, e_N5, hp⟩ := owp_ob2 hp
      refine iv_X4_isOpen (rest := []) mw_X7_117 X hR hS e_N5 hl.1 (Nat.le_of_ble_eq_true rfl) ⟨Nat.le_of_ble_eq_true rfl, Nat.le_of_ble_eq_true rfl⟩ ⟨Nat.le_of_ble_eq_true rfl, Nat.le_of_ble_eq_true rfl⟩ dX7_totalWhenAllDone_20 (fun H locs hR hS => ?_)
      refine lv_if_eq (tgt := 28) hx hb dX7_totalWhenAllDone_23 (by decide) (fun k7 => ?_) (fun k7 => ?_)
      · have hp := owp_t k7 hp
        refine lv_aload_n hx hb dX7_totalWhenAllDone_28 rfl (lv_at hl 0 rfl) ?_
        obtain ⟨x8, e_x8, hp⟩ := owp_ob hp
        refine gf_X7_100 X hR e_x8 dX7_totalWhenAllDone_29 ?_
        refine lv_if_ne (tgt := 47) hx hb dX7_totalWhenAllDone_32 (by decide) (fun k9 => ?_) (fun k9 => ?_)
        · have hp := owp_t k9 hp
          refine lv_iinc (v := v2 + 1) (lv' := [(2, .int (v2 + 1)), (3, .ref x4), (0, .ref v0), (1, .int v1)]) hx hb dX7_totalWhenAllDone_47 hl (k := 3) rfl rfl (by decide) rfl (fun ls hl => ?_)
          refine lv_goto (tgt := 4) hx hb dX7_totalWhenAllDone_50 (by decide) ?_
          exact ih _ _ _ _ _ _ hR hS (lv_sub hl [2, 3, 0] rfl) hp
        · have hp := owp_f (fun q => q k9) hp
          refine lv_iload_n hx hb dX7_totalWhenAllDone_35 rfl (lv_at hl 2 rfl) ?_
          refine lv_aload_n hx hb dX7_totalWhenAllDone_36 rfl (lv_at hl 0 rfl) ?_
          obtain ⟨x10, e_x10, hp⟩ := owp_ob hp
          refine gf_X7_97 X hR e_x10 dX7_totalWhenAllDone_37 ?_
          refine lv_aload_n hx hb dX7_totalWhenAllDone_40 rfl (lv_at hl 0 rfl) ?_
          obtain ⟨x11, e_x11, hp⟩ := owp_ob hp
          refine gf_X7_88 X hR e_x11 dX7_totalWhenAllDone_41 ?_
          refine lv_isub hx hb dX7_totalWhenAllDone_44 ?_
          refine lv_iadd hx hb dX7_totalWhenAllDone_45 ?_
          refine lv_istore_n (lv' := [(1, .int (v1 + (x10 - x11))), (3, .ref x4), (0, .ref v0), (2, .int v2)]) hx hb dX7_totalWhenAllDone_46 rfl hl (by decide) rfl (fun ls hl => ?_)
          refine lv_iinc (v := v2 + 1) (lv' := [(2, .int (v2 + 1)), (1, .int (v1 + (x10 - x11))), (3, .ref x4), (0, .ref v0)]) hx hb dX7_totalWhenAllDone_47 hl (k := 3) rfl rfl (by decide) rfl (fun ls hl => ?_)
          refine lv_goto (tgt := 4) hx hb dX7_totalWhenAllDone_50 (by decide) ?_
          exact ih _ _ _ _ _ _ hR hS (lv_sub hl [3, 1, 0] rfl) hp
      · have hp := owp_f k7 hp
        exact hk26 _ _ _ _ hR hS (lv_sub hl [] rfl) hp
def f_X7_totalWhenAllDone (v0 : Nat) (N : AH) : Option (Int32 × AH) := ob (iO N v0 7) (fun _ => f_X7_totalWhenAllDone_L4 v0 (fun N12 => some ((-1 : Int32), N12)) (fun v13 N14 => some (v13, N14)) FU (0 : Int32) (0 : Int32) N)
set_option maxHeartbeats 4000000 in
set_option maxRecDepth 100000 in
theorem wk_X7_totalWhenAllDone {P : Int32 × AH → Prop} (X : CX cX7_totalWhenAllDone RX7 4 G aC t b0 p s m args c) (hr : RtI p l e rm_X7_totalWhenAllDone s m args below meth c 0 0 Q cX7_totalWhenAllDone G aC b0 P) (v0 : Nat) (N : AH) (H : Heap) (locs : List Loc) (ls : Array Slot) (hR : Rp G aC b0 N H) (hS : va_S (fun q => b0 ≤ q) s.heap H locs) (hl : lv_has ls 4 [(0, .ref v0)]) (hp : owp (f_X7_totalWhenAllDone v0 N) P) : W p l e rm_X7_totalWhenAllDone s m args below meth c H locs 0 0 Q (F0 m 0 ls []) := by
  have hx := X.1.1
  have hb := X.1.2.1
  unfold f_X7_totalWhenAllDone at hp
  obtain ⟨_, _, hp⟩ := owp_ob hp
  refine lv_iconst (v := (0)) hx hb dX7_totalWhenAllDone_0 (by decide) ?_
  refine lv_istore_n (lv' := [(1, .int (0 : Int32)), (0, .ref v0)]) hx hb dX7_totalWhenAllDone_1 rfl hl (by decide) rfl (fun ls hl => ?_)
  refine lv_iconst (v := (0)) hx hb dX7_totalWhenAllDone_2 (by decide) ?_
  refine lv_istore_n (lv' := [(2, .int (0 : Int32)), (1, .int (0 : Int32)), (0, .ref v0)]) hx hb dX7_totalWhenAllDone_3 rfl hl (by decide) rfl (fun ls hl => ?_)
  refine w_X7_totalWhenAllDone_L4 X hr _ (fun N12 H locs ls hR hS hl hp => ?_) (fun v13 N14 H locs ls hR hS hl hp => ?_) _ _ _ _ _ _ _ hR hS (lv_sub hl [2, 1, 0] rfl) hp
  · refine lv_iconst (v := (-1)) hx hb dX7_totalWhenAllDone_26 (by decide) ?_
    exact hr _ _ _ _ _ _ hR hS dX7_totalWhenAllDone_27 hp
  · refine lv_iload_n hx hb dX7_totalWhenAllDone_53 rfl (lv_at hl 0 rfl) ?_
    exact hr _ _ _ _ _ _ hR hS dX7_totalWhenAllDone_54 hp
end
theorem ct_X7_totalWhenAllDone {v0 : Nat} {N N1 : AH} {r : Int32} (h : f_X7_totalWhenAllDone v0 N = some (r, N1)) : Ct yX7_totalWhenAllDone cX7_totalWhenAllDone 4 (some .int) rm_X7_totalWhenAllDone [.ref v0] N (some (.int r)) N1 :=
  ab_met (own := RX7) (by decide +kernel) rfl (Nat.le_of_ble_eq_true rfl) (fun l G aC t b0 p e s m below meth c ls X hr hlk hnm hR hS hl => wk_X7_totalWhenAllDone X (RtI_met X.1.1 X.1.2.1 hr hlk) _ _ _ _ _ hR hS hl (owp_of h))
theorem cw_X7_totalWhenAllDone : Cond.code yX7_totalWhenAllDone cX7_totalWhenAllDone 4 (some .int) ∈ WT := WT_of 850 (by decide +kernel) (by decide +kernel)
theorem iv_X7_totalWhenAllDone {p : Program} {l : Launch} {e : Env} {R : Room} {s : State} {m : MethodId} {args : Array Value} {below : List Frame} {meth : Method} {c : Code} {H : Heap} {locs : List Loc} {cells slots : Nat} {Q : State → Prop} {cc : ByteArray} {own : String} {nL : Nat} {G : va_G} {aC : Nat → ClassId} {t b0 : Nat} {N N1 : AH} {pc index : Nat} {ls : Array Slot} {rest : List Value} {v0 : Nat} {r : Int32} (w1 : Cond.methodLink own index yX7_totalWhenAllDone ∈ WT) (X : CX cc own nL G aC t b0 p s m args c) (hR : Rp G aC b0 N H) (hS : va_S (fun q => b0 ≤ q) s.heap H locs) (h : f_X7_totalWhenAllDone v0 N = some (r, N1)) (hls : ls.size = nL) (hW : (rest.map fun v => v.category).sum ≤ 8) (hR1 : 2 ≤ R.frames ∧ 43 ≤ R.locals) (hcs : cells + 0 ≤ R.cells ∧ slots + 0 ≤ R.slots) (hdg : decode cc pc = .ok (.invokevirtual index, 3)) (kk : ∀ (H1 : Heap) (locs1 : List Loc), Rp G aC b0 N1 H1 → va_S (fun q => b0 ≤ q) s.heap H1 locs1 → W p l e R s m args below meth c H1 locs1 cells slots Q (F0 m (pc + 3) ls (.int r :: rest))) : W p l e R s m args below meth c H locs cells slots Q (F0 m pc ls (.ref v0 :: rest)) :=
  ab_callV (n := 0) (As := []) X hR hS (ct_X7_totalWhenAllDone h) (ob_rc (c := 7) (N := N) (a := v0) h) (T := TX7) (k := 12) (C := RX7) rfl w1 (WT_of 848 (by decide +kernel) (by decide +kernel)) (WT_of 849 (by decide +kernel) (by decide +kernel)) (WT_of 84 (by decide +kernel) (by decide +kernel)) cw_X7_totalWhenAllDone ⟨rfl, by decide +kernel, by decide +kernel, by decide +kernel⟩ rfl hls hW hR1 hcs rfl hdg kk
-- X3_runToTotal
theorem mw_X3_85 : Cond.methodLink RX3 85 yX7_countOpen ∈ WT := WT_of 846 (by decide +kernel) (by decide +kernel)
theorem mw_X3_88 : Cond.methodLink RX3 88 yX7_totalWhenAllDone ∈ WT := WT_of 847 (by decide +kernel) (by decide +kernel)
theorem dX3_runToTotal_0 : decode cX3_runToTotal 0 = .ok (.aload_n 0, 1) := by decide +kernel
theorem dX3_runToTotal_1 : decode cX3_runToTotal 1 = .ok (.getfield 12, 3) := by decide +kernel
theorem dX3_runToTotal_4 : decode cX3_runToTotal 4 = .ok (.invokevirtual 85, 3) := by decide +kernel
theorem dX3_runToTotal_7 : decode cX3_runToTotal 7 = .ok (.ifCond .le 7, 3) := by decide +kernel
theorem dX3_runToTotal_10 : decode cX3_runToTotal 10 = .ok (.iconst 1, 1) := by decide +kernel
theorem dX3_runToTotal_11 : decode cX3_runToTotal 11 = .ok (.goto 4, 3) := by decide +kernel
theorem dX3_runToTotal_14 : decode cX3_runToTotal 14 = .ok (.iconst 0, 1) := by decide +kernel
theorem dX3_runToTotal_15 : decode cX3_runToTotal 15 = .ok (.istore_n 1, 1) := by decide +kernel
theorem dX3_runToTotal_16 : decode cX3_runToTotal 16 = .ok (.iconst 0, 1) := by decide +kernel
theorem dX3_runToTotal_17 : decode cX3_runToTotal 17 = .ok (.istore_n 2, 1) := by decide +kernel
theorem dX3_runToTotal_18 : decode cX3_runToTotal 18 = .ok (.iload_n 2, 1) := by decide +kernel
theorem dX3_runToTotal_19 : decode cX3_runToTotal 19 = .ok (.sipush 300, 3) := by decide +kernel
theorem dX3_runToTotal_22 : decode cX3_runToTotal 22 = .ok (.if_icmp .ge 43, 3) := by decide +kernel
theorem dX3_runToTotal_25 : decode cX3_runToTotal 25 = .ok (.iload_n 1, 1) := by decide +kernel
theorem dX3_runToTotal_26 : decode cX3_runToTotal 26 = .ok (.ifCond .eq 39, 3) := by decide +kernel
theorem dX3_runToTotal_29 : decode cX3_runToTotal 29 = .ok (.aload_n 0, 1) := by decide +kernel
theorem dX3_runToTotal_30 : decode cX3_runToTotal 30 = .ok (.getfield 21, 3) := by decide +kernel
theorem dX3_runToTotal_33 : decode cX3_runToTotal 33 = .ok (.aload_n 0, 1) := by decide +kernel
theorem dX3_runToTotal_34 : decode cX3_runToTotal 34 = .ok (.getfield 12, 3) := by decide +kernel
theorem dX3_runToTotal_37 : decode cX3_runToTotal 37 = .ok (.invokevirtual 66, 3) := by decide +kernel
theorem dX3_runToTotal_40 : decode cX3_runToTotal 40 = .ok (.ifCond .eq 17, 3) := by decide +kernel
theorem dX3_runToTotal_43 : decode cX3_runToTotal 43 = .ok (.aload_n 0, 1) := by decide +kernel
theorem dX3_runToTotal_44 : decode cX3_runToTotal 44 = .ok (.getfield 12, 3) := by decide +kernel
theorem dX3_runToTotal_47 : decode cX3_runToTotal 47 = .ok (.invokevirtual 85, 3) := by decide +kernel
theorem dX3_runToTotal_50 : decode cX3_runToTotal 50 = .ok (.ifCond .le 7, 3) := by decide +kernel
theorem dX3_runToTotal_53 : decode cX3_runToTotal 53 = .ok (.iconst 1, 1) := by decide +kernel
theorem dX3_runToTotal_54 : decode cX3_runToTotal 54 = .ok (.goto 4, 3) := by decide +kernel
theorem dX3_runToTotal_57 : decode cX3_runToTotal 57 = .ok (.iconst 0, 1) := by decide +kernel
theorem dX3_runToTotal_58 : decode cX3_runToTotal 58 = .ok (.istore_n 1, 1) := by decide +kernel
theorem dX3_runToTotal_59 : decode cX3_runToTotal 59 = .ok (.iinc 2 1, 3) := by decide +kernel
theorem dX3_runToTotal_62 : decode cX3_runToTotal 62 = .ok (.goto (-44), 3) := by decide +kernel
theorem dX3_runToTotal_65 : decode cX3_runToTotal 65 = .ok (.aload_n 0, 1) := by decide +kernel
theorem dX3_runToTotal_66 : decode cX3_runToTotal 66 = .ok (.getfield 12, 3) := by decide +kernel
theorem dX3_runToTotal_69 : decode cX3_runToTotal 69 = .ok (.invokevirtual 88, 3) := by decide +kernel
theorem dX3_runToTotal_72 : decode cX3_runToTotal 72 = .ok (.ireturn, 1) := by decide +kernel
def rm_X3_runToTotal : Room := { frames := 5, cells := 0, slots := 0, locals := 124 }
section
variable {p : Program} {l : Launch} {e : Env} {s : State} {m : MethodId} {args : Array Value} {below : List Frame} {meth : Method} {c : Code} {Q : State → Prop} {G : va_G} {aC : Nat → ClassId} {t b0 : Nat}
def f_X3_runToTotal_L18 (v0 : Nat) (k65 : AH → Option (Int32 × AH)) : Nat → Int32 → Int32 → AH → Option (Int32 × AH)
  | 0, _, _, _ => none
  | n + 1, v1, v2, N => if (300 : Int32) ≤ v2 then k65 N else if v1 = 0 then k65 N else ob (hR N v0 3 1) (fun x7 => ob (hR N v0 3 0) (fun x8 => ob2 (f_X8_perform x7 x8 N) (fun x10 N9 => if x10 = 0 then f_X3_runToTotal_L18 v0 k65 n (0 : Int32) (v2 + 1) N9 else ob (hR N9 v0 3 0) (fun x12 => ob2 (f_X7_countOpen x12 N9) (fun x14 N13 => if x14 ≤ 0 then f_X3_runToTotal_L18 v0 k65 n (0 : Int32) (v2 + 1) N13 else f_X3_runToTotal_L18 v0 k65 n (1 : Int32) (v2 + 1) N13)))))
set_option maxHeartbeats 4000000 in
set_option maxRecDepth 100000 in
theorem w_X3_runToTotal_L18 {P : Int32 × AH → Prop} (X : CX cX3_runToTotal RX3 3 G aC t b0 p s m args c) (hr : RtI p l e rm_X3_runToTotal s m args below meth c 0 0 Q cX3_runToTotal G aC b0 P) (v0 : Nat) {k65 : AH → Option (Int32 × AH)}
    (hk65 : ∀ (N : AH) (H : Heap) (locs : List Loc) (ls : Array Slot), Rp G aC b0 N H → va_S (fun q => b0 ≤ q) s.heap H locs → lv_has ls 3 [(0, .ref v0)] → owp (k65 N) P → W p l e rm_X3_runToTotal s m args below meth c H locs 0 0 Q (F0 m 65 ls [])) :
    ∀ (n : Nat) (v1 : Int32) (v2 : Int32) (N : AH) (H : Heap) (locs : List Loc) (ls : Array Slot), Rp G aC b0 N H → va_S (fun q => b0 ≤ q) s.heap H locs → lv_has ls 3 [(0, .ref v0), (1, .int v1), (2, .int v2)] → owp (f_X3_runToTotal_L18 v0 k65 n v1 v2 N) P → W p l e rm_X3_runToTotal s m args below meth c H locs 0 0 Q (F0 m 18 ls []) := by
  have hx := X.1.1
  have hb := X.1.2.1
  intro n
  induction n with
  | zero =>
    intro v1 v2 N H locs ls hR hS hl hp
    exact (show False from hp).elim
  | succ n ih =>
    intro v1 v2 N H locs ls hR hS hl hp
    rw [f_X3_runToTotal_L18] at hp
    refine lv_iload_n hx hb dX3_runToTotal_18 rfl (lv_at hl 2 rfl) ?_
    refine lv_sipush (v := (300)) hx hb dX3_runToTotal_19 (by decide) ?_
    refine lv_icmp_ge (tgt := 65) hx hb dX3_runToTotal_22 (by decide) (fun k5 => ?_) (fun k5 => ?_)
    · have hp := owp_t k5 hp
      exact hk65 _ _ _ _ hR hS (lv_sub hl [0] rfl) hp
    · have hp := owp_f k5 hp
      refine lv_iload_n hx hb dX3_runToTotal_25 rfl (lv_at hl 1 rfl) ?_
      refine lv_if_eq (tgt := 65) hx hb dX3_runToTotal_26 (by decide) (fun k6 => ?_) (fun k6 => ?_)
      · have hp := owp_t k6 hp
        exact hk65 _ _ _ _ hR hS (lv_sub hl [0] rfl) hp
      · have hp := owp_f k6 hp
        refine lv_aload_n hx hb dX3_runToTotal_29 rfl (lv_at hl 0 rfl) ?_
        obtain ⟨x7, e_x7, hp⟩ := owp_ob hp
        refine gf_X3_21 X hR e_x7 dX3_runToTotal_30 ?_
        refine lv_aload_n hx hb dX3_runToTotal_33 rfl (lv_at hl 0 rfl) ?_
        obtain ⟨x8, e_x8, hp⟩ := owp_ob hp
        refine gf_X3_12 X hR e_x8 dX3_runToTotal_34 ?_
        obtain ⟨x10, N9, e_N9, hp⟩ := owp_ob2 hp
        refine iv_X8_perform (rest := []) mw_X3_66 X hR hS e_N9 hl.1 (Nat.le_of_ble_eq_true rfl) ⟨Nat.le_of_ble_eq_true rfl, Nat.le_of_ble_eq_true rfl⟩ ⟨Nat.le_of_ble_eq_true rfl, Nat.le_of_ble_eq_true rfl⟩ dX3_runToTotal_37 (fun H locs hR hS => ?_)
        refine lv_if_eq (tgt := 57) hx hb dX3_runToTotal_40 (by decide) (fun k11 => ?_) (fun k11 => ?_)
        · have hp := owp_t k11 hp
          refine lv_iconst (v := (0)) hx hb dX3_runToTotal_57 (by decide) ?_
          refine lv_istore_n (lv' := [(1, .int (0 : Int32)), (0, .ref v0), (2, .int v2)]) hx hb dX3_runToTotal_58 rfl hl (by decide) rfl (fun ls hl => ?_)
          refine lv_iinc (v := v2 + 1) (lv' := [(2, .int (v2 + 1)), (1, .int (0 : Int32)), (0, .ref v0)]) hx hb dX3_runToTotal_59 hl (k := 2) rfl rfl (by decide) rfl (fun ls hl => ?_)
          refine lv_goto (tgt := 18) hx hb dX3_runToTotal_62 (by decide) ?_
          exact ih _ _ _ _ _ _ hR hS (lv_sub hl [2, 1, 0] rfl) hp
        · have hp := owp_f k11 hp
          refine lv_aload_n hx hb dX3_runToTotal_43 rfl (lv_at hl 0 rfl) ?_
          obtain ⟨x12, e_x12, hp⟩ := owp_ob hp
          refine gf_X3_12 X hR e_x12 dX3_runToTotal_44 ?_
          obtain ⟨x14, N13, e_N13, hp⟩ := owp_ob2 hp
          refine iv_X7_countOpen (rest := []) mw_X3_85 X hR hS e_N13 hl.1 (Nat.le_of_ble_eq_true rfl) ⟨Nat.le_of_ble_eq_true rfl, Nat.le_of_ble_eq_true rfl⟩ ⟨Nat.le_of_ble_eq_true rfl, Nat.le_of_ble_eq_true rfl⟩ dX3_runToTotal_47 (fun H locs hR hS => ?_)
          refine lv_if_le (tgt := 57) hx hb dX3_runToTotal_50 (by decide) (fun k15 => ?_) (fun k15 => ?_)
          · have hp := owp_t k15 hp
            refine lv_iconst (v := (0)) hx hb dX3_runToTotal_57 (by decide) ?_
            refine lv_istore_n (lv' := [(1, .int (0 : Int32)), (0, .ref v0), (2, .int v2)]) hx hb dX3_runToTotal_58 rfl hl (by decide) rfl (fun ls hl => ?_)
            refine lv_iinc (v := v2 + 1) (lv' := [(2, .int (v2 + 1)), (1, .int (0 : Int32)), (0, .ref v0)]) hx hb dX3_runToTotal_59 hl (k := 2) rfl rfl (by decide) rfl (fun ls hl => ?_)
            refine lv_goto (tgt := 18) hx hb dX3_runToTotal_62 (by decide) ?_
            exact ih _ _ _ _ _ _ hR hS (lv_sub hl [2, 1, 0] rfl) hp
          · have hp := owp_f k15 hp
            refine lv_iconst (v := (1)) hx hb dX3_runToTotal_53 (by decide) ?_
            refine lv_goto (tgt := 58) hx hb dX3_runToTotal_54 (by decide) ?_
            refine lv_istore_n (lv' := [(1, .int (1 : Int32)), (0, .ref v0), (2, .int v2)]) hx hb dX3_runToTotal_58 rfl hl (by decide) rfl (fun ls hl => ?_)
            refine lv_iinc (v := v2 + 1) (lv' := [(2, .int (v2 + 1)), (1, .int (1 : Int32)), (0, .ref v0)]) hx hb dX3_runToTotal_59 hl (k := 2) rfl rfl (by decide) rfl (fun ls hl => ?_)
            refine lv_goto (tgt := 18) hx hb dX3_runToTotal_62 (by decide) ?_
            exact ih _ _ _ _ _ _ hR hS (lv_sub hl [2, 1, 0] rfl) hp
def f_X3_runToTotal (v0 : Nat) (N : AH) : Option (Int32 × AH) := ob (iO N v0 3) (fun _ => ob (hR N v0 3 0) (fun x1 => ob2 (f_X7_countOpen x1 N) (fun x3 N2 => if x3 ≤ 0 then f_X3_runToTotal_L18 v0 (fun N16 => ob (hR N16 v0 3 0) (fun x17 => ob2 (f_X7_totalWhenAllDone x17 N16) (fun x19 N18 => some (x19, N18)))) FU (0 : Int32) (0 : Int32) N2 else f_X3_runToTotal_L18 v0 (fun N20 => ob (hR N20 v0 3 0) (fun x21 => ob2 (f_X7_totalWhenAllDone x21 N20) (fun x23 N22 => some (x23, N22)))) FU (1 : Int32) (0 : Int32) N2)))
set_option maxHeartbeats 4000000 in
set_option maxRecDepth 100000 in
theorem wk_X3_runToTotal {P : Int32 × AH → Prop} (X : CX cX3_runToTotal RX3 3 G aC t b0 p s m args c) (hr : RtI p l e rm_X3_runToTotal s m args below meth c 0 0 Q cX3_runToTotal G aC b0 P) (v0 : Nat) (N : AH) (H : Heap) (locs : List Loc) (ls : Array Slot) (hR : Rp G aC b0 N H) (hS : va_S (fun q => b0 ≤ q) s.heap H locs) (hl : lv_has ls 3 [(0, .ref v0)]) (hp : owp (f_X3_runToTotal v0 N) P) : W p l e rm_X3_runToTotal s m args below meth c H locs 0 0 Q (F0 m 0 ls []) := by
  have hx := X.1.1
  have hb := X.1.2.1
  unfold f_X3_runToTotal at hp
  obtain ⟨_, _, hp⟩ := owp_ob hp
  refine lv_aload_n hx hb dX3_runToTotal_0 rfl (lv_at hl 0 rfl) ?_
  obtain ⟨x1, e_x1, hp⟩ := owp_ob hp
  refine gf_X3_12 X hR e_x1 dX3_runToTotal_1 ?_
  obtain ⟨x3, N2, e_N2, hp⟩ := owp_ob2 hp
  refine iv_X7_countOpen (rest := []) mw_X3_85 X hR hS e_N2 hl.1 (Nat.le_of_ble_eq_true rfl) ⟨Nat.le_of_ble_eq_true rfl, Nat.le_of_ble_eq_true rfl⟩ ⟨Nat.le_of_ble_eq_true rfl, Nat.le_of_ble_eq_true rfl⟩ dX3_runToTotal_4 (fun H locs hR hS => ?_)
  refine lv_if_le (tgt := 14) hx hb dX3_runToTotal_7 (by decide) (fun k4 => ?_) (fun k4 => ?_)
  · have hp := owp_t k4 hp
    refine lv_iconst (v := (0)) hx hb dX3_runToTotal_14 (by decide) ?_
    refine lv_istore_n (lv' := [(1, .int (0 : Int32)), (0, .ref v0)]) hx hb dX3_runToTotal_15 rfl hl (by decide) rfl (fun ls hl => ?_)
    refine lv_iconst (v := (0)) hx hb dX3_runToTotal_16 (by decide) ?_
    refine lv_istore_n (lv' := [(2, .int (0 : Int32)), (1, .int (0 : Int32)), (0, .ref v0)]) hx hb dX3_runToTotal_17 rfl hl (by decide) rfl (fun ls hl => ?_)
    refine w_X3_runToTotal_L18 X hr _ (fun N16 H locs ls hR hS hl hp => ?_) _ _ _ _ _ _ _ hR hS (lv_sub hl [2, 1, 0] rfl) hp
    refine lv_aload_n hx hb dX3_runToTotal_65 rfl (lv_at hl 0 rfl) ?_
    obtain ⟨x17, e_x17, hp⟩ := owp_ob hp
    refine gf_X3_12 X hR e_x17 dX3_runToTotal_66 ?_
    obtain ⟨x19, N18, e_N18, hp⟩ := owp_ob2 hp
    refine iv_X7_totalWhenAllDone (rest := []) mw_X3_88 X hR hS e_N18 hl.1 (Nat.le_of_ble_eq_true rfl) ⟨Nat.le_of_ble_eq_true rfl, Nat.le_of_ble_eq_true rfl⟩ ⟨Nat.le_of_ble_eq_true rfl, Nat.le_of_ble_eq_true rfl⟩ dX3_runToTotal_69 (fun H locs hR hS => ?_)
    exact hr _ _ _ _ _ _ hR hS dX3_runToTotal_72 hp
  · have hp := owp_f k4 hp
    refine lv_iconst (v := (1)) hx hb dX3_runToTotal_10 (by decide) ?_
    refine lv_goto (tgt := 15) hx hb dX3_runToTotal_11 (by decide) ?_
    refine lv_istore_n (lv' := [(1, .int (1 : Int32)), (0, .ref v0)]) hx hb dX3_runToTotal_15 rfl hl (by decide) rfl (fun ls hl => ?_)
    refine lv_iconst (v := (0)) hx hb dX3_runToTotal_16 (by decide) ?_
    refine lv_istore_n (lv' := [(2, .int (0 : Int32)), (1, .int (1 : Int32)), (0, .ref v0)]) hx hb dX3_runToTotal_17 rfl hl (by decide) rfl (fun ls hl => ?_)
    refine w_X3_runToTotal_L18 X hr _ (fun N20 H locs ls hR hS hl hp => ?_) _ _ _ _ _ _ _ hR hS (lv_sub hl [2, 1, 0] rfl) hp
    refine lv_aload_n hx hb dX3_runToTotal_65 rfl (lv_at hl 0 rfl) ?_
    obtain ⟨x21, e_x21, hp⟩ := owp_ob hp
    refine gf_X3_12 X hR e_x21 dX3_runToTotal_66 ?_
    obtain ⟨x23, N22, e_N22, hp⟩ := owp_ob2 hp
    refine iv_X7_totalWhenAllDone (rest := []) mw_X3_88 X hR hS e_N22 hl.1 (Nat.le_of_ble_eq_true rfl) ⟨Nat.le_of_ble_eq_true rfl, Nat.le_of_ble_eq_true rfl⟩ ⟨Nat.le_of_ble_eq_true rfl, Nat.le_of_ble_eq_true rfl⟩ dX3_runToTotal_69 (fun H locs hR hS => ?_)
    exact hr _ _ _ _ _ _ hR hS dX3_runToTotal_72 hp
end
theorem ct_X3_runToTotal {v0 : Nat} {N N1 : AH} {r : Int32} (h : f_X3_runToTotal v0 N = some (r, N1)) : Ct yX3_runToTotal cX3_runToTotal 3 (some .int) rm_X3_runToTotal [.ref v0] N (some (.int r)) N1 :=
  ab_met (own := RX3) (by decide +kernel) rfl (Nat.le_of_ble_eq_true rfl) (fun l G aC t b0 p e s m below meth c ls X hr hlk hnm hR hS hl => wk_X3_runToTotal X (RtI_met X.1.1 X.1.2.1 hr hlk) _ _ _ _ _ hR hS hl (owp_of h))
theorem cw_X3_runToTotal : Cond.code yX3_runToTotal cX3_runToTotal 3 (some .int) ∈ WT := WT_of 845 (by decide +kernel) (by decide +kernel)
theorem iv_X3_runToTotal {p : Program} {l : Launch} {e : Env} {R : Room} {s : State} {m : MethodId} {args : Array Value} {below : List Frame} {meth : Method} {c : Code} {H : Heap} {locs : List Loc} {cells slots : Nat} {Q : State → Prop} {cc : ByteArray} {own : String} {nL : Nat} {G : va_G} {aC : Nat → ClassId} {t b0 : Nat} {N N1 : AH} {pc index : Nat} {ls : Array Slot} {rest : List Value} {v0 : Nat} {r : Int32} (w1 : Cond.methodLink own index yX3_runToTotal ∈ WT) (X : CX cc own nL G aC t b0 p s m args c) (hR : Rp G aC b0 N H) (hS : va_S (fun q => b0 ≤ q) s.heap H locs) (h : f_X3_runToTotal v0 N = some (r, N1)) (hls : ls.size = nL) (hW : (rest.map fun v => v.category).sum ≤ 8) (hR1 : 6 ≤ R.frames ∧ 146 ≤ R.locals) (hcs : cells + 0 ≤ R.cells ∧ slots + 0 ≤ R.slots) (hdg : decode cc pc = .ok (.invokevirtual index, 3)) (kk : ∀ (H1 : Heap) (locs1 : List Loc), Rp G aC b0 N1 H1 → va_S (fun q => b0 ≤ q) s.heap H1 locs1 → W p l e R s m args below meth c H1 locs1 cells slots Q (F0 m (pc + 3) ls (.int r :: rest))) : W p l e R s m args below meth c H locs cells slots Q (F0 m pc ls (.ref v0 :: rest)) :=
  ab_callV (n := 0) (As := []) X hR hS (ct_X3_runToTotal h) (ob_rc (c := 3) (N := N) (a := v0) h) (T := TX3) (k := 7) (C := RX3) rfl w1 (WT_of 844 (by decide +kernel) (by decide +kernel)) (WT_of 24 (by decide +kernel) (by decide +kernel)) (WT_of 91 (by decide +kernel) (by decide +kernel)) cw_X3_runToTotal ⟨rfl, by decide +kernel, by decide +kernel, by decide +kernel⟩ rfl hls hW hR1 hcs rfl hdg kk
-- X3_totalOf
theorem gf_X3_28 {p : Program} {l : Launch} {e : Env} {R : Room} {s : State} {m : MethodId} {args : Array Value} {below : List Frame} {meth : Method} {c : Code} {H : Heap} {locs : List Loc} {cells slots : Nat} {Q : State → Prop} {cc : ByteArray} {nL : Nat} {G : va_G} {aC : Nat → ClassId} {t b0 : Nat} {N : AH} {pc : Nat} {ls : Array Slot} {rest : List Value} {a : Nat} {v : Nat} (X : CX cc RX3 nL G aC t b0 p s m args c) (hR0 : Rp G aC b0 N H) (hv : hR N a 3 2 = some v) (hdg : decode cc pc = .ok (.getfield 28, 3)) (kk : W p l e R s m args below meth c H locs cells slots Q (F0 m (pc + 3) ls (.ref v :: rest))) : W p l e R s m args below meth c H locs cells slots Q (F0 m pc ls (.ref a :: rest)) := by
  obtain ⟨fs, h1, h2⟩ := hR_ok hv
  exact ab_get (C := RX3) (T := TX3) (n := 7) X hR0 h1 h2 rfl inX3 (by decide) (WT_of 411 (by decide +kernel) (by decide +kernel)) hdg kk
theorem mw_X3_74 : Cond.methodLink RX3 74 yX6_needMoreThan ∈ WT := WT_of 830 (by decide +kernel) (by decide +kernel)
theorem mw_X3_81 : Cond.methodLink RX3 81 yX3_runToTotal ∈ WT := WT_of 842 (by decide +kernel) (by decide +kernel)
theorem pf_X3_78 {p : Program} {l : Launch} {e : Env} {R : Room} {s : State} {m : MethodId} {args : Array Value} {below : List Frame} {meth : Method} {c : Code} {H : Heap} {locs : List Loc} {cells slots : Nat} {Q : State → Prop} {cc : ByteArray} {nL : Nat} {G : va_G} {aC : Nat → ClassId} {t b0 : Nat} {N : AH} {pc : Nat} {ls : Array Slot} {rest : List Value} {N1 : AH} {a : Nat} {v : Int32} (X : CX cc RX3 nL G aC t b0 p s m args c) (hR0 : Rp G aC b0 N H) (hS : va_S (fun q => b0 ≤ q) s.heap H locs) (hv : pI N a 7 1 v = some N1) (hdg : decode cc pc = .ok (.putfield 78, 3)) (kk : ∀ (H1 : Heap) (locs1 : List Loc), Rp G aC b0 N1 H1 → va_S (fun q => b0 ≤ q) s.heap H1 locs1 → W p l e R s m args below meth c H1 locs1 cells slots Q (F0 m (pc + 3) ls rest)) : W p l e R s m args below meth c H locs cells slots Q (F0 m pc ls (.int v :: .ref a :: rest)) := by
  obtain ⟨fs, h1, h2, h3⟩ := pV_ok hv
  subst h3
  exact ab_put (C := RX7) (T := TX7) (n := 12) X hR0 hS h1 h2 rfl inX7 tyX7 tyX7_ok nmX7 (by decide) (WT_of 259 (by decide +kernel) (by decide +kernel)) rfl rfl rfl hdg kk
theorem dX3_totalOf_0 : decode cX3_totalOf 0 = .ok (.aload_n 0, 1) := by decide +kernel
theorem dX3_totalOf_1 : decode cX3_totalOf 1 = .ok (.getfield 28, 3) := by decide +kernel
theorem dX3_totalOf_4 : decode cX3_totalOf 4 = .ok (.aload_n 1, 1) := by decide +kernel
theorem dX3_totalOf_5 : decode cX3_totalOf 5 = .ok (.sipush 300, 3) := by decide +kernel
theorem dX3_totalOf_8 : decode cX3_totalOf 8 = .ok (.invokevirtual 74, 3) := by decide +kernel
theorem dX3_totalOf_11 : decode cX3_totalOf 11 = .ok (.ifCond .eq 5, 3) := by decide +kernel
theorem dX3_totalOf_14 : decode cX3_totalOf 14 = .ok (.iconst (-1), 1) := by decide +kernel
theorem dX3_totalOf_15 : decode cX3_totalOf 15 = .ok (.ireturn, 1) := by decide +kernel
theorem dX3_totalOf_16 : decode cX3_totalOf 16 = .ok (.aload_n 0, 1) := by decide +kernel
theorem dX3_totalOf_17 : decode cX3_totalOf 17 = .ok (.getfield 12, 3) := by decide +kernel
theorem dX3_totalOf_20 : decode cX3_totalOf 20 = .ok (.aload_n 1, 1) := by decide +kernel
theorem dX3_totalOf_21 : decode cX3_totalOf 21 = .ok (.invokevirtual 43, 3) := by decide +kernel
theorem dX3_totalOf_24 : decode cX3_totalOf 24 = .ok (.aload_n 0, 1) := by decide +kernel
theorem dX3_totalOf_25 : decode cX3_totalOf 25 = .ok (.getfield 12, 3) := by decide +kernel
theorem dX3_totalOf_28 : decode cX3_totalOf 28 = .ok (.iload_n 2, 1) := by decide +kernel
theorem dX3_totalOf_29 : decode cX3_totalOf 29 = .ok (.putfield 78, 3) := by decide +kernel
theorem dX3_totalOf_32 : decode cX3_totalOf 32 = .ok (.aload_n 0, 1) := by decide +kernel
theorem dX3_totalOf_33 : decode cX3_totalOf 33 = .ok (.invokevirtual 81, 3) := by decide +kernel
theorem dX3_totalOf_36 : decode cX3_totalOf 36 = .ok (.ireturn, 1) := by decide +kernel
def rm_X3_totalOf : Room := { frames := 6, cells := 0, slots := 0, locals := 146 }
section
variable {p : Program} {l : Launch} {e : Env} {s : State} {m : MethodId} {args : Array Value} {below : List Frame} {meth : Method} {c : Code} {Q : State → Prop} {G : va_G} {aC : Nat → ClassId} {t b0 : Nat}
def f_X3_totalOf (v0 : Nat) (v1 : Nat) (v2 : Int32) (N : AH) : Option (Int32 × AH) := ob (iO N v0 3) (fun _ => ob (hR N v0 3 2) (fun x1 => ob2 (f_X6_needMoreThan x1 v1 (300 : Int32) N) (fun x3 N2 => if x3 = 0 then ob (hR N2 v0 3 0) (fun x5 => ob2 (f_X7_copyFrom x5 v1 N2) (fun _ N6 => ob (hR N6 v0 3 0) (fun x7 => ob (pI N6 x7 7 1 v2) (fun N8 => ob2 (f_X3_runToTotal v0 N8) (fun x10 N9 => some (x10, N9)))))) else some ((-1 : Int32), N2))))
set_option maxHeartbeats 4000000 in
set_option maxRecDepth 100000 in
theorem wk_X3_totalOf {P : Int32 × AH → Prop} (X : CX cX3_totalOf RX3 3 G aC t b0 p s m args c) (hr : RtI p l e rm_X3_totalOf s m args below meth c 0 0 Q cX3_totalOf G aC b0 P) (v0 : Nat) (v1 : Nat) (v2 : Int32) (N : AH) (H : Heap) (locs : List Loc) (ls : Array Slot) (hR : Rp G aC b0 N H) (hS : va_S (fun q => b0 ≤ q) s.heap H locs) (hl : lv_has ls 3 [(0, .ref v0), (1, .ref v1), (2, .int v2)]) (hp : owp (f_X3_totalOf v0 v1 v2 N) P) : W p l e rm_X3_totalOf s m args below meth c H locs 0 0 Q (F0 m 0 ls []) := by
  have hx := X.1.1
  have hb := X.1.2.1
  unfold f_X3_totalOf at hp
  obtain ⟨_, _, hp⟩ := owp_ob hp
  refine lv_aload_n hx hb dX3_totalOf_0 rfl (lv_at hl 0 rfl) ?_
  obtain ⟨x1, e_x1, hp⟩ := owp_ob hp
  refine gf_X3_28 X hR e_x1 dX3_totalOf_1 ?_
  refine lv_aload_n hx hb dX3_totalOf_4 rfl (lv_at hl 1 rfl) ?_
  refine lv_sipush (v := (300)) hx hb dX3_totalOf_5 (by decide) ?_
  obtain ⟨x3, N2, e_N2, hp⟩ := owp_ob2 hp
  refine iv_X6_needMoreThan (rest := []) mw_X3_74 X hR hS e_N2 hl.1 (Nat.le_of_ble_eq_true rfl) ⟨Nat.le_of_ble_eq_true rfl, Nat.le_of_ble_eq_true rfl⟩ ⟨Nat.le_of_ble_eq_true rfl, Nat.le_of_ble_eq_true rfl⟩ dX3_totalOf_8 (fun H locs hR hS => ?_)
  refine lv_if_eq (tgt := 16) hx hb dX3_totalOf_11 (by decide) (fun k4 => ?_) (fun k4 => ?_)
  · have hp := owp_t k4 hp
    refine lv_aload_n hx hb dX3_totalOf_16 rfl (lv_at hl 0 rfl) ?_
    obtain ⟨x5, e_x5, hp⟩ := owp_ob hp
    refine gf_X3_12 X hR e_x5 dX3_totalOf_17 ?_
    refine lv_aload_n hx hb dX3_totalOf_20 rfl (lv_at hl 1 rfl) ?_
    obtain ⟨_, N6, e_N6, hp⟩ := owp_ob2 hp
    refine iv_X7_copyFrom (rest := []) mw_X3_43 X hR hS e_N6 hl.1 (Nat.le_of_ble_eq_true rfl) ⟨Nat.le_of_ble_eq_true rfl, Nat.le_of_ble_eq_true rfl⟩ ⟨Nat.le_of_ble_eq_true rfl, Nat.le_of_ble_eq_true rfl⟩ dX3_totalOf_21 (fun H locs hR hS => ?_)
    refine lv_aload_n hx hb dX3_totalOf_24 rfl (lv_at hl 0 rfl) ?_
    obtain ⟨x7, e_x7, hp⟩ := owp_ob hp
    refine gf_X3_12 X hR e_x7 dX3_totalOf_25 ?_
    refine lv_iload_n hx hb dX3_totalOf_28 rfl (lv_at hl 2 rfl) ?_
    obtain ⟨N8, e_N8, hp⟩ := owp_ob hp
    refine pf_X3_78 X hR hS e_N8 dX3_totalOf_29 (fun H locs hR hS => ?_)
    refine lv_aload_n hx hb dX3_totalOf_32 rfl (lv_at hl 0 rfl) ?_
    obtain ⟨x10, N9, e_N9, hp⟩ := owp_ob2 hp
    refine iv_X3_runToTotal (rest := []) mw_X3_81 X hR hS e_N9 hl.1 (Nat.le_of_ble_eq_true rfl) ⟨Nat.le_of_ble_eq_true rfl, Nat.le_of_ble_eq_true rfl⟩ ⟨Nat.le_of_ble_eq_true rfl, Nat.le_of_ble_eq_true rfl⟩ dX3_totalOf_33 (fun H locs hR hS => ?_)
    exact hr _ _ _ _ _ _ hR hS dX3_totalOf_36 hp
  · have hp := owp_f k4 hp
    refine lv_iconst (v := (-1)) hx hb dX3_totalOf_14 (by decide) ?_
    exact hr _ _ _ _ _ _ hR hS dX3_totalOf_15 hp
end
theorem ct_X3_totalOf {v0 : Nat} {v1 : Nat} {v2 : Int32} {N N1 : AH} {r : Int32} (h : f_X3_totalOf v0 v1 v2 N = some (r, N1)) : Ct yX3_totalOf cX3_totalOf 3 (some .int) rm_X3_totalOf [.ref v0, .ref v1, .int v2] N (some (.int r)) N1 :=
  ab_met (own := RX3) (by decide +kernel) rfl (Nat.le_of_ble_eq_true rfl) (fun l G aC t b0 p e s m below meth c ls X hr hlk hnm hR hS hl => wk_X3_totalOf X (RtI_met X.1.1 X.1.2.1 hr hlk) _ _ _ _ _ _ _ hR hS hl (owp_of h))
theorem cw_X3_totalOf : Cond.code yX3_totalOf cX3_totalOf 3 (some .int) ∈ WT := WT_of 829 (by decide +kernel) (by decide +kernel)
theorem iv_X3_totalOf {p : Program} {l : Launch} {e : Env} {R : Room} {s : State} {m : MethodId} {args : Array Value} {below : List Frame} {meth : Method} {c : Code} {H : Heap} {locs : List Loc} {cells slots : Nat} {Q : State → Prop} {cc : ByteArray} {own : String} {nL : Nat} {G : va_G} {aC : Nat → ClassId} {t b0 : Nat} {N N1 : AH} {pc index : Nat} {ls : Array Slot} {rest : List Value} {v0 : Nat} {v1 : Nat} {v2 : Int32} {r : Int32} (w1 : Cond.methodLink own index yX3_totalOf ∈ WT) (X : CX cc own nL G aC t b0 p s m args c) (hR : Rp G aC b0 N H) (hS : va_S (fun q => b0 ≤ q) s.heap H locs) (h : f_X3_totalOf v0 v1 v2 N = some (r, N1)) (hls : ls.size = nL) (hW : (rest.map fun v => v.category).sum ≤ 8) (hR1 : 7 ≤ R.frames ∧ 168 ≤ R.locals) (hcs : cells + 0 ≤ R.cells ∧ slots + 0 ≤ R.slots) (hdg : decode cc pc = .ok (.invokevirtual index, 3)) (kk : ∀ (H1 : Heap) (locs1 : List Loc), Rp G aC b0 N1 H1 → va_S (fun q => b0 ≤ q) s.heap H1 locs1 → W p l e R s m args below meth c H1 locs1 cells slots Q (F0 m (pc + 3) ls (.int r :: rest))) : W p l e R s m args below meth c H locs cells slots Q (F0 m pc ls (.int v2 :: .ref v1 :: .ref v0 :: rest)) :=
  ab_callV (n := 2) (As := [.ref v1, .int v2]) X hR hS (ct_X3_totalOf h) (ob_rc (c := 3) (N := N) (a := v0) h) (T := TX3) (k := 7) (C := RX3) rfl w1 (WT_of 827 (by decide +kernel) (by decide +kernel)) (WT_of 828 (by decide +kernel) (by decide +kernel)) (WT_of 91 (by decide +kernel) (by decide +kernel)) cw_X3_totalOf ⟨rfl, by decide +kernel, by decide +kernel, by decide +kernel⟩ rfl hls hW hR1 hcs rfl hdg kk
-- X3_listOpen
theorem gf_X3_36 {p : Program} {l : Launch} {e : Env} {R : Room} {s : State} {m : MethodId} {args : Array Value} {below : List Frame} {meth : Method} {c : Code} {H : Heap} {locs : List Loc} {cells slots : Nat} {Q : State → Prop} {cc : ByteArray} {nL : Nat} {G : va_G} {aC : Nat → ClassId} {t b0 : Nat} {N : AH} {pc : Nat} {ls : Array Slot} {rest : List Value} {a : Nat} {v : Nat} (X : CX cc RX3 nL G aC t b0 p s m args c) (hR0 : Rp G aC b0 N H) (hv : hR N a 3 6 = some v) (hdg : decode cc pc = .ok (.getfield 36, 3)) (kk : W p l e R s m args below meth c H locs cells slots Q (F0 m (pc + 3) ls (.ref v :: rest))) : W p l e R s m args below meth c H locs cells slots Q (F0 m pc ls (.ref a :: rest)) := by
  obtain ⟨fs, h1, h2⟩ := hR_ok hv
  exact ab_get (C := RX3) (T := TX3) (n := 7) X hR0 h1 h2 rfl inX3 (by decide) (WT_of 417 (by decide +kernel) (by decide +kernel)) hdg kk
theorem gf_X3_116 {p : Program} {l : Launch} {e : Env} {R : Room} {s : State} {m : MethodId} {args : Array Value} {below : List Frame} {meth : Method} {c : Code} {H : Heap} {locs : List Loc} {cells slots : Nat} {Q : State → Prop} {cc : ByteArray} {nL : Nat} {G : va_G} {aC : Nat → ClassId} {t b0 : Nat} {N : AH} {pc : Nat} {ls : Array Slot} {rest : List Value} {a : Nat} {v : Int32} (X : CX cc RX3 nL G aC t b0 p s m args c) (hR0 : Rp G aC b0 N H) (hv : hI N a 7 6 = some v) (hdg : decode cc pc = .ok (.getfield 116, 3)) (kk : W p l e R s m args below meth c H locs cells slots Q (F0 m (pc + 3) ls (.int v :: rest))) : W p l e R s m args below meth c H locs cells slots Q (F0 m pc ls (.ref a :: rest)) := by
  obtain ⟨fs, h1, h2⟩ := hI_ok hv
  exact ab_get (C := RX7) (T := TX7) (n := 12) X hR0 h1 h2 rfl inX7 (by decide) (WT_of 276 (by decide +kernel) (by decide +kernel)) hdg kk
theorem dX3_listOpen_0 : decode cX3_listOpen 0 = .ok (.iconst 0, 1) := by decide +kernel
theorem dX3_listOpen_1 : decode cX3_listOpen 1 = .ok (.istore_n 2, 1) := by decide +kernel
theorem dX3_listOpen_2 : decode cX3_listOpen 2 = .ok (.iconst 0, 1) := by decide +kernel
theorem dX3_listOpen_3 : decode cX3_listOpen 3 = .ok (.istore_n 3, 1) := by decide +kernel
theorem dX3_listOpen_4 : decode cX3_listOpen 4 = .ok (.iload_n 3, 1) := by decide +kernel
theorem dX3_listOpen_5 : decode cX3_listOpen 5 = .ok (.aload_n 1, 1) := by decide +kernel
theorem dX3_listOpen_6 : decode cX3_listOpen 6 = .ok (.getfield 116, 3) := by decide +kernel
theorem dX3_listOpen_9 : decode cX3_listOpen 9 = .ok (.if_icmp .ge 36, 3) := by decide +kernel
theorem dX3_listOpen_12 : decode cX3_listOpen 12 = .ok (.iload_n 2, 1) := by decide +kernel
theorem dX3_listOpen_13 : decode cX3_listOpen 13 = .ok (.iconst 4, 1) := by decide +kernel
theorem dX3_listOpen_14 : decode cX3_listOpen 14 = .ok (.if_icmp .ge 31, 3) := by decide +kernel
theorem dX3_listOpen_17 : decode cX3_listOpen 17 = .ok (.aload_n 1, 1) := by decide +kernel
theorem dX3_listOpen_18 : decode cX3_listOpen 18 = .ok (.getfield 56, 3) := by decide +kernel
theorem dX3_listOpen_21 : decode cX3_listOpen 21 = .ok (.iload_n 3, 1) := by decide +kernel
theorem dX3_listOpen_22 : decode cX3_listOpen 22 = .ok (.aaload, 1) := by decide +kernel
theorem dX3_listOpen_23 : decode cX3_listOpen 23 = .ok (.invokevirtual 60, 3) := by decide +kernel
theorem dX3_listOpen_26 : decode cX3_listOpen 26 = .ok (.ifCond .eq 13, 3) := by decide +kernel
theorem dX3_listOpen_29 : decode cX3_listOpen 29 = .ok (.aload_n 0, 1) := by decide +kernel
theorem dX3_listOpen_30 : decode cX3_listOpen 30 = .ok (.getfield 36, 3) := by decide +kernel
theorem dX3_listOpen_33 : decode cX3_listOpen 33 = .ok (.iload_n 2, 1) := by decide +kernel
theorem dX3_listOpen_34 : decode cX3_listOpen 34 = .ok (.iload_n 3, 1) := by decide +kernel
theorem dX3_listOpen_35 : decode cX3_listOpen 35 = .ok (.iastore, 1) := by decide +kernel
theorem dX3_listOpen_36 : decode cX3_listOpen 36 = .ok (.iinc 2 1, 3) := by decide +kernel
theorem dX3_listOpen_39 : decode cX3_listOpen 39 = .ok (.iinc 3 1, 3) := by decide +kernel
theorem dX3_listOpen_42 : decode cX3_listOpen 42 = .ok (.goto (-38), 3) := by decide +kernel
theorem dX3_listOpen_45 : decode cX3_listOpen 45 = .ok (.iload_n 2, 1) := by decide +kernel
theorem dX3_listOpen_46 : decode cX3_listOpen 46 = .ok (.ireturn, 1) := by decide +kernel
def rm_X3_listOpen : Room := { frames := 1, cells := 0, slots := 0, locals := 20 }
section
variable {p : Program} {l : Launch} {e : Env} {s : State} {m : MethodId} {args : Array Value} {below : List Frame} {meth : Method} {c : Code} {Q : State → Prop} {G : va_G} {aC : Nat → ClassId} {t b0 : Nat}
def f_X3_listOpen_L4 (v0 : Nat) (v1 : Nat) (k45 : Int32 → AH → Option (Int32 × AH)) : Nat → Int32 → Int32 → AH → Option (Int32 × AH)
  | 0, _, _, _ => none
  | n + 1, v2, v3, N => ob (hI N v1 7 6) (fun x1 => if x1 ≤ v3 then k45 v2 N else if (4 : Int32) ≤ v2 then k45 v2 N else ob (hR N v1 7 10) (fun x4 => ob (aR N 2 x4 v3) (fun x5 => ob2 (f_X4_isOpen x5 N) (fun x7 N6 => if x7 = 0 then f_X3_listOpen_L4 v0 v1 k45 n v2 (v3 + 1) N6 else ob (hR N6 v0 3 6) (fun x9 => ob (sI N6 x9 v2 v3) (fun N10 => f_X3_listOpen_L4 v0 v1 k45 n (v2 + 1) (v3 + 1) N10))))))
set_option maxHeartbeats 4000000 in
set_option maxRecDepth 100000 in
theorem w_X3_listOpen_L4 {P : Int32 × AH → Prop} (X : CX cX3_listOpen RX3 4 G aC t b0 p s m args c) (hr : RtI p l e rm_X3_listOpen s m args below meth c 0 0 Q cX3_listOpen G aC b0 P) (v0 : Nat) (v1 : Nat) {k45 : Int32 → AH → Option (Int32 × AH)}
    (hk45 : ∀ (v2 : Int32) (N : AH) (H : Heap) (locs : List Loc) (ls : Array Slot), Rp G aC b0 N H → va_S (fun q => b0 ≤ q) s.heap H locs → lv_has ls 4 [(2, .int v2)] → owp (k45 v2 N) P → W p l e rm_X3_listOpen s m args below meth c H locs 0 0 Q (F0 m 45 ls [])) :
    ∀ (n : Nat) (v2 : Int32) (v3 : Int32) (N : AH) (H : Heap) (locs : List Loc) (ls : Array Slot), Rp G aC b0 N H → va_S (fun q => b0 ≤ q) s.heap H locs → lv_has ls 4 [(0, .ref v0), (1, .ref v1), (2, .int v2), (3, .int v3)] → owp (f_X3_listOpen_L4 v0 v1 k45 n v2 v3 N) P → W p l e rm_X3_listOpen s m args below meth c H locs 0 0 Q (F0 m 4 ls []) := by
  have hx := X.1.1
  have hb := X.1.2.1
  intro n
  induction n with
  | zero =>
    intro v2 v3 N H locs ls hR hS hl hp
    exact (show False from hp).elim
  | succ n ih =>
    intro v2 v3 N H locs ls hR hS hl hp
    rw [f_X3_listOpen_L4] at hp
    refine lv_iload_n hx hb dX3_listOpen_4 rfl (lv_at hl 3 rfl) ?_
    refine lv_aload_n hx hb dX3_listOpen_5 rfl (lv_at hl 1 rfl) ?_
    obtain ⟨x1, e_x1, hp⟩ := owp_ob hp
    refine gf_X3_116 X hR e_x1 dX3_listOpen_6 ?_
    refine lv_icmp_ge (tgt := 45) hx hb dX3_listOpen_9 (by decide) (fun k2 => ?_) (fun k2 => ?_)
    · have hp := owp_t k2 hp
      exact hk45 _ _ _ _ _ hR hS (lv_sub hl [2] rfl) hp
    · have hp := owp_f k2 hp
      refine lv_iload_n hx hb dX3_listOpen_12 rfl (lv_at hl 2 rfl) ?_
      refine lv_iconst (v := (4)) hx hb dX3_listOpen_13 (by decide) ?_
      refine lv_icmp_ge (tgt := 45) hx hb dX3_listOpen_14 (by decide) (fun k3 => ?_) (fun k3 => ?_)
      · have hp := owp_t k3 hp
        exact hk45 _ _ _ _ _ hR hS (lv_sub hl [2] rfl) hp
      · have hp := owp_f k3 hp
        refine lv_aload_n hx hb dX3_listOpen_17 rfl (lv_at hl 1 rfl) ?_
        obtain ⟨x4, e_x4, hp⟩ := owp_ob hp
        refine gf_X3_56 X hR e_x4 dX3_listOpen_18 ?_
        refine lv_iload_n hx hb dX3_listOpen_21 rfl (lv_at hl 3 rfl) ?_
        obtain ⟨x5, e_x5, hp⟩ := owp_ob hp
        refine ab_aald X hR (kd := 2) rfl e_x5 dX3_listOpen_22 ?_
        obtain ⟨x7, N6, e_N6, hp⟩ := owp_ob2 hp
        refine iv_X4_isOpen (rest := []) mw_X3_60 X hR hS e_N6 hl.1 (Nat.le_of_ble_eq_true rfl) ⟨Nat.le_of_ble_eq_true rfl, Nat.le_of_ble_eq_true rfl⟩ ⟨Nat.le_of_ble_eq_true rfl, Nat.le_of_ble_eq_true rfl⟩ dX3_listOpen_23 (fun H locs hR hS => ?_)
        refine lv_if_eq (tgt := 39) hx hb dX3_listOpen_26 (by decide) (fun k8 => ?_) (fun k8 => ?_)
        · have hp := owp_t k8 hp
          refine lv_iinc (v := v3 + 1) (lv' := [(3, .int (v3 + 1)), (0, .ref v0), (1, .ref v1), (2, .int v2)]) hx hb dX3_listOpen_39 hl (k := 3) rfl rfl (by decide) rfl (fun ls hl => ?_)
          refine lv_goto (tgt := 4) hx hb dX3_listOpen_42 (by decide) ?_
          exact ih _ _ _ _ _ _ hR hS (lv_sub hl [1, 2, 3, 0] rfl) hp
        · have hp := owp_f k8 hp
          refine lv_aload_n hx hb dX3_listOpen_29 rfl (lv_at hl 0 rfl) ?_
          obtain ⟨x9, e_x9, hp⟩ := owp_ob hp
          refine gf_X3_36 X hR e_x9 dX3_listOpen_30 ?_
          refine lv_iload_n hx hb dX3_listOpen_33 rfl (lv_at hl 2 rfl) ?_
          refine lv_iload_n hx hb dX3_listOpen_34 rfl (lv_at hl 3 rfl) ?_
          obtain ⟨N10, e_N10, hp⟩ := owp_ob hp
          refine ab_iast X hR hS e_N10 dX3_listOpen_35 (fun H locs hR hS => ?_)
          refine lv_iinc (v := v2 + 1) (lv' := [(2, .int (v2 + 1)), (0, .ref v0), (1, .ref v1), (3, .int v3)]) hx hb dX3_listOpen_36 hl (k := 2) rfl rfl (by decide) rfl (fun ls hl => ?_)
          refine lv_iinc (v := v3 + 1) (lv' := [(3, .int (v3 + 1)), (2, .int (v2 + 1)), (0, .ref v0), (1, .ref v1)]) hx hb dX3_listOpen_39 hl (k := 3) rfl rfl (by decide) rfl (fun ls hl => ?_)
          refine lv_goto (tgt := 4) hx hb dX3_listOpen_42 (by decide) ?_
          exact ih _ _ _ _ _ _ hR hS (lv_sub hl [2, 3, 1, 0] rfl) hp
def f_X3_listOpen (v0 : Nat) (v1 : Nat) (N : AH) : Option (Int32 × AH) := ob (iO N v0 3) (fun _ => f_X3_listOpen_L4 v0 v1 (fun v11 N12 => some (v11, N12)) FU (0 : Int32) (0 : Int32) N)
set_option maxHeartbeats 4000000 in
set_option maxRecDepth 100000 in
theorem wk_X3_listOpen {P : Int32 × AH → Prop} (X : CX cX3_listOpen RX3 4 G aC t b0 p s m args c) (hr : RtI p l e rm_X3_listOpen s m args below meth c 0 0 Q cX3_listOpen G aC b0 P) (v0 : Nat) (v1 : Nat) (N : AH) (H : Heap) (locs : List Loc) (ls : Array Slot) (hR : Rp G aC b0 N H) (hS : va_S (fun q => b0 ≤ q) s.heap H locs) (hl : lv_has ls 4 [(0, .ref v0), (1, .ref v1)]) (hp : owp (f_X3_listOpen v0 v1 N) P) : W p l e rm_X3_listOpen s m args below meth c H locs 0 0 Q (F0 m 0 ls []) := by
  have hx := X.1.1
  have hb := X.1.2.1
  unfold f_X3_listOpen at hp
  obtain ⟨_, _, hp⟩ := owp_ob hp
  refine lv_iconst (v := (0)) hx hb dX3_listOpen_0 (by decide) ?_
  refine lv_istore_n (lv' := [(2, .int (0 : Int32)), (0, .ref v0), (1, .ref v1)]) hx hb dX3_listOpen_1 rfl hl (by decide) rfl (fun ls hl => ?_)
  refine lv_iconst (v := (0)) hx hb dX3_listOpen_2 (by decide) ?_
  refine lv_istore_n (lv' := [(3, .int (0 : Int32)), (2, .int (0 : Int32)), (0, .ref v0), (1, .ref v1)]) hx hb dX3_listOpen_3 rfl hl (by decide) rfl (fun ls hl => ?_)
  refine w_X3_listOpen_L4 X hr _ _ (fun v11 N12 H locs ls hR hS hl hp => ?_) _ _ _ _ _ _ _ hR hS (lv_sub hl [2, 3, 1, 0] rfl) hp
  refine lv_iload_n hx hb dX3_listOpen_45 rfl (lv_at hl 0 rfl) ?_
  exact hr _ _ _ _ _ _ hR hS dX3_listOpen_46 hp
end
theorem ct_X3_listOpen {v0 : Nat} {v1 : Nat} {N N1 : AH} {r : Int32} (h : f_X3_listOpen v0 v1 N = some (r, N1)) : Ct yX3_listOpen cX3_listOpen 4 (some .int) rm_X3_listOpen [.ref v0, .ref v1] N (some (.int r)) N1 :=
  ab_met (own := RX3) (by decide +kernel) rfl (Nat.le_of_ble_eq_true rfl) (fun l G aC t b0 p e s m below meth c ls X hr hlk hnm hR hS hl => wk_X3_listOpen X (RtI_met X.1.1 X.1.2.1 hr hlk) _ _ _ _ _ _ hR hS hl (owp_of h))
theorem cw_X3_listOpen : Cond.code yX3_listOpen cX3_listOpen 4 (some .int) ∈ WT := WT_of 874 (by decide +kernel) (by decide +kernel)
theorem iv_X3_listOpen {p : Program} {l : Launch} {e : Env} {R : Room} {s : State} {m : MethodId} {args : Array Value} {below : List Frame} {meth : Method} {c : Code} {H : Heap} {locs : List Loc} {cells slots : Nat} {Q : State → Prop} {cc : ByteArray} {own : String} {nL : Nat} {G : va_G} {aC : Nat → ClassId} {t b0 : Nat} {N N1 : AH} {pc index : Nat} {ls : Array Slot} {rest : List Value} {v0 : Nat} {v1 : Nat} {r : Int32} (w1 : Cond.methodLink own index yX3_listOpen ∈ WT) (X : CX cc own nL G aC t b0 p s m args c) (hR : Rp G aC b0 N H) (hS : va_S (fun q => b0 ≤ q) s.heap H locs) (h : f_X3_listOpen v0 v1 N = some (r, N1)) (hls : ls.size = nL) (hW : (rest.map fun v => v.category).sum ≤ 8) (hR1 : 2 ≤ R.frames ∧ 43 ≤ R.locals) (hcs : cells + 0 ≤ R.cells ∧ slots + 0 ≤ R.slots) (hdg : decode cc pc = .ok (.invokevirtual index, 3)) (kk : ∀ (H1 : Heap) (locs1 : List Loc), Rp G aC b0 N1 H1 → va_S (fun q => b0 ≤ q) s.heap H1 locs1 → W p l e R s m args below meth c H1 locs1 cells slots Q (F0 m (pc + 3) ls (.int r :: rest))) : W p l e R s m args below meth c H locs cells slots Q (F0 m pc ls (.ref v1 :: .ref v0 :: rest)) :=
  ab_callV (n := 1) (As := [.ref v1]) X hR hS (ct_X3_listOpen h) (ob_rc (c := 3) (N := N) (a := v0) h) (T := TX3) (k := 7) (C := RX3) rfl w1 (WT_of 873 (by decide +kernel) (by decide +kernel)) (WT_of 26 (by decide +kernel) (by decide +kernel)) (WT_of 91 (by decide +kernel) (by decide +kernel)) cw_X3_listOpen ⟨rfl, by decide +kernel, by decide +kernel, by decide +kernel⟩ rfl hls hW hR1 hcs rfl hdg kk
