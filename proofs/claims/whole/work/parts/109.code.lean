-- X10_bound
theorem dX10_bound_0 : decode cX10_bound 0 = .ok (.iconst 0, 1) := by decide +kernel
theorem dX10_bound_1 : decode cX10_bound 1 = .ok (.istore_n 1, 1) := by decide +kernel
theorem dX10_bound_2 : decode cX10_bound 2 = .ok (.iconst 0, 1) := by decide +kernel
theorem dX10_bound_3 : decode cX10_bound 3 = .ok (.istore_n 2, 1) := by decide +kernel
theorem dX10_bound_4 : decode cX10_bound 4 = .ok (.iconst 0, 1) := by decide +kernel
theorem dX10_bound_5 : decode cX10_bound 5 = .ok (.istore_n 3, 1) := by decide +kernel
theorem dX10_bound_6 : decode cX10_bound 6 = .ok (.iload_n 3, 1) := by decide +kernel
theorem dX10_bound_7 : decode cX10_bound 7 = .ok (.bipush 16, 2) := by decide +kernel
theorem dX10_bound_9 : decode cX10_bound 9 = .ok (.if_icmp .ge 199, 3) := by decide +kernel
theorem dX10_bound_12 : decode cX10_bound 12 = .ok (.iconst 0, 1) := by decide +kernel
theorem dX10_bound_13 : decode cX10_bound 13 = .ok (.istore 4, 2) := by decide +kernel
theorem dX10_bound_15 : decode cX10_bound 15 = .ok (.iconst 0, 1) := by decide +kernel
theorem dX10_bound_16 : decode cX10_bound 16 = .ok (.istore 5, 2) := by decide +kernel
theorem dX10_bound_18 : decode cX10_bound 18 = .ok (.iload 5, 2) := by decide +kernel
theorem dX10_bound_20 : decode cX10_bound 20 = .ok (.aload_n 0, 1) := by decide +kernel
theorem dX10_bound_21 : decode cX10_bound 21 = .ok (.getfield 7, 3) := by decide +kernel
theorem dX10_bound_24 : decode cX10_bound 24 = .ok (.bipush 6, 2) := by decide +kernel
theorem dX10_bound_26 : decode cX10_bound 26 = .ok (.iaload, 1) := by decide +kernel
theorem dX10_bound_27 : decode cX10_bound 27 = .ok (.if_icmp .ge 113, 3) := by decide +kernel
theorem dX10_bound_30 : decode cX10_bound 30 = .ok (.iconst 0, 1) := by decide +kernel
theorem dX10_bound_31 : decode cX10_bound 31 = .ok (.istore 6, 2) := by decide +kernel
theorem dX10_bound_33 : decode cX10_bound 33 = .ok (.iload 6, 2) := by decide +kernel
theorem dX10_bound_35 : decode cX10_bound 35 = .ok (.aload_n 0, 1) := by decide +kernel
theorem dX10_bound_36 : decode cX10_bound 36 = .ok (.iload 5, 2) := by decide +kernel
theorem dX10_bound_38 : decode cX10_bound 38 = .ok (.iconst 5, 1) := by decide +kernel
theorem dX10_bound_39 : decode cX10_bound 39 = .ok (.invokevirtual 52, 3) := by decide +kernel
theorem dX10_bound_42 : decode cX10_bound 42 = .ok (.if_icmp .ge 92, 3) := by decide +kernel
theorem dX10_bound_45 : decode cX10_bound 45 = .ok (.aload_n 0, 1) := by decide +kernel
theorem dX10_bound_46 : decode cX10_bound 46 = .ok (.iload 5, 2) := by decide +kernel
theorem dX10_bound_48 : decode cX10_bound 48 = .ok (.invokevirtual 107, 3) := by decide +kernel
theorem dX10_bound_51 : decode cX10_bound 51 = .ok (.iconst 2, 1) := by decide +kernel
theorem dX10_bound_52 : decode cX10_bound 52 = .ok (.if_icmp .ge 82, 3) := by decide +kernel
theorem dX10_bound_55 : decode cX10_bound 55 = .ok (.iload_n 3, 1) := by decide +kernel
theorem dX10_bound_56 : decode cX10_bound 56 = .ok (.bipush 8, 2) := by decide +kernel
theorem dX10_bound_58 : decode cX10_bound 58 = .ok (.if_icmp .ge 24, 3) := by decide +kernel
theorem dX10_bound_61 : decode cX10_bound 61 = .ok (.aload_n 0, 1) := by decide +kernel
theorem dX10_bound_62 : decode cX10_bound 62 = .ok (.iload 5, 2) := by decide +kernel
theorem dX10_bound_64 : decode cX10_bound 64 = .ok (.iload 6, 2) := by decide +kernel
theorem dX10_bound_66 : decode cX10_bound 66 = .ok (.iconst 0, 1) := by decide +kernel
theorem dX10_bound_67 : decode cX10_bound 67 = .ok (.invokevirtual 64, 3) := by decide +kernel
theorem dX10_bound_70 : decode cX10_bound 70 = .ok (.iload_n 3, 1) := by decide +kernel
theorem dX10_bound_71 : decode cX10_bound 71 = .ok (.if_icmp .ne 7, 3) := by decide +kernel
theorem dX10_bound_74 : decode cX10_bound 74 = .ok (.iconst 1, 1) := by decide +kernel
theorem dX10_bound_75 : decode cX10_bound 75 = .ok (.goto 28, 3) := by decide +kernel
theorem dX10_bound_78 : decode cX10_bound 78 = .ok (.iconst 0, 1) := by decide +kernel
theorem dX10_bound_79 : decode cX10_bound 79 = .ok (.goto 24, 3) := by decide +kernel
theorem dX10_bound_82 : decode cX10_bound 82 = .ok (.aload_n 0, 1) := by decide +kernel
theorem dX10_bound_83 : decode cX10_bound 83 = .ok (.iload 5, 2) := by decide +kernel
theorem dX10_bound_85 : decode cX10_bound 85 = .ok (.iload 6, 2) := by decide +kernel
theorem dX10_bound_87 : decode cX10_bound 87 = .ok (.iconst 1, 1) := by decide +kernel
theorem dX10_bound_88 : decode cX10_bound 88 = .ok (.invokevirtual 64, 3) := by decide +kernel
theorem dX10_bound_91 : decode cX10_bound 91 = .ok (.iload_n 3, 1) := by decide +kernel
theorem dX10_bound_92 : decode cX10_bound 92 = .ok (.bipush 8, 2) := by decide +kernel
theorem dX10_bound_94 : decode cX10_bound 94 = .ok (.isub, 1) := by decide +kernel
theorem dX10_bound_95 : decode cX10_bound 95 = .ok (.if_icmp .ne 7, 3) := by decide +kernel
theorem dX10_bound_98 : decode cX10_bound 98 = .ok (.iconst 1, 1) := by decide +kernel
theorem dX10_bound_99 : decode cX10_bound 99 = .ok (.goto 4, 3) := by decide +kernel
theorem dX10_bound_102 : decode cX10_bound 102 = .ok (.iconst 0, 1) := by decide +kernel
theorem dX10_bound_103 : decode cX10_bound 103 = .ok (.istore 7, 2) := by decide +kernel
theorem dX10_bound_105 : decode cX10_bound 105 = .ok (.iload 4, 2) := by decide +kernel
theorem dX10_bound_107 : decode cX10_bound 107 = .ok (.iload 7, 2) := by decide +kernel
theorem dX10_bound_109 : decode cX10_bound 109 = .ok (.ifCond .eq 15, 3) := by decide +kernel
theorem dX10_bound_112 : decode cX10_bound 112 = .ok (.aload_n 0, 1) := by decide +kernel
theorem dX10_bound_113 : decode cX10_bound 113 = .ok (.iload 5, 2) := by decide +kernel
theorem dX10_bound_115 : decode cX10_bound 115 = .ok (.iload 6, 2) := by decide +kernel
theorem dX10_bound_117 : decode cX10_bound 117 = .ok (.iconst 3, 1) := by decide +kernel
theorem dX10_bound_118 : decode cX10_bound 118 = .ok (.invokevirtual 64, 3) := by decide +kernel
theorem dX10_bound_121 : decode cX10_bound 121 = .ok (.goto 4, 3) := by decide +kernel
theorem dX10_bound_124 : decode cX10_bound 124 = .ok (.iconst 0, 1) := by decide +kernel
theorem dX10_bound_125 : decode cX10_bound 125 = .ok (.iadd, 1) := by decide +kernel
theorem dX10_bound_126 : decode cX10_bound 126 = .ok (.istore 4, 2) := by decide +kernel
theorem dX10_bound_128 : decode cX10_bound 128 = .ok (.iinc 6 1, 3) := by decide +kernel
theorem dX10_bound_131 : decode cX10_bound 131 = .ok (.goto (-98), 3) := by decide +kernel
theorem dX10_bound_134 : decode cX10_bound 134 = .ok (.iinc 5 1, 3) := by decide +kernel
theorem dX10_bound_137 : decode cX10_bound 137 = .ok (.goto (-119), 3) := by decide +kernel
theorem dX10_bound_140 : decode cX10_bound 140 = .ok (.aload_n 0, 1) := by decide +kernel
theorem dX10_bound_141 : decode cX10_bound 141 = .ok (.getfield 7, 3) := by decide +kernel
theorem dX10_bound_144 : decode cX10_bound 144 = .ok (.bipush 10, 2) := by decide +kernel
theorem dX10_bound_146 : decode cX10_bound 146 = .ok (.iload_n 3, 1) := by decide +kernel
theorem dX10_bound_147 : decode cX10_bound 147 = .ok (.iadd, 1) := by decide +kernel
theorem dX10_bound_148 : decode cX10_bound 148 = .ok (.iaload, 1) := by decide +kernel
theorem dX10_bound_149 : decode cX10_bound 149 = .ok (.istore 5, 2) := by decide +kernel
theorem dX10_bound_151 : decode cX10_bound 151 = .ok (.iload_n 2, 1) := by decide +kernel
theorem dX10_bound_152 : decode cX10_bound 152 = .ok (.ifCond .ne 13, 3) := by decide +kernel
theorem dX10_bound_155 : decode cX10_bound 155 = .ok (.iload 4, 2) := by decide +kernel
theorem dX10_bound_157 : decode cX10_bound 157 = .ok (.ifCond .le 12, 3) := by decide +kernel
theorem dX10_bound_160 : decode cX10_bound 160 = .ok (.iload 5, 2) := by decide +kernel
theorem dX10_bound_162 : decode cX10_bound 162 = .ok (.ifCond .ne 7, 3) := by decide +kernel
theorem dX10_bound_165 : decode cX10_bound 165 = .ok (.iconst 1, 1) := by decide +kernel
theorem dX10_bound_166 : decode cX10_bound 166 = .ok (.goto 4, 3) := by decide +kernel
theorem dX10_bound_169 : decode cX10_bound 169 = .ok (.iconst 0, 1) := by decide +kernel
theorem dX10_bound_170 : decode cX10_bound 170 = .ok (.istore_n 2, 1) := by decide +kernel
theorem dX10_bound_171 : decode cX10_bound 171 = .ok (.iload 5, 2) := by decide +kernel
theorem dX10_bound_173 : decode cX10_bound 173 = .ok (.ifCond .ne 7, 3) := by decide +kernel
theorem dX10_bound_176 : decode cX10_bound 176 = .ok (.iconst 0, 1) := by decide +kernel
theorem dX10_bound_177 : decode cX10_bound 177 = .ok (.goto 10, 3) := by decide +kernel
theorem dX10_bound_180 : decode cX10_bound 180 = .ok (.iload 4, 2) := by decide +kernel
theorem dX10_bound_182 : decode cX10_bound 182 = .ok (.iload 5, 2) := by decide +kernel
theorem dX10_bound_184 : decode cX10_bound 184 = .ok (.invokestatic 68, 3) := by decide +kernel
theorem dX10_bound_187 : decode cX10_bound 187 = .ok (.istore 6, 2) := by decide +kernel
theorem dX10_bound_189 : decode cX10_bound 189 = .ok (.iload 6, 2) := by decide +kernel
theorem dX10_bound_191 : decode cX10_bound 191 = .ok (.iload_n 1, 1) := by decide +kernel
theorem dX10_bound_192 : decode cX10_bound 192 = .ok (.if_icmp .le 8, 3) := by decide +kernel
theorem dX10_bound_195 : decode cX10_bound 195 = .ok (.iload 6, 2) := by decide +kernel
theorem dX10_bound_197 : decode cX10_bound 197 = .ok (.goto 4, 3) := by decide +kernel
theorem dX10_bound_200 : decode cX10_bound 200 = .ok (.iload_n 1, 1) := by decide +kernel
theorem dX10_bound_201 : decode cX10_bound 201 = .ok (.istore_n 1, 1) := by decide +kernel
theorem dX10_bound_202 : decode cX10_bound 202 = .ok (.iinc 3 1, 3) := by decide +kernel
theorem dX10_bound_205 : decode cX10_bound 205 = .ok (.goto (-199), 3) := by decide +kernel
theorem dX10_bound_208 : decode cX10_bound 208 = .ok (.iload_n 2, 1) := by decide +kernel
theorem dX10_bound_209 : decode cX10_bound 209 = .ok (.ifCond .eq 7, 3) := by decide +kernel
theorem dX10_bound_212 : decode cX10_bound 212 = .ok (.iconst (-1), 1) := by decide +kernel
theorem dX10_bound_213 : decode cX10_bound 213 = .ok (.goto 4, 3) := by decide +kernel
theorem dX10_bound_216 : decode cX10_bound 216 = .ok (.iload_n 1, 1) := by decide +kernel
theorem dX10_bound_217 : decode cX10_bound 217 = .ok (.ireturn, 1) := by decide +kernel
def rm_X10_bound : Room := { frames := 2, cells := 0, slots := 0, locals := 45 }
section
variable {p : Program} {l : Launch} {e : Env} {s : State} {m : MethodId} {args : Array Value} {below : List Frame} {meth : Method} {c : Code} {Q : State → Prop} {G : va_G} {aC : Nat → ClassId} {t b0 : Nat}
def f_X10_bound_J103 (k33 : Int32 → Int32 → AH → Option (Int32 × AH)) (v0 : Nat) (v1 : Int32) (v2 : Int32) (v3 : Int32) (v4 : Int32) (v5 : Int32) (v6 : Int32) (w0 : Int32) (N : AH) : Option (Int32 × AH) := if w0 = 0 then k33 (v4 + (0 : Int32)) (v6 + 1) N else ob2 (f_X10_flowOf v0 v5 v6 (3 : Int32) N) (fun x17 N16 => k33 (v4 + x17) (v6 + 1) N16)
set_option maxHeartbeats 4000000 in
set_option maxRecDepth 100000 in
theorem w_X10_bound_J103 {P : Int32 × AH → Prop} (X : CX cX10_bound RX10 8 G aC t b0 p s m args c) (hr : RtI p l e rm_X10_bound s m args below meth c 0 0 Q cX10_bound G aC b0 P) (v0 : Nat) (v1 : Int32) (v2 : Int32) (v3 : Int32) (v4 : Int32) (v5 : Int32) (v6 : Int32) (w0 : Int32) {k33 : Int32 → Int32 → AH → Option (Int32 × AH)}
    (hk33 : ∀ (v4 : Int32) (v6 : Int32) (N : AH) (H : Heap) (locs : List Loc) (ls : Array Slot), Rp G aC b0 N H → va_S (fun q => b0 ≤ q) s.heap H locs → lv_has ls 8 [(0, .ref v0), (1, .int v1), (2, .int v2), (3, .int v3), (4, .int v4), (5, .int v5), (6, .int v6)] → owp (k33 v4 v6 N) P → W p l e rm_X10_bound s m args below meth c H locs 0 0 Q (F0 m 33 ls [])) (N : AH) (H : Heap) (locs : List Loc) (ls : Array Slot) (hR : Rp G aC b0 N H) (hS : va_S (fun q => b0 ≤ q) s.heap H locs) (hl : lv_has ls 8 [(0, .ref v0), (1, .int v1), (2, .int v2), (3, .int v3), (4, .int v4), (5, .int v5), (6, .int v6)]) (hp : owp (f_X10_bound_J103 k33 v0 v1 v2 v3 v4 v5 v6 w0 N) P) : W p l e rm_X10_bound s m args below meth c H locs 0 0 Q (F0 m 103 ls [.int w0]) := by
  have hx := X.1.1
  have hb := X.1.2.1
  unfold f_X10_bound_J103 at hp
  refine lv_istore (lv' := [(7, .int w0), (0, .ref v0), (1, .int v1), (2, .int v2), (3, .int v3), (4, .int v4), (5, .int v5), (6, .int v6)]) hx hb dX10_bound_103 hl (by decide) rfl (fun ls hl => ?_)
  refine lv_iload hx hb dX10_bound_105 (lv_at hl 5 rfl) ?_
  refine lv_iload hx hb dX10_bound_107 (lv_at hl 0 rfl) ?_
  refine lv_if_eq (tgt := 124) hx hb dX10_bound_109 (by decide) (fun k15 => ?_) (fun k15 => ?_)
  · have hp := owp_t k15 hp
    refine lv_iconst (v := (0)) hx hb dX10_bound_124 (by decide) ?_
    refine lv_iadd hx hb dX10_bound_125 ?_
    refine lv_istore (lv' := [(4, .int (v4 + (0 : Int32))), (7, .int w0), (0, .ref v0), (1, .int v1), (2, .int v2), (3, .int v3), (5, .int v5), (6, .int v6)]) hx hb dX10_bound_126 hl (by decide) rfl (fun ls hl => ?_)
    refine lv_iinc (v := v6 + 1) (lv' := [(6, .int (v6 + 1)), (4, .int (v4 + (0 : Int32))), (7, .int w0), (0, .ref v0), (1, .int v1), (2, .int v2), (3, .int v3), (5, .int v5)]) hx hb dX10_bound_128 hl (k := 7) rfl rfl (by decide) rfl (fun ls hl => ?_)
    refine lv_goto (tgt := 33) hx hb dX10_bound_131 (by decide) ?_
    exact hk33 _ _ _ _ _ _ hR hS (lv_sub hl [3, 4, 5, 6, 1, 7, 0] rfl) hp
  · have hp := owp_f k15 hp
    refine lv_aload_n hx hb dX10_bound_112 rfl (lv_at hl 1 rfl) ?_
    refine lv_iload hx hb dX10_bound_113 (lv_at hl 6 rfl) ?_
    refine lv_iload hx hb dX10_bound_115 (lv_at hl 7 rfl) ?_
    refine lv_iconst (v := (3)) hx hb dX10_bound_117 (by decide) ?_
    obtain ⟨x17, N16, e_N16, hp⟩ := owp_ob2 hp
    refine iv_X10_flowOf (rest := [.int v4]) mw_X10_64 X hR hS e_N16 hl.1 (Nat.le_of_ble_eq_true rfl) ⟨Nat.le_of_ble_eq_true rfl, Nat.le_of_ble_eq_true rfl⟩ ⟨Nat.le_of_ble_eq_true rfl, Nat.le_of_ble_eq_true rfl⟩ dX10_bound_118 (fun H locs hR hS => ?_)
    refine lv_goto (tgt := 125) hx hb dX10_bound_121 (by decide) ?_
    refine lv_iadd hx hb dX10_bound_125 ?_
    refine lv_istore (lv' := [(4, .int (v4 + x17)), (7, .int w0), (0, .ref v0), (1, .int v1), (2, .int v2), (3, .int v3), (5, .int v5), (6, .int v6)]) hx hb dX10_bound_126 hl (by decide) rfl (fun ls hl => ?_)
    refine lv_iinc (v := v6 + 1) (lv' := [(6, .int (v6 + 1)), (4, .int (v4 + x17)), (7, .int w0), (0, .ref v0), (1, .int v1), (2, .int v2), (3, .int v3), (5, .int v5)]) hx hb dX10_bound_128 hl (k := 7) rfl rfl (by decide) rfl (fun ls hl => ?_)
    refine lv_goto (tgt := 33) hx hb dX10_bound_131 (by decide) ?_
    exact hk33 _ _ _ _ _ _ hR hS (lv_sub hl [3, 4, 5, 6, 1, 7, 0] rfl) hp
def f_X10_bound_L33 (v0 : Nat) (v1 : Int32) (v2 : Int32) (v3 : Int32) (v5 : Int32) (k134 : Int32 → AH → Option (Int32 × AH)) : Nat → Int32 → Int32 → AH → Option (Int32 × AH)
  | 0, _, _, _ => none
  | n + 1, v4, v6, N => ob2 (f_X10_of v0 v5 (5 : Int32) N) (fun x6 N5 => if x6 ≤ v6 then k134 v4 N5 else ob2 (f_X10_stateOf v0 v5 N5) (fun x9 N8 => if (2 : Int32) ≤ x9 then k134 v4 N8 else if (8 : Int32) ≤ v3 then ob2 (f_X10_flowOf v0 v5 v6 (1 : Int32) N8) (fun x13 N12 => if ¬ x13 = (v3 - (8 : Int32)) then f_X10_bound_J103 (f_X10_bound_L33 v0 v1 v2 v3 v5 k134 n) v0 v1 v2 v3 v4 v5 v6 (0 : Int32) N12 else f_X10_bound_J103 (f_X10_bound_L33 v0 v1 v2 v3 v5 k134 n) v0 v1 v2 v3 v4 v5 v6 (1 : Int32) N12) else ob2 (f_X10_flowOf v0 v5 v6 (0 : Int32) N8) (fun x19 N18 => if ¬ x19 = v3 then f_X10_bound_J103 (f_X10_bound_L33 v0 v1 v2 v3 v5 k134 n) v0 v1 v2 v3 v4 v5 v6 (0 : Int32) N18 else f_X10_bound_J103 (f_X10_bound_L33 v0 v1 v2 v3 v5 k134 n) v0 v1 v2 v3 v4 v5 v6 (1 : Int32) N18)))
set_option maxHeartbeats 4000000 in
set_option maxRecDepth 100000 in
theorem w_X10_bound_L33 {P : Int32 × AH → Prop} (X : CX cX10_bound RX10 8 G aC t b0 p s m args c) (hr : RtI p l e rm_X10_bound s m args below meth c 0 0 Q cX10_bound G aC b0 P) (v0 : Nat) (v1 : Int32) (v2 : Int32) (v3 : Int32) (v5 : Int32) {k134 : Int32 → AH → Option (Int32 × AH)}
    (hk134 : ∀ (v4 : Int32) (N : AH) (H : Heap) (locs : List Loc) (ls : Array Slot), Rp G aC b0 N H → va_S (fun q => b0 ≤ q) s.heap H locs → lv_has ls 8 [(0, .ref v0), (1, .int v1), (2, .int v2), (3, .int v3), (4, .int v4), (5, .int v5)] → owp (k134 v4 N) P → W p l e rm_X10_bound s m args below meth c H locs 0 0 Q (F0 m 134 ls [])) :
    ∀ (n : Nat) (v4 : Int32) (v6 : Int32) (N : AH) (H : Heap) (locs : List Loc) (ls : Array Slot), Rp G aC b0 N H → va_S (fun q => b0 ≤ q) s.heap H locs → lv_has ls 8 [(0, .ref v0), (1, .int v1), (2, .int v2), (3, .int v3), (4, .int v4), (5, .int v5), (6, .int v6)] → owp (f_X10_bound_L33 v0 v1 v2 v3 v5 k134 n v4 v6 N) P → W p l e rm_X10_bound s m args below meth c H locs 0 0 Q (F0 m 33 ls []) := by
  have hx := X.1.1
  have hb := X.1.2.1
  intro n
  induction n with
  | zero =>
    intro v4 v6 N H locs ls hR hS hl hp
    exact (show False from hp).elim
  | succ n ih =>
    intro v4 v6 N H locs ls hR hS hl hp
    rw [f_X10_bound_L33] at hp
    refine lv_iload hx hb dX10_bound_33 (lv_at hl 6 rfl) ?_
    refine lv_aload_n hx hb dX10_bound_35 rfl (lv_at hl 0 rfl) ?_
    refine lv_iload hx hb dX10_bound_36 (lv_at hl 5 rfl) ?_
    refine lv_iconst (v := (5)) hx hb dX10_bound_38 (by decide) ?_
    obtain ⟨x6, N5, e_N5, hp⟩ := owp_ob2 hp
    refine iv_X10_of (rest := [.int v6]) mw_X10_52 X hR hS e_N5 hl.1 (Nat.le_of_ble_eq_true rfl) ⟨Nat.le_of_ble_eq_true rfl, Nat.le_of_ble_eq_true rfl⟩ ⟨Nat.le_of_ble_eq_true rfl, Nat.le_of_ble_eq_true rfl⟩ dX10_bound_39 (fun H locs hR hS => ?_)
    refine lv_icmp_ge (tgt := 134) hx hb dX10_bound_42 (by decide) (fun k7 => ?_) (fun k7 => ?_)
    · have hp := owp_t k7 hp
      exact hk134 _ _ _ _ _ hR hS (lv_sub hl [0, 1, 2, 3, 4, 5] rfl) hp
    · have hp := owp_f k7 hp
      refine lv_aload_n hx hb dX10_bound_45 rfl (lv_at hl 0 rfl) ?_
      refine lv_iload hx hb dX10_bound_46 (lv_at hl 5 rfl) ?_
      obtain ⟨x9, N8, e_N8, hp⟩ := owp_ob2 hp
      refine iv_X10_stateOf (rest := []) mw_X10_107 X hR hS e_N8 hl.1 (Nat.le_of_ble_eq_true rfl) ⟨Nat.le_of_ble_eq_true rfl, Nat.le_of_ble_eq_true rfl⟩ ⟨Nat.le_of_ble_eq_true rfl, Nat.le_of_ble_eq_true rfl⟩ dX10_bound_48 (fun H locs hR hS => ?_)
      refine lv_iconst (v := (2)) hx hb dX10_bound_51 (by decide) ?_
      refine lv_icmp_ge (tgt := 134) hx hb dX10_bound_52 (by decide) (fun k10 => ?_) (fun k10 => ?_)
      · have hp := owp_t k10 hp
        exact hk134 _ _ _ _ _ hR hS (lv_sub hl [0, 1, 2, 3, 4, 5] rfl) hp
      · have hp := owp_f k10 hp
        refine lv_iload_n hx hb dX10_bound_55 rfl (lv_at hl 3 rfl) ?_
        refine lv_bipush (v := (8)) hx hb dX10_bound_56 (by decide) ?_
        refine lv_icmp_ge (tgt := 82) hx hb dX10_bound_58 (by decide) (fun k11 => ?_) (fun k11 => ?_)
        · have hp := owp_t k11 hp
          refine lv_aload_n hx hb dX10_bound_82 rfl (lv_at hl 0 rfl) ?_
          refine lv_iload hx hb dX10_bound_83 (lv_at hl 5 rfl) ?_
          refine lv_iload hx hb dX10_bound_85 (lv_at hl 6 rfl) ?_
          refine lv_iconst (v := (1)) hx hb dX10_bound_87 (by decide) ?_
          obtain ⟨x13, N12, e_N12, hp⟩ := owp_ob2 hp
          refine iv_X10_flowOf (rest := []) mw_X10_64 X hR hS e_N12 hl.1 (Nat.le_of_ble_eq_true rfl) ⟨Nat.le_of_ble_eq_true rfl, Nat.le_of_ble_eq_true rfl⟩ ⟨Nat.le_of_ble_eq_true rfl, Nat.le_of_ble_eq_true rfl⟩ dX10_bound_88 (fun H locs hR hS => ?_)
          refine lv_iload_n hx hb dX10_bound_91 rfl (lv_at hl 3 rfl) ?_
          refine lv_bipush (v := (8)) hx hb dX10_bound_92 (by decide) ?_
          refine lv_isub hx hb dX10_bound_94 ?_
          refine lv_icmp_ne (tgt := 102) hx hb dX10_bound_95 (by decide) (fun k14 => ?_) (fun k14 => ?_)
          · have hp := owp_t k14 hp
            refine lv_iconst (v := (0)) hx hb dX10_bound_102 (by decide) ?_
            exact w_X10_bound_J103 X hr _ _ _ _ _ _ _ _ ih _ _ _ _ hR hS hl hp
          · have hp := owp_f (fun q => q k14) hp
            refine lv_iconst (v := (1)) hx hb dX10_bound_98 (by decide) ?_
            refine lv_goto (tgt := 103) hx hb dX10_bound_99 (by decide) ?_
            exact w_X10_bound_J103 X hr _ _ _ _ _ _ _ _ ih _ _ _ _ hR hS hl hp
        · have hp := owp_f k11 hp
          refine lv_aload_n hx hb dX10_bound_61 rfl (lv_at hl 0 rfl) ?_
          refine lv_iload hx hb dX10_bound_62 (lv_at hl 5 rfl) ?_
          refine lv_iload hx hb dX10_bound_64 (lv_at hl 6 rfl) ?_
          refine lv_iconst (v := (0)) hx hb dX10_bound_66 (by decide) ?_
          obtain ⟨x19, N18, e_N18, hp⟩ := owp_ob2 hp
          refine iv_X10_flowOf (rest := []) mw_X10_64 X hR hS e_N18 hl.1 (Nat.le_of_ble_eq_true rfl) ⟨Nat.le_of_ble_eq_true rfl, Nat.le_of_ble_eq_true rfl⟩ ⟨Nat.le_of_ble_eq_true rfl, Nat.le_of_ble_eq_true rfl⟩ dX10_bound_67 (fun H locs hR hS => ?_)
          refine lv_iload_n hx hb dX10_bound_70 rfl (lv_at hl 3 rfl) ?_
          refine lv_icmp_ne (tgt := 78) hx hb dX10_bound_71 (by decide) (fun k20 => ?_) (fun k20 => ?_)
          · have hp := owp_t k20 hp
            refine lv_iconst (v := (0)) hx hb dX10_bound_78 (by decide) ?_
            refine lv_goto (tgt := 103) hx hb dX10_bound_79 (by decide) ?_
            exact w_X10_bound_J103 X hr _ _ _ _ _ _ _ _ ih _ _ _ _ hR hS hl hp
          · have hp := owp_f (fun q => q k20) hp
            refine lv_iconst (v := (1)) hx hb dX10_bound_74 (by decide) ?_
            refine lv_goto (tgt := 103) hx hb dX10_bound_75 (by decide) ?_
            exact w_X10_bound_J103 X hr _ _ _ _ _ _ _ _ ih _ _ _ _ hR hS hl hp
def f_X10_bound_L18 (v0 : Nat) (v1 : Int32) (v2 : Int32) (v3 : Int32) (k140 : Int32 → AH → Option (Int32 × AH)) : Nat → Int32 → Int32 → AH → Option (Int32 × AH)
  | 0, _, _, _ => none
  | n + 1, v4, v5, N => ob (hR N v0 10 0) (fun x2 => ob (aI N x2 (6 : Int32)) (fun x3 => if x3 ≤ v5 then k140 v4 N else f_X10_bound_L33 v0 v1 v2 v3 v5 (fun v21 N22 => f_X10_bound_L18 v0 v1 v2 v3 k140 n v21 (v5 + 1) N22) FU v4 (0 : Int32) N))
set_option maxHeartbeats 4000000 in
set_option maxRecDepth 100000 in
theorem w_X10_bound_L18 {P : Int32 × AH → Prop} (X : CX cX10_bound RX10 8 G aC t b0 p s m args c) (hr : RtI p l e rm_X10_bound s m args below meth c 0 0 Q cX10_bound G aC b0 P) (v0 : Nat) (v1 : Int32) (v2 : Int32) (v3 : Int32) {k140 : Int32 → AH → Option (Int32 × AH)}
    (hk140 : ∀ (v4 : Int32) (N : AH) (H : Heap) (locs : List Loc) (ls : Array Slot), Rp G aC b0 N H → va_S (fun q => b0 ≤ q) s.heap H locs → lv_has ls 8 [(0, .ref v0), (1, .int v1), (2, .int v2), (3, .int v3), (4, .int v4)] → owp (k140 v4 N) P → W p l e rm_X10_bound s m args below meth c H locs 0 0 Q (F0 m 140 ls [])) :
    ∀ (n : Nat) (v4 : Int32) (v5 : Int32) (N : AH) (H : Heap) (locs : List Loc) (ls : Array Slot), Rp G aC b0 N H → va_S (fun q => b0 ≤ q) s.heap H locs → lv_has ls 8 [(0, .ref v0), (1, .int v1), (2, .int v2), (3, .int v3), (4, .int v4), (5, .int v5)] → owp (f_X10_bound_L18 v0 v1 v2 v3 k140 n v4 v5 N) P → W p l e rm_X10_bound s m args below meth c H locs 0 0 Q (F0 m 18 ls []) := by
  have hx := X.1.1
  have hb := X.1.2.1
  intro n
  induction n with
  | zero =>
    intro v4 v5 N H locs ls hR hS hl hp
    exact (show False from hp).elim
  | succ n ih =>
    intro v4 v5 N H locs ls hR hS hl hp
    rw [f_X10_bound_L18] at hp
    refine lv_iload hx hb dX10_bound_18 (lv_at hl 5 rfl) ?_
    refine lv_aload_n hx hb dX10_bound_20 rfl (lv_at hl 0 rfl) ?_
    obtain ⟨x2, e_x2, hp⟩ := owp_ob hp
    refine gf_X10_7 X hR e_x2 dX10_bound_21 ?_
    refine lv_bipush (v := (6)) hx hb dX10_bound_24 (by decide) ?_
    obtain ⟨x3, e_x3, hp⟩ := owp_ob hp
    refine ab_iald X hR e_x3 dX10_bound_26 ?_
    refine lv_icmp_ge (tgt := 140) hx hb dX10_bound_27 (by decide) (fun k4 => ?_) (fun k4 => ?_)
    · have hp := owp_t k4 hp
      exact hk140 _ _ _ _ _ hR hS (lv_sub hl [0, 1, 2, 3, 4] rfl) hp
    · have hp := owp_f k4 hp
      refine lv_iconst (v := (0)) hx hb dX10_bound_30 (by decide) ?_
      refine lv_istore (lv' := [(6, .int (0 : Int32)), (0, .ref v0), (1, .int v1), (2, .int v2), (3, .int v3), (4, .int v4), (5, .int v5)]) hx hb dX10_bound_31 hl (by decide) rfl (fun ls hl => ?_)
      refine w_X10_bound_L33 X hr _ _ _ _ _ (fun v21 N22 H locs ls hR hS hl hp => ?_) _ _ _ _ _ _ _ hR hS (lv_sub hl [1, 2, 3, 4, 5, 6, 0] rfl) hp
      refine lv_iinc (v := v5 + 1) (lv' := [(5, .int (v5 + 1)), (0, .ref v0), (1, .int v1), (2, .int v2), (3, .int v3), (4, .int v21)]) hx hb dX10_bound_134 hl (k := 5) rfl rfl (by decide) rfl (fun ls hl => ?_)
      refine lv_goto (tgt := 18) hx hb dX10_bound_137 (by decide) ?_
      exact ih _ _ _ _ _ _ hR hS (lv_sub hl [1, 2, 3, 4, 5, 0] rfl) hp
def f_X10_bound_J187 (k6 : Int32 → Int32 → Int32 → AH → Option (Int32 × AH)) (v0 : Nat) (v1 : Int32) (v2 : Int32) (v3 : Int32) (w0 : Int32) (N : AH) : Option (Int32 × AH) := if w0 ≤ v1 then k6 v1 v2 (v3 + 1) N else k6 w0 v2 (v3 + 1) N
set_option maxHeartbeats 4000000 in
set_option maxRecDepth 100000 in
theorem w_X10_bound_J187 {P : Int32 × AH → Prop} (X : CX cX10_bound RX10 8 G aC t b0 p s m args c) (hr : RtI p l e rm_X10_bound s m args below meth c 0 0 Q cX10_bound G aC b0 P) (v0 : Nat) (v1 : Int32) (v2 : Int32) (v3 : Int32) (w0 : Int32) {k6 : Int32 → Int32 → Int32 → AH → Option (Int32 × AH)}
    (hk6 : ∀ (v1 : Int32) (v2 : Int32) (v3 : Int32) (N : AH) (H : Heap) (locs : List Loc) (ls : Array Slot), Rp G aC b0 N H → va_S (fun q => b0 ≤ q) s.heap H locs → lv_has ls 8 [(0, .ref v0), (1, .int v1), (2, .int v2), (3, .int v3)] → owp (k6 v1 v2 v3 N) P → W p l e rm_X10_bound s m args below meth c H locs 0 0 Q (F0 m 6 ls [])) (N : AH) (H : Heap) (locs : List Loc) (ls : Array Slot) (hR : Rp G aC b0 N H) (hS : va_S (fun q => b0 ≤ q) s.heap H locs) (hl : lv_has ls 8 [(0, .ref v0), (1, .int v1), (2, .int v2), (3, .int v3)]) (hp : owp (f_X10_bound_J187 k6 v0 v1 v2 v3 w0 N) P) : W p l e rm_X10_bound s m args below meth c H locs 0 0 Q (F0 m 187 ls [.int w0]) := by
  have hx := X.1.1
  have hb := X.1.2.1
  unfold f_X10_bound_J187 at hp
  refine lv_istore (lv' := [(6, .int w0), (0, .ref v0), (1, .int v1), (2, .int v2), (3, .int v3)]) hx hb dX10_bound_187 hl (by decide) rfl (fun ls hl => ?_)
  refine lv_iload hx hb dX10_bound_189 (lv_at hl 0 rfl) ?_
  refine lv_iload_n hx hb dX10_bound_191 rfl (lv_at hl 2 rfl) ?_
  refine lv_icmp_le (tgt := 200) hx hb dX10_bound_192 (by decide) (fun k31 => ?_) (fun k31 => ?_)
  · have hp := owp_t k31 hp
    refine lv_iload_n hx hb dX10_bound_200 rfl (lv_at hl 2 rfl) ?_
    refine lv_istore_n (lv' := [(1, .int v1), (6, .int w0), (0, .ref v0), (2, .int v2), (3, .int v3)]) hx hb dX10_bound_201 rfl hl (by decide) rfl (fun ls hl => ?_)
    refine lv_iinc (v := v3 + 1) (lv' := [(3, .int (v3 + 1)), (1, .int v1), (6, .int w0), (0, .ref v0), (2, .int v2)]) hx hb dX10_bound_202 hl (k := 4) rfl rfl (by decide) rfl (fun ls hl => ?_)
    refine lv_goto (tgt := 6) hx hb dX10_bound_205 (by decide) ?_
    exact hk6 _ _ _ _ _ _ _ hR hS (lv_sub hl [3, 1, 4, 0] rfl) hp
  · have hp := owp_f k31 hp
    refine lv_iload hx hb dX10_bound_195 (lv_at hl 0 rfl) ?_
    refine lv_goto (tgt := 201) hx hb dX10_bound_197 (by decide) ?_
    refine lv_istore_n (lv' := [(1, .int w0), (6, .int w0), (0, .ref v0), (2, .int v2), (3, .int v3)]) hx hb dX10_bound_201 rfl hl (by decide) rfl (fun ls hl => ?_)
    refine lv_iinc (v := v3 + 1) (lv' := [(3, .int (v3 + 1)), (1, .int w0), (6, .int w0), (0, .ref v0), (2, .int v2)]) hx hb dX10_bound_202 hl (k := 4) rfl rfl (by decide) rfl (fun ls hl => ?_)
    refine lv_goto (tgt := 6) hx hb dX10_bound_205 (by decide) ?_
    exact hk6 _ _ _ _ _ _ _ hR hS (lv_sub hl [3, 1, 4, 0] rfl) hp
def f_X10_bound_J170 (k6 : Int32 → Int32 → Int32 → AH → Option (Int32 × AH)) (v0 : Nat) (v1 : Int32) (v3 : Int32) (v4 : Int32) (v5 : Int32) (w0 : Int32) (N : AH) : Option (Int32 × AH) := if ¬ v5 = 0 then ob2 (f_X10_up v4 v5 N) (fun x30 N29 => f_X10_bound_J187 k6 v0 v1 w0 v3 x30 N29) else f_X10_bound_J187 k6 v0 v1 w0 v3 (0 : Int32) N
set_option maxHeartbeats 4000000 in
set_option maxRecDepth 100000 in
theorem w_X10_bound_J170 {P : Int32 × AH → Prop} (X : CX cX10_bound RX10 8 G aC t b0 p s m args c) (hr : RtI p l e rm_X10_bound s m args below meth c 0 0 Q cX10_bound G aC b0 P) (v0 : Nat) (v1 : Int32) (v3 : Int32) (v4 : Int32) (v5 : Int32) (w0 : Int32) {k6 : Int32 → Int32 → Int32 → AH → Option (Int32 × AH)}
    (hk6 : ∀ (v1 : Int32) (v2 : Int32) (v3 : Int32) (N : AH) (H : Heap) (locs : List Loc) (ls : Array Slot), Rp G aC b0 N H → va_S (fun q => b0 ≤ q) s.heap H locs → lv_has ls 8 [(0, .ref v0), (1, .int v1), (2, .int v2), (3, .int v3)] → owp (k6 v1 v2 v3 N) P → W p l e rm_X10_bound s m args below meth c H locs 0 0 Q (F0 m 6 ls [])) (N : AH) (H : Heap) (locs : List Loc) (ls : Array Slot) (hR : Rp G aC b0 N H) (hS : va_S (fun q => b0 ≤ q) s.heap H locs) (hl : lv_has ls 8 [(0, .ref v0), (1, .int v1), (3, .int v3), (4, .int v4), (5, .int v5)]) (hp : owp (f_X10_bound_J170 k6 v0 v1 v3 v4 v5 w0 N) P) : W p l e rm_X10_bound s m args below meth c H locs 0 0 Q (F0 m 170 ls [.int w0]) := by
  have hx := X.1.1
  have hb := X.1.2.1
  unfold f_X10_bound_J170 at hp
  refine lv_istore_n (lv' := [(2, .int w0), (0, .ref v0), (1, .int v1), (3, .int v3), (4, .int v4), (5, .int v5)]) hx hb dX10_bound_170 rfl hl (by decide) rfl (fun ls hl => ?_)
  refine lv_iload hx hb dX10_bound_171 (lv_at hl 5 rfl) ?_
  refine lv_if_ne (tgt := 180) hx hb dX10_bound_173 (by decide) (fun k28 => ?_) (fun k28 => ?_)
  · have hp := owp_t k28 hp
    refine lv_iload hx hb dX10_bound_180 (lv_at hl 4 rfl) ?_
    refine lv_iload hx hb dX10_bound_182 (lv_at hl 5 rfl) ?_
    obtain ⟨x30, N29, e_N29, hp⟩ := owp_ob2 hp
    refine iv_X10_up (rest := []) mw_X10_68 X hR hS e_N29 hl.1 (Nat.le_of_ble_eq_true rfl) ⟨Nat.le_of_ble_eq_true rfl, Nat.le_of_ble_eq_true rfl⟩ ⟨Nat.le_of_ble_eq_true rfl, Nat.le_of_ble_eq_true rfl⟩ dX10_bound_184 (fun H locs hR hS => ?_)
    exact w_X10_bound_J187 X hr _ _ _ _ _ hk6 _ _ _ _ hR hS (lv_sub hl [1, 2, 0, 3] rfl) hp
  · have hp := owp_f (fun q => q k28) hp
    refine lv_iconst (v := (0)) hx hb dX10_bound_176 (by decide) ?_
    refine lv_goto (tgt := 187) hx hb dX10_bound_177 (by decide) ?_
    exact w_X10_bound_J187 X hr _ _ _ _ _ hk6 _ _ _ _ hR hS (lv_sub hl [1, 2, 0, 3] rfl) hp
def f_X10_bound_J165 (k6 : Int32 → Int32 → Int32 → AH → Option (Int32 × AH)) (v0 : Nat) (v1 : Int32) (v3 : Int32) (v4 : Int32) (v5 : Int32) (N : AH) : Option (Int32 × AH) := f_X10_bound_J170 k6 v0 v1 v3 v4 v5 (1 : Int32) N
set_option maxHeartbeats 4000000 in
set_option maxRecDepth 100000 in
theorem w_X10_bound_J165 {P : Int32 × AH → Prop} (X : CX cX10_bound RX10 8 G aC t b0 p s m args c) (hr : RtI p l e rm_X10_bound s m args below meth c 0 0 Q cX10_bound G aC b0 P) (v0 : Nat) (v1 : Int32) (v3 : Int32) (v4 : Int32) (v5 : Int32) {k6 : Int32 → Int32 → Int32 → AH → Option (Int32 × AH)}
    (hk6 : ∀ (v1 : Int32) (v2 : Int32) (v3 : Int32) (N : AH) (H : Heap) (locs : List Loc) (ls : Array Slot), Rp G aC b0 N H → va_S (fun q => b0 ≤ q) s.heap H locs → lv_has ls 8 [(0, .ref v0), (1, .int v1), (2, .int v2), (3, .int v3)] → owp (k6 v1 v2 v3 N) P → W p l e rm_X10_bound s m args below meth c H locs 0 0 Q (F0 m 6 ls [])) (N : AH) (H : Heap) (locs : List Loc) (ls : Array Slot) (hR : Rp G aC b0 N H) (hS : va_S (fun q => b0 ≤ q) s.heap H locs) (hl : lv_has ls 8 [(0, .ref v0), (1, .int v1), (3, .int v3), (4, .int v4), (5, .int v5)]) (hp : owp (f_X10_bound_J165 k6 v0 v1 v3 v4 v5 N) P) : W p l e rm_X10_bound s m args below meth c H locs 0 0 Q (F0 m 165 ls []) := by
  have hx := X.1.1
  have hb := X.1.2.1
  unfold f_X10_bound_J165 at hp
  refine lv_iconst (v := (1)) hx hb dX10_bound_165 (by decide) ?_
  refine lv_goto (tgt := 170) hx hb dX10_bound_166 (by decide) ?_
  exact w_X10_bound_J170 X hr _ _ _ _ _ _ hk6 _ _ _ _ hR hS hl hp
def f_X10_bound_J169 (k6 : Int32 → Int32 → Int32 → AH → Option (Int32 × AH)) (v0 : Nat) (v1 : Int32) (v3 : Int32) (v4 : Int32) (v5 : Int32) (N : AH) : Option (Int32 × AH) := f_X10_bound_J170 k6 v0 v1 v3 v4 v5 (0 : Int32) N
set_option maxHeartbeats 4000000 in
set_option maxRecDepth 100000 in
theorem w_X10_bound_J169 {P : Int32 × AH → Prop} (X : CX cX10_bound RX10 8 G aC t b0 p s m args c) (hr : RtI p l e rm_X10_bound s m args below meth c 0 0 Q cX10_bound G aC b0 P) (v0 : Nat) (v1 : Int32) (v3 : Int32) (v4 : Int32) (v5 : Int32) {k6 : Int32 → Int32 → Int32 → AH → Option (Int32 × AH)}
    (hk6 : ∀ (v1 : Int32) (v2 : Int32) (v3 : Int32) (N : AH) (H : Heap) (locs : List Loc) (ls : Array Slot), Rp G aC b0 N H → va_S (fun q => b0 ≤ q) s.heap H locs → lv_has ls 8 [(0, .ref v0), (1, .int v1), (2, .int v2), (3, .int v3)] → owp (k6 v1 v2 v3 N) P → W p l e rm_X10_bound s m args below meth c H locs 0 0 Q (F0 m 6 ls [])) (N : AH) (H : Heap) (locs : List Loc) (ls : Array Slot) (hR : Rp G aC b0 N H) (hS : va_S (fun q => b0 ≤ q) s.heap H locs) (hl : lv_has ls 8 [(0, .ref v0), (1, .int v1), (3, .int v3), (4, .int v4), (5, .int v5)]) (hp : owp (f_X10_bound_J169 k6 v0 v1 v3 v4 v5 N) P) : W p l e rm_X10_bound s m args below meth c H locs 0 0 Q (F0 m 169 ls []) := by
  have hx := X.1.1
  have hb := X.1.2.1
  unfold f_X10_bound_J169 at hp
  refine lv_iconst (v := (0)) hx hb dX10_bound_169 (by decide) ?_
  exact w_X10_bound_J170 X hr _ _ _ _ _ _ hk6 _ _ _ _ hR hS hl hp
def f_X10_bound_L6 (v0 : Nat) (k208 : Int32 → Int32 → AH → Option (Int32 × AH)) : Nat → Int32 → Int32 → Int32 → AH → Option (Int32 × AH)
  | 0, _, _, _, _ => none
  | n + 1, v1, v2, v3, N => if (16 : Int32) ≤ v3 then k208 v1 v2 N else f_X10_bound_L18 v0 v1 v2 v3 (fun v23 N24 => ob (hR N24 v0 10 0) (fun x25 => ob (aI N24 x25 ((10 : Int32) + v3)) (fun x26 => if ¬ v2 = 0 then f_X10_bound_J165 (f_X10_bound_L6 v0 k208 n) v0 v1 v3 v23 x26 N24 else if v23 ≤ 0 then f_X10_bound_J169 (f_X10_bound_L6 v0 k208 n) v0 v1 v3 v23 x26 N24 else if ¬ x26 = 0 then f_X10_bound_J169 (f_X10_bound_L6 v0 k208 n) v0 v1 v3 v23 x26 N24 else f_X10_bound_J165 (f_X10_bound_L6 v0 k208 n) v0 v1 v3 v23 x26 N24))) FU (0 : Int32) (0 : Int32) N
set_option maxHeartbeats 4000000 in
set_option maxRecDepth 100000 in
theorem w_X10_bound_L6 {P : Int32 × AH → Prop} (X : CX cX10_bound RX10 8 G aC t b0 p s m args c) (hr : RtI p l e rm_X10_bound s m args below meth c 0 0 Q cX10_bound G aC b0 P) (v0 : Nat) {k208 : Int32 → Int32 → AH → Option (Int32 × AH)}
    (hk208 : ∀ (v1 : Int32) (v2 : Int32) (N : AH) (H : Heap) (locs : List Loc) (ls : Array Slot), Rp G aC b0 N H → va_S (fun q => b0 ≤ q) s.heap H locs → lv_has ls 8 [(1, .int v1), (2, .int v2)] → owp (k208 v1 v2 N) P → W p l e rm_X10_bound s m args below meth c H locs 0 0 Q (F0 m 208 ls [])) :
    ∀ (n : Nat) (v1 : Int32) (v2 : Int32) (v3 : Int32) (N : AH) (H : Heap) (locs : List Loc) (ls : Array Slot), Rp G aC b0 N H → va_S (fun q => b0 ≤ q) s.heap H locs → lv_has ls 8 [(0, .ref v0), (1, .int v1), (2, .int v2), (3, .int v3)] → owp (f_X10_bound_L6 v0 k208 n v1 v2 v3 N) P → W p l e rm_X10_bound s m args below meth c H locs 0 0 Q (F0 m 6 ls []) := by
  have hx := X.1.1
  have hb := X.1.2.1
  intro n
  induction n with
  | zero =>
    intro v1 v2 v3 N H locs ls hR hS hl hp
    exact (show False from hp).elim
  | succ n ih =>
    intro v1 v2 v3 N H locs ls hR hS hl hp
    rw [f_X10_bound_L6] at hp
    refine lv_iload_n hx hb dX10_bound_6 rfl (lv_at hl 3 rfl) ?_
    refine lv_bipush (v := (16)) hx hb dX10_bound_7 (by decide) ?_
    refine lv_icmp_ge (tgt := 208) hx hb dX10_bound_9 (by decide) (fun k1 => ?_) (fun k1 => ?_)
    · have hp := owp_t k1 hp
      exact hk208 _ _ _ _ _ _ hR hS (lv_sub hl [1, 2] rfl) hp
    · have hp := owp_f k1 hp
      refine lv_iconst (v := (0)) hx hb dX10_bound_12 (by decide) ?_
      refine lv_istore (lv' := [(4, .int (0 : Int32)), (0, .ref v0), (1, .int v1), (2, .int v2), (3, .int v3)]) hx hb dX10_bound_13 hl (by decide) rfl (fun ls hl => ?_)
      refine lv_iconst (v := (0)) hx hb dX10_bound_15 (by decide) ?_
      refine lv_istore (lv' := [(5, .int (0 : Int32)), (4, .int (0 : Int32)), (0, .ref v0), (1, .int v1), (2, .int v2), (3, .int v3)]) hx hb dX10_bound_16 hl (by decide) rfl (fun ls hl => ?_)
      refine w_X10_bound_L18 X hr _ _ _ _ (fun v23 N24 H locs ls hR hS hl hp => ?_) _ _ _ _ _ _ _ hR hS (lv_sub hl [2, 3, 4, 5, 1, 0] rfl) hp
      refine lv_aload_n hx hb dX10_bound_140 rfl (lv_at hl 0 rfl) ?_
      obtain ⟨x25, e_x25, hp⟩ := owp_ob hp
      refine gf_X10_7 X hR e_x25 dX10_bound_141 ?_
      refine lv_bipush (v := (10)) hx hb dX10_bound_144 (by decide) ?_
      refine lv_iload_n hx hb dX10_bound_146 rfl (lv_at hl 3 rfl) ?_
      refine lv_iadd hx hb dX10_bound_147 ?_
      obtain ⟨x26, e_x26, hp⟩ := owp_ob hp
      refine ab_iald X hR e_x26 dX10_bound_148 ?_
      refine lv_istore (lv' := [(5, .int x26), (0, .ref v0), (1, .int v1), (2, .int v2), (3, .int v3), (4, .int v23)]) hx hb dX10_bound_149 hl (by decide) rfl (fun ls hl => ?_)
      refine lv_iload_n hx hb dX10_bound_151 rfl (lv_at hl 3 rfl) ?_
      refine lv_if_ne (tgt := 165) hx hb dX10_bound_152 (by decide) (fun k27 => ?_) (fun k27 => ?_)
      · have hp := owp_t k27 hp
        exact w_X10_bound_J165 X hr _ _ _ _ _ ih _ _ _ _ hR hS (lv_sub hl [1, 2, 4, 5, 0] rfl) hp
      · have hp := owp_f (fun q => q k27) hp
        refine lv_iload hx hb dX10_bound_155 (lv_at hl 5 rfl) ?_
        refine lv_if_le (tgt := 169) hx hb dX10_bound_157 (by decide) (fun k32 => ?_) (fun k32 => ?_)
        · have hp := owp_t k32 hp
          exact w_X10_bound_J169 X hr _ _ _ _ _ ih _ _ _ _ hR hS (lv_sub hl [1, 2, 4, 5, 0] rfl) hp
        · have hp := owp_f k32 hp
          refine lv_iload hx hb dX10_bound_160 (lv_at hl 0 rfl) ?_
          refine lv_if_ne (tgt := 169) hx hb dX10_bound_162 (by decide) (fun k33 => ?_) (fun k33 => ?_)
          · have hp := owp_t k33 hp
            exact w_X10_bound_J169 X hr _ _ _ _ _ ih _ _ _ _ hR hS (lv_sub hl [1, 2, 4, 5, 0] rfl) hp
          · have hp := owp_f (fun q => q k33) hp
            exact w_X10_bound_J165 X hr _ _ _ _ _ ih _ _ _ _ hR hS (lv_sub hl [1, 2, 4, 5, 0] rfl) hp
def f_X10_bound (v0 : Nat) (N : AH) : Option (Int32 × AH) := ob (iO N v0 10) (fun _ => f_X10_bound_L6 v0 (fun v34 v35 N36 => if v35 = 0 then some (v34, N36) else some ((-1 : Int32), N36)) FU (0 : Int32) (0 : Int32) (0 : Int32) N)
set_option maxHeartbeats 4000000 in
set_option maxRecDepth 100000 in
theorem wk_X10_bound {P : Int32 × AH → Prop} (X : CX cX10_bound RX10 8 G aC t b0 p s m args c) (hr : RtI p l e rm_X10_bound s m args below meth c 0 0 Q cX10_bound G aC b0 P) (v0 : Nat) (N : AH) (H : Heap) (locs : List Loc) (ls : Array Slot) (hR : Rp G aC b0 N H) (hS : va_S (fun q => b0 ≤ q) s.heap H locs) (hl : lv_has ls 8 [(0, .ref v0)]) (hp : owp (f_X10_bound v0 N) P) : W p l e rm_X10_bound s m args below meth c H locs 0 0 Q (F0 m 0 ls []) := by
  have hx := X.1.1
  have hb := X.1.2.1
  unfold f_X10_bound at hp
  obtain ⟨_, _, hp⟩ := owp_ob hp
  refine lv_iconst (v := (0)) hx hb dX10_bound_0 (by decide) ?_
  refine lv_istore_n (lv' := [(1, .int (0 : Int32)), (0, .ref v0)]) hx hb dX10_bound_1 rfl hl (by decide) rfl (fun ls hl => ?_)
  refine lv_iconst (v := (0)) hx hb dX10_bound_2 (by decide) ?_
  refine lv_istore_n (lv' := [(2, .int (0 : Int32)), (1, .int (0 : Int32)), (0, .ref v0)]) hx hb dX10_bound_3 rfl hl (by decide) rfl (fun ls hl => ?_)
  refine lv_iconst (v := (0)) hx hb dX10_bound_4 (by decide) ?_
  refine lv_istore_n (lv' := [(3, .int (0 : Int32)), (2, .int (0 : Int32)), (1, .int (0 : Int32)), (0, .ref v0)]) hx hb dX10_bound_5 rfl hl (by decide) rfl (fun ls hl => ?_)
  refine w_X10_bound_L6 X hr _ (fun v34 v35 N36 H locs ls hR hS hl hp => ?_) _ _ _ _ _ _ _ _ hR hS (lv_sub hl [3, 2, 1, 0] rfl) hp
  refine lv_iload_n hx hb dX10_bound_208 rfl (lv_at hl 1 rfl) ?_
  refine lv_if_eq (tgt := 216) hx hb dX10_bound_209 (by decide) (fun k37 => ?_) (fun k37 => ?_)
  · have hp := owp_t k37 hp
    refine lv_iload_n hx hb dX10_bound_216 rfl (lv_at hl 0 rfl) ?_
    exact hr _ _ _ _ _ _ hR hS dX10_bound_217 hp
  · have hp := owp_f k37 hp
    refine lv_iconst (v := (-1)) hx hb dX10_bound_212 (by decide) ?_
    refine lv_goto (tgt := 217) hx hb dX10_bound_213 (by decide) ?_
    exact hr _ _ _ _ _ _ hR hS dX10_bound_217 hp
end
theorem ct_X10_bound {v0 : Nat} {N N1 : AH} {r : Int32} (h : f_X10_bound v0 N = some (r, N1)) : Ct yX10_bound cX10_bound 8 (some .int) rm_X10_bound [.ref v0] N (some (.int r)) N1 :=
  ab_met (own := RX10) (by decide +kernel) rfl (Nat.le_of_ble_eq_true rfl) (fun l G aC t b0 p e s m below meth c ls X hr hlk hnm hR hS hl => wk_X10_bound X (RtI_met X.1.1 X.1.2.1 hr hlk) _ _ _ _ _ hR hS hl (owp_of h))
theorem cw_X10_bound : Cond.code yX10_bound cX10_bound 8 (some .int) ∈ WT := WT_of 1338 (by decide +kernel) (by decide +kernel)
theorem iv_X10_bound {p : Program} {l : Launch} {e : Env} {R : Room} {s : State} {m : MethodId} {args : Array Value} {below : List Frame} {meth : Method} {c : Code} {H : Heap} {locs : List Loc} {cells slots : Nat} {Q : State → Prop} {cc : ByteArray} {own : String} {nL : Nat} {G : va_G} {aC : Nat → ClassId} {t b0 : Nat} {N N1 : AH} {pc index : Nat} {ls : Array Slot} {rest : List Value} {v0 : Nat} {r : Int32} (w1 : Cond.methodLink own index yX10_bound ∈ WT) (X : CX cc own nL G aC t b0 p s m args c) (hR : Rp G aC b0 N H) (hS : va_S (fun q => b0 ≤ q) s.heap H locs) (h : f_X10_bound v0 N = some (r, N1)) (hls : ls.size = nL) (hW : (rest.map fun v => v.category).sum ≤ 8) (hR1 : 3 ≤ R.frames ∧ 72 ≤ R.locals) (hcs : cells + 0 ≤ R.cells ∧ slots + 0 ≤ R.slots) (hdg : decode cc pc = .ok (.invokevirtual index, 3)) (kk : ∀ (H1 : Heap) (locs1 : List Loc), Rp G aC b0 N1 H1 → va_S (fun q => b0 ≤ q) s.heap H1 locs1 → W p l e R s m args below meth c H1 locs1 cells slots Q (F0 m (pc + 3) ls (.int r :: rest))) : W p l e R s m args below meth c H locs cells slots Q (F0 m pc ls (.ref v0 :: rest)) :=
  ab_callV (n := 0) (As := []) X hR hS (ct_X10_bound h) (ob_rc (c := 10) (N := N) (a := v0) h) (T := TX10) (k := 20) (C := RX10) rfl w1 (WT_of 1336 (by decide +kernel) (by decide +kernel)) (WT_of 1337 (by decide +kernel) (by decide +kernel)) (WT_of 92 (by decide +kernel) (by decide +kernel)) cw_X10_bound ⟨rfl, by decide +kernel, by decide +kernel, by decide +kernel⟩ rfl hls hW hR1 hcs rfl hdg kk
-- X10_moved
theorem dX10_moved_0 : decode cX10_moved 0 = .ok (.iload_n 1, 1) := by decide +kernel
theorem dX10_moved_1 : decode cX10_moved 1 = .ok (.i2l, 1) := by decide +kernel
theorem dX10_moved_2 : decode cX10_moved 2 = .ok (.lconst 0, 1) := by decide +kernel
theorem dX10_moved_3 : decode cX10_moved 3 = .ok (.ldc2_w 219, 3) := by decide +kernel
theorem dX10_moved_6 : decode cX10_moved 6 = .ok (.invokestatic 60, 3) := by decide +kernel
theorem dX10_moved_9 : decode cX10_moved 9 = .ok (.ifCond .eq 15, 3) := by decide +kernel
theorem dX10_moved_12 : decode cX10_moved 12 = .ok (.aload_n 0, 1) := by decide +kernel
theorem dX10_moved_13 : decode cX10_moved 13 = .ok (.getfield 7, 3) := by decide +kernel
theorem dX10_moved_16 : decode cX10_moved 16 = .ok (.bipush 26, 2) := by decide +kernel
theorem dX10_moved_18 : decode cX10_moved 18 = .ok (.iload_n 1, 1) := by decide +kernel
theorem dX10_moved_19 : decode cX10_moved 19 = .ok (.iadd, 1) := by decide +kernel
theorem dX10_moved_20 : decode cX10_moved 20 = .ok (.iaload, 1) := by decide +kernel
theorem dX10_moved_21 : decode cX10_moved 21 = .ok (.goto 5, 3) := by decide +kernel
theorem dX10_moved_24 : decode cX10_moved 24 = .ok (.bipush (-2), 2) := by decide +kernel
theorem dX10_moved_26 : decode cX10_moved 26 = .ok (.ireturn, 1) := by decide +kernel
def rm_X10_moved : Room := { frames := 1, cells := 0, slots := 0, locals := 25 }
section
variable {p : Program} {l : Launch} {e : Env} {s : State} {m : MethodId} {args : Array Value} {below : List Frame} {meth : Method} {c : Code} {Q : State → Prop} {G : va_G} {aC : Nat → ClassId} {t b0 : Nat}
def f_X10_moved (v0 : Nat) (v1 : Int32) (N : AH) : Option (Int32 × AH) := ob (iO N v0 10) (fun _ => ob2 (f_X10_in (Int32.toInt64 v1) (0 : Int64) (15 : Int64) N) (fun x2 N1 => if x2 = 0 then some ((-2 : Int32), N1) else ob (hR N1 v0 10 0) (fun x4 => ob (aI N1 x4 ((26 : Int32) + v1)) (fun x5 => some (x5, N1)))))
set_option maxHeartbeats 4000000 in
set_option maxRecDepth 100000 in
theorem wk_X10_moved {P : Int32 × AH → Prop} (X : CX cX10_moved RX10 2 G aC t b0 p s m args c) (hr : RtI p l e rm_X10_moved s m args below meth c 0 0 Q cX10_moved G aC b0 P) (v0 : Nat) (v1 : Int32) (N : AH) (H : Heap) (locs : List Loc) (ls : Array Slot) (hR : Rp G aC b0 N H) (hS : va_S (fun q => b0 ≤ q) s.heap H locs) (hl : lv_has ls 2 [(0, .ref v0), (1, .int v1)]) (hp : owp (f_X10_moved v0 v1 N) P) : W p l e rm_X10_moved s m args below meth c H locs 0 0 Q (F0 m 0 ls []) := by
  have hx := X.1.1
  have hb := X.1.2.1
  unfold f_X10_moved at hp
  obtain ⟨_, _, hp⟩ := owp_ob hp
  refine lv_iload_n hx hb dX10_moved_0 rfl (lv_at hl 1 rfl) ?_
  refine lv_i2l (v := Int32.toInt64 v1) hx hb dX10_moved_1 rfl ?_
  refine lv_lconst (v := 0) hx hb dX10_moved_2 (by decide) ?_
  refine lv_ldc2 (own := RX10) (v := 15) hx hb X.1.2.2.2.1 (X.1.2.2.2.2 _ (WT_of 1129 (by decide +kernel) (by decide +kernel))) dX10_moved_3 ?_
  obtain ⟨x2, N1, e_N1, hp⟩ := owp_ob2 hp
  refine iv_X10_in (rest := []) mw_X10_60 X hR hS e_N1 hl.1 (Nat.le_of_ble_eq_true rfl) ⟨Nat.le_of_ble_eq_true rfl, Nat.le_of_ble_eq_true rfl⟩ ⟨Nat.le_of_ble_eq_true rfl, Nat.le_of_ble_eq_true rfl⟩ dX10_moved_6 (fun H locs hR hS => ?_)
  refine lv_if_eq (tgt := 24) hx hb dX10_moved_9 (by decide) (fun k3 => ?_) (fun k3 => ?_)
  · have hp := owp_t k3 hp
    refine lv_bipush (v := (-2)) hx hb dX10_moved_24 (by decide) ?_
    exact hr _ _ _ _ _ _ hR hS dX10_moved_26 hp
  · have hp := owp_f k3 hp
    refine lv_aload_n hx hb dX10_moved_12 rfl (lv_at hl 0 rfl) ?_
    obtain ⟨x4, e_x4, hp⟩ := owp_ob hp
    refine gf_X10_7 X hR e_x4 dX10_moved_13 ?_
    refine lv_bipush (v := (26)) hx hb dX10_moved_16 (by decide) ?_
    refine lv_iload_n hx hb dX10_moved_18 rfl (lv_at hl 1 rfl) ?_
    refine lv_iadd hx hb dX10_moved_19 ?_
    obtain ⟨x5, e_x5, hp⟩ := owp_ob hp
    refine ab_iald X hR e_x5 dX10_moved_20 ?_
    refine lv_goto (tgt := 26) hx hb dX10_moved_21 (by decide) ?_
    exact hr _ _ _ _ _ _ hR hS dX10_moved_26 hp
end
theorem ct_X10_moved {v0 : Nat} {v1 : Int32} {N N1 : AH} {r : Int32} (h : f_X10_moved v0 v1 N = some (r, N1)) : Ct yX10_moved cX10_moved 2 (some .int) rm_X10_moved [.ref v0, .int v1] N (some (.int r)) N1 :=
  ab_met (own := RX10) (by decide +kernel) rfl (Nat.le_of_ble_eq_true rfl) (fun l G aC t b0 p e s m below meth c ls X hr hlk hnm hR hS hl => wk_X10_moved X (RtI_met X.1.1 X.1.2.1 hr hlk) _ _ _ _ _ _ hR hS hl (owp_of h))
theorem cw_X10_moved : Cond.code yX10_moved cX10_moved 2 (some .int) ∈ WT := WT_of 1342 (by decide +kernel) (by decide +kernel)
theorem iv_X10_moved {p : Program} {l : Launch} {e : Env} {R : Room} {s : State} {m : MethodId} {args : Array Value} {below : List Frame} {meth : Method} {c : Code} {H : Heap} {locs : List Loc} {cells slots : Nat} {Q : State → Prop} {cc : ByteArray} {own : String} {nL : Nat} {G : va_G} {aC : Nat → ClassId} {t b0 : Nat} {N N1 : AH} {pc index : Nat} {ls : Array Slot} {rest : List Value} {v0 : Nat} {v1 : Int32} {r : Int32} (w1 : Cond.methodLink own index yX10_moved ∈ WT) (X : CX cc own nL G aC t b0 p s m args c) (hR : Rp G aC b0 N H) (hS : va_S (fun q => b0 ≤ q) s.heap H locs) (h : f_X10_moved v0 v1 N = some (r, N1)) (hls : ls.size = nL) (hW : (rest.map fun v => v.category).sum ≤ 8) (hR1 : 2 ≤ R.frames ∧ 46 ≤ R.locals) (hcs : cells + 0 ≤ R.cells ∧ slots + 0 ≤ R.slots) (hdg : decode cc pc = .ok (.invokevirtual index, 3)) (kk : ∀ (H1 : Heap) (locs1 : List Loc), Rp G aC b0 N1 H1 → va_S (fun q => b0 ≤ q) s.heap H1 locs1 → W p l e R s m args below meth c H1 locs1 cells slots Q (F0 m (pc + 3) ls (.int r :: rest))) : W p l e R s m args below meth c H locs cells slots Q (F0 m pc ls (.int v1 :: .ref v0 :: rest)) :=
  ab_callV (n := 1) (As := [.int v1]) X hR hS (ct_X10_moved h) (ob_rc (c := 10) (N := N) (a := v0) h) (T := TX10) (k := 20) (C := RX10) rfl w1 (WT_of 1340 (by decide +kernel) (by decide +kernel)) (WT_of 1341 (by decide +kernel) (by decide +kernel)) (WT_of 92 (by decide +kernel) (by decide +kernel)) cw_X10_moved ⟨rfl, by decide +kernel, by decide +kernel, by decide +kernel⟩ rfl hls hW hR1 hcs rfl hdg kk
-- X10_preemptions
theorem dX10_preemptions_0 : decode cX10_preemptions 0 = .ok (.aload_n 0, 1) := by decide +kernel
theorem dX10_preemptions_1 : decode cX10_preemptions 1 = .ok (.getfield 7, 3) := by decide +kernel
theorem dX10_preemptions_4 : decode cX10_preemptions 4 = .ok (.iconst 4, 1) := by decide +kernel
theorem dX10_preemptions_5 : decode cX10_preemptions 5 = .ok (.iaload, 1) := by decide +kernel
theorem dX10_preemptions_6 : decode cX10_preemptions 6 = .ok (.ireturn, 1) := by decide +kernel
def rm_X10_preemptions : Room := { frames := 0, cells := 0, slots := 0, locals := 0 }
section
variable {p : Program} {l : Launch} {e : Env} {s : State} {m : MethodId} {args : Array Value} {below : List Frame} {meth : Method} {c : Code} {Q : State → Prop} {G : va_G} {aC : Nat → ClassId} {t b0 : Nat}
def f_X10_preemptions (v0 : Nat) (N : AH) : Option (Int32 × AH) := ob (iO N v0 10) (fun _ => ob (hR N v0 10 0) (fun x1 => ob (aI N x1 (4 : Int32)) (fun x2 => some (x2, N))))
set_option maxHeartbeats 4000000 in
set_option maxRecDepth 100000 in
theorem wk_X10_preemptions {P : Int32 × AH → Prop} (X : CX cX10_preemptions RX10 1 G aC t b0 p s m args c) (hr : RtI p l e rm_X10_preemptions s m args below meth c 0 0 Q cX10_preemptions G aC b0 P) (v0 : Nat) (N : AH) (H : Heap) (locs : List Loc) (ls : Array Slot) (hR : Rp G aC b0 N H) (hS : va_S (fun q => b0 ≤ q) s.heap H locs) (hl : lv_has ls 1 [(0, .ref v0)]) (hp : owp (f_X10_preemptions v0 N) P) : W p l e rm_X10_preemptions s m args below meth c H locs 0 0 Q (F0 m 0 ls []) := by
  have hx := X.1.1
  have hb := X.1.2.1
  unfold f_X10_preemptions at hp
  obtain ⟨_, _, hp⟩ := owp_ob hp
  refine lv_aload_n hx hb dX10_preemptions_0 rfl (lv_at hl 0 rfl) ?_
  obtain ⟨x1, e_x1, hp⟩ := owp_ob hp
  refine gf_X10_7 X hR e_x1 dX10_preemptions_1 ?_
  refine lv_iconst (v := (4)) hx hb dX10_preemptions_4 (by decide) ?_
  obtain ⟨x2, e_x2, hp⟩ := owp_ob hp
  refine ab_iald X hR e_x2 dX10_preemptions_5 ?_
  exact hr _ _ _ _ _ _ hR hS dX10_preemptions_6 hp
end
theorem ct_X10_preemptions {v0 : Nat} {N N1 : AH} {r : Int32} (h : f_X10_preemptions v0 N = some (r, N1)) : Ct yX10_preemptions cX10_preemptions 1 (some .int) rm_X10_preemptions [.ref v0] N (some (.int r)) N1 :=
  ab_met (own := RX10) (by decide +kernel) rfl (Nat.le_of_ble_eq_true rfl) (fun l G aC t b0 p e s m below meth c ls X hr hlk hnm hR hS hl => wk_X10_preemptions X (RtI_met X.1.1 X.1.2.1 hr hlk) _ _ _ _ _ hR hS hl (owp_of h))
theorem cw_X10_preemptions : Cond.code yX10_preemptions cX10_preemptions 1 (some .int) ∈ WT := WT_of 1346 (by decide +kernel) (by decide +kernel)
theorem iv_X10_preemptions {p : Program} {l : Launch} {e : Env} {R : Room} {s : State} {m : MethodId} {args : Array Value} {below : List Frame} {meth : Method} {c : Code} {H : Heap} {locs : List Loc} {cells slots : Nat} {Q : State → Prop} {cc : ByteArray} {own : String} {nL : Nat} {G : va_G} {aC : Nat → ClassId} {t b0 : Nat} {N N1 : AH} {pc index : Nat} {ls : Array Slot} {rest : List Value} {v0 : Nat} {r : Int32} (w1 : Cond.methodLink own index yX10_preemptions ∈ WT) (X : CX cc own nL G aC t b0 p s m args c) (hR : Rp G aC b0 N H) (hS : va_S (fun q => b0 ≤ q) s.heap H locs) (h : f_X10_preemptions v0 N = some (r, N1)) (hls : ls.size = nL) (hW : (rest.map fun v => v.category).sum ≤ 8) (hR1 : 1 ≤ R.frames ∧ 20 ≤ R.locals) (hcs : cells + 0 ≤ R.cells ∧ slots + 0 ≤ R.slots) (hdg : decode cc pc = .ok (.invokevirtual index, 3)) (kk : ∀ (H1 : Heap) (locs1 : List Loc), Rp G aC b0 N1 H1 → va_S (fun q => b0 ≤ q) s.heap H1 locs1 → W p l e R s m args below meth c H1 locs1 cells slots Q (F0 m (pc + 3) ls (.int r :: rest))) : W p l e R s m args below meth c H locs cells slots Q (F0 m pc ls (.ref v0 :: rest)) :=
  ab_callV (n := 0) (As := []) X hR hS (ct_X10_preemptions h) (ob_rc (c := 10) (N := N) (a := v0) h) (T := TX10) (k := 20) (C := RX10) rfl w1 (WT_of 1344 (by decide +kernel) (by decide +kernel)) (WT_of 1345 (by decide +kernel) (by decide +kernel)) (WT_of 92 (by decide +kernel) (by decide +kernel)) cw_X10_preemptions ⟨rfl, by decide +kernel, by decide +kernel, by decide +kernel⟩ rfl hls hW hR1 hcs rfl hdg kk
-- X10_eventCount
theorem dX10_eventCount_0 : decode cX10_eventCount 0 = .ok (.aload_n 0, 1) := by decide +kernel
theorem dX10_eventCount_1 : decode cX10_eventCount 1 = .ok (.getfield 7, 3) := by decide +kernel
theorem dX10_eventCount_4 : decode cX10_eventCount 4 = .ok (.bipush 8, 2) := by decide +kernel
theorem dX10_eventCount_6 : decode cX10_eventCount 6 = .ok (.iaload, 1) := by decide +kernel
theorem dX10_eventCount_7 : decode cX10_eventCount 7 = .ok (.ireturn, 1) := by decide +kernel
def rm_X10_eventCount : Room := { frames := 0, cells := 0, slots := 0, locals := 0 }
section
variable {p : Program} {l : Launch} {e : Env} {s : State} {m : MethodId} {args : Array Value} {below : List Frame} {meth : Method} {c : Code} {Q : State → Prop} {G : va_G} {aC : Nat → ClassId} {t b0 : Nat}
def f_X10_eventCount (v0 : Nat) (N : AH) : Option (Int32 × AH) := ob (iO N v0 10) (fun _ => ob (hR N v0 10 0) (fun x1 => ob (aI N x1 (8 : Int32)) (fun x2 => some (x2, N))))
set_option maxHeartbeats 4000000 in
set_option maxRecDepth 100000 in
theorem wk_X10_eventCount {P : Int32 × AH → Prop} (X : CX cX10_eventCount RX10 1 G aC t b0 p s m args c) (hr : RtI p l e rm_X10_eventCount s m args below meth c 0 0 Q cX10_eventCount G aC b0 P) (v0 : Nat) (N : AH) (H : Heap) (locs : List Loc) (ls : Array Slot) (hR : Rp G aC b0 N H) (hS : va_S (fun q => b0 ≤ q) s.heap H locs) (hl : lv_has ls 1 [(0, .ref v0)]) (hp : owp (f_X10_eventCount v0 N) P) : W p l e rm_X10_eventCount s m args below meth c H locs 0 0 Q (F0 m 0 ls []) := by
  have hx := X.1.1
  have hb := X.1.2.1
  unfold f_X10_eventCount at hp
  obtain ⟨_, _, hp⟩ := owp_ob hp
  refine lv_aload_n hx hb dX10_eventCount_0 rfl (lv_at hl 0 rfl) ?_
  obtain ⟨x1, e_x1, hp⟩ := owp_ob hp
  refine gf_X10_7 X hR e_x1 dX10_eventCount_1 ?_
  refine lv_bipush (v := (8)) hx hb dX10_eventCount_4 (by decide) ?_
  obtain ⟨x2, e_x2, hp⟩ := owp_ob hp
  refine ab_iald X hR e_x2 dX10_eventCount_6 ?_
  exact hr _ _ _ _ _ _ hR hS dX10_eventCount_7 hp
end
theorem ct_X10_eventCount {v0 : Nat} {N N1 : AH} {r : Int32} (h : f_X10_eventCount v0 N = some (r, N1)) : Ct yX10_eventCount cX10_eventCount 1 (some .int) rm_X10_eventCount [.ref v0] N (some (.int r)) N1 :=
  ab_met (own := RX10) (by decide +kernel) rfl (Nat.le_of_ble_eq_true rfl) (fun l G aC t b0 p e s m below meth c ls X hr hlk hnm hR hS hl => wk_X10_eventCount X (RtI_met X.1.1 X.1.2.1 hr hlk) _ _ _ _ _ hR hS hl (owp_of h))
theorem cw_X10_eventCount : Cond.code yX10_eventCount cX10_eventCount 1 (some .int) ∈ WT := WT_of 1350 (by decide +kernel) (by decide +kernel)
theorem iv_X10_eventCount {p : Program} {l : Launch} {e : Env} {R : Room} {s : State} {m : MethodId} {args : Array Value} {below : List Frame} {meth : Method} {c : Code} {H : Heap} {locs : List Loc} {cells slots : Nat} {Q : State → Prop} {cc : ByteArray} {own : String} {nL : Nat} {G : va_G} {aC : Nat → ClassId} {t b0 : Nat} {N N1 : AH} {pc index : Nat} {ls : Array Slot} {rest : List Value} {v0 : Nat} {r : Int32} (w1 : Cond.methodLink own index yX10_eventCount ∈ WT) (X : CX cc own nL G aC t b0 p s m args c) (hR : Rp G aC b0 N H) (hS : va_S (fun q => b0 ≤ q) s.heap H locs) (h : f_X10_eventCount v0 N = some (r, N1)) (hls : ls.size = nL) (hW : (rest.map fun v => v.category).sum ≤ 8) (hR1 : 1 ≤ R.frames ∧ 20 ≤ R.locals) (hcs : cells + 0 ≤ R.cells ∧ slots + 0 ≤ R.slots) (hdg : decode cc pc = .ok (.invokevirtual index, 3)) (kk : ∀ (H1 : Heap) (locs1 : List Loc), Rp G aC b0 N1 H1 → va_S (fun q => b0 ≤ q) s.heap H1 locs1 → W p l e R s m args below meth c H1 locs1 cells slots Q (F0 m (pc + 3) ls (.int r :: rest))) : W p l e R s m args below meth c H locs cells slots Q (F0 m pc ls (.ref v0 :: rest)) :=
  ab_callV (n := 0) (As := []) X hR hS (ct_X10_eventCount h) (ob_rc (c := 10) (N := N) (a := v0) h) (T := TX10) (k := 20) (C := RX10) rfl w1 (WT_of 1348 (by decide +kernel) (by decide +kernel)) (WT_of 1349 (by decide +kernel) (by decide +kernel)) (WT_of 92 (by decide +kernel) (by decide +kernel)) cw_X10_eventCount ⟨rfl, by decide +kernel, by decide +kernel, by decide +kernel⟩ rfl hls hW hR1 hcs rfl hdg kk
-- X10_event
theorem dX10_event_0 : decode cX10_event 0 = .ok (.iload_n 1, 1) := by decide +kernel
theorem dX10_event_1 : decode cX10_event 1 = .ok (.i2l, 1) := by decide +kernel
theorem dX10_event_2 : decode cX10_event 2 = .ok (.lconst 0, 1) := by decide +kernel
theorem dX10_event_3 : decode cX10_event 3 = .ok (.aload_n 0, 1) := by decide +kernel
theorem dX10_event_4 : decode cX10_event 4 = .ok (.getfield 7, 3) := by decide +kernel
theorem dX10_event_7 : decode cX10_event 7 = .ok (.bipush 8, 2) := by decide +kernel
theorem dX10_event_9 : decode cX10_event 9 = .ok (.iaload, 1) := by decide +kernel
theorem dX10_event_10 : decode cX10_event 10 = .ok (.iconst 1, 1) := by decide +kernel
theorem dX10_event_11 : decode cX10_event 11 = .ok (.isub, 1) := by decide +kernel
theorem dX10_event_12 : decode cX10_event 12 = .ok (.i2l, 1) := by decide +kernel
theorem dX10_event_13 : decode cX10_event 13 = .ok (.invokestatic 60, 3) := by decide +kernel
theorem dX10_event_16 : decode cX10_event 16 = .ok (.ifCond .ne 6, 3) := by decide +kernel
theorem dX10_event_19 : decode cX10_event 19 = .ok (.bipush (-2), 2) := by decide +kernel
theorem dX10_event_21 : decode cX10_event 21 = .ok (.ireturn, 1) := by decide +kernel
theorem dX10_event_22 : decode cX10_event 22 = .ok (.iload_n 2, 1) := by decide +kernel
theorem dX10_event_23 : decode cX10_event 23 = .ok (.i2l, 1) := by decide +kernel
theorem dX10_event_24 : decode cX10_event 24 = .ok (.lconst 0, 1) := by decide +kernel
theorem dX10_event_25 : decode cX10_event 25 = .ok (.ldc2_w 257, 3) := by decide +kernel
theorem dX10_event_28 : decode cX10_event 28 = .ok (.invokestatic 60, 3) := by decide +kernel
theorem dX10_event_31 : decode cX10_event 31 = .ok (.ifCond .eq 30, 3) := by decide +kernel
theorem dX10_event_34 : decode cX10_event 34 = .ok (.aload_n 0, 1) := by decide +kernel
theorem dX10_event_35 : decode cX10_event 35 = .ok (.getfield 7, 3) := by decide +kernel
theorem dX10_event_38 : decode cX10_event 38 = .ok (.sipush 1122, 3) := by decide +kernel
theorem dX10_event_41 : decode cX10_event 41 = .ok (.iconst 3, 1) := by decide +kernel
theorem dX10_event_42 : decode cX10_event 42 = .ok (.aload_n 0, 1) := by decide +kernel
theorem dX10_event_43 : decode cX10_event 43 = .ok (.getfield 7, 3) := by decide +kernel
theorem dX10_event_46 : decode cX10_event 46 = .ok (.bipush 8, 2) := by decide +kernel
theorem dX10_event_48 : decode cX10_event 48 = .ok (.iaload, 1) := by decide +kernel
theorem dX10_event_49 : decode cX10_event 49 = .ok (.iconst 1, 1) := by decide +kernel
theorem dX10_event_50 : decode cX10_event 50 = .ok (.isub, 1) := by decide +kernel
theorem dX10_event_51 : decode cX10_event 51 = .ok (.iload_n 1, 1) := by decide +kernel
theorem dX10_event_52 : decode cX10_event 52 = .ok (.isub, 1) := by decide +kernel
theorem dX10_event_53 : decode cX10_event 53 = .ok (.imul, 1) := by decide +kernel
theorem dX10_event_54 : decode cX10_event 54 = .ok (.iadd, 1) := by decide +kernel
theorem dX10_event_55 : decode cX10_event 55 = .ok (.iload_n 2, 1) := by decide +kernel
theorem dX10_event_56 : decode cX10_event 56 = .ok (.iadd, 1) := by decide +kernel
theorem dX10_event_57 : decode cX10_event 57 = .ok (.iaload, 1) := by decide +kernel
theorem dX10_event_58 : decode cX10_event 58 = .ok (.goto 5, 3) := by decide +kernel
theorem dX10_event_61 : decode cX10_event 61 = .ok (.bipush (-3), 2) := by decide +kernel
theorem dX10_event_63 : decode cX10_event 63 = .ok (.ireturn, 1) := by decide +kernel
def rm_X10_event : Room := { frames := 1, cells := 0, slots := 0, locals := 25 }
section
variable {p : Program} {l : Launch} {e : Env} {s : State} {m : MethodId} {args : Array Value} {below : List Frame} {meth : Method} {c : Code} {Q : State → Prop} {G : va_G} {aC : Nat → ClassId} {t b0 : Nat}
def f_X10_event (v0 : Nat) (v1 : Int32) (v2 : Int32) (N : AH) : Option (Int32 × AH) := ob (iO N v0 10) (fun _ => ob (hR N v0 10 0) (fun x1 => ob (aI N x1 (8 : Int32)) (fun x2 => ob2 (f_X10_in (Int32.toInt64 v1) (0 : Int64) (Int32.toInt64 (x2 - (1 : Int32))) N) (fun x4 N3 => if ¬ x4 = 0 then ob2 (f_X10_in (Int32.toInt64 v2) (0 : Int64) (2 : Int64) N3) (fun x7 N6 => if x7 = 0 then some ((-3 : Int32), N6) else ob (hR N6 v0 10 0) (fun x9 => ob (hR N6 v0 10 0) (fun x10 => ob (aI N6 x10 (8 : Int32)) (fun x11 => ob (aI N6 x9 (((1122 : Int32) + ((3 : Int32) * ((x11 - (1 : Int32)) - v1))) + v2)) (fun x12 => some (x12, N6)))))) else some ((-2 : Int32), N3)))))
set_option maxHeartbeats 4000000 in
set_option maxRecDepth 100000 in
theorem wk_X10_event {P : Int32 × AH → Prop} (X : CX cX10_event RX10 3 G aC t b0 p s m args c) (hr : RtI p l e rm_X10_event s m args below meth c 0 0 Q cX10_event G aC b0 P) (v0 : Nat) (v1 : Int32) (v2 : Int32) (N : AH) (H : Heap) (locs : List Loc) (ls : Array Slot) (hR : Rp G aC b0 N H) (hS : va_S (fun q => b0 ≤ q) s.heap H locs) (hl : lv_has ls 3 [(0, .ref v0), (1, .int v1), (2, .int v2)]) (hp : owp (f_X10_event v0 v1 v2 N) P) : W p l e rm_X10_event s m args below meth c H locs 0 0 Q (F0 m 0 ls []) := by
  have hx := X.1.1
  have hb := X.1.2.1
  unfold f_X10_event at hp
  obtain ⟨_, _, hp⟩ := owp_ob hp
  refine lv_iload_n hx hb dX10_event_0 rfl (lv_at hl 1 rfl) ?_
  refine lv_i2l (v := Int32.toInt64 v1) hx hb dX10_event_1 rfl ?_
  refine lv_lconst (v := 0) hx hb dX10_event_2 (by decide) ?_
  refine lv_aload_n hx hb dX10_event_3 rfl (lv_at hl 0 rfl) ?_
  obtain ⟨x1, e_x1, hp⟩ := owp_ob hp
  refine gf_X10_7 X hR e_x1 dX10_event_4 ?_
  refine lv_bipush (v := (8)) hx hb dX10_event_7 (by decide) ?_
  obtain ⟨x2, e_x2, hp⟩ := owp_ob hp
  refine ab_iald X hR e_x2 dX10_event_9 ?_
  refine lv_iconst (v := (1)) hx hb dX10_event_10 (by decide) ?_
  refine lv_isub hx hb dX10_event_11 ?_
  refine lv_i2l (v := Int32.toInt64 (x2 - (1 : Int32))) hx hb dX10_event_12 rfl ?_
  obtain ⟨x4, N3, e_N3, hp⟩ := owp_ob2 hp
  refine iv_X10_in (rest := []) mw_X10_60 X hR hS e_N3 hl.1 (Nat.le_of_ble_eq_true rfl) ⟨Nat.le_of_ble_eq_true rfl, Nat.le_of_ble_eq_true rfl⟩ ⟨Nat.le_of_ble_eq_true rfl, Nat.le_of_ble_eq_true rfl⟩ dX10_event_13 (fun H locs hR hS => ?_)
  refine lv_if_ne (tgt := 22) hx hb dX10_event_16 (by decide) (fun k5 => ?_) (fun k5 => ?_)
  · have hp := owp_t k5 hp
    refine lv_iload_n hx hb dX10_event_22 rfl (lv_at hl 2 rfl) ?_
    refine lv_i2l (v := Int32.toInt64 v2) hx hb dX10_event_23 rfl ?_
    refine lv_lconst (v := 0) hx hb dX10_event_24 (by decide) ?_
    refine lv_ldc2 (own := RX10) (v := 2) hx hb X.1.2.2.2.1 (X.1.2.2.2.2 _ (WT_of 1355 (by decide +kernel) (by decide +kernel))) dX10_event_25 ?_
    obtain ⟨x7, N6, e_N6, hp⟩ := owp_ob2 hp
    refine iv_X10_in (rest := []) mw_X10_60 X hR hS e_N6 hl.1 (Nat.le_of_ble_eq_true rfl) ⟨Nat.le_of_ble_eq_true rfl, Nat.le_of_ble_eq_true rfl⟩ ⟨Nat.le_of_ble_eq_true rfl, Nat.le_of_ble_eq_true rfl⟩ dX10_event_28 (fun H locs hR hS => ?_)
    refine lv_if_eq (tgt := 61) hx hb dX10_event_31 (by decide) (fun k8 => ?_) (fun k8 => ?_)
    · have hp := owp_t k8 hp
      refine lv_bipush (v := (-3)) hx hb dX10_event_61 (by decide) ?_
      exact hr _ _ _ _ _ _ hR hS dX10_event_63 hp
    · have hp := owp_f k8 hp
      refine lv_aload_n hx hb dX10_event_34 rfl (lv_at hl 0 rfl) ?_
      obtain ⟨x9, e_x9, hp⟩ := owp_ob hp
      refine gf_X10_7 X hR e_x9 dX10_event_35 ?_
      refine lv_sipush (v := (1122)) hx hb dX10_event_38 (by decide) ?_
      refine lv_iconst (v := (3)) hx hb dX10_event_41 (by decide) ?_
      refine lv_aload_n hx hb dX10_event_42 rfl (lv_at hl 0 rfl) ?_
      obtain ⟨x10, e_x10, hp⟩ := owp_ob hp
      refine gf_X10_7 X hR e_x10 dX10_event_43 ?_
      refine lv_bipush (v := (8)) hx hb dX10_event_46 (by decide) ?_
      obtain ⟨x11, e_x11, hp⟩ := owp_ob hp
      refine ab_iald X hR e_x11 dX10_event_48 ?_
      refine lv_iconst (v := (1)) hx hb dX10_event_49 (by decide) ?_
      refine lv_isub hx hb dX10_event_50 ?_
      refine lv_iload_n hx hb dX10_event_51 rfl (lv_at hl 1 rfl) ?_
      refine lv_isub hx hb dX10_event_52 ?_
      refine lv_imul hx hb dX10_event_53 ?_
      refine lv_iadd hx hb dX10_event_54 ?_
      refine lv_iload_n hx hb dX10_event_55 rfl (lv_at hl 2 rfl) ?_
      refine lv_iadd hx hb dX10_event_56 ?_
      obtain ⟨x12, e_x12, hp⟩ := owp_ob hp
      refine ab_iald X hR e_x12 dX10_event_57 ?_
      refine lv_goto (tgt := 63) hx hb dX10_event_58 (by decide) ?_
      exact hr _ _ _ _ _ _ hR hS dX10_event_63 hp
  · have hp := owp_f (fun q => q k5) hp
    refine lv_bipush (v := (-2)) hx hb dX10_event_19 (by decide) ?_
    exact hr _ _ _ _ _ _ hR hS dX10_event_21 hp
end
theorem ct_X10_event {v0 : Nat} {v1 : Int32} {v2 : Int32} {N N1 : AH} {r : Int32} (h : f_X10_event v0 v1 v2 N = some (r, N1)) : Ct yX10_event cX10_event 3 (some .int) rm_X10_event [.ref v0, .int v1, .int v2] N (some (.int r)) N1 :=
  ab_met (own := RX10) (by decide +kernel) rfl (Nat.le_of_ble_eq_true rfl) (fun l G aC t b0 p e s m below meth c ls X hr hlk hnm hR hS hl => wk_X10_event X (RtI_met X.1.1 X.1.2.1 hr hlk) _ _ _ _ _ _ _ hR hS hl (owp_of h))
theorem cw_X10_event : Cond.code yX10_event cX10_event 3 (some .int) ∈ WT := WT_of 1354 (by decide +kernel) (by decide +kernel)
theorem iv_X10_event {p : Program} {l : Launch} {e : Env} {R : Room} {s : State} {m : MethodId} {args : Array Value} {below : List Frame} {meth : Method} {c : Code} {H : Heap} {locs : List Loc} {cells slots : Nat} {Q : State → Prop} {cc : ByteArray} {own : String} {nL : Nat} {G : va_G} {aC : Nat → ClassId} {t b0 : Nat} {N N1 : AH} {pc index : Nat} {ls : Array Slot} {rest : List Value} {v0 : Nat} {v1 : Int32} {v2 : Int32} {r : Int32} (w1 : Cond.methodLink own index yX10_event ∈ WT) (X : CX cc own nL G aC t b0 p s m args c) (hR : Rp G aC b0 N H) (hS : va_S (fun q => b0 ≤ q) s.heap H locs) (h : f_X10_event v0 v1 v2 N = some (r, N1)) (hls : ls.size = nL) (hW : (rest.map fun v => v.category).sum ≤ 8) (hR1 : 2 ≤ R.frames ∧ 47 ≤ R.locals) (hcs : cells + 0 ≤ R.cells ∧ slots + 0 ≤ R.slots) (hdg : decode cc pc = .ok (.invokevirtual index, 3)) (kk : ∀ (H1 : Heap) (locs1 : List Loc), Rp G aC b0 N1 H1 → va_S (fun q => b0 ≤ q) s.heap H1 locs1 → W p l e R s m args below meth c H1 locs1 cells slots Q (F0 m (pc + 3) ls (.int r :: rest))) : W p l e R s m args below meth c H locs cells slots Q (F0 m pc ls (.int v2 :: .int v1 :: .ref v0 :: rest)) :=
  ab_callV (n := 2) (As := [.int v1, .int v2]) X hR hS (ct_X10_event h) (ob_rc (c := 10) (N := N) (a := v0) h) (T := TX10) (k := 20) (C := RX10) rfl w1 (WT_of 1352 (by decide +kernel) (by decide +kernel)) (WT_of 1353 (by decide +kernel) (by decide +kernel)) (WT_of 92 (by decide +kernel) (by decide +kernel)) cw_X10_event ⟨rfl, by decide +kernel, by decide +kernel, by decide +kernel⟩ rfl hls hW hR1 hcs rfl hdg kk
-- X10_note
theorem gf_X10_261 {p : Program} {l : Launch} {e : Env} {R : Room} {s : State} {m : MethodId} {args : Array Value} {below : List Frame} {meth : Method} {c : Code} {H : Heap} {locs : List Loc} {cells slots : Nat} {Q : State → Prop} {cc : ByteArray} {nL : Nat} {G : va_G} {aC : Nat → ClassId} {t b0 : Nat} {N : AH} {pc : Nat} {ls : Array Slot} {rest : List Value} {a : Nat} {v : Int64} (X : CX cc RX10 nL G aC t b0 p s m args c) (hR0 : Rp G aC b0 N H) (hv : hJ N a 10 19 = some v) (hdg : decode cc pc = .ok (.getfield 261, 3)) (kk : W p l e R s m args below meth c H locs cells slots Q (F0 m (pc + 3) ls (.long v :: rest))) : W p l e R s m args below meth c H locs cells slots Q (F0 m pc ls (.ref a :: rest)) := by
  obtain ⟨fs, h1, h2⟩ := hJ_ok hv
  exact ab_get (C := RX10) (T := TX10) (n := 20) X hR0 h1 h2 rfl inX10 (by decide) (WT_of 967 (by decide +kernel) (by decide +kernel)) hdg kk
theorem pf_X10_261 {p : Program} {l : Launch} {e : Env} {R : Room} {s : State} {m : MethodId} {args : Array Value} {below : List Frame} {meth : Method} {c : Code} {H : Heap} {locs : List Loc} {cells slots : Nat} {Q : State → Prop} {cc : ByteArray} {nL : Nat} {G : va_G} {aC : Nat → ClassId} {t b0 : Nat} {N : AH} {pc : Nat} {ls : Array Slot} {rest : List Value} {N1 : AH} {a : Nat} {v : Int64} (X : CX cc RX10 nL G aC t b0 p s m args c) (hR0 : Rp G aC b0 N H) (hS : va_S (fun q => b0 ≤ q) s.heap H locs) (hv : pJ N a 10 19 v = some N1) (hdg : decode cc pc = .ok (.putfield 261, 3)) (kk : ∀ (H1 : Heap) (locs1 : List Loc), Rp G aC b0 N1 H1 → va_S (fun q => b0 ≤ q) s.heap H1 locs1 → W p l e R s m args below meth c H1 locs1 cells slots Q (F0 m (pc + 3) ls rest)) : W p l e R s m args below meth c H locs cells slots Q (F0 m pc ls (.long v :: .ref a :: rest)) := by
  obtain ⟨fs, h1, h2, h3⟩ := pV_ok hv
  subst h3
  exact ab_put (C := RX10) (T := TX10) (n := 20) X hR0 hS h1 h2 rfl inX10 tyX10 tyX10_ok nmX10 (by decide) (WT_of 967 (by decide +kernel) (by decide +kernel)) rfl rfl rfl hdg kk
theorem dX10_note_0 : decode cX10_note 0 = .ok (.aload_n 0, 1) := by decide +kernel
theorem dX10_note_1 : decode cX10_note 1 = .ok (.ldc2_w 259, 3) := by decide +kernel
theorem dX10_note_4 : decode cX10_note 4 = .ok (.aload_n 0, 1) := by decide +kernel
theorem dX10_note_5 : decode cX10_note 5 = .ok (.getfield 261, 3) := by decide +kernel
theorem dX10_note_8 : decode cX10_note 8 = .ok (.lmul, 1) := by decide +kernel
theorem dX10_note_9 : decode cX10_note 9 = .ok (.iload_n 1, 1) := by decide +kernel
theorem dX10_note_10 : decode cX10_note 10 = .ok (.i2l, 1) := by decide +kernel
theorem dX10_note_11 : decode cX10_note 11 = .ok (.ladd, 1) := by decide +kernel
theorem dX10_note_12 : decode cX10_note 12 = .ok (.putfield 261, 3) := by decide +kernel
theorem dX10_note_15 : decode cX10_note 15 = .ok (.return_, 1) := by decide +kernel
def rm_X10_note : Room := { frames := 0, cells := 0, slots := 0, locals := 0 }
section
variable {p : Program} {l : Launch} {e : Env} {s : State} {m : MethodId} {args : Array Value} {below : List Frame} {meth : Method} {c : Code} {Q : State → Prop} {G : va_G} {aC : Nat → ClassId} {t b0 : Nat}
def f_X10_note (v0 : Nat) (v1 : Int32) (N : AH) : Option (Unit × AH) := ob (iO N v0 10) (fun _ => ob (hJ N v0 10 19) (fun x1 => ob (pJ N v0 10 19 (((31 : Int64) * x1) + (Int32.toInt64 v1))) (fun N2 => some ((), N2))))
set_option maxHeartbeats 4000000 in
set_option maxRecDepth 100000 in
theorem wk_X10_note {P : Unit × AH → Prop} (X : CX cX10_note RX10 2 G aC t b0 p s m args c) (hr : RtV p l e rm_X10_note s m args below meth c 0 0 Q cX10_note G aC b0 P) (v0 : Nat) (v1 : Int32) (N : AH) (H : Heap) (locs : List Loc) (ls : Array Slot) (hR : Rp G aC b0 N H) (hS : va_S (fun q => b0 ≤ q) s.heap H locs) (hl : lv_has ls 2 [(0, .ref v0), (1, .int v1)]) (hp : owp (f_X10_note v0 v1 N) P) : W p l e rm_X10_note s m args below meth c H locs 0 0 Q (F0 m 0 ls []) := by
  have hx := X.1.1
  have hb := X.1.2.1
  unfold f_X10_note at hp
  obtain ⟨_, _, hp⟩ := owp_ob hp
  refine lv_aload_n hx hb dX10_note_0 rfl (lv_at hl 0 rfl) ?_
  refine lv_ldc2 (own := RX10) (v := 31) hx hb X.1.2.2.2.1 (X.1.2.2.2.2 _ (WT_of 1365 (by decide +kernel) (by decide +kernel))) dX10_note_1 ?_
  refine lv_aload_n hx hb dX10_note_4 rfl (lv_at hl 0 rfl) ?_
  obtain ⟨x1, e_x1, hp⟩ := owp_ob hp
  refine gf_X10_261 X hR e_x1 dX10_note_5 ?_
  refine lv_lmul hx hb dX10_note_8 ?_
  refine lv_iload_n hx hb dX10_note_9 rfl (lv_at hl 1 rfl) ?_
  refine lv_i2l (v := Int32.toInt64 v1) hx hb dX10_note_10 rfl ?_
  refine lv_ladd hx hb dX10_note_11 ?_
  obtain ⟨N2, e_N2, hp⟩ := owp_ob hp
  refine pf_X10_261 X hR hS e_N2 dX10_note_12 (fun H locs hR hS => ?_)
  exact hr _ _ _ _ _ hR hS dX10_note_15 hp
end
theorem ct_X10_note {v0 : Nat} {v1 : Int32} {N N1 : AH} {r : Unit} (h : f_X10_note v0 v1 N = some (r, N1)) : Ct yX10_note cX10_note 2 none rm_X10_note [.ref v0, .int v1] N none N1 :=
  ab_met (own := RX10) (by decide +kernel) rfl (Nat.le_of_ble_eq_true rfl) (fun l G aC t b0 p e s m below meth c ls X hr hlk hnm hR hS hl => wk_X10_note X (RtV_met X.1.1 X.1.2.1 hr hlk) _ _ _ _ _ _ hR hS hl (owp_of h))
theorem cw_X10_note : Cond.code yX10_note cX10_note 2 none ∈ WT := WT_of 1364 (by decide +kernel) (by decide +kernel)
theorem iv_X10_note {p : Program} {l : Launch} {e : Env} {R : Room} {s : State} {m : MethodId} {args : Array Value} {below : List Frame} {meth : Method} {c : Code} {H : Heap} {locs : List Loc} {cells slots : Nat} {Q : State → Prop} {cc : ByteArray} {own : String} {nL : Nat} {G : va_G} {aC : Nat → ClassId} {t b0 : Nat} {N N1 : AH} {pc index : Nat} {ls : Array Slot} {rest : List Value} {v0 : Nat} {v1 : Int32} {r : Unit} (w1 : Cond.methodLink own index yX10_note ∈ WT) (X : CX cc own nL G aC t b0 p s m args c) (hR : Rp G aC b0 N H) (hS : va_S (fun q => b0 ≤ q) s.heap H locs) (h : f_X10_note v0 v1 N = some (r, N1)) (hls : ls.size = nL) (hW : (rest.map fun v => v.category).sum ≤ 8) (hR1 : 1 ≤ R.frames ∧ 21 ≤ R.locals) (hcs : cells + 0 ≤ R.cells ∧ slots + 0 ≤ R.slots) (hdg : decode cc pc = .ok (.invokevirtual index, 3)) (kk : ∀ (H1 : Heap) (locs1 : List Loc), Rp G aC b0 N1 H1 → va_S (fun q => b0 ≤ q) s.heap H1 locs1 → W p l e R s m args below meth c H1 locs1 cells slots Q (F0 m (pc + 3) ls rest)) : W p l e R s m args below meth c H locs cells slots Q (F0 m pc ls (.int v1 :: .ref v0 :: rest)) :=
  ab_callV (n := 1) (As := [.int v1]) X hR hS (ct_X10_note h) (ob_rc (c := 10) (N := N) (a := v0) h) (T := TX10) (k := 20) (C := RX10) rfl w1 (WT_of 1363 (by decide +kernel) (by decide +kernel)) (WT_of 78 (by decide +kernel) (by decide +kernel)) (WT_of 92 (by decide +kernel) (by decide +kernel)) cw_X10_note ⟨rfl, by decide +kernel, by decide +kernel, by decide +kernel⟩ rfl hls hW hR1 hcs rfl hdg kk
-- X10_noteGroup
theorem mw_X10_265 : Cond.methodLink RX10 265 yX10_note ∈ WT := WT_of 1361 (by decide +kernel) (by decide +kernel)
theorem dX10_noteGroup_0 : decode cX10_noteGroup 0 = .ok (.aload_n 0, 1) := by decide +kernel
theorem dX10_noteGroup_1 : decode cX10_noteGroup 1 = .ok (.aload_n 0, 1) := by decide +kernel
theorem dX10_noteGroup_2 : decode cX10_noteGroup 2 = .ok (.iload_n 1, 1) := by decide +kernel
theorem dX10_noteGroup_3 : decode cX10_noteGroup 3 = .ok (.invokevirtual 107, 3) := by decide +kernel
theorem dX10_noteGroup_6 : decode cX10_noteGroup 6 = .ok (.invokevirtual 265, 3) := by decide +kernel
theorem dX10_noteGroup_9 : decode cX10_noteGroup 9 = .ok (.aload_n 0, 1) := by decide +kernel
theorem dX10_noteGroup_10 : decode cX10_noteGroup 10 = .ok (.aload_n 0, 1) := by decide +kernel
theorem dX10_noteGroup_11 : decode cX10_noteGroup 11 = .ok (.iload_n 1, 1) := by decide +kernel
theorem dX10_noteGroup_12 : decode cX10_noteGroup 12 = .ok (.iconst 0, 1) := by decide +kernel
theorem dX10_noteGroup_13 : decode cX10_noteGroup 13 = .ok (.invokevirtual 52, 3) := by decide +kernel
theorem dX10_noteGroup_16 : decode cX10_noteGroup 16 = .ok (.invokevirtual 265, 3) := by decide +kernel
theorem dX10_noteGroup_19 : decode cX10_noteGroup 19 = .ok (.aload_n 0, 1) := by decide +kernel
theorem dX10_noteGroup_20 : decode cX10_noteGroup 20 = .ok (.aload_n 0, 1) := by decide +kernel
theorem dX10_noteGroup_21 : decode cX10_noteGroup 21 = .ok (.iload_n 1, 1) := by decide +kernel
theorem dX10_noteGroup_22 : decode cX10_noteGroup 22 = .ok (.iconst 1, 1) := by decide +kernel
theorem dX10_noteGroup_23 : decode cX10_noteGroup 23 = .ok (.invokevirtual 52, 3) := by decide +kernel
theorem dX10_noteGroup_26 : decode cX10_noteGroup 26 = .ok (.invokevirtual 265, 3) := by decide +kernel
theorem dX10_noteGroup_29 : decode cX10_noteGroup 29 = .ok (.aload_n 0, 1) := by decide +kernel
theorem dX10_noteGroup_30 : decode cX10_noteGroup 30 = .ok (.aload_n 0, 1) := by decide +kernel
theorem dX10_noteGroup_31 : decode cX10_noteGroup 31 = .ok (.iload_n 1, 1) := by decide +kernel
theorem dX10_noteGroup_32 : decode cX10_noteGroup 32 = .ok (.iconst 2, 1) := by decide +kernel
theorem dX10_noteGroup_33 : decode cX10_noteGroup 33 = .ok (.invokevirtual 52, 3) := by decide +kernel
theorem dX10_noteGroup_36 : decode cX10_noteGroup 36 = .ok (.invokevirtual 265, 3) := by decide +kernel
theorem dX10_noteGroup_39 : decode cX10_noteGroup 39 = .ok (.aload_n 0, 1) := by decide +kernel
theorem dX10_noteGroup_40 : decode cX10_noteGroup 40 = .ok (.aload_n 0, 1) := by decide +kernel
theorem dX10_noteGroup_41 : decode cX10_noteGroup 41 = .ok (.iload_n 1, 1) := by decide +kernel
theorem dX10_noteGroup_42 : decode cX10_noteGroup 42 = .ok (.iconst 3, 1) := by decide +kernel
theorem dX10_noteGroup_43 : decode cX10_noteGroup 43 = .ok (.invokevirtual 52, 3) := by decide +kernel
theorem dX10_noteGroup_46 : decode cX10_noteGroup 46 = .ok (.invokevirtual 265, 3) := by decide +kernel
theorem dX10_noteGroup_49 : decode cX10_noteGroup 49 = .ok (.iconst 0, 1) := by decide +kernel
theorem dX10_noteGroup_50 : decode cX10_noteGroup 50 = .ok (.istore_n 2, 1) := by decide +kernel
theorem dX10_noteGroup_51 : decode cX10_noteGroup 51 = .ok (.iload_n 2, 1) := by decide +kernel
theorem dX10_noteGroup_52 : decode cX10_noteGroup 52 = .ok (.iconst 5, 1) := by decide +kernel
theorem dX10_noteGroup_53 : decode cX10_noteGroup 53 = .ok (.aload_n 0, 1) := by decide +kernel
theorem dX10_noteGroup_54 : decode cX10_noteGroup 54 = .ok (.iload_n 1, 1) := by decide +kernel
theorem dX10_noteGroup_55 : decode cX10_noteGroup 55 = .ok (.iconst 5, 1) := by decide +kernel
theorem dX10_noteGroup_56 : decode cX10_noteGroup 56 = .ok (.invokevirtual 52, 3) := by decide +kernel
theorem dX10_noteGroup_59 : decode cX10_noteGroup 59 = .ok (.imul, 1) := by decide +kernel
theorem dX10_noteGroup_60 : decode cX10_noteGroup 60 = .ok (.if_icmp .ge 22, 3) := by decide +kernel
theorem dX10_noteGroup_63 : decode cX10_noteGroup 63 = .ok (.aload_n 0, 1) := by decide +kernel
theorem dX10_noteGroup_64 : decode cX10_noteGroup 64 = .ok (.aload_n 0, 1) := by decide +kernel
theorem dX10_noteGroup_65 : decode cX10_noteGroup 65 = .ok (.iload_n 1, 1) := by decide +kernel
theorem dX10_noteGroup_66 : decode cX10_noteGroup 66 = .ok (.bipush 6, 2) := by decide +kernel
theorem dX10_noteGroup_68 : decode cX10_noteGroup 68 = .ok (.iload_n 2, 1) := by decide +kernel
theorem dX10_noteGroup_69 : decode cX10_noteGroup 69 = .ok (.iadd, 1) := by decide +kernel
theorem dX10_noteGroup_70 : decode cX10_noteGroup 70 = .ok (.invokevirtual 52, 3) := by decide +kernel
theorem dX10_noteGroup_73 : decode cX10_noteGroup 73 = .ok (.invokevirtual 265, 3) := by decide +kernel
theorem dX10_noteGroup_76 : decode cX10_noteGroup 76 = .ok (.iinc 2 1, 3) := by decide +kernel
theorem dX10_noteGroup_79 : decode cX10_noteGroup 79 = .ok (.goto (-28), 3) := by decide +kernel
theorem dX10_noteGroup_82 : decode cX10_noteGroup 82 = .ok (.return_, 1) := by decide +kernel
def rm_X10_noteGroup : Room := { frames := 2, cells := 0, slots := 0, locals := 43 }
section
variable {p : Program} {l : Launch} {e : Env} {s : State} {m : MethodId} {args : Array Value} {below : List Frame} {meth : Method} {c : Code} {Q : State → Prop} {G : va_G} {aC : Nat → ClassId} {t b0 : Nat}
def f_X10_noteGroup_L51 (v0 : Nat) (v1 : Int32) (k82 : AH → Option (Unit × AH)) : Nat → Int32 → AH → Option (Unit × AH)
  | 0, _, _ => none
  | n + 1, v2, N => ob2 (f_X10_of v0 v1 (5 : Int32) N) (fun x17 N16 => if ((5 : Int32) * x17) ≤ v2 then k82 N16 else ob2 (f_X10_of v0 v1 ((6 : Int32) + v2) N16) (fun x20 N19 => ob2 (f_X10_note v0 x20 N19) (fun _ N21 => f_X10_noteGroup_L51 v0 v1 k82 n (v2 + 1) N21)))
set_option maxHeartbeats 4000000 in
set_option maxRecDepth 100000 in
theorem w_X10_noteGroup_L51 {P : Unit × AH → Prop} (X : CX cX10_noteGroup RX10 3 G aC t b0 p s m args c) (hr : RtV p l e rm_X10_noteGroup s m args below meth c 0 0 Q cX10_noteGroup G aC b0 P) (v0 : Nat) (v1 : Int32) {k82 : AH → Option (Unit × AH)}
    (hk82 : ∀ (N : AH) (H : Heap) (locs : List Loc) (ls : Array Slot), Rp G aC b0 N H → va_S (fun q => b0 ≤ q) s.heap H locs → lv_has ls 3 [] → owp (k82 N) P → W p l e rm_X10_noteGroup s m args below meth c H locs 0 0 Q (F0 m 82 ls [])) :
    ∀ (n : Nat) (v2 : Int32) (N : AH) (H : Heap) (locs : List Loc) (ls : Array Slot), Rp G aC b0 N H → va_S (fun q => b0 ≤ q) s.heap H locs → lv_has ls 3 [(0, .ref v0), (1, .int v1), (2, .int v2)] → owp (f_X10_noteGroup_L51 v0 v1 k82 n v2 N) P → W p l e rm_X10_noteGroup s m args below meth c H locs 0 0 Q (F0 m 51 ls []) := by
  have hx := X.1.1
  have hb := X.1.2.1
  intro n
  induction n with
  | zero =>
    intro v2 N H locs ls hR hS hl hp
    exact (show False from hp).elim
  | succ n ih =>
    intro v2 N H locs ls hR hS hl hp
    rw [f_X10_noteGroup_L51] at hp
    refine lv_iload_n hx hb dX10_noteGroup_51 rfl (lv_at hl 2 rfl) ?_
    refine lv_iconst (v := (5)) hx hb dX10_noteGroup_52 (by decide) ?_
    refine lv_aload_n hx hb dX10_noteGroup_53 rfl (lv_at hl 0 rfl) ?_
    refine lv_iload_n hx hb dX10_noteGroup_54 rfl (lv_at hl 1 rfl) ?_
    refine lv_iconst (v := (5)) hx hb dX10_noteGroup_55 (by decide) ?_
    obtain ⟨x17, N16, e_N16, hp⟩ := owp_ob2 hp
    refine iv_X10_of (rest := [.int (5 : Int32), .int v2]) mw_X10_52 X hR hS e_N16 hl.1 (Nat.le_of_ble_eq_true rfl) ⟨Nat.le_of_ble_eq_true rfl, Nat.le_of_ble_eq_true rfl⟩ ⟨Nat.le_of_ble_eq_true rfl, Nat.le_of_ble_eq_true rfl⟩ dX10_noteGroup_56 (fun H locs hR hS => ?_)
    refine lv_imul hx hb dX10_noteGroup_59 ?_
    refine lv_icmp_ge (tgt := 82) hx hb dX10_noteGroup_60 (by decide) (fun k18 => ?_) (fun k18 => ?_)
    · have hp := owp_t k18 hp
      exact hk82 _ _ _ _ hR hS (lv_sub hl [] rfl) hp
    · have hp := owp_f k18 hp
      refine lv_aload_n hx hb dX10_noteGroup_63 rfl (lv_at hl 0 rfl) ?_
      refine lv_aload_n hx hb dX10_noteGroup_64 rfl (lv_at hl 0 rfl) ?_
      refine lv_iload_n hx hb dX10_noteGroup_65 rfl (lv_at hl 1 rfl) ?_
      refine lv_bipush (v := (6)) hx hb dX10_noteGroup_66 (by decide) ?_
      refine lv_iload_n hx hb dX10_noteGroup_68 rfl (lv_at hl 2 rfl) ?_
      refine lv_iadd hx hb dX10_noteGroup_69 ?_
      obtain ⟨x20, N19, e_N19, hp⟩ := owp_ob2 hp
      refine iv_X10_of (rest := [.ref v0]) mw_X10_52 X hR hS e_N19 hl.1 (Nat.le_of_ble_eq_true rfl) ⟨Nat.le_of_ble_eq_true rfl, Nat.le_of_ble_eq_true rfl⟩ ⟨Nat.le_of_ble_eq_true rfl, Nat.le_of_ble_eq_true rfl⟩ dX10_noteGroup_70 (fun H locs hR hS => ?_)
      obtain ⟨_, N21, e_N21, hp⟩ := owp_ob2 hp
      refine iv_X10_note (rest := []) mw_X10_265 X hR hS e_N21 hl.1 (Nat.le_of_ble_eq_true rfl) ⟨Nat.le_of_ble_eq_true rfl, Nat.le_of_ble_eq_true rfl⟩ ⟨Nat.le_of_ble_eq_true rfl, Nat.le_of_ble_eq_true rfl⟩ dX10_noteGroup_73 (fun H locs hR hS => ?_)
      refine lv_iinc (v := v2 + 1) (lv' := [(2, .int (v2 + 1)), (0, .ref v0), (1, .int v1)]) hx hb dX10_noteGroup_76 hl (k := 2) rfl rfl (by decide) rfl (fun ls hl => ?_)
      refine lv_goto (tgt := 51) hx hb dX10_noteGroup_79 (by decide) ?_
      exact ih _ _ _ _ _ hR hS (lv_sub hl [1, 2, 0] rfl) hp
def f_X10_noteGroup (v0 : Nat) (v1 : Int32) (N : AH) : Option (Unit × AH) := ob (iO N v0 10) (fun _ => ob2 (f_X10_stateOf v0 v1 N) (fun x2 N1 => ob2 (f_X10_note v0 x2 N1) (fun _ N3 => ob2 (f_X10_of v0 v1 (0 : Int32) N3) (fun x5 N4 => ob2 (f_X10_note v0 x5 N4) (fun _ N6 => ob2 (f_X10_of v0 v1 (1 : Int32) N6) (fun x8 N7 => ob2 (f_X10_note v0 x8 N7) (fun _ N9 => ob2 (f_X10_of v0 v1 (2 : Int32) N9) (fun x11 N10 => ob2 (f_X10_note v0 x11 N10) (fun _ N12 => ob2 (f_X10_of v0 v1 (3 : Int32) N12) (fun x14 N13 => ob2 (f_X10_note v0 x14 N13) (fun _ N15 => f_X10_noteGroup_L51 v0 v1 (fun N22 => some ((), N22)) FU (0 : Int32) N15)))))))))))
set_option maxHeartbeats 4000000 in
set_option maxRecDepth 100000 in
theorem wk_X10_noteGroup {P : Unit × AH → Prop} (X : CX cX10_noteGroup RX10 3 G aC t b0 p s m args c) (hr : RtV p l e rm_X10_noteGroup s m args below meth c 0 0 Q cX10_noteGroup G aC b0 P) (v0 : Nat) (v1 : Int32) (N : AH) (H : Heap) (locs : List Loc) (ls : Array Slot) (hR : Rp G aC b0 N H) (hS : va_S (fun q => b0 ≤ q) s.heap H locs) (hl : lv_has ls 3 [(0, .ref v0), (1, .int v1)]) (hp : owp (f_X10_noteGroup v0 v1 N) P) : W p l e rm_X10_noteGroup s m args below meth c H locs 0 0 Q (F0 m 0 ls []) := by
  have hx := X.1.1
  have hb := X.1.2.1
  unfold f_X10_noteGroup at hp
  obtain ⟨_, _, hp⟩ := owp_ob hp
  refine lv_aload_n hx hb dX10_noteGroup_0 rfl (lv_at hl 0 rfl) ?_
  refine lv_aload_n hx hb dX10_noteGroup_1 rfl (lv_at hl 0 rfl) ?_
  refine lv_iload_n hx hb dX10_noteGroup_2 rfl (lv_at hl 1 rfl) ?_
  obtain ⟨x2, N1, e_N1, hp⟩ := owp_ob2 hp
  refine iv_X10_stateOf (rest := [.ref v0]) mw_X10_107 X hR hS e_N1 hl.1 (Nat.le_of_ble_eq_true rfl) ⟨Nat.le_of_ble_eq_true rfl, Nat.le_of_ble_eq_true rfl⟩ ⟨Nat.le_of_ble_eq_true rfl, Nat.le_of_ble_eq_true rfl⟩ dX10_noteGroup_3 (fun H locs hR hS => ?_)
  obtain ⟨_, N3, e_N3, hp⟩ := owp_ob2 hp
  refine iv_X10_note (rest := []) mw_X10_265 X hR hS e_N3 hl.1 (Nat.le_of_ble_eq_true rfl) ⟨Nat.le_of_ble_eq_true rfl, Nat.le_of_ble_eq_true rfl⟩ ⟨Nat.le_of_ble_eq_true rfl, Nat.le_of_ble_eq_true rfl⟩ dX10_noteGroup_6 (fun H locs hR hS => ?_)
  refine lv_aload_n hx hb dX10_noteGroup_9 rfl (lv_at hl 0 rfl) ?_
  refine lv_aload_n hx hb dX10_noteGroup_10 rfl (lv_at hl 0 rfl) ?_
  refine lv_iload_n hx hb dX10_noteGroup_11 rfl (lv_at hl 1 rfl) ?_
  refine lv_iconst (v := (0)) hx hb dX10_noteGroup_12 (by decide) ?_
  obtain ⟨x5, N4, e_N4, hp⟩ := owp_ob2 hp
  refine iv_X10_of (rest := [.ref v0]) mw_X10_52 X hR hS e_N4 hl.1 (Nat.le_of_ble_eq_true rfl) ⟨Nat.le_of_ble_eq_true rfl, Nat.le_of_ble_eq_true rfl⟩ ⟨Nat.le_of_ble_eq_true rfl, Nat.le_of_ble_eq_true rfl⟩ dX10_noteGroup_13 (fun H locs hR hS => ?_)
  obtain ⟨_, N6, e_N6, hp⟩ := owp_ob2 hp
  refine iv_X10_note (rest := []) mw_X10_265 X hR hS e_N6 hl.1 (Nat.le_of_ble_eq_true rfl) ⟨Nat.le_of_ble_eq_true rfl, Nat.le_of_ble_eq_true rfl⟩ ⟨Nat.le_of_ble_eq_true rfl, Nat.le_of_ble_eq_true rfl⟩ dX10_noteGroup_16 (fun H locs hR hS => ?_)
  refine lv_aload_n hx hb dX10_noteGroup_19 rfl (lv_at hl 0 rfl) ?_
  refine lv_aload_n hx hb dX10_noteGroup_20 rfl (lv_at hl 0 rfl) ?_
  refine lv_iload_n hx hb dX10_noteGroup_21 rfl (lv_at hl 1 rfl) ?_
  refine lv_iconst (v := (1)) hx hb dX10_noteGroup_22 (by decide) ?_
  obtain ⟨x8, N7, e_N7, hp⟩ := owp_ob2 hp
  refine iv_X10_of (rest := [.ref v0]) mw_X10_52 X hR hS e_N7 hl.1 (Nat.le_of_ble_eq_true rfl) ⟨Nat.le_of_ble_eq_true rfl, Nat.le_of_ble_eq_true rfl⟩ ⟨Nat.le_of_ble_eq_true rfl, Nat.le_of_ble_eq_true rfl⟩ dX10_noteGroup_23 (fun H locs hR hS => ?_)
  obtain ⟨_, N9, e_N9, hp⟩ := owp_ob2 hp
  refine iv_X10_note (rest := []) mw_X10_265 X hR hS e_N9 hl.1 (Nat.le_of_ble_eq_true rfl) ⟨Nat.le_of_ble_eq_true rfl, Nat.le_of_ble_eq_true rfl⟩ ⟨Nat.le_of_ble_eq_true rfl, Nat.le_of_ble_eq_true rfl⟩ dX10_noteGroup_26 (fun H locs hR hS => ?_)
  refine lv_aload_n hx hb dX10_noteGroup_29 rfl (lv_at hl 0 rfl) ?_
  refine lv_aload_n hx hb dX10_noteGroup_30 rfl (lv_at hl 0 rfl) ?_
  refine lv_iload_n hx hb dX10_noteGroup_31 rfl (lv_at hl 1 rfl) ?_
  refine lv_iconst (v := (2)) hx hb dX10_noteGroup_32 (by decide) ?_
  obtain ⟨x11, N10, e_N10, hp⟩ := owp_ob2 hp
  refine iv_X10_of (rest := [.ref v0]) mw_X10_52 X hR hS e_N10 hl.1 (Nat.le_of_ble_eq_true rfl) ⟨Nat.le_of_ble_eq_true rfl, Nat.le_of_ble_eq_true rfl⟩ ⟨Nat.le_of_ble_eq_true rfl, Nat.le_of_ble_eq_true rfl⟩ dX10_noteGroup_33 (fun H locs hR hS => ?_)
  obtain ⟨_, N12, e_N12, hp⟩ := owp_ob2 hp
  refine iv_X10_note (rest := []) mw_X10_265 X hR hS e_N12 hl.1 (Nat.le_of_ble_eq_true rfl) ⟨Nat.le_of_ble_eq_true rfl, Nat.le_of_ble_eq_true rfl⟩ ⟨Nat.le_of_ble_eq_true rfl, Nat.le_of_ble_eq_true rfl⟩ dX10_noteGroup_36 (fun H locs hR hS => ?_)
  refine lv_aload_n hx hb dX10_noteGroup_39 rfl (lv_at hl 0 rfl) ?_
  refine lv_aload_n hx hb dX10_noteGroup_40 rfl (lv_at hl 0 rfl) ?_
  refine lv_iload_n hx hb dX10_noteGroup_41 rfl (lv_at hl 1 rfl) ?_
  refine lv_iconst (v := (3)) hx hb dX10_noteGroup_42 (by decide) ?_
  obtain ⟨x14, N13, e_N13, hp⟩ := owp_ob2 hp
  refine iv_X10_of (rest := [.ref v0]) mw_X10_52 X hR hS e_N13 hl.1 (Nat.le_of_ble_eq_true rfl) ⟨Nat.le_of_ble_eq_true rfl, Nat.le_of_ble_eq_true rfl⟩ ⟨Nat.le_of_ble_eq_true rfl, Nat.le_of_ble_eq_true rfl⟩ dX10_noteGroup_43 (fun H locs hR hS => ?_)
  obtain ⟨_, N15, e_N15, hp⟩ := owp_ob2 hp
  refine iv_X10_note (rest := []) mw_X10_265 X hR hS e_N15 hl.1 (Nat.le_of_ble_eq_true rfl) ⟨Nat.le_of_ble_eq_true rfl, Nat.le_of_ble_eq_true rfl⟩ ⟨Nat.le_of_ble_eq_true rfl, Nat.le_of_ble_eq_true rfl⟩ dX10_noteGroup_46 (fun H locs hR hS => ?_)
  refine lv_iconst (v := (0)) hx hb dX10_noteGroup_49 (by decide) ?_
  refine lv_istore_n (lv' := [(2, .int (0 : Int32)), (0, .ref v0), (1, .int v1)]) hx hb dX10_noteGroup_50 rfl hl (by decide) rfl (fun ls hl => ?_)
  refine w_X10_noteGroup_L51 X hr _ _ (fun N22 H locs ls hR hS hl hp => ?_) _ _ _ _ _ _ hR hS (lv_sub hl [1, 2, 0] rfl) hp
  exact hr _ _ _ _ _ hR hS dX10_noteGroup_82 hp
end
theorem ct_X10_noteGroup {v0 : Nat} {v1 : Int32} {N N1 : AH} {r : Unit} (h : f_X10_noteGroup v0 v1 N = some (r, N1)) : Ct yX10_noteGroup cX10_noteGroup 3 none rm_X10_noteGroup [.ref v0, .int v1] N none N1 :=
  ab_met (own := RX10) (by decide +kernel) rfl (Nat.le_of_ble_eq_true rfl) (fun l G aC t b0 p e s m below meth c ls X hr hlk hnm hR hS hl => wk_X10_noteGroup X (RtV_met X.1.1 X.1.2.1 hr hlk) _ _ _ _ _ _ hR hS hl (owp_of h))
theorem cw_X10_noteGroup : Cond.code yX10_noteGroup cX10_noteGroup 3 none ∈ WT := WT_of 1369 (by decide +kernel) (by decide +kernel)
theorem iv_X10_noteGroup {p : Program} {l : Launch} {e : Env} {R : Room} {s : State} {m : MethodId} {args : Array Value} {below : List Frame} {meth : Method} {c : Code} {H : Heap} {locs : List Loc} {cells slots : Nat} {Q : State → Prop} {cc : ByteArray} {own : String} {nL : Nat} {G : va_G} {aC : Nat → ClassId} {t b0 : Nat} {N N1 : AH} {pc index : Nat} {ls : Array Slot} {rest : List Value} {v0 : Nat} {v1 : Int32} {r : Unit} (w1 : Cond.methodLink own index yX10_noteGroup ∈ WT) (X : CX cc own nL G aC t b0 p s m args c) (hR : Rp G aC b0 N H) (hS : va_S (fun q => b0 ≤ q) s.heap H locs) (h : f_X10_noteGroup v0 v1 N = some (r, N1)) (hls : ls.size = nL) (hW : (rest.map fun v => v.category).sum ≤ 8) (hR1 : 3 ≤ R.frames ∧ 65 ≤ R.locals) (hcs : cells + 0 ≤ R.cells ∧ slots + 0 ≤ R.slots) (hdg : decode cc pc = .ok (.invokevirtual index, 3)) (kk : ∀ (H1 : Heap) (locs1 : List Loc), Rp G aC b0 N1 H1 → va_S (fun q => b0 ≤ q) s.heap H1 locs1 → W p l e R s m args below meth c H1 locs1 cells slots Q (F0 m (pc + 3) ls rest)) : W p l e R s m args below meth c H locs cells slots Q (F0 m pc ls (.int v1 :: .ref v0 :: rest)) :=
  ab_callV (n := 1) (As := [.int v1]) X hR hS (ct_X10_noteGroup h) (ob_rc (c := 10) (N := N) (a := v0) h) (T := TX10) (k := 20) (C := RX10) rfl w1 (WT_of 1368 (by decide +kernel) (by decide +kernel)) (WT_of 79 (by decide +kernel) (by decide +kernel)) (WT_of 92 (by decide +kernel) (by decide +kernel)) cw_X10_noteGroup ⟨rfl, by decide +kernel, by decide +kernel, by decide +kernel⟩ rfl hls hW hR1 hcs rfl hdg kk
-- X10_digest
theorem mw_X10_270 : Cond.methodLink RX10 270 yX10_noteGroup ∈ WT := WT_of 1366 (by decide +kernel) (by decide +kernel)
theorem dX10_digest_0 : decode cX10_digest 0 = .ok (.aload_n 0, 1) := by decide +kernel
theorem dX10_digest_1 : decode cX10_digest 1 = .ok (.ldc2_w 268, 3) := by decide +kernel
theorem dX10_digest_4 : decode cX10_digest 4 = .ok (.putfield 261, 3) := by decide +kernel
theorem dX10_digest_7 : decode cX10_digest 7 = .ok (.iconst 0, 1) := by decide +kernel
theorem dX10_digest_8 : decode cX10_digest 8 = .ok (.istore_n 1, 1) := by decide +kernel
theorem dX10_digest_9 : decode cX10_digest 9 = .ok (.iload_n 1, 1) := by decide +kernel
theorem dX10_digest_10 : decode cX10_digest 10 = .ok (.iconst 4, 1) := by decide +kernel
theorem dX10_digest_11 : decode cX10_digest 11 = .ok (.if_icmp .gt 19, 3) := by decide +kernel
theorem dX10_digest_14 : decode cX10_digest 14 = .ok (.aload_n 0, 1) := by decide +kernel
theorem dX10_digest_15 : decode cX10_digest 15 = .ok (.aload_n 0, 1) := by decide +kernel
theorem dX10_digest_16 : decode cX10_digest 16 = .ok (.getfield 7, 3) := by decide +kernel
theorem dX10_digest_19 : decode cX10_digest 19 = .ok (.iload_n 1, 1) := by decide +kernel
theorem dX10_digest_20 : decode cX10_digest 20 = .ok (.iaload, 1) := by decide +kernel
theorem dX10_digest_21 : decode cX10_digest 21 = .ok (.invokevirtual 265, 3) := by decide +kernel
theorem dX10_digest_24 : decode cX10_digest 24 = .ok (.iinc 1 1, 3) := by decide +kernel
theorem dX10_digest_27 : decode cX10_digest 27 = .ok (.goto (-18), 3) := by decide +kernel
theorem dX10_digest_30 : decode cX10_digest 30 = .ok (.iconst 0, 1) := by decide +kernel
theorem dX10_digest_31 : decode cX10_digest 31 = .ok (.istore_n 1, 1) := by decide +kernel
theorem dX10_digest_32 : decode cX10_digest 32 = .ok (.iload_n 1, 1) := by decide +kernel
theorem dX10_digest_33 : decode cX10_digest 33 = .ok (.bipush 16, 2) := by decide +kernel
theorem dX10_digest_35 : decode cX10_digest 35 = .ok (.if_icmp .ge 35, 3) := by decide +kernel
theorem dX10_digest_38 : decode cX10_digest 38 = .ok (.aload_n 0, 1) := by decide +kernel
theorem dX10_digest_39 : decode cX10_digest 39 = .ok (.aload_n 0, 1) := by decide +kernel
theorem dX10_digest_40 : decode cX10_digest 40 = .ok (.getfield 7, 3) := by decide +kernel
theorem dX10_digest_43 : decode cX10_digest 43 = .ok (.bipush 10, 2) := by decide +kernel
theorem dX10_digest_45 : decode cX10_digest 45 = .ok (.iload_n 1, 1) := by decide +kernel
theorem dX10_digest_46 : decode cX10_digest 46 = .ok (.iadd, 1) := by decide +kernel
theorem dX10_digest_47 : decode cX10_digest 47 = .ok (.iaload, 1) := by decide +kernel
theorem dX10_digest_48 : decode cX10_digest 48 = .ok (.invokevirtual 265, 3) := by decide +kernel
theorem dX10_digest_51 : decode cX10_digest 51 = .ok (.aload_n 0, 1) := by decide +kernel
theorem dX10_digest_52 : decode cX10_digest 52 = .ok (.aload_n 0, 1) := by decide +kernel
theorem dX10_digest_53 : decode cX10_digest 53 = .ok (.getfield 7, 3) := by decide +kernel
theorem dX10_digest_56 : decode cX10_digest 56 = .ok (.bipush 26, 2) := by decide +kernel
theorem dX10_digest_58 : decode cX10_digest 58 = .ok (.iload_n 1, 1) := by decide +kernel
theorem dX10_digest_59 : decode cX10_digest 59 = .ok (.iadd, 1) := by decide +kernel
theorem dX10_digest_60 : decode cX10_digest 60 = .ok (.iaload, 1) := by decide +kernel
theorem dX10_digest_61 : decode cX10_digest 61 = .ok (.invokevirtual 265, 3) := by decide +kernel
theorem dX10_digest_64 : decode cX10_digest 64 = .ok (.iinc 1 1, 3) := by decide +kernel
theorem dX10_digest_67 : decode cX10_digest 67 = .ok (.goto (-35), 3) := by decide +kernel
theorem dX10_digest_70 : decode cX10_digest 70 = .ok (.aload_n 0, 1) := by decide +kernel
theorem dX10_digest_71 : decode cX10_digest 71 = .ok (.aload_n 0, 1) := by decide +kernel
theorem dX10_digest_72 : decode cX10_digest 72 = .ok (.getfield 7, 3) := by decide +kernel
theorem dX10_digest_75 : decode cX10_digest 75 = .ok (.bipush 7, 2) := by decide +kernel
theorem dX10_digest_77 : decode cX10_digest 77 = .ok (.iaload, 1) := by decide +kernel
theorem dX10_digest_78 : decode cX10_digest 78 = .ok (.invokevirtual 265, 3) := by decide +kernel
theorem dX10_digest_81 : decode cX10_digest 81 = .ok (.iconst 0, 1) := by decide +kernel
theorem dX10_digest_82 : decode cX10_digest 82 = .ok (.istore_n 1, 1) := by decide +kernel
theorem dX10_digest_83 : decode cX10_digest 83 = .ok (.iload_n 1, 1) := by decide +kernel
theorem dX10_digest_84 : decode cX10_digest 84 = .ok (.iconst 3, 1) := by decide +kernel
theorem dX10_digest_85 : decode cX10_digest 85 = .ok (.aload_n 0, 1) := by decide +kernel
theorem dX10_digest_86 : decode cX10_digest 86 = .ok (.getfield 7, 3) := by decide +kernel
theorem dX10_digest_89 : decode cX10_digest 89 = .ok (.bipush 7, 2) := by decide +kernel
theorem dX10_digest_91 : decode cX10_digest 91 = .ok (.iaload, 1) := by decide +kernel
theorem dX10_digest_92 : decode cX10_digest 92 = .ok (.imul, 1) := by decide +kernel
theorem dX10_digest_93 : decode cX10_digest 93 = .ok (.if_icmp .ge 22, 3) := by decide +kernel
theorem dX10_digest_96 : decode cX10_digest 96 = .ok (.aload_n 0, 1) := by decide +kernel
theorem dX10_digest_97 : decode cX10_digest 97 = .ok (.aload_n 0, 1) := by decide +kernel
theorem dX10_digest_98 : decode cX10_digest 98 = .ok (.getfield 7, 3) := by decide +kernel
theorem dX10_digest_101 : decode cX10_digest 101 = .ok (.bipush 42, 2) := by decide +kernel
theorem dX10_digest_103 : decode cX10_digest 103 = .ok (.iload_n 1, 1) := by decide +kernel
theorem dX10_digest_104 : decode cX10_digest 104 = .ok (.iadd, 1) := by decide +kernel
theorem dX10_digest_105 : decode cX10_digest 105 = .ok (.iaload, 1) := by decide +kernel
theorem dX10_digest_106 : decode cX10_digest 106 = .ok (.invokevirtual 265, 3) := by decide +kernel
theorem dX10_digest_109 : decode cX10_digest 109 = .ok (.iinc 1 1, 3) := by decide +kernel
theorem dX10_digest_112 : decode cX10_digest 112 = .ok (.goto (-29), 3) := by decide +kernel
theorem dX10_digest_115 : decode cX10_digest 115 = .ok (.iconst 0, 1) := by decide +kernel
theorem dX10_digest_116 : decode cX10_digest 116 = .ok (.istore_n 1, 1) := by decide +kernel
theorem dX10_digest_117 : decode cX10_digest 117 = .ok (.iload_n 1, 1) := by decide +kernel
theorem dX10_digest_118 : decode cX10_digest 118 = .ok (.aload_n 0, 1) := by decide +kernel
theorem dX10_digest_119 : decode cX10_digest 119 = .ok (.getfield 7, 3) := by decide +kernel
theorem dX10_digest_122 : decode cX10_digest 122 = .ok (.bipush 6, 2) := by decide +kernel
theorem dX10_digest_124 : decode cX10_digest 124 = .ok (.iaload, 1) := by decide +kernel
theorem dX10_digest_125 : decode cX10_digest 125 = .ok (.if_icmp .ge 14, 3) := by decide +kernel
theorem dX10_digest_128 : decode cX10_digest 128 = .ok (.aload_n 0, 1) := by decide +kernel
theorem dX10_digest_129 : decode cX10_digest 129 = .ok (.iload_n 1, 1) := by decide +kernel
theorem dX10_digest_130 : decode cX10_digest 130 = .ok (.invokevirtual 270, 3) := by decide +kernel
theorem dX10_digest_133 : decode cX10_digest 133 = .ok (.iinc 1 1, 3) := by decide +kernel
theorem dX10_digest_136 : decode cX10_digest 136 = .ok (.goto (-19), 3) := by decide +kernel
theorem dX10_digest_139 : decode cX10_digest 139 = .ok (.iconst 0, 1) := by decide +kernel
theorem dX10_digest_140 : decode cX10_digest 140 = .ok (.istore_n 1, 1) := by decide +kernel
theorem dX10_digest_141 : decode cX10_digest 141 = .ok (.iload_n 1, 1) := by decide +kernel
theorem dX10_digest_142 : decode cX10_digest 142 = .ok (.iconst 3, 1) := by decide +kernel
theorem dX10_digest_143 : decode cX10_digest 143 = .ok (.aload_n 0, 1) := by decide +kernel
theorem dX10_digest_144 : decode cX10_digest 144 = .ok (.getfield 7, 3) := by decide +kernel
theorem dX10_digest_147 : decode cX10_digest 147 = .ok (.bipush 8, 2) := by decide +kernel
theorem dX10_digest_149 : decode cX10_digest 149 = .ok (.iaload, 1) := by decide +kernel
theorem dX10_digest_150 : decode cX10_digest 150 = .ok (.imul, 1) := by decide +kernel
theorem dX10_digest_151 : decode cX10_digest 151 = .ok (.if_icmp .ge 23, 3) := by decide +kernel
theorem dX10_digest_154 : decode cX10_digest 154 = .ok (.aload_n 0, 1) := by decide +kernel
theorem dX10_digest_155 : decode cX10_digest 155 = .ok (.aload_n 0, 1) := by decide +kernel
theorem dX10_digest_156 : decode cX10_digest 156 = .ok (.getfield 7, 3) := by decide +kernel
theorem dX10_digest_159 : decode cX10_digest 159 = .ok (.sipush 1122, 3) := by decide +kernel
theorem dX10_digest_162 : decode cX10_digest 162 = .ok (.iload_n 1, 1) := by decide +kernel
theorem dX10_digest_163 : decode cX10_digest 163 = .ok (.iadd, 1) := by decide +kernel
theorem dX10_digest_164 : decode cX10_digest 164 = .ok (.iaload, 1) := by decide +kernel
theorem dX10_digest_165 : decode cX10_digest 165 = .ok (.invokevirtual 265, 3) := by decide +kernel
theorem dX10_digest_168 : decode cX10_digest 168 = .ok (.iinc 1 1, 3) := by decide +kernel
theorem dX10_digest_171 : decode cX10_digest 171 = .ok (.goto (-30), 3) := by decide +kernel
theorem dX10_digest_174 : decode cX10_digest 174 = .ok (.aload_n 0, 1) := by decide +kernel
theorem dX10_digest_175 : decode cX10_digest 175 = .ok (.getfield 261, 3) := by decide +kernel
theorem dX10_digest_178 : decode cX10_digest 178 = .ok (.lreturn, 1) := by decide +kernel
def rm_X10_digest : Room := { frames := 3, cells := 0, slots := 0, locals := 65 }
section
variable {p : Program} {l : Launch} {e : Env} {s : State} {m : MethodId} {args : Array Value} {below : List Frame} {meth : Method} {c : Code} {Q : State → Prop} {G : va_G} {aC : Nat → ClassId} {t b0 : Nat}
def f_X10_digest_L9 (v0 : Nat) (k30 : AH → Option (Int64 × AH)) : Nat → Int32 → AH → Option (Int64 × AH)
  | 0, _, _ => none
  | n + 1, v1, N => if (4 : Int32) < v1 then k30 N else ob (hR N v0 10 0) (fun x3 => ob (aI N x3 v1) (fun x4 => ob2 (f_X10_note v0 x4 N) (fun _ N5 => f_X10_digest_L9 v0 k30 n (v1 + 1) N5)))
set_option maxHeartbeats 4000000 in
set_option maxRecDepth 100000 in
theorem w_X10_digest_L9 {P : Int64 × AH → Prop} (X : CX cX10_digest RX10 2 G aC t b0 p s m args c) (hr : RtJ p l e rm_X10_digest s m args below meth c 0 0 Q cX10_digest G aC b0 P) (v0 : Nat) {k30 : AH → Option (Int64 × AH)}
    (hk30 : ∀ (N : AH) (H : Heap) (locs : List Loc) (ls : Array Slot), Rp G aC b0 N H → va_S (fun q => b0 ≤ q) s.heap H locs → lv_has ls 2 [(0, .ref v0)] → owp (k30 N) P → W p l e rm_X10_digest s m args below meth c H locs 0 0 Q (F0 m 30 ls [])) :
    ∀ (n : Nat) (v1 : Int32) (N : AH) (H : Heap) (locs : List Loc) (ls : Array Slot), Rp G aC b0 N H → va_S (fun q => b0 ≤ q) s.heap H locs → lv_has ls 2 [(0, .ref v0), (1, .int v1)] → owp (f_X10_digest_L9 v0 k30 n v1 N) P → W p l e rm_X10_digest s m args below meth c H locs 0 0 Q (F0 m 9 ls []) := by
  have hx := X.1.1
  have hb := X.1.2.1
  intro n
  induction n with
  | zero =>
    intro v1 N H locs ls hR hS hl hp
    exact (show False from hp).elim
  | succ n ih =>
    intro v1 N H locs ls hR hS hl hp
    rw [f_X10_digest_L9] at hp
    refine lv_iload_n hx hb dX10_digest_9 rfl (lv_at hl 1 rfl) ?_
    refine lv_iconst (v := (4)) hx hb dX10_digest_10 (by decide) ?_
    refine lv_icmp_gt (tgt := 30) hx hb dX10_digest_11 (by decide) (fun k2 => ?_) (fun k2 => ?_)
    · have hp := owp_t k2 hp
      exact hk30 _ _ _ _ hR hS (lv_sub hl [0] rfl) hp
    · have hp := owp_f k2 hp
      refine lv_aload_n hx hb dX10_digest_14 rfl (lv_at hl 0 rfl) ?_
      refine lv_aload_n hx hb dX10_digest_15 rfl (lv_at hl 0 rfl) ?_
      obtain ⟨x3, e_x3, hp⟩ := owp_ob hp
      refine gf_X10_7 X hR e_x3 dX10_digest_16 ?_
      refine lv_iload_n hx hb dX10_digest_19 rfl (lv_at hl 1 rfl) ?_
      obtain ⟨x4, e_x4, hp⟩ := owp_ob hp
      refine ab_iald X hR e_x4 dX10_digest_20 ?_
      obtain ⟨_, N5, e_N5, hp⟩ := owp_ob2 hp
      refine iv_X10_note (rest := []) mw_X10_265 X hR hS e_N5 hl.1 (Nat.le_of_ble_eq_true rfl) ⟨Nat.le_of_ble_eq_true rfl, Nat.le_of_ble_eq_true rfl⟩ ⟨Nat.le_of_ble_eq_true rfl, Nat.le_of_ble_eq_true rfl⟩ dX10_digest_21 (fun H locs hR hS => ?_)
      refine lv_iinc (v := v1 + 1) (lv' := [(1, .int (v1 + 1)), (0, .ref v0)]) hx hb dX10_digest_24 hl (k := 1) rfl rfl (by decide) rfl (fun ls hl => ?_)
      refine lv_goto (tgt := 9) hx hb dX10_digest_27 (by decide) ?_
      exact ih _ _ _ _ _ hR hS (lv_sub hl [1, 0] rfl) hp
def f_X10_digest_L32 (v0 : Nat) (k70 : AH → Option (Int64 × AH)) : Nat → Int32 → AH → Option (Int64 × AH)
  | 0, _, _ => none
  | n + 1, v1, N => if (16 : Int32) ≤ v1 then k70 N else ob (hR N v0 10 0) (fun x8 => ob (aI N x8 ((10 : Int32) + v1)) (fun x9 => ob2 (f_X10_note v0 x9 N) (fun _ N10 => ob (hR N10 v0 10 0) (fun x11 => ob (aI N10 x11 ((26 : Int32) + v1)) (fun x12 => ob2 (f_X10_note v0 x12 N10) (fun _ N13 => f_X10_digest_L32 v0 k70 n (v1 + 1) N13))))))
set_option maxHeartbeats 4000000 in
set_option maxRecDepth 100000 in
theorem w_X10_digest_L32 {P : Int64 × AH → Prop} (X : CX cX10_digest RX10 2 G aC t b0 p s m args c) (hr : RtJ p l e rm_X10_digest s m args below meth c 0 0 Q cX10_digest G aC b0 P) (v0 : Nat) {k70 : AH → Option (Int64 × AH)}
    (hk70 : ∀ (N : AH) (H : Heap) (locs : List Loc) (ls : Array Slot), Rp G aC b0 N H → va_S (fun q => b0 ≤ q) s.heap H locs → lv_has ls 2 [(0, .ref v0)] → owp (k70 N) P → W p l e rm_X10_digest s m args below meth c H locs 0 0 Q (F0 m 70 ls [])) :
    ∀ (n : Nat) (v1 : Int32) (N : AH) (H : Heap) (locs : List Loc) (ls : Array Slot), Rp G aC b0 N H → va_S (fun q => b0 ≤ q) s.heap H locs → lv_has ls 2 [(0, .ref v0), (1, .int v1)] → owp (f_X10_digest_L32 v0 k70 n v1 N) P → W p l e rm_X10_digest s m args below meth c H locs 0 0 Q (F0 m 32 ls []) := by
  have hx := X.1.1
  have hb := X.1.2.1
  intro n
  induction n with
  | zero =>
    intro v1 N H locs ls hR hS hl hp
    exact (show False from hp).elim
  | succ n ih =>
    intro v1 N H locs ls hR hS hl hp
    rw [f_X10_digest_L32] at hp
    refine lv_iload_n hx hb dX10_digest_32 rfl (lv_at hl 1 rfl) ?_
    refine lv_bipush (v := (16)) hx hb dX10_digest_33 (by decide) ?_
    refine lv_icmp_ge (tgt := 70) hx hb dX10_digest_35 (by decide) (fun k7 => ?_) (fun k7 => ?_)
    · have hp := owp_t k7 hp
      exact hk70 _ _ _ _ hR hS (lv_sub hl [0] rfl) hp
    · have hp := owp_f k7 hp
      refine lv_aload_n hx hb dX10_digest_38 rfl (lv_at hl 0 rfl) ?_
      refine lv_aload_n hx hb dX10_digest_39 rfl (lv_at hl 0 rfl) ?_
      obtain ⟨x8, e_x8, hp⟩ := owp_ob hp
      refine gf_X10_7 X hR e_x8 dX10_digest_40 ?_
      refine lv_bipush (v := (10)) hx hb dX10_digest_43 (by decide) ?_
      refine lv_iload_n hx hb dX10_digest_45 rfl (lv_at hl 1 rfl) ?_
      refine lv_iadd hx hb dX10_digest_46 ?_
      obtain ⟨x9, e_x9, hp⟩ := owp_ob hp
      refine ab_iald X hR e_x9 dX10_digest_47 ?_
      obtain ⟨_, N10, e_N10, hp⟩ := owp_ob2 hp
      refine iv_X10_note (rest := []) mw_X10_265 X hR hS e_N10 hl.1 (Nat.le_of_ble_eq_true rfl) ⟨Nat.le_of_ble_eq_true rfl, Nat.le_of_ble_eq_true rfl⟩ ⟨Nat.le_of_ble_eq_true rfl, Nat.le_of_ble_eq_true rfl⟩ dX10_digest_48 (fun H locs hR hS => ?_)
      refine lv_aload_n hx hb dX10_digest_51 rfl (lv_at hl 0 rfl) ?_
      refine lv_aload_n hx hb dX10_digest_52 rfl (lv_at hl 0 rfl) ?_
      obtain ⟨x11, e_x11, hp⟩ := owp_ob hp
      refine gf_X10_7 X hR e_x11 dX10_digest_53 ?_
      refine lv_bipush (v := (26)) hx hb dX10_digest_56 (by decide) ?_
      refine lv_iload_n hx hb dX10_digest_58 rfl (lv_at hl 1 rfl) ?_
      refine lv_iadd hx hb dX10_digest_59 ?_
      obtain ⟨x12, e_x12, hp⟩ := owp_ob hp
      refine ab_iald X hR e_x12 dX10_digest_60 ?_
      obtain ⟨_, N13, e_N13, hp⟩ := owp_ob2 hp
      refine iv_X10_note (rest := []) mw_X10_265 X hR hS e_N13 hl.1 (Nat.le_of_ble_eq_true rfl) ⟨Nat.le_of_ble_eq_true rfl, Nat.le_of_ble_eq_true rfl⟩ ⟨Nat.le_of_ble_eq_true rfl, Nat.le_of_ble_eq_true rfl⟩ dX10_digest_61 (fun H locs hR hS => ?_)
      refine lv_iinc (v := v1 + 1) (lv' := [(1, .int (v1 + 1)), (0, .ref v0)]) hx hb dX10_digest_64 hl (k := 1) rfl rfl (by decide) rfl (fun ls hl => ?_)
      refine lv_goto (tgt := 32) hx hb dX10_digest_67 (by decide) ?_
      exact ih _ _ _ _ _ hR hS (lv_sub hl [1, 0] rfl) hp
def f_X10_digest_L83 (v0 : Nat) (k115 : AH → Option (Int64 × AH)) : Nat → Int32 → AH → Option (Int64 × AH)
  | 0, _, _ => none
  | n + 1, v1, N => ob (hR N v0 10 0) (fun x18 => ob (aI N x18 (7 : Int32)) (fun x19 => if ((3 : Int32) * x19) ≤ v1 then k115 N else ob (hR N v0 10 0) (fun x21 => ob (aI N x21 ((42 : Int32) + v1)) (fun x22 => ob2 (f_X10_note v0 x22 N) (fun _ N23 => f_X10_digest_L83 v0 k115 n (v1 + 1) N23)))))
set_option maxHeartbeats 4000000 in
set_option maxRecDepth 100000 in
theorem w_X10_digest_L83 {P : Int64 × AH → Prop} (X : CX cX10_digest RX10 2 G aC t b0 p s m args c) (hr : RtJ p l e rm_X10_digest s m args below meth c 0 0 Q cX10_digest G aC b0 P) (v0 : Nat) {k115 : AH → Option (Int64 × AH)}
    (hk115 : ∀ (N : AH) (H : Heap) (locs : List Loc) (ls : Array Slot), Rp G aC b0 N H → va_S (fun q => b0 ≤ q) s.heap H locs → lv_has ls 2 [(0, .ref v0)] → owp (k115 N) P → W p l e rm_X10_digest s m args below meth c H locs 0 0 Q (F0 m 115 ls [])) :
    ∀ (n : Nat) (v1 : Int32) (N : AH) (H : Heap) (locs : List Loc) (ls : Array Slot), Rp G aC b0 N H → va_S (fun q => b0 ≤ q) s.heap H locs → lv_has ls 2 [(0, .ref v0), (1, .int v1)] → owp (f_X10_digest_L83 v0 k115 n v1 N) P → W p l e rm_X10_digest s m args below meth c H locs 0 0 Q (F0 m 83 ls []) := by
  have hx := X.1.1
  have hb := X.1.2.1
  intro n
  induction n with
  | zero =>
    intro v1 N H locs ls hR hS hl hp
    exact (show False from hp).elim
  | succ n ih =>
    intro v1 N H locs ls hR hS hl hp
    rw [f_X10_digest_L83] at hp
    refine lv_iload_n hx hb dX10_digest_83 rfl (lv_at hl 1 rfl) ?_
    refine lv_iconst (v := (3)) hx hb dX10_digest_84 (by decide) ?_
    refine lv_aload_n hx hb dX10_digest_85 rfl (lv_at hl 0 rfl) ?_
    obtain ⟨x18, e_x18, hp⟩ := owp_ob hp
    refine gf_X10_7 X hR e_x18 dX10_digest_86 ?_
    refine lv_bipush (v := (7)) hx hb dX10_digest_89 (by decide) ?_
    obtain ⟨x19, e_x19, hp⟩ := owp_ob hp
    refine ab_iald X hR e_x19 dX10_digest_91 ?_
    refine lv_imul hx hb dX10_digest_92 ?_
    refine lv_icmp_ge (tgt := 115) hx hb dX10_digest_93 (by decide) (fun k20 => ?_) (fun k20 => ?_)
    · have hp := owp_t k20 hp
      exact hk115 _ _ _ _ hR hS (lv_sub hl [0] rfl) hp
    · have hp := owp_f k20 hp
      refine lv_aload_n hx hb dX10_digest_96 rfl (lv_at hl 0 rfl) ?_
      refine lv_aload_n hx hb dX10_digest_97 rfl (lv_at hl 0 rfl) ?_
      obtain ⟨x21, e_x21, hp⟩ := owp_ob hp
      refine gf_X10_7 X hR e_x21 dX10_digest_98 ?_
      refine lv_bipush (v := (42)) hx hb dX10_digest_101 (by decide) ?_
      refine lv_iload_n hx hb dX10_digest_103 rfl (lv_at hl 1 rfl) ?_
      refine lv_iadd hx hb dX10_digest_104 ?_
      obtain ⟨x22, e_x22, hp⟩ := owp_ob hp
      refine ab_iald X hR e_x22 dX10_digest_105 ?_
      obtain ⟨_, N23, e_N23, hp⟩ := owp_ob2 hp
      refine iv_X10_note (rest := []) mw_X10_265 X hR hS e_N23 hl.1 (Nat.le_of_ble_eq_true rfl) ⟨Nat.le_of_ble_eq_true rfl, Nat.le_of_ble_eq_true rfl⟩ ⟨Nat.le_of_ble_eq_true rfl, Nat.le_of_ble_eq_true rfl⟩ dX10_digest_106 (fun H locs hR hS => ?_)
      refine lv_iinc (v := v1 + 1) (lv' := [(1, .int (v1 + 1)), (0, .ref v0)]) hx hb dX10_digest_109 hl (k := 1) rfl rfl (by decide) rfl (fun ls hl => ?_)
      refine lv_goto (tgt := 83) hx hb dX10_digest_112 (by decide) ?_
      exact ih _ _ _ _ _ hR hS (lv_sub hl [1, 0] rfl) hp
def f_X10_digest_L117 (v0 : Nat) (k139 : AH → Option (Int64 × AH)) : Nat → Int32 → AH → Option (Int64 × AH)
  | 0, _, _ => none
  | n + 1, v1, N => ob (hR N v0 10 0) (fun x25 => ob (aI N x25 (6 : Int32)) (fun x26 => if x26 ≤ v1 then k139 N else ob2 (f_X10_noteGroup v0 v1 N) (fun _ N28 => f_X10_digest_L117 v0 k139 n (v1 + 1) N28)))
set_option maxHeartbeats 4000000 in
set_option maxRecDepth 100000 in
theorem w_X10_digest_L117 {P : Int64 × AH → Prop} (X : CX cX10_digest RX10 2 G aC t b0 p s m args c) (hr : RtJ p l e rm_X10_digest s m args below meth c 0 0 Q cX10_digest G aC b0 P) (v0 : Nat) {k139 : AH → Option (Int64 × AH)}
    (hk139 : ∀ (N : AH) (H : Heap) (locs : List Loc) (ls : Array Slot), Rp G aC b0 N H → va_S (fun q => b0 ≤ q) s.heap H locs → lv_has ls 2 [(0, .ref v0)] → owp (k139 N) P → W p l e rm_X10_digest s m args below meth c H locs 0 0 Q (F0 m 139 ls [])) :
    ∀ (n : Nat) (v1 : Int32) (N : AH) (H : Heap) (locs : List Loc) (ls : Array Slot), Rp G aC b0 N H → va_S (fun q => b0 ≤ q) s.heap H locs → lv_has ls 2 [(0, .ref v0), (1, .int v1)] → owp (f_X10_digest_L117 v0 k139 n v1 N) P → W p l e rm_X10_digest s m args below meth c H locs 0 0 Q (F0 m 117 ls []) := by
  have hx := X.1.1
  have hb := X.1.2.1
  intro n
  induction n with
  | zero =>
    intro v1 N H locs ls hR hS hl hp
    exact (show False from hp).elim
  | succ n ih =>
    intro v1 N H locs ls hR hS hl hp
    rw [f_X10_digest_L117] at hp
    refine lv_iload_n hx hb dX10_digest_117 rfl (lv_at hl 1 rfl) ?_
    refine lv_aload_n hx hb dX10_digest_118 rfl (lv_at hl 0 rfl) ?_
    obtain ⟨x25, e_x25, hp⟩ := owp_ob hp
    refine gf_X10_7 X hR e_x25 dX10_digest_119 ?_
    refine lv_bipush (v := (6)) hx hb dX10_digest_122 (by decide) ?_
    obtain ⟨x26, e_x26, hp⟩ := owp_ob hp
    refine ab_iald X hR e_x26 dX10_digest_124 ?_
    refine lv_icmp_ge (tgt := 139) hx hb dX10_digest_125 (by decide) (fun k27 => ?_) (fun k27 => ?_)
    · have hp := owp_t k27 hp
      exact hk139 _ _ _ _ hR hS (lv_sub hl [0] rfl) hp
    · have hp := owp_f k27 hp
      refine lv_aload_n hx hb dX10_digest_128 rfl (lv_at hl 0 rfl) ?_
      refine lv_iload_n hx hb dX10_digest_129 rfl (lv_at hl 1 rfl) ?_
      obtain ⟨_, N28, e_N28, hp⟩ := owp_ob2 hp
      refine iv_X10_noteGroup (rest := []) mw_X10_270 X hR hS e_N28 hl.1 (Nat.le_of_ble_eq_true rfl) ⟨Nat.le_of_ble_eq_true rfl, Nat.le_of_ble_eq_true rfl⟩ ⟨Nat.le_of_ble_eq_true rfl, Nat.le_of_ble_eq_true rfl⟩ dX10_digest_130 (fun H locs hR hS => ?_)
      refine lv_iinc (v := v1 + 1) (lv' := [(1, .int (v1 + 1)), (0, .ref v0)]) hx hb dX10_digest_133 hl (k := 1) rfl rfl (by decide) rfl (fun ls hl => ?_)
      refine lv_goto (tgt := 117) hx hb dX10_digest_136 (by decide) ?_
      exact ih _ _ _ _ _ hR hS (lv_sub hl [1, 0] rfl) hp
def f_X10_digest_L141 (v0 : Nat) (k174 : AH → Option (Int64 × AH)) : Nat → Int32 → AH → Option (Int64 × AH)
  | 0, _, _ => none
  | n + 1, v1, N => ob (hR N v0 10 0) (fun x30 => ob (aI N x30 (8 : Int32)) (fun x31 => if ((3 : Int32) * x31) ≤ v1 then k174 N else ob (hR N v0 10 0) (fun x33 => ob (aI N x33 ((1122 : Int32) + v1)) (fun x34 => ob2 (f_X10_note v0 x34 N) (fun _ N35 => f_X10_digest_L141 v0 k174 n (v1 + 1) N35)))))
set_option maxHeartbeats 4000000 in
set_option maxRecDepth 100000 in
theorem w_X10_digest_L141 {P : Int64 × AH → Prop} (X : CX cX10_digest RX10 2 G aC t b0 p s m args c) (hr : RtJ p l e rm_X10_digest s m args below meth c 0 0 Q cX10_digest G aC b0 P) (v0 : Nat) {k174 : AH → Option (Int64 × AH)}
    (hk174 : ∀ (N : AH) (H : Heap) (locs : List Loc) (ls : Array Slot), Rp G aC b0 N H → va_S (fun q => b0 ≤ q) s.heap H locs → lv_has ls 2 [(0, .ref v0)] → owp (k174 N) P → W p l e rm_X10_digest s m args below meth c H locs 0 0 Q (F0 m 174 ls [])) :
    ∀ (n : Nat) (v1 : Int32) (N : AH) (H : Heap) (locs : List Loc) (ls : Array Slot), Rp G aC b0 N H → va_S (fun q => b0 ≤ q) s.heap H locs → lv_has ls 2 [(0, .ref v0), (1, .int v1)] → owp (f_X10_digest_L141 v0 k174 n v1 N) P → W p l e rm_X10_digest s m args below meth c H locs 0 0 Q (F0 m 141 ls []) := by
  have hx := X.1.1
  have hb := X.1.2.1
  intro n
  induction n with
  | zero =>
    intro v1 N H locs ls hR hS hl hp
    exact (show False from hp).elim
  | succ n ih =>
    intro v1 N H locs ls hR hS hl hp
    rw [f_X10_digest_L141] at hp
    refine lv_iload_n hx hb dX10_digest_141 rfl (lv_at hl 1 rfl) ?_
    refine lv_iconst (v := (3)) hx hb dX10_digest_142 (by decide) ?_
    refine lv_aload_n hx hb dX10_digest_143 rfl (lv_at hl 0 rfl) ?_
    obtain ⟨x30, e_x30, hp⟩ := owp_ob hp
    refine gf_X10_7 X hR e_x30 dX10_digest_144 ?_
    refine lv_bipush (v := (8)) hx hb dX10_digest_147 (by decide) ?_
    obtain ⟨x31, e_x31, hp⟩ := owp_ob hp
    refine ab_iald X hR e_x31 dX10_digest_149 ?_
    refine lv_imul hx hb dX10_digest_150 ?_
    refine lv_icmp_ge (tgt := 174) hx hb dX10_digest_151 (by decide) (fun k32 => ?_) (fun k32 => ?_)
    · have hp := owp_t k32 hp
      exact hk174 _ _ _ _ hR hS (lv_sub hl [0] rfl) hp
    · have hp := owp_f k32 hp
      refine lv_aload_n hx hb dX10_digest_154 rfl (lv_at hl 0 rfl) ?_
      refine lv_aload_n hx hb dX10_digest_155 rfl (lv_at hl 0 rfl) ?_
      obtain ⟨x33, e_x33, hp⟩ := owp_ob hp
      refine gf_X10_7 X hR e_x33 dX10_digest_156 ?_
      refine lv_sipush (v := (1122)) hx hb dX10_digest_159 (by decide) ?_
      refine lv_iload_n hx hb dX10_digest_162 rfl (lv_at hl 1 rfl) ?_
      refine lv_iadd hx hb dX10_digest_163 ?_
      obtain ⟨x34, e_x34, hp⟩ := owp_ob hp
      refine ab_iald X hR e_x34 dX10_digest_164 ?_
      obtain ⟨_, N35, e_N35, hp⟩ := owp_ob2 hp
      refine iv_X10_note (rest := []) mw_X10_265 X hR hS e_N35 hl.1 (Nat.le_of_ble_eq_true rfl) ⟨Nat.le_of_ble_eq_true rfl, Nat.le_of_ble_eq_true rfl⟩ ⟨Nat.le_of_ble_eq_true rfl, Nat.le_of_ble_eq_true rfl⟩ dX10_digest_165 (fun H locs hR hS => ?_)
      refine lv_iinc (v := v1 + 1) (lv' := [(1, .int (v1 + 1)), (0, .ref v0)]) hx hb dX10_digest_168 hl (k := 1) rfl rfl (by decide) rfl (fun ls hl => ?_)
      refine lv_goto (tgt := 141) hx hb dX10_digest_171 (by decide) ?_
      exact ih _ _ _ _ _ hR hS (lv_sub hl [1, 0] rfl) hp
def f_X10_digest (v0 : Nat) (N : AH) : Option (Int64 × AH) := ob (iO N v0 10) (fun _ => ob (pJ N v0 10 19 (17 : Int64)) (fun N1 => f_X10_digest_L9 v0 (fun N6 => f_X10_digest_L32 v0 (fun N14 => ob (hR N14 v0 10 0) (fun x15 => ob (aI N14 x15 (7 : Int32)) (fun x16 => ob2 (f_X10_note v0 x16 N14) (fun _ N17 => f_X10_digest_L83 v0 (fun N24 => f_X10_digest_L117 v0 (fun N29 => f_X10_digest_L141 v0 (fun N36 => ob (hJ N36 v0 10 19) (fun x37 => some (x37, N36))) FU (0 : Int32) N29) FU (0 : Int32) N24) FU (0 : Int32) N17)))) FU (0 : Int32) N6) FU (0 : Int32) N1))
set_option maxHeartbeats 4000000 in
set_option maxRecDepth 100000 in
theorem wk_X10_digest {P : Int64 × AH → Prop} (X : CX cX10_digest RX10 2 G aC t b0 p s m args c) (hr : RtJ p l e rm_X10_digest s m args below meth c 0 0 Q cX10_digest G aC b0 P) (v0 : Nat) (N : AH) (H : Heap) (locs : List Loc) (ls : Array Slot) (hR : Rp G aC b0 N H) (hS : va_S (fun q => b0 ≤ q) s.heap H locs) (hl : lv_has ls 2 [(0, .ref v0)]) (hp : owp (f_X10_digest v0 N) P) : W p l e rm_X10_digest s m args below meth c H locs 0 0 Q (F0 m 0 ls []) := by
  have hx := X.1.1
  have hb := X.1.2.1
  unfold f_X10_digest at hp
  obtain ⟨_, _, hp⟩ := owp_ob hp
  refine lv_aload_n hx hb dX10_digest_0 rfl (lv_at hl 0 rfl) ?_
  refine lv_ldc2 (own := RX10) (v := 17) hx hb X.1.2.2.2.1 (X.1.2.2.2.2 _ (WT_of 1360 (by decide +kernel) (by decide +kernel))) dX10_digest_1 ?_
  obtain ⟨N1, e_N1, hp⟩ := owp_ob hp
  refine pf_X10_261 X hR hS e_N1 dX10_digest_4 (fun H locs hR hS => ?_)
  refine lv_iconst (v := (0)) hx hb dX10_digest_7 (by decide) ?_
  refine lv_istore_n (lv' := [(1, .int (0 : Int32)), (0, .ref v0)]) hx hb dX10_digest_8 rfl hl (by decide) rfl (fun ls hl => ?_)
  refine w_X10_digest_L9 X hr _ (fun N6 H locs ls hR hS hl hp => ?_) _ _ _ _ _ _ hR hS (lv_sub hl [1, 0] rfl) hp
  refine lv_iconst (v := (0)) hx hb dX10_digest_30 (by decide) ?_
  refine lv_istore_n (lv' := [(1, .int (0 : Int32)), (0, .ref v0)]) hx hb dX10_digest_31 rfl hl (by decide) rfl (fun ls hl => ?_)
  refine w_X10_digest_L32 X hr _ (fun N14 H locs ls hR hS hl hp => ?_) _ _ _ _ _ _ hR hS (lv_sub hl [1, 0] rfl) hp
  refine lv_aload_n hx hb dX10_digest_70 rfl (lv_at hl 0 rfl) ?_
  refine lv_aload_n hx hb dX10_digest_71 rfl (lv_at hl 0 rfl) ?_
  obtain ⟨x15, e_x15, hp⟩ := owp_ob hp
  refine gf_X10_7 X hR e_x15 dX10_digest_72 ?_
  refine lv_bipush (v := (7)) hx hb dX10_digest_75 (by decide) ?_
  obtain ⟨x16, e_x16, hp⟩ := owp_ob hp
  refine ab_iald X hR e_x16 dX10_digest_77 ?_
  obtain ⟨_, N17, e_N17, hp⟩ := owp_ob2 hp
  refine iv_X10_note (rest := []) mw_X10_265 X hR hS e_N17 hl.1 (Nat.le_of_ble_eq_true rfl) ⟨Nat.le_of_ble_eq_true rfl, Nat.le_of_ble_eq_true rfl⟩ ⟨Nat.le_of_ble_eq_true rfl, Nat.le_of_ble_eq_true rfl⟩ dX10_digest_78 (fun H locs hR hS => ?_)
  refine lv_iconst (v := (0)) hx hb dX10_digest_81 (by decide) ?_
  refine lv_istore_n (lv' := [(1, .int (0 : Int32)), (0, .ref v0)]) hx hb dX10_digest_82 rfl hl (by decide) rfl (fun ls hl => ?_)
  refine w_X10_digest_L83 X hr _ (fun N24 H locs ls hR hS hl hp => ?_) _ _ _ _ _ _ hR hS (lv_sub hl [1, 0] rfl) hp
  refine lv_iconst (v := (0)) hx hb dX10_digest_115 (by decide) ?_
  refine lv_istore_n (lv' := [(1, .int (0 : Int32)), (0, .ref v0)]) hx hb dX10_digest_116 rfl hl (by decide) rfl (fun ls hl => ?_)
  refine w_X10_digest_L117 X hr _ (fun N29 H locs ls hR hS hl hp => ?_) _ _ _ _ _ _ hR hS (lv_sub hl [1, 0] rfl) hp
  refine lv_iconst (v := (0)) hx hb dX10_digest_139 (by decide) ?_
  refine lv_istore_n (lv' := [(1, .int (0 : Int32)), (0, .ref v0)]) hx hb dX10_digest_140 rfl hl (by decide) rfl (fun ls hl => ?_)
  refine w_X10_digest_L141 X hr _ (fun N36 H locs ls hR hS hl hp => ?_) _ _ _ _ _ _ hR hS (lv_sub hl [1, 0] rfl) hp
  refine lv_aload_n hx hb dX10_digest_174 rfl (lv_at hl 0 rfl) ?_
  obtain ⟨x37, e_x37, hp⟩ := owp_ob hp
  refine gf_X10_261 X hR e_x37 dX10_digest_175 ?_
  exact hr _ _ _ _ _ _ hR hS dX10_digest_178 hp
end
theorem ct_X10_digest {v0 : Nat} {N N1 : AH} {r : Int64} (h : f_X10_digest v0 N = some (r, N1)) : Ct yX10_digest cX10_digest 2 (some .long) rm_X10_digest [.ref v0] N (some (.long r)) N1 :=
  ab_met (own := RX10) (by decide +kernel) rfl (Nat.le_of_ble_eq_true rfl) (fun l G aC t b0 p e s m below meth c ls X hr hlk hnm hR hS hl => wk_X10_digest X (RtJ_met X.1.1 X.1.2.1 hr hlk) _ _ _ _ _ hR hS hl (owp_of h))
theorem cw_X10_digest : Cond.code yX10_digest cX10_digest 2 (some .long) ∈ WT := WT_of 1359 (by decide +kernel) (by decide +kernel)
theorem iv_X10_digest {p : Program} {l : Launch} {e : Env} {R : Room} {s : State} {m : MethodId} {args : Array Value} {below : List Frame} {meth : Method} {c : Code} {H : Heap} {locs : List Loc} {cells slots : Nat} {Q : State → Prop} {cc : ByteArray} {own : String} {nL : Nat} {G : va_G} {aC : Nat → ClassId} {t b0 : Nat} {N N1 : AH} {pc index : Nat} {ls : Array Slot} {rest : List Value} {v0 : Nat} {r : Int64} (w1 : Cond.methodLink own index yX10_digest ∈ WT) (X : CX cc own nL G aC t b0 p s m args c) (hR : Rp G aC b0 N H) (hS : va_S (fun q => b0 ≤ q) s.heap H locs) (h : f_X10_digest v0 N = some (r, N1)) (hls : ls.size = nL) (hW : (rest.map fun v => v.category).sum ≤ 8) (hR1 : 4 ≤ R.frames ∧ 86 ≤ R.locals) (hcs : cells + 0 ≤ R.cells ∧ slots + 0 ≤ R.slots) (hdg : decode cc pc = .ok (.invokevirtual index, 3)) (kk : ∀ (H1 : Heap) (locs1 : List Loc), Rp G aC b0 N1 H1 → va_S (fun q => b0 ≤ q) s.heap H1 locs1 → W p l e R s m args below meth c H1 locs1 cells slots Q (F0 m (pc + 3) ls (.long r :: rest))) : W p l e R s m args below meth c H locs cells slots Q (F0 m pc ls (.ref v0 :: rest)) :=
  ab_callV (n := 0) (As := []) X hR hS (ct_X10_digest h) (ob_rc (c := 10) (N := N) (a := v0) h) (T := TX10) (k := 20) (C := RX10) rfl w1 (WT_of 1357 (by decide +kernel) (by decide +kernel)) (WT_of 1358 (by decide +kernel) (by decide +kernel)) (WT_of 92 (by decide +kernel) (by decide +kernel)) cw_X10_digest ⟨rfl, by decide +kernel, by decide +kernel, by decide +kernel⟩ rfl hls hW hR1 hcs rfl hdg kk
-- L_law
theorem mw_L_9 : Cond.methodLink RL 9 yX9_init ∈ WT := WT_of 97 (by decide +kernel) (by decide +kernel)
theorem mw_L_12 : Cond.methodLink RL 12 yX10_init ∈ WT := WT_of 944 (by decide +kernel) (by decide +kernel)
theorem mw_L_13 : Cond.methodLink RL 13 yX9_type ∈ WT := WT_of 452 (by decide +kernel) (by decide +kernel)
theorem mw_L_17 : Cond.methodLink RL 17 yX10_type ∈ WT := WT_of 1009 (by decide +kernel) (by decide +kernel)
theorem mw_L_18 : Cond.methodLink RL 18 yX9_clearText ∈ WT := WT_of 463 (by decide +kernel) (by decide +kernel)
theorem mw_L_22 : Cond.methodLink RL 22 yX10_clearText ∈ WT := WT_of 1017 (by decide +kernel) (by decide +kernel)
theorem mw_L_23 : Cond.methodLink RL 23 yX9_textFault ∈ WT := WT_of 467 (by decide +kernel) (by decide +kernel)
theorem mw_L_26 : Cond.methodLink RL 26 yX10_textFault ∈ WT := WT_of 1021 (by decide +kernel) (by decide +kernel)
theorem mw_L_27 : Cond.methodLink RL 27 yX9_flow ∈ WT := WT_of 501 (by decide +kernel) (by decide +kernel)
theorem mw_L_31 : Cond.methodLink RL 31 yX10_flow ∈ WT := WT_of 1058 (by decide +kernel) (by decide +kernel)
theorem mw_L_32 : Cond.methodLink RL 32 yX9_read ∈ WT := WT_of 542 (by decide +kernel) (by decide +kernel)
theorem mw_L_35 : Cond.methodLink RL 35 yX10_read ∈ WT := WT_of 1071 (by decide +kernel) (by decide +kernel)
theorem mw_L_36 : Cond.methodLink RL 36 yX9_dropDraft ∈ WT := WT_of 551 (by decide +kernel) (by decide +kernel)
theorem mw_L_39 : Cond.methodLink RL 39 yX10_dropDraft ∈ WT := WT_of 1075 (by decide +kernel) (by decide +kernel)
theorem mw_L_40 : Cond.methodLink RL 40 yX9_addGroup ∈ WT := WT_of 555 (by decide +kernel) (by decide +kernel)
theorem mw_L_43 : Cond.methodLink RL 43 yX10_addGroup ∈ WT := WT_of 1079 (by decide +kernel) (by decide +kernel)
theorem mw_L_44 : Cond.methodLink RL 44 yX9_setCapacity ∈ WT := WT_of 595 (by decide +kernel) (by decide +kernel)
theorem mw_L_48 : Cond.methodLink RL 48 yX10_setCapacity ∈ WT := WT_of 1125 (by decide +kernel) (by decide +kernel)
theorem mw_L_49 : Cond.methodLink RL 49 yX9_setPolicy ∈ WT := WT_of 599 (by decide +kernel) (by decide +kernel)
theorem mw_L_52 : Cond.methodLink RL 52 yX10_setPolicy ∈ WT := WT_of 1134 (by decide +kernel) (by decide +kernel)
theorem mw_L_53 : Cond.methodLink RL 53 yX9_setRules ∈ WT := WT_of 603 (by decide +kernel) (by decide +kernel)
theorem mw_L_57 : Cond.methodLink RL 57 yX10_setRules ∈ WT := WT_of 1139 (by decide +kernel) (by decide +kernel)
theorem mw_L_58 : Cond.methodLink RL 58 yX9_pass ∈ WT := WT_of 607 (by decide +kernel) (by decide +kernel)
theorem mw_L_61 : Cond.methodLink RL 61 yX10_pass ∈ WT := WT_of 1143 (by decide +kernel) (by decide +kernel)
theorem mw_L_62 : Cond.methodLink RL 62 yX9_undo ∈ WT := WT_of 726 (by decide +kernel) (by decide +kernel)
theorem mw_L_65 : Cond.methodLink RL 65 yX10_undo ∈ WT := WT_of 1222 (by decide +kernel) (by decide +kernel)
theorem mw_L_66 : Cond.methodLink RL 66 yX9_time ∈ WT := WT_of 734 (by decide +kernel) (by decide +kernel)
theorem mw_L_69 : Cond.methodLink RL 69 yX10_time ∈ WT := WT_of 1226 (by decide +kernel) (by decide +kernel)
theorem mw_L_70 : Cond.methodLink RL 70 yX9_groupCount ∈ WT := WT_of 738 (by decide +kernel) (by decide +kernel)
theorem mw_L_73 : Cond.methodLink RL 73 yX10_groupCount ∈ WT := WT_of 1230 (by decide +kernel) (by decide +kernel)
theorem mw_L_74 : Cond.methodLink RL 74 yX9_state ∈ WT := WT_of 742 (by decide +kernel) (by decide +kernel)
theorem mw_L_77 : Cond.methodLink RL 77 yX10_state ∈ WT := WT_of 1234 (by decide +kernel) (by decide +kernel)
theorem mw_L_78 : Cond.methodLink RL 78 yX9_arrival ∈ WT := WT_of 751 (by decide +kernel) (by decide +kernel)
theorem mw_L_81 : Cond.methodLink RL 81 yX10_arrival ∈ WT := WT_of 1242 (by decide +kernel) (by decide +kernel)
theorem mw_L_82 : Cond.methodLink RL 82 yX9_end ∈ WT := WT_of 755 (by decide +kernel) (by decide +kernel)
theorem mw_L_85 : Cond.methodLink RL 85 yX10_end ∈ WT := WT_of 1246 (by decide +kernel) (by decide +kernel)
theorem mw_L_86 : Cond.methodLink RL 86 yX9_flowCount ∈ WT := WT_of 759 (by decide +kernel) (by decide +kernel)
theorem mw_L_89 : Cond.methodLink RL 89 yX10_flowCount ∈ WT := WT_of 1250 (by decide +kernel) (by decide +kernel)
theorem mw_L_90 : Cond.methodLink RL 90 yX9_flowPart ∈ WT := WT_of 763 (by decide +kernel) (by decide +kernel)
theorem mw_L_93 : Cond.methodLink RL 93 yX10_flowPart ∈ WT := WT_of 1254 (by decide +kernel) (by decide +kernel)
theorem mw_L_94 : Cond.methodLink RL 94 yX9_rest ∈ WT := WT_of 771 (by decide +kernel) (by decide +kernel)
theorem mw_L_97 : Cond.methodLink RL 97 yX10_rest ∈ WT := WT_of 1263 (by decide +kernel) (by decide +kernel)
theorem mw_L_98 : Cond.methodLink RL 98 yX9_level ∈ WT := WT_of 776 (by decide +kernel) (by decide +kernel)
theorem mw_L_101 : Cond.methodLink RL 101 yX10_level ∈ WT := WT_of 1267 (by decide +kernel) (by decide +kernel)
theorem mw_L_102 : Cond.methodLink RL 102 yX9_loneSpan ∈ WT := WT_of 781 (by decide +kernel) (by decide +kernel)
theorem mw_L_105 : Cond.methodLink RL 105 yX10_loneSpan ∈ WT := WT_of 1271 (by decide +kernel) (by decide +kernel)
theorem mw_L_106 : Cond.methodLink RL 106 yX9_place ∈ WT := WT_of 786 (by decide +kernel) (by decide +kernel)
theorem mw_L_109 : Cond.methodLink RL 109 yX10_place ∈ WT := WT_of 1275 (by decide +kernel) (by decide +kernel)
theorem mw_L_110 : Cond.methodLink RL 110 yX9_nextSpan ∈ WT := WT_of 792 (by decide +kernel) (by decide +kernel)
theorem mw_L_113 : Cond.methodLink RL 113 yX10_nextSpan ∈ WT := WT_of 1279 (by decide +kernel) (by decide +kernel)
theorem mw_L_114 : Cond.methodLink RL 114 yX9_nextRate ∈ WT := WT_of 804 (by decide +kernel) (by decide +kernel)
theorem mw_L_117 : Cond.methodLink RL 117 yX10_nextRate ∈ WT := WT_of 1283 (by decide +kernel) (by decide +kernel)
theorem mw_L_118 : Cond.methodLink RL 118 yX9_spare ∈ WT := WT_of 808 (by decide +kernel) (by decide +kernel)
theorem mw_L_121 : Cond.methodLink RL 121 yX10_spare ∈ WT := WT_of 1287 (by decide +kernel) (by decide +kernel)
theorem mw_L_122 : Cond.methodLink RL 122 yX9_outlook ∈ WT := WT_of 812 (by decide +kernel) (by decide +kernel)
theorem mw_L_125 : Cond.methodLink RL 125 yX10_outlook ∈ WT := WT_of 1291 (by decide +kernel) (by decide +kernel)
theorem mw_L_126 : Cond.methodLink RL 126 yX9_total ∈ WT := WT_of 822 (by decide +kernel) (by decide +kernel)
theorem mw_L_129 : Cond.methodLink RL 129 yX10_total ∈ WT := WT_of 1295 (by decide +kernel) (by decide +kernel)
theorem mw_L_130 : Cond.methodLink RL 130 yX9_bestPolicy ∈ WT := WT_of 851 (by decide +kernel) (by decide +kernel)
theorem mw_L_133 : Cond.methodLink RL 133 yX10_bestPolicy ∈ WT := WT_of 1311 (by decide +kernel) (by decide +kernel)
theorem mw_L_134 : Cond.methodLink RL 134 yX9_bestOrder ∈ WT := WT_of 858 (by decide +kernel) (by decide +kernel)
theorem mw_L_137 : Cond.methodLink RL 137 yX10_bestOrder ∈ WT := WT_of 1315 (by decide +kernel) (by decide +kernel)
theorem mw_L_138 : Cond.methodLink RL 138 yX9_bestOrderAt ∈ WT := WT_of 889 (by decide +kernel) (by decide +kernel)
theorem mw_L_141 : Cond.methodLink RL 141 yX10_bestOrderAt ∈ WT := WT_of 1331 (by decide +kernel) (by decide +kernel)
theorem mw_L_142 : Cond.methodLink RL 142 yX9_bound ∈ WT := WT_of 893 (by decide +kernel) (by decide +kernel)
theorem mw_L_145 : Cond.methodLink RL 145 yX10_bound ∈ WT := WT_of 1335 (by decide +kernel) (by decide +kernel)
theorem mw_L_146 : Cond.methodLink RL 146 yX9_moved ∈ WT := WT_of 898 (by decide +kernel) (by decide +kernel)
theorem mw_L_149 : Cond.methodLink RL 149 yX10_moved ∈ WT := WT_of 1339 (by decide +kernel) (by decide +kernel)
theorem mw_L_150 : Cond.methodLink RL 150 yX9_preemptions ∈ WT := WT_of 902 (by decide +kernel) (by decide +kernel)
theorem mw_L_153 : Cond.methodLink RL 153 yX10_preemptions ∈ WT := WT_of 1343 (by decide +kernel) (by decide +kernel)
theorem mw_L_154 : Cond.methodLink RL 154 yX9_eventCount ∈ WT := WT_of 906 (by decide +kernel) (by decide +kernel)
theorem mw_L_157 : Cond.methodLink RL 157 yX10_eventCount ∈ WT := WT_of 1347 (by decide +kernel) (by decide +kernel)
theorem mw_L_158 : Cond.methodLink RL 158 yX9_event ∈ WT := WT_of 910 (by decide +kernel) (by decide +kernel)
theorem mw_L_161 : Cond.methodLink RL 161 yX10_event ∈ WT := WT_of 1351 (by decide +kernel) (by decide +kernel)
theorem mw_L_162 : Cond.methodLink RL 162 yX9_digest ∈ WT := WT_of 921 (by decide +kernel) (by decide +kernel)
theorem mw_L_166 : Cond.methodLink RL 166 yX10_digest ∈ WT := WT_of 1356 (by decide +kernel) (by decide +kernel)
abbrev zX10 : List Value := [.null, .int 0, .null, .int 0, .null, .null, .null, .int 0, .int 0, .null, .int 0, .null, .null, .null, .null, .int 0, .int 0, .int 0, .null, .long 0]
theorem no_X10 {p : Program} {l : Launch} {e : Env} {R : Room} {s : State} {m : MethodId} {args : Array Value} {below : List Frame} {meth : Method} {c : Code} {H : Heap} {locs : List Loc} {cells slots : Nat} {Q : State → Prop} {cc : ByteArray} {nL : Nat} {G : va_G} {aC : Nat → ClassId} {t b0 : Nat} {N : AH} {pc : Nat} {ls : Array Slot} {rest : List Value} {own : String} {index : Nat} (X : CX cc own nL G aC t b0 p s m args c) (hR0 : Rp G aC b0 N H) (hS : va_S (fun q => b0 ≤ q) s.heap H locs) (w1 : Cond.classLink own index RX10 ∈ WT) (hc1 : cells + 1 ≤ R.cells) (hs1 : slots + 20 ≤ R.slots) (hdg : decode cc pc = .ok (.new index, 3)) (kk : ∀ (H1 : Heap), Rp G aC b0 (nO N 10 zX10) H1 → va_S (fun q => b0 ≤ q) s.heap H1 locs → W p l e R s m args below meth c H1 locs (cells + 1) (slots + 20) Q (F0 m (pc + 3) ls (.ref N.1 :: rest))) : W p l e R s m args below meth c H locs cells slots Q (F0 m pc ls rest) :=
  ab_new_o (C := RX10) (T := TX10) (n := 20) X hR0 hS rfl inX10 tyX10 tyX10_ok w1 (WT_of 943 (by decide +kernel) (by decide +kernel)) (WT_of 92 (by decide +kernel) (by decide +kernel)) (fun j hj => by
    match j, hj with
    | 0, _ => rfl
    | 1, _ => rfl
    | 2, _ => rfl
    | 3, _ => rfl
    | 4, _ => rfl
    | 5, _ => rfl
    | 6, _ => rfl
    | 7, _ => rfl
    | 8, _ => rfl
    | 9, _ => rfl
    | 10, _ => rfl
    | 11, _ => rfl
    | 12, _ => rfl
    | 13, _ => rfl
    | 14, _ => rfl
    | 15, _ => rfl
    | 16, _ => rfl
    | 17, _ => rfl
    | 18, _ => rfl
    | 19, _ => rfl
    | j + 20, h => exact absurd h (by omega)) hc1 hs1 hdg kk
abbrev zX9 : List Value := [.null, .null, .null, .null, .null, .null]
theorem no_X9 {p : Program} {l : Launch} {e : Env} {R : Room} {s : State} {m : MethodId} {args : Array Value} {below : List Frame} {meth : Method} {c : Code} {H : Heap} {locs : List Loc} {cells slots : Nat} {Q : State → Prop} {cc : ByteArray} {nL : Nat} {G : va_G} {aC : Nat → ClassId} {t b0 : Nat} {N : AH} {pc : Nat} {ls : Array Slot} {rest : List Value} {own : String} {index : Nat} (X : CX cc own nL G aC t b0 p s m args c) (hR0 : Rp G aC b0 N H) (hS : va_S (fun q => b0 ≤ q) s.heap H locs) (w1 : Cond.classLink own index RX9 ∈ WT) (hc1 : cells + 1 ≤ R.cells) (hs1 : slots + 6 ≤ R.slots) (hdg : decode cc pc = .ok (.new index, 3)) (kk : ∀ (H1 : Heap), Rp G aC b0 (nO N 9 zX9) H1 → va_S (fun q => b0 ≤ q) s.heap H1 locs → W p l e R s m args below meth c H1 locs (cells + 1) (slots + 6) Q (F0 m (pc + 3) ls (.ref N.1 :: rest))) : W p l e R s m args below meth c H locs cells slots Q (F0 m pc ls rest) :=
  ab_new_o (C := RX9) (T := TX9) (n := 6) X hR0 hS rfl inX9 tyX9 tyX9_ok w1 (WT_of 96 (by decide +kernel) (by decide +kernel)) (WT_of 81 (by decide +kernel) (by decide +kernel)) (fun j hj => by
    match j, hj with
    | 0, _ => rfl
    | 1, _ => rfl
    | 2, _ => rfl
    | 3, _ => rfl
    | 4, _ => rfl
    | 5, _ => rfl
    | j + 6, h => exact absurd h (by omega)) hc1 hs1 hdg kk
theorem dL_law_0 : decode cL_law 0 = .ok (.new 7, 3) := by decide +kernel
theorem dL_law_3 : decode cL_law 3 = .ok (.dup, 1) := by decide +kernel
theorem dL_law_4 : decode cL_law 4 = .ok (.invokespecial 9, 3) := by decide +kernel
theorem dL_law_7 : decode cL_law 7 = .ok (.astore_n 1, 1) := by decide +kernel
theorem dL_law_8 : decode cL_law 8 = .ok (.new 10, 3) := by decide +kernel
theorem dL_law_11 : decode cL_law 11 = .ok (.dup, 1) := by decide +kernel
theorem dL_law_12 : decode cL_law 12 = .ok (.invokespecial 12, 3) := by decide +kernel
theorem dL_law_15 : decode cL_law 15 = .ok (.astore_n 2, 1) := by decide +kernel
theorem dL_law_16 : decode cL_law 16 = .ok (.iconst 0, 1) := by decide +kernel
theorem dL_law_17 : decode cL_law 17 = .ok (.istore_n 3, 1) := by decide +kernel
theorem dL_law_18 : decode cL_law 18 = .ok (.iload_n 3, 1) := by decide +kernel
theorem dL_law_19 : decode cL_law 19 = .ok (.aload_n 0, 1) := by decide +kernel
theorem dL_law_20 : decode cL_law 20 = .ok (.arraylength, 1) := by decide +kernel
theorem dL_law_21 : decode cL_law 21 = .ok (.iconst 4, 1) := by decide +kernel
theorem dL_law_22 : decode cL_law 22 = .ok (.isub, 1) := by decide +kernel
theorem dL_law_23 : decode cL_law 23 = .ok (.if_icmp .gt 1033, 3) := by decide +kernel
theorem dL_law_26 : decode cL_law 26 = .ok (.aload_n 0, 1) := by decide +kernel
theorem dL_law_27 : decode cL_law 27 = .ok (.iload_n 3, 1) := by decide +kernel
theorem dL_law_28 : decode cL_law 28 = .ok (.iaload, 1) := by decide +kernel
theorem dL_law_29 : decode cL_law 29 = .ok (.bipush 63, 2) := by decide +kernel
theorem dL_law_31 : decode cL_law 31 = .ok (.iand, 1) := by decide +kernel
theorem dL_law_32 : decode cL_law 32 = .ok (.tableswitch 1018 0 36 #[164, 187, 200, 213, 256, 269, 282, 325, 358, 381, 446, 469, 482, 495, 508, 531, 554, 577, 600, 643, 666, 689, 712, 735, 758, 791, 814, 837, 860, 873, 886, 909, 922, 945, 958, 971, 1004], 164) := by decide +kernel
theorem dL_law_196 : decode cL_law 196 = .ok (.aload_n 1, 1) := by decide +kernel
theorem dL_law_197 : decode cL_law 197 = .ok (.aload_n 0, 1) := by decide +kernel
theorem dL_law_198 : decode cL_law 198 = .ok (.iload_n 3, 1) := by decide +kernel
theorem dL_law_199 : decode cL_law 199 = .ok (.iconst 1, 1) := by decide +kernel
theorem dL_law_200 : decode cL_law 200 = .ok (.iadd, 1) := by decide +kernel
theorem dL_law_201 : decode cL_law 201 = .ok (.iaload, 1) := by decide +kernel
theorem dL_law_202 : decode cL_law 202 = .ok (.invokevirtual 13, 3) := by decide +kernel
theorem dL_law_205 : decode cL_law 205 = .ok (.aload_n 2, 1) := by decide +kernel
theorem dL_law_206 : decode cL_law 206 = .ok (.aload_n 0, 1) := by decide +kernel
theorem dL_law_207 : decode cL_law 207 = .ok (.iload_n 3, 1) := by decide +kernel
theorem dL_law_208 : decode cL_law 208 = .ok (.iconst 1, 1) := by decide +kernel
theorem dL_law_209 : decode cL_law 209 = .ok (.iadd, 1) := by decide +kernel
theorem dL_law_210 : decode cL_law 210 = .ok (.iaload, 1) := by decide +kernel
theorem dL_law_211 : decode cL_law 211 = .ok (.invokevirtual 17, 3) := by decide +kernel
theorem dL_law_214 : decode cL_law 214 = .ok (.if_icmp .eq 836, 3) := by decide +kernel
theorem dL_law_217 : decode cL_law 217 = .ok (.iconst 0, 1) := by decide +kernel
theorem dL_law_218 : decode cL_law 218 = .ok (.ireturn, 1) := by decide +kernel
theorem dL_law_219 : decode cL_law 219 = .ok (.aload_n 1, 1) := by decide +kernel
theorem dL_law_220 : decode cL_law 220 = .ok (.invokevirtual 18, 3) := by decide +kernel
theorem dL_law_223 : decode cL_law 223 = .ok (.aload_n 2, 1) := by decide +kernel
theorem dL_law_224 : decode cL_law 224 = .ok (.invokevirtual 22, 3) := by decide +kernel
theorem dL_law_227 : decode cL_law 227 = .ok (.if_icmp .eq 823, 3) := by decide +kernel
theorem dL_law_230 : decode cL_law 230 = .ok (.iconst 0, 1) := by decide +kernel
theorem dL_law_231 : decode cL_law 231 = .ok (.ireturn, 1) := by decide +kernel
theorem dL_law_232 : decode cL_law 232 = .ok (.aload_n 1, 1) := by decide +kernel
theorem dL_law_233 : decode cL_law 233 = .ok (.invokevirtual 23, 3) := by decide +kernel
theorem dL_law_236 : decode cL_law 236 = .ok (.aload_n 2, 1) := by decide +kernel
theorem dL_law_237 : decode cL_law 237 = .ok (.invokevirtual 26, 3) := by decide +kernel
theorem dL_law_240 : decode cL_law 240 = .ok (.if_icmp .eq 810, 3) := by decide +kernel
theorem dL_law_243 : decode cL_law 243 = .ok (.iconst 0, 1) := by decide +kernel
theorem dL_law_244 : decode cL_law 244 = .ok (.ireturn, 1) := by decide +kernel
theorem dL_law_245 : decode cL_law 245 = .ok (.aload_n 1, 1) := by decide +kernel
theorem dL_law_246 : decode cL_law 246 = .ok (.aload_n 0, 1) := by decide +kernel
theorem dL_law_247 : decode cL_law 247 = .ok (.iload_n 3, 1) := by decide +kernel
theorem dL_law_248 : decode cL_law 248 = .ok (.iconst 1, 1) := by decide +kernel
theorem dL_law_249 : decode cL_law 249 = .ok (.iadd, 1) := by decide +kernel
theorem dL_law_250 : decode cL_law 250 = .ok (.iaload, 1) := by decide +kernel
theorem dL_law_251 : decode cL_law 251 = .ok (.aload_n 0, 1) := by decide +kernel
theorem dL_law_252 : decode cL_law 252 = .ok (.iload_n 3, 1) := by decide +kernel
theorem dL_law_253 : decode cL_law 253 = .ok (.iconst 2, 1) := by decide +kernel
theorem dL_law_254 : decode cL_law 254 = .ok (.iadd, 1) := by decide +kernel
theorem dL_law_255 : decode cL_law 255 = .ok (.iaload, 1) := by decide +kernel
theorem dL_law_256 : decode cL_law 256 = .ok (.aload_n 0, 1) := by decide +kernel
theorem dL_law_257 : decode cL_law 257 = .ok (.iload_n 3, 1) := by decide +kernel
theorem dL_law_258 : decode cL_law 258 = .ok (.iconst 3, 1) := by decide +kernel
theorem dL_law_259 : decode cL_law 259 = .ok (.iadd, 1) := by decide +kernel
theorem dL_law_260 : decode cL_law 260 = .ok (.iaload, 1) := by decide +kernel
theorem dL_law_261 : decode cL_law 261 = .ok (.invokevirtual 27, 3) := by decide +kernel
theorem dL_law_264 : decode cL_law 264 = .ok (.aload_n 2, 1) := by decide +kernel
theorem dL_law_265 : decode cL_law 265 = .ok (.aload_n 0, 1) := by decide +kernel
theorem dL_law_266 : decode cL_law 266 = .ok (.iload_n 3, 1) := by decide +kernel
theorem dL_law_267 : decode cL_law 267 = .ok (.iconst 1, 1) := by decide +kernel
theorem dL_law_268 : decode cL_law 268 = .ok (.iadd, 1) := by decide +kernel
theorem dL_law_269 : decode cL_law 269 = .ok (.iaload, 1) := by decide +kernel
theorem dL_law_270 : decode cL_law 270 = .ok (.aload_n 0, 1) := by decide +kernel
theorem dL_law_271 : decode cL_law 271 = .ok (.iload_n 3, 1) := by decide +kernel
theorem dL_law_272 : decode cL_law 272 = .ok (.iconst 2, 1) := by decide +kernel
theorem dL_law_273 : decode cL_law 273 = .ok (.iadd, 1) := by decide +kernel
theorem dL_law_274 : decode cL_law 274 = .ok (.iaload, 1) := by decide +kernel
theorem dL_law_275 : decode cL_law 275 = .ok (.aload_n 0, 1) := by decide +kernel
theorem dL_law_276 : decode cL_law 276 = .ok (.iload_n 3, 1) := by decide +kernel
theorem dL_law_277 : decode cL_law 277 = .ok (.iconst 3, 1) := by decide +kernel
theorem dL_law_278 : decode cL_law 278 = .ok (.iadd, 1) := by decide +kernel
theorem dL_law_279 : decode cL_law 279 = .ok (.iaload, 1) := by decide +kernel
theorem dL_law_280 : decode cL_law 280 = .ok (.invokevirtual 31, 3) := by decide +kernel
theorem dL_law_283 : decode cL_law 283 = .ok (.if_icmp .eq 767, 3) := by decide +kernel
theorem dL_law_286 : decode cL_law 286 = .ok (.iconst 0, 1) := by decide +kernel
theorem dL_law_287 : decode cL_law 287 = .ok (.ireturn, 1) := by decide +kernel
theorem dL_law_288 : decode cL_law 288 = .ok (.aload_n 1, 1) := by decide +kernel
theorem dL_law_289 : decode cL_law 289 = .ok (.invokevirtual 32, 3) := by decide +kernel
theorem dL_law_292 : decode cL_law 292 = .ok (.aload_n 2, 1) := by decide +kernel
theorem dL_law_293 : decode cL_law 293 = .ok (.invokevirtual 35, 3) := by decide +kernel
theorem dL_law_296 : decode cL_law 296 = .ok (.if_icmp .eq 754, 3) := by decide +kernel
theorem dL_law_299 : decode cL_law 299 = .ok (.iconst 0, 1) := by decide +kernel
theorem dL_law_300 : decode cL_law 300 = .ok (.ireturn, 1) := by decide +kernel
theorem dL_law_301 : decode cL_law 301 = .ok (.aload_n 1, 1) := by decide +kernel
theorem dL_law_302 : decode cL_law 302 = .ok (.invokevirtual 36, 3) := by decide +kernel
theorem dL_law_305 : decode cL_law 305 = .ok (.aload_n 2, 1) := by decide +kernel
theorem dL_law_306 : decode cL_law 306 = .ok (.invokevirtual 39, 3) := by decide +kernel
theorem dL_law_309 : decode cL_law 309 = .ok (.if_icmp .eq 741, 3) := by decide +kernel
theorem dL_law_312 : decode cL_law 312 = .ok (.iconst 0, 1) := by decide +kernel
theorem dL_law_313 : decode cL_law 313 = .ok (.ireturn, 1) := by decide +kernel
theorem dL_law_314 : decode cL_law 314 = .ok (.aload_n 1, 1) := by decide +kernel
theorem dL_law_315 : decode cL_law 315 = .ok (.aload_n 0, 1) := by decide +kernel
theorem dL_law_316 : decode cL_law 316 = .ok (.iload_n 3, 1) := by decide +kernel
theorem dL_law_317 : decode cL_law 317 = .ok (.iconst 1, 1) := by decide +kernel
theorem dL_law_318 : decode cL_law 318 = .ok (.iadd, 1) := by decide +kernel
theorem dL_law_319 : decode cL_law 319 = .ok (.iaload, 1) := by decide +kernel
theorem dL_law_320 : decode cL_law 320 = .ok (.aload_n 0, 1) := by decide +kernel
theorem dL_law_321 : decode cL_law 321 = .ok (.iload_n 3, 1) := by decide +kernel
theorem dL_law_322 : decode cL_law 322 = .ok (.iconst 2, 1) := by decide +kernel
theorem dL_law_323 : decode cL_law 323 = .ok (.iadd, 1) := by decide +kernel
theorem dL_law_324 : decode cL_law 324 = .ok (.iaload, 1) := by decide +kernel
theorem dL_law_325 : decode cL_law 325 = .ok (.aload_n 0, 1) := by decide +kernel
theorem dL_law_326 : decode cL_law 326 = .ok (.iload_n 3, 1) := by decide +kernel
theorem dL_law_327 : decode cL_law 327 = .ok (.iconst 3, 1) := by decide +kernel
theorem dL_law_328 : decode cL_law 328 = .ok (.iadd, 1) := by decide +kernel
theorem dL_law_329 : decode cL_law 329 = .ok (.iaload, 1) := by decide +kernel
theorem dL_law_330 : decode cL_law 330 = .ok (.invokevirtual 40, 3) := by decide +kernel
theorem dL_law_333 : decode cL_law 333 = .ok (.aload_n 2, 1) := by decide +kernel
theorem dL_law_334 : decode cL_law 334 = .ok (.aload_n 0, 1) := by decide +kernel
theorem dL_law_335 : decode cL_law 335 = .ok (.iload_n 3, 1) := by decide +kernel
theorem dL_law_336 : decode cL_law 336 = .ok (.iconst 1, 1) := by decide +kernel
theorem dL_law_337 : decode cL_law 337 = .ok (.iadd, 1) := by decide +kernel
theorem dL_law_338 : decode cL_law 338 = .ok (.iaload, 1) := by decide +kernel
theorem dL_law_339 : decode cL_law 339 = .ok (.aload_n 0, 1) := by decide +kernel
theorem dL_law_340 : decode cL_law 340 = .ok (.iload_n 3, 1) := by decide +kernel
theorem dL_law_341 : decode cL_law 341 = .ok (.iconst 2, 1) := by decide +kernel
theorem dL_law_342 : decode cL_law 342 = .ok (.iadd, 1) := by decide +kernel
theorem dL_law_343 : decode cL_law 343 = .ok (.iaload, 1) := by decide +kernel
theorem dL_law_344 : decode cL_law 344 = .ok (.aload_n 0, 1) := by decide +kernel
theorem dL_law_345 : decode cL_law 345 = .ok (.iload_n 3, 1) := by decide +kernel
theorem dL_law_346 : decode cL_law 346 = .ok (.iconst 3, 1) := by decide +kernel
theorem dL_law_347 : decode cL_law 347 = .ok (.iadd, 1) := by decide +kernel
theorem dL_law_348 : decode cL_law 348 = .ok (.iaload, 1) := by decide +kernel
theorem dL_law_349 : decode cL_law 349 = .ok (.invokevirtual 43, 3) := by decide +kernel
theorem dL_law_352 : decode cL_law 352 = .ok (.if_icmp .eq 698, 3) := by decide +kernel
theorem dL_law_355 : decode cL_law 355 = .ok (.iconst 0, 1) := by decide +kernel
theorem dL_law_356 : decode cL_law 356 = .ok (.ireturn, 1) := by decide +kernel
theorem dL_law_357 : decode cL_law 357 = .ok (.aload_n 1, 1) := by decide +kernel
theorem dL_law_358 : decode cL_law 358 = .ok (.aload_n 0, 1) := by decide +kernel
theorem dL_law_359 : decode cL_law 359 = .ok (.iload_n 3, 1) := by decide +kernel
theorem dL_law_360 : decode cL_law 360 = .ok (.iconst 1, 1) := by decide +kernel
theorem dL_law_361 : decode cL_law 361 = .ok (.iadd, 1) := by decide +kernel
theorem dL_law_362 : decode cL_law 362 = .ok (.iaload, 1) := by decide +kernel
theorem dL_law_363 : decode cL_law 363 = .ok (.aload_n 0, 1) := by decide +kernel
theorem dL_law_364 : decode cL_law 364 = .ok (.iload_n 3, 1) := by decide +kernel
theorem dL_law_365 : decode cL_law 365 = .ok (.iconst 2, 1) := by decide +kernel
theorem dL_law_366 : decode cL_law 366 = .ok (.iadd, 1) := by decide +kernel
theorem dL_law_367 : decode cL_law 367 = .ok (.iaload, 1) := by decide +kernel
theorem dL_law_368 : decode cL_law 368 = .ok (.invokevirtual 44, 3) := by decide +kernel
theorem dL_law_371 : decode cL_law 371 = .ok (.aload_n 2, 1) := by decide +kernel
theorem dL_law_372 : decode cL_law 372 = .ok (.aload_n 0, 1) := by decide +kernel
theorem dL_law_373 : decode cL_law 373 = .ok (.iload_n 3, 1) := by decide +kernel
theorem dL_law_374 : decode cL_law 374 = .ok (.iconst 1, 1) := by decide +kernel
theorem dL_law_375 : decode cL_law 375 = .ok (.iadd, 1) := by decide +kernel
theorem dL_law_376 : decode cL_law 376 = .ok (.iaload, 1) := by decide +kernel
theorem dL_law_377 : decode cL_law 377 = .ok (.aload_n 0, 1) := by decide +kernel
theorem dL_law_378 : decode cL_law 378 = .ok (.iload_n 3, 1) := by decide +kernel
theorem dL_law_379 : decode cL_law 379 = .ok (.iconst 2, 1) := by decide +kernel
theorem dL_law_380 : decode cL_law 380 = .ok (.iadd, 1) := by decide +kernel
theorem dL_law_381 : decode cL_law 381 = .ok (.iaload, 1) := by decide +kernel
theorem dL_law_382 : decode cL_law 382 = .ok (.invokevirtual 48, 3) := by decide +kernel
theorem dL_law_385 : decode cL_law 385 = .ok (.if_icmp .eq 665, 3) := by decide +kernel
theorem dL_law_388 : decode cL_law 388 = .ok (.iconst 0, 1) := by decide +kernel
theorem dL_law_389 : decode cL_law 389 = .ok (.ireturn, 1) := by decide +kernel
theorem dL_law_390 : decode cL_law 390 = .ok (.aload_n 1, 1) := by decide +kernel
theorem dL_law_391 : decode cL_law 391 = .ok (.aload_n 0, 1) := by decide +kernel
theorem dL_law_392 : decode cL_law 392 = .ok (.iload_n 3, 1) := by decide +kernel
theorem dL_law_393 : decode cL_law 393 = .ok (.iconst 1, 1) := by decide +kernel
theorem dL_law_394 : decode cL_law 394 = .ok (.iadd, 1) := by decide +kernel
theorem dL_law_395 : decode cL_law 395 = .ok (.iaload, 1) := by decide +kernel
theorem dL_law_396 : decode cL_law 396 = .ok (.invokevirtual 49, 3) := by decide +kernel
theorem dL_law_399 : decode cL_law 399 = .ok (.aload_n 2, 1) := by decide +kernel
theorem dL_law_400 : decode cL_law 400 = .ok (.aload_n 0, 1) := by decide +kernel
theorem dL_law_401 : decode cL_law 401 = .ok (.iload_n 3, 1) := by decide +kernel
theorem dL_law_402 : decode cL_law 402 = .ok (.iconst 1, 1) := by decide +kernel
theorem dL_law_403 : decode cL_law 403 = .ok (.iadd, 1) := by decide +kernel
theorem dL_law_404 : decode cL_law 404 = .ok (.iaload, 1) := by decide +kernel
theorem dL_law_405 : decode cL_law 405 = .ok (.invokevirtual 52, 3) := by decide +kernel
theorem dL_law_408 : decode cL_law 408 = .ok (.if_icmp .eq 642, 3) := by decide +kernel
theorem dL_law_411 : decode cL_law 411 = .ok (.iconst 0, 1) := by decide +kernel
theorem dL_law_412 : decode cL_law 412 = .ok (.ireturn, 1) := by decide +kernel
theorem dL_law_413 : decode cL_law 413 = .ok (.aload_n 1, 1) := by decide +kernel
theorem dL_law_414 : decode cL_law 414 = .ok (.aload_n 0, 1) := by decide +kernel
theorem dL_law_415 : decode cL_law 415 = .ok (.iload_n 3, 1) := by decide +kernel
theorem dL_law_416 : decode cL_law 416 = .ok (.iconst 1, 1) := by decide +kernel
theorem dL_law_417 : decode cL_law 417 = .ok (.iadd, 1) := by decide +kernel
theorem dL_law_418 : decode cL_law 418 = .ok (.iaload, 1) := by decide +kernel
theorem dL_law_419 : decode cL_law 419 = .ok (.ifCond .eq 7, 3) := by decide +kernel
theorem dL_law_422 : decode cL_law 422 = .ok (.iconst 1, 1) := by decide +kernel
theorem dL_law_423 : decode cL_law 423 = .ok (.goto 4, 3) := by decide +kernel
theorem dL_law_426 : decode cL_law 426 = .ok (.iconst 0, 1) := by decide +kernel
theorem dL_law_427 : decode cL_law 427 = .ok (.aload_n 0, 1) := by decide +kernel
theorem dL_law_428 : decode cL_law 428 = .ok (.iload_n 3, 1) := by decide +kernel
theorem dL_law_429 : decode cL_law 429 = .ok (.iconst 2, 1) := by decide +kernel
theorem dL_law_430 : decode cL_law 430 = .ok (.iadd, 1) := by decide +kernel
theorem dL_law_431 : decode cL_law 431 = .ok (.iaload, 1) := by decide +kernel
theorem dL_law_432 : decode cL_law 432 = .ok (.ifCond .eq 7, 3) := by decide +kernel
theorem dL_law_435 : decode cL_law 435 = .ok (.iconst 1, 1) := by decide +kernel
theorem dL_law_436 : decode cL_law 436 = .ok (.goto 4, 3) := by decide +kernel
theorem dL_law_439 : decode cL_law 439 = .ok (.iconst 0, 1) := by decide +kernel
theorem dL_law_440 : decode cL_law 440 = .ok (.invokevirtual 53, 3) := by decide +kernel
theorem dL_law_443 : decode cL_law 443 = .ok (.aload_n 2, 1) := by decide +kernel
theorem dL_law_444 : decode cL_law 444 = .ok (.aload_n 0, 1) := by decide +kernel
theorem dL_law_445 : decode cL_law 445 = .ok (.iload_n 3, 1) := by decide +kernel
theorem dL_law_446 : decode cL_law 446 = .ok (.iconst 1, 1) := by decide +kernel
theorem dL_law_447 : decode cL_law 447 = .ok (.iadd, 1) := by decide +kernel
theorem dL_law_448 : decode cL_law 448 = .ok (.iaload, 1) := by decide +kernel
theorem dL_law_449 : decode cL_law 449 = .ok (.ifCond .eq 7, 3) := by decide +kernel
theorem dL_law_452 : decode cL_law 452 = .ok (.iconst 1, 1) := by decide +kernel
theorem dL_law_453 : decode cL_law 453 = .ok (.goto 4, 3) := by decide +kernel
theorem dL_law_456 : decode cL_law 456 = .ok (.iconst 0, 1) := by decide +kernel
theorem dL_law_457 : decode cL_law 457 = .ok (.aload_n 0, 1) := by decide +kernel
theorem dL_law_458 : decode cL_law 458 = .ok (.iload_n 3, 1) := by decide +kernel
theorem dL_law_459 : decode cL_law 459 = .ok (.iconst 2, 1) := by decide +kernel
theorem dL_law_460 : decode cL_law 460 = .ok (.iadd, 1) := by decide +kernel
theorem dL_law_461 : decode cL_law 461 = .ok (.iaload, 1) := by decide +kernel
theorem dL_law_462 : decode cL_law 462 = .ok (.ifCond .eq 7, 3) := by decide +kernel
theorem dL_law_465 : decode cL_law 465 = .ok (.iconst 1, 1) := by decide +kernel
theorem dL_law_466 : decode cL_law 466 = .ok (.goto 4, 3) := by decide +kernel
theorem dL_law_469 : decode cL_law 469 = .ok (.iconst 0, 1) := by decide +kernel
theorem dL_law_470 : decode cL_law 470 = .ok (.invokevirtual 57, 3) := by decide +kernel
theorem dL_law_473 : decode cL_law 473 = .ok (.if_icmp .eq 577, 3) := by decide +kernel
theorem dL_law_476 : decode cL_law 476 = .ok (.iconst 0, 1) := by decide +kernel
theorem dL_law_477 : decode cL_law 477 = .ok (.ireturn, 1) := by decide +kernel
theorem dL_law_478 : decode cL_law 478 = .ok (.aload_n 1, 1) := by decide +kernel
theorem dL_law_479 : decode cL_law 479 = .ok (.aload_n 0, 1) := by decide +kernel
theorem dL_law_480 : decode cL_law 480 = .ok (.iload_n 3, 1) := by decide +kernel
theorem dL_law_481 : decode cL_law 481 = .ok (.iconst 1, 1) := by decide +kernel
theorem dL_law_482 : decode cL_law 482 = .ok (.iadd, 1) := by decide +kernel
theorem dL_law_483 : decode cL_law 483 = .ok (.iaload, 1) := by decide +kernel
theorem dL_law_484 : decode cL_law 484 = .ok (.invokevirtual 58, 3) := by decide +kernel
theorem dL_law_487 : decode cL_law 487 = .ok (.aload_n 2, 1) := by decide +kernel
theorem dL_law_488 : decode cL_law 488 = .ok (.aload_n 0, 1) := by decide +kernel
theorem dL_law_489 : decode cL_law 489 = .ok (.iload_n 3, 1) := by decide +kernel
theorem dL_law_490 : decode cL_law 490 = .ok (.iconst 1, 1) := by decide +kernel
theorem dL_law_491 : decode cL_law 491 = .ok (.iadd, 1) := by decide +kernel
theorem dL_law_492 : decode cL_law 492 = .ok (.iaload, 1) := by decide +kernel
theorem dL_law_493 : decode cL_law 493 = .ok (.invokevirtual 61, 3) := by decide +kernel
theorem dL_law_496 : decode cL_law 496 = .ok (.if_icmp .eq 554, 3) := by decide +kernel
theorem dL_law_499 : decode cL_law 499 = .ok (.iconst 0, 1) := by decide +kernel
theorem dL_law_500 : decode cL_law 500 = .ok (.ireturn, 1) := by decide +kernel
theorem dL_law_501 : decode cL_law 501 = .ok (.aload_n 1, 1) := by decide +kernel
theorem dL_law_502 : decode cL_law 502 = .ok (.invokevirtual 62, 3) := by decide +kernel
theorem dL_law_505 : decode cL_law 505 = .ok (.aload_n 2, 1) := by decide +kernel
theorem dL_law_506 : decode cL_law 506 = .ok (.invokevirtual 65, 3) := by decide +kernel
theorem dL_law_509 : decode cL_law 509 = .ok (.if_icmp .eq 541, 3) := by decide +kernel
theorem dL_law_512 : decode cL_law 512 = .ok (.iconst 0, 1) := by decide +kernel
theorem dL_law_513 : decode cL_law 513 = .ok (.ireturn, 1) := by decide +kernel
theorem dL_law_514 : decode cL_law 514 = .ok (.aload_n 1, 1) := by decide +kernel
theorem dL_law_515 : decode cL_law 515 = .ok (.invokevirtual 66, 3) := by decide +kernel
theorem dL_law_518 : decode cL_law 518 = .ok (.aload_n 2, 1) := by decide +kernel
theorem dL_law_519 : decode cL_law 519 = .ok (.invokevirtual 69, 3) := by decide +kernel
theorem dL_law_522 : decode cL_law 522 = .ok (.if_icmp .eq 528, 3) := by decide +kernel
theorem dL_law_525 : decode cL_law 525 = .ok (.iconst 0, 1) := by decide +kernel
theorem dL_law_526 : decode cL_law 526 = .ok (.ireturn, 1) := by decide +kernel
theorem dL_law_527 : decode cL_law 527 = .ok (.aload_n 1, 1) := by decide +kernel
theorem dL_law_528 : decode cL_law 528 = .ok (.invokevirtual 70, 3) := by decide +kernel
theorem dL_law_531 : decode cL_law 531 = .ok (.aload_n 2, 1) := by decide +kernel
theorem dL_law_532 : decode cL_law 532 = .ok (.invokevirtual 73, 3) := by decide +kernel
theorem dL_law_535 : decode cL_law 535 = .ok (.if_icmp .eq 515, 3) := by decide +kernel
theorem dL_law_538 : decode cL_law 538 = .ok (.iconst 0, 1) := by decide +kernel
theorem dL_law_539 : decode cL_law 539 = .ok (.ireturn, 1) := by decide +kernel
theorem dL_law_540 : decode cL_law 540 = .ok (.aload_n 1, 1) := by decide +kernel
theorem dL_law_541 : decode cL_law 541 = .ok (.aload_n 0, 1) := by decide +kernel
theorem dL_law_542 : decode cL_law 542 = .ok (.iload_n 3, 1) := by decide +kernel
theorem dL_law_543 : decode cL_law 543 = .ok (.iconst 1, 1) := by decide +kernel
theorem dL_law_544 : decode cL_law 544 = .ok (.iadd, 1) := by decide +kernel
theorem dL_law_545 : decode cL_law 545 = .ok (.iaload, 1) := by decide +kernel
theorem dL_law_546 : decode cL_law 546 = .ok (.invokevirtual 74, 3) := by decide +kernel
theorem dL_law_549 : decode cL_law 549 = .ok (.aload_n 2, 1) := by decide +kernel
theorem dL_law_550 : decode cL_law 550 = .ok (.aload_n 0, 1) := by decide +kernel
theorem dL_law_551 : decode cL_law 551 = .ok (.iload_n 3, 1) := by decide +kernel
theorem dL_law_552 : decode cL_law 552 = .ok (.iconst 1, 1) := by decide +kernel
theorem dL_law_553 : decode cL_law 553 = .ok (.iadd, 1) := by decide +kernel
theorem dL_law_554 : decode cL_law 554 = .ok (.iaload, 1) := by decide +kernel
theorem dL_law_555 : decode cL_law 555 = .ok (.invokevirtual 77, 3) := by decide +kernel
theorem dL_law_558 : decode cL_law 558 = .ok (.if_icmp .eq 492, 3) := by decide +kernel
theorem dL_law_561 : decode cL_law 561 = .ok (.iconst 0, 1) := by decide +kernel
theorem dL_law_562 : decode cL_law 562 = .ok (.ireturn, 1) := by decide +kernel
theorem dL_law_563 : decode cL_law 563 = .ok (.aload_n 1, 1) := by decide +kernel
theorem dL_law_564 : decode cL_law 564 = .ok (.aload_n 0, 1) := by decide +kernel
theorem dL_law_565 : decode cL_law 565 = .ok (.iload_n 3, 1) := by decide +kernel
theorem dL_law_566 : decode cL_law 566 = .ok (.iconst 1, 1) := by decide +kernel
theorem dL_law_567 : decode cL_law 567 = .ok (.iadd, 1) := by decide +kernel
theorem dL_law_568 : decode cL_law 568 = .ok (.iaload, 1) := by decide +kernel
theorem dL_law_569 : decode cL_law 569 = .ok (.invokevirtual 78, 3) := by decide +kernel
theorem dL_law_572 : decode cL_law 572 = .ok (.aload_n 2, 1) := by decide +kernel
theorem dL_law_573 : decode cL_law 573 = .ok (.aload_n 0, 1) := by decide +kernel
theorem dL_law_574 : decode cL_law 574 = .ok (.iload_n 3, 1) := by decide +kernel
theorem dL_law_575 : decode cL_law 575 = .ok (.iconst 1, 1) := by decide +kernel
theorem dL_law_576 : decode cL_law 576 = .ok (.iadd, 1) := by decide +kernel
theorem dL_law_577 : decode cL_law 577 = .ok (.iaload, 1) := by decide +kernel
theorem dL_law_578 : decode cL_law 578 = .ok (.invokevirtual 81, 3) := by decide +kernel
theorem dL_law_581 : decode cL_law 581 = .ok (.if_icmp .eq 469, 3) := by decide +kernel
theorem dL_law_584 : decode cL_law 584 = .ok (.iconst 0, 1) := by decide +kernel
theorem dL_law_585 : decode cL_law 585 = .ok (.ireturn, 1) := by decide +kernel
theorem dL_law_586 : decode cL_law 586 = .ok (.aload_n 1, 1) := by decide +kernel
theorem dL_law_587 : decode cL_law 587 = .ok (.aload_n 0, 1) := by decide +kernel
theorem dL_law_588 : decode cL_law 588 = .ok (.iload_n 3, 1) := by decide +kernel
theorem dL_law_589 : decode cL_law 589 = .ok (.iconst 1, 1) := by decide +kernel
theorem dL_law_590 : decode cL_law 590 = .ok (.iadd, 1) := by decide +kernel
theorem dL_law_591 : decode cL_law 591 = .ok (.iaload, 1) := by decide +kernel
theorem dL_law_592 : decode cL_law 592 = .ok (.invokevirtual 82, 3) := by decide +kernel
theorem dL_law_595 : decode cL_law 595 = .ok (.aload_n 2, 1) := by decide +kernel
theorem dL_law_596 : decode cL_law 596 = .ok (.aload_n 0, 1) := by decide +kernel
theorem dL_law_597 : decode cL_law 597 = .ok (.iload_n 3, 1) := by decide +kernel
theorem dL_law_598 : decode cL_law 598 = .ok (.iconst 1, 1) := by decide +kernel
theorem dL_law_599 : decode cL_law 599 = .ok (.iadd, 1) := by decide +kernel
theorem dL_law_600 : decode cL_law 600 = .ok (.iaload, 1) := by decide +kernel
theorem dL_law_601 : decode cL_law 601 = .ok (.invokevirtual 85, 3) := by decide +kernel
theorem dL_law_604 : decode cL_law 604 = .ok (.if_icmp .eq 446, 3) := by decide +kernel
theorem dL_law_607 : decode cL_law 607 = .ok (.iconst 0, 1) := by decide +kernel
theorem dL_law_608 : decode cL_law 608 = .ok (.ireturn, 1) := by decide +kernel
theorem dL_law_609 : decode cL_law 609 = .ok (.aload_n 1, 1) := by decide +kernel
theorem dL_law_610 : decode cL_law 610 = .ok (.aload_n 0, 1) := by decide +kernel
theorem dL_law_611 : decode cL_law 611 = .ok (.iload_n 3, 1) := by decide +kernel
theorem dL_law_612 : decode cL_law 612 = .ok (.iconst 1, 1) := by decide +kernel
theorem dL_law_613 : decode cL_law 613 = .ok (.iadd, 1) := by decide +kernel
theorem dL_law_614 : decode cL_law 614 = .ok (.iaload, 1) := by decide +kernel
theorem dL_law_615 : decode cL_law 615 = .ok (.invokevirtual 86, 3) := by decide +kernel
theorem dL_law_618 : decode cL_law 618 = .ok (.aload_n 2, 1) := by decide +kernel
theorem dL_law_619 : decode cL_law 619 = .ok (.aload_n 0, 1) := by decide +kernel
theorem dL_law_620 : decode cL_law 620 = .ok (.iload_n 3, 1) := by decide +kernel
theorem dL_law_621 : decode cL_law 621 = .ok (.iconst 1, 1) := by decide +kernel
theorem dL_law_622 : decode cL_law 622 = .ok (.iadd, 1) := by decide +kernel
theorem dL_law_623 : decode cL_law 623 = .ok (.iaload, 1) := by decide +kernel
theorem dL_law_624 : decode cL_law 624 = .ok (.invokevirtual 89, 3) := by decide +kernel
theorem dL_law_627 : decode cL_law 627 = .ok (.if_icmp .eq 423, 3) := by decide +kernel
theorem dL_law_630 : decode cL_law 630 = .ok (.iconst 0, 1) := by decide +kernel
theorem dL_law_631 : decode cL_law 631 = .ok (.ireturn, 1) := by decide +kernel
theorem dL_law_632 : decode cL_law 632 = .ok (.aload_n 1, 1) := by decide +kernel
theorem dL_law_633 : decode cL_law 633 = .ok (.aload_n 0, 1) := by decide +kernel
theorem dL_law_634 : decode cL_law 634 = .ok (.iload_n 3, 1) := by decide +kernel
theorem dL_law_635 : decode cL_law 635 = .ok (.iconst 1, 1) := by decide +kernel
theorem dL_law_636 : decode cL_law 636 = .ok (.iadd, 1) := by decide +kernel
theorem dL_law_637 : decode cL_law 637 = .ok (.iaload, 1) := by decide +kernel
theorem dL_law_638 : decode cL_law 638 = .ok (.aload_n 0, 1) := by decide +kernel
theorem dL_law_639 : decode cL_law 639 = .ok (.iload_n 3, 1) := by decide +kernel
theorem dL_law_640 : decode cL_law 640 = .ok (.iconst 2, 1) := by decide +kernel
theorem dL_law_641 : decode cL_law 641 = .ok (.iadd, 1) := by decide +kernel
theorem dL_law_642 : decode cL_law 642 = .ok (.iaload, 1) := by decide +kernel
theorem dL_law_643 : decode cL_law 643 = .ok (.aload_n 0, 1) := by decide +kernel
theorem dL_law_644 : decode cL_law 644 = .ok (.iload_n 3, 1) := by decide +kernel
theorem dL_law_645 : decode cL_law 645 = .ok (.iconst 3, 1) := by decide +kernel
theorem dL_law_646 : decode cL_law 646 = .ok (.iadd, 1) := by decide +kernel
theorem dL_law_647 : decode cL_law 647 = .ok (.iaload, 1) := by decide +kernel
theorem dL_law_648 : decode cL_law 648 = .ok (.invokevirtual 90, 3) := by decide +kernel
theorem dL_law_651 : decode cL_law 651 = .ok (.aload_n 2, 1) := by decide +kernel
theorem dL_law_652 : decode cL_law 652 = .ok (.aload_n 0, 1) := by decide +kernel
theorem dL_law_653 : decode cL_law 653 = .ok (.iload_n 3, 1) := by decide +kernel
theorem dL_law_654 : decode cL_law 654 = .ok (.iconst 1, 1) := by decide +kernel
theorem dL_law_655 : decode cL_law 655 = .ok (.iadd, 1) := by decide +kernel
theorem dL_law_656 : decode cL_law 656 = .ok (.iaload, 1) := by decide +kernel
theorem dL_law_657 : decode cL_law 657 = .ok (.aload_n 0, 1) := by decide +kernel
theorem dL_law_658 : decode cL_law 658 = .ok (.iload_n 3, 1) := by decide +kernel
theorem dL_law_659 : decode cL_law 659 = .ok (.iconst 2, 1) := by decide +kernel
theorem dL_law_660 : decode cL_law 660 = .ok (.iadd, 1) := by decide +kernel
theorem dL_law_661 : decode cL_law 661 = .ok (.iaload, 1) := by decide +kernel
theorem dL_law_662 : decode cL_law 662 = .ok (.aload_n 0, 1) := by decide +kernel
theorem dL_law_663 : decode cL_law 663 = .ok (.iload_n 3, 1) := by decide +kernel
theorem dL_law_664 : decode cL_law 664 = .ok (.iconst 3, 1) := by decide +kernel
theorem dL_law_665 : decode cL_law 665 = .ok (.iadd, 1) := by decide +kernel
theorem dL_law_666 : decode cL_law 666 = .ok (.iaload, 1) := by decide +kernel
theorem dL_law_667 : decode cL_law 667 = .ok (.invokevirtual 93, 3) := by decide +kernel
theorem dL_law_670 : decode cL_law 670 = .ok (.if_icmp .eq 380, 3) := by decide +kernel
theorem dL_law_673 : decode cL_law 673 = .ok (.iconst 0, 1) := by decide +kernel
theorem dL_law_674 : decode cL_law 674 = .ok (.ireturn, 1) := by decide +kernel
theorem dL_law_675 : decode cL_law 675 = .ok (.aload_n 1, 1) := by decide +kernel
theorem dL_law_676 : decode cL_law 676 = .ok (.aload_n 0, 1) := by decide +kernel
theorem dL_law_677 : decode cL_law 677 = .ok (.iload_n 3, 1) := by decide +kernel
theorem dL_law_678 : decode cL_law 678 = .ok (.iconst 1, 1) := by decide +kernel
theorem dL_law_679 : decode cL_law 679 = .ok (.iadd, 1) := by decide +kernel
theorem dL_law_680 : decode cL_law 680 = .ok (.iaload, 1) := by decide +kernel
theorem dL_law_681 : decode cL_law 681 = .ok (.invokevirtual 94, 3) := by decide +kernel
theorem dL_law_684 : decode cL_law 684 = .ok (.aload_n 2, 1) := by decide +kernel
theorem dL_law_685 : decode cL_law 685 = .ok (.aload_n 0, 1) := by decide +kernel
theorem dL_law_686 : decode cL_law 686 = .ok (.iload_n 3, 1) := by decide +kernel
theorem dL_law_687 : decode cL_law 687 = .ok (.iconst 1, 1) := by decide +kernel
theorem dL_law_688 : decode cL_law 688 = .ok (.iadd, 1) := by decide +kernel
theorem dL_law_689 : decode cL_law 689 = .ok (.iaload, 1) := by decide +kernel
theorem dL_law_690 : decode cL_law 690 = .ok (.invokevirtual 97, 3) := by decide +kernel
theorem dL_law_693 : decode cL_law 693 = .ok (.if_icmp .eq 357, 3) := by decide +kernel
theorem dL_law_696 : decode cL_law 696 = .ok (.iconst 0, 1) := by decide +kernel
theorem dL_law_697 : decode cL_law 697 = .ok (.ireturn, 1) := by decide +kernel
theorem dL_law_698 : decode cL_law 698 = .ok (.aload_n 1, 1) := by decide +kernel
theorem dL_law_699 : decode cL_law 699 = .ok (.aload_n 0, 1) := by decide +kernel
theorem dL_law_700 : decode cL_law 700 = .ok (.iload_n 3, 1) := by decide +kernel
theorem dL_law_701 : decode cL_law 701 = .ok (.iconst 1, 1) := by decide +kernel
theorem dL_law_702 : decode cL_law 702 = .ok (.iadd, 1) := by decide +kernel
theorem dL_law_703 : decode cL_law 703 = .ok (.iaload, 1) := by decide +kernel
theorem dL_law_704 : decode cL_law 704 = .ok (.invokevirtual 98, 3) := by decide +kernel
theorem dL_law_707 : decode cL_law 707 = .ok (.aload_n 2, 1) := by decide +kernel
theorem dL_law_708 : decode cL_law 708 = .ok (.aload_n 0, 1) := by decide +kernel
theorem dL_law_709 : decode cL_law 709 = .ok (.iload_n 3, 1) := by decide +kernel
theorem dL_law_710 : decode cL_law 710 = .ok (.iconst 1, 1) := by decide +kernel
theorem dL_law_711 : decode cL_law 711 = .ok (.iadd, 1) := by decide +kernel
theorem dL_law_712 : decode cL_law 712 = .ok (.iaload, 1) := by decide +kernel
theorem dL_law_713 : decode cL_law 713 = .ok (.invokevirtual 101, 3) := by decide +kernel
theorem dL_law_716 : decode cL_law 716 = .ok (.if_icmp .eq 334, 3) := by decide +kernel
theorem dL_law_719 : decode cL_law 719 = .ok (.iconst 0, 1) := by decide +kernel
theorem dL_law_720 : decode cL_law 720 = .ok (.ireturn, 1) := by decide +kernel
theorem dL_law_721 : decode cL_law 721 = .ok (.aload_n 1, 1) := by decide +kernel
theorem dL_law_722 : decode cL_law 722 = .ok (.aload_n 0, 1) := by decide +kernel
theorem dL_law_723 : decode cL_law 723 = .ok (.iload_n 3, 1) := by decide +kernel
theorem dL_law_724 : decode cL_law 724 = .ok (.iconst 1, 1) := by decide +kernel
theorem dL_law_725 : decode cL_law 725 = .ok (.iadd, 1) := by decide +kernel
theorem dL_law_726 : decode cL_law 726 = .ok (.iaload, 1) := by decide +kernel
theorem dL_law_727 : decode cL_law 727 = .ok (.invokevirtual 102, 3) := by decide +kernel
theorem dL_law_730 : decode cL_law 730 = .ok (.aload_n 2, 1) := by decide +kernel
theorem dL_law_731 : decode cL_law 731 = .ok (.aload_n 0, 1) := by decide +kernel
theorem dL_law_732 : decode cL_law 732 = .ok (.iload_n 3, 1) := by decide +kernel
theorem dL_law_733 : decode cL_law 733 = .ok (.iconst 1, 1) := by decide +kernel
theorem dL_law_734 : decode cL_law 734 = .ok (.iadd, 1) := by decide +kernel
theorem dL_law_735 : decode cL_law 735 = .ok (.iaload, 1) := by decide +kernel
theorem dL_law_736 : decode cL_law 736 = .ok (.invokevirtual 105, 3) := by decide +kernel
theorem dL_law_739 : decode cL_law 739 = .ok (.if_icmp .eq 311, 3) := by decide +kernel
theorem dL_law_742 : decode cL_law 742 = .ok (.iconst 0, 1) := by decide +kernel
theorem dL_law_743 : decode cL_law 743 = .ok (.ireturn, 1) := by decide +kernel
theorem dL_law_744 : decode cL_law 744 = .ok (.aload_n 1, 1) := by decide +kernel
theorem dL_law_745 : decode cL_law 745 = .ok (.aload_n 0, 1) := by decide +kernel
theorem dL_law_746 : decode cL_law 746 = .ok (.iload_n 3, 1) := by decide +kernel
theorem dL_law_747 : decode cL_law 747 = .ok (.iconst 1, 1) := by decide +kernel
theorem dL_law_748 : decode cL_law 748 = .ok (.iadd, 1) := by decide +kernel
theorem dL_law_749 : decode cL_law 749 = .ok (.iaload, 1) := by decide +kernel
theorem dL_law_750 : decode cL_law 750 = .ok (.invokevirtual 106, 3) := by decide +kernel
theorem dL_law_753 : decode cL_law 753 = .ok (.aload_n 2, 1) := by decide +kernel
theorem dL_law_754 : decode cL_law 754 = .ok (.aload_n 0, 1) := by decide +kernel
theorem dL_law_755 : decode cL_law 755 = .ok (.iload_n 3, 1) := by decide +kernel
theorem dL_law_756 : decode cL_law 756 = .ok (.iconst 1, 1) := by decide +kernel
theorem dL_law_757 : decode cL_law 757 = .ok (.iadd, 1) := by decide +kernel
theorem dL_law_758 : decode cL_law 758 = .ok (.iaload, 1) := by decide +kernel
theorem dL_law_759 : decode cL_law 759 = .ok (.invokevirtual 109, 3) := by decide +kernel
theorem dL_law_762 : decode cL_law 762 = .ok (.if_icmp .eq 288, 3) := by decide +kernel
theorem dL_law_765 : decode cL_law 765 = .ok (.iconst 0, 1) := by decide +kernel
theorem dL_law_766 : decode cL_law 766 = .ok (.ireturn, 1) := by decide +kernel
theorem dL_law_767 : decode cL_law 767 = .ok (.aload_n 1, 1) := by decide +kernel
theorem dL_law_768 : decode cL_law 768 = .ok (.aload_n 0, 1) := by decide +kernel
theorem dL_law_769 : decode cL_law 769 = .ok (.iload_n 3, 1) := by decide +kernel
theorem dL_law_770 : decode cL_law 770 = .ok (.iconst 1, 1) := by decide +kernel
theorem dL_law_771 : decode cL_law 771 = .ok (.iadd, 1) := by decide +kernel
theorem dL_law_772 : decode cL_law 772 = .ok (.iaload, 1) := by decide +kernel
theorem dL_law_773 : decode cL_law 773 = .ok (.invokevirtual 110, 3) := by decide +kernel
theorem dL_law_776 : decode cL_law 776 = .ok (.aload_n 2, 1) := by decide +kernel
theorem dL_law_777 : decode cL_law 777 = .ok (.aload_n 0, 1) := by decide +kernel
theorem dL_law_778 : decode cL_law 778 = .ok (.iload_n 3, 1) := by decide +kernel
theorem dL_law_779 : decode cL_law 779 = .ok (.iconst 1, 1) := by decide +kernel
theorem dL_law_780 : decode cL_law 780 = .ok (.iadd, 1) := by decide +kernel
theorem dL_law_781 : decode cL_law 781 = .ok (.iaload, 1) := by decide +kernel
theorem dL_law_782 : decode cL_law 782 = .ok (.invokevirtual 113, 3) := by decide +kernel
theorem dL_law_785 : decode cL_law 785 = .ok (.if_icmp .eq 265, 3) := by decide +kernel
theorem dL_law_788 : decode cL_law 788 = .ok (.iconst 0, 1) := by decide +kernel
theorem dL_law_789 : decode cL_law 789 = .ok (.ireturn, 1) := by decide +kernel
theorem dL_law_790 : decode cL_law 790 = .ok (.aload_n 1, 1) := by decide +kernel
theorem dL_law_791 : decode cL_law 791 = .ok (.aload_n 0, 1) := by decide +kernel
theorem dL_law_792 : decode cL_law 792 = .ok (.iload_n 3, 1) := by decide +kernel
theorem dL_law_793 : decode cL_law 793 = .ok (.iconst 1, 1) := by decide +kernel
theorem dL_law_794 : decode cL_law 794 = .ok (.iadd, 1) := by decide +kernel
theorem dL_law_795 : decode cL_law 795 = .ok (.iaload, 1) := by decide +kernel
theorem dL_law_796 : decode cL_law 796 = .ok (.aload_n 0, 1) := by decide +kernel
theorem dL_law_797 : decode cL_law 797 = .ok (.iload_n 3, 1) := by decide +kernel
theorem dL_law_798 : decode cL_law 798 = .ok (.iconst 2, 1) := by decide +kernel
theorem dL_law_799 : decode cL_law 799 = .ok (.iadd, 1) := by decide +kernel
theorem dL_law_800 : decode cL_law 800 = .ok (.iaload, 1) := by decide +kernel
theorem dL_law_801 : decode cL_law 801 = .ok (.invokevirtual 114, 3) := by decide +kernel
theorem dL_law_804 : decode cL_law 804 = .ok (.aload_n 2, 1) := by decide +kernel
theorem dL_law_805 : decode cL_law 805 = .ok (.aload_n 0, 1) := by decide +kernel
theorem dL_law_806 : decode cL_law 806 = .ok (.iload_n 3, 1) := by decide +kernel
theorem dL_law_807 : decode cL_law 807 = .ok (.iconst 1, 1) := by decide +kernel
theorem dL_law_808 : decode cL_law 808 = .ok (.iadd, 1) := by decide +kernel
theorem dL_law_809 : decode cL_law 809 = .ok (.iaload, 1) := by decide +kernel
theorem dL_law_810 : decode cL_law 810 = .ok (.aload_n 0, 1) := by decide +kernel
theorem dL_law_811 : decode cL_law 811 = .ok (.iload_n 3, 1) := by decide +kernel
theorem dL_law_812 : decode cL_law 812 = .ok (.iconst 2, 1) := by decide +kernel
theorem dL_law_813 : decode cL_law 813 = .ok (.iadd, 1) := by decide +kernel
theorem dL_law_814 : decode cL_law 814 = .ok (.iaload, 1) := by decide +kernel
theorem dL_law_815 : decode cL_law 815 = .ok (.invokevirtual 117, 3) := by decide +kernel
theorem dL_law_818 : decode cL_law 818 = .ok (.if_icmp .eq 232, 3) := by decide +kernel
theorem dL_law_821 : decode cL_law 821 = .ok (.iconst 0, 1) := by decide +kernel
theorem dL_law_822 : decode cL_law 822 = .ok (.ireturn, 1) := by decide +kernel
theorem dL_law_823 : decode cL_law 823 = .ok (.aload_n 1, 1) := by decide +kernel
theorem dL_law_824 : decode cL_law 824 = .ok (.aload_n 0, 1) := by decide +kernel
theorem dL_law_825 : decode cL_law 825 = .ok (.iload_n 3, 1) := by decide +kernel
theorem dL_law_826 : decode cL_law 826 = .ok (.iconst 1, 1) := by decide +kernel
theorem dL_law_827 : decode cL_law 827 = .ok (.iadd, 1) := by decide +kernel
theorem dL_law_828 : decode cL_law 828 = .ok (.iaload, 1) := by decide +kernel
theorem dL_law_829 : decode cL_law 829 = .ok (.invokevirtual 118, 3) := by decide +kernel
theorem dL_law_832 : decode cL_law 832 = .ok (.aload_n 2, 1) := by decide +kernel
theorem dL_law_833 : decode cL_law 833 = .ok (.aload_n 0, 1) := by decide +kernel
theorem dL_law_834 : decode cL_law 834 = .ok (.iload_n 3, 1) := by decide +kernel
theorem dL_law_835 : decode cL_law 835 = .ok (.iconst 1, 1) := by decide +kernel
theorem dL_law_836 : decode cL_law 836 = .ok (.iadd, 1) := by decide +kernel
theorem dL_law_837 : decode cL_law 837 = .ok (.iaload, 1) := by decide +kernel
theorem dL_law_838 : decode cL_law 838 = .ok (.invokevirtual 121, 3) := by decide +kernel
theorem dL_law_841 : decode cL_law 841 = .ok (.if_icmp .eq 209, 3) := by decide +kernel
theorem dL_law_844 : decode cL_law 844 = .ok (.iconst 0, 1) := by decide +kernel
theorem dL_law_845 : decode cL_law 845 = .ok (.ireturn, 1) := by decide +kernel
theorem dL_law_846 : decode cL_law 846 = .ok (.aload_n 1, 1) := by decide +kernel
theorem dL_law_847 : decode cL_law 847 = .ok (.aload_n 0, 1) := by decide +kernel
theorem dL_law_848 : decode cL_law 848 = .ok (.iload_n 3, 1) := by decide +kernel
theorem dL_law_849 : decode cL_law 849 = .ok (.iconst 1, 1) := by decide +kernel
theorem dL_law_850 : decode cL_law 850 = .ok (.iadd, 1) := by decide +kernel
theorem dL_law_851 : decode cL_law 851 = .ok (.iaload, 1) := by decide +kernel
theorem dL_law_852 : decode cL_law 852 = .ok (.invokevirtual 122, 3) := by decide +kernel
theorem dL_law_855 : decode cL_law 855 = .ok (.aload_n 2, 1) := by decide +kernel
theorem dL_law_856 : decode cL_law 856 = .ok (.aload_n 0, 1) := by decide +kernel
theorem dL_law_857 : decode cL_law 857 = .ok (.iload_n 3, 1) := by decide +kernel
theorem dL_law_858 : decode cL_law 858 = .ok (.iconst 1, 1) := by decide +kernel
theorem dL_law_859 : decode cL_law 859 = .ok (.iadd, 1) := by decide +kernel
theorem dL_law_860 : decode cL_law 860 = .ok (.iaload, 1) := by decide +kernel
theorem dL_law_861 : decode cL_law 861 = .ok (.invokevirtual 125, 3) := by decide +kernel
theorem dL_law_864 : decode cL_law 864 = .ok (.if_icmp .eq 186, 3) := by decide +kernel
theorem dL_law_867 : decode cL_law 867 = .ok (.iconst 0, 1) := by decide +kernel
theorem dL_law_868 : decode cL_law 868 = .ok (.ireturn, 1) := by decide +kernel
theorem dL_law_869 : decode cL_law 869 = .ok (.aload_n 1, 1) := by decide +kernel
theorem dL_law_870 : decode cL_law 870 = .ok (.aload_n 0, 1) := by decide +kernel
theorem dL_law_871 : decode cL_law 871 = .ok (.iload_n 3, 1) := by decide +kernel
theorem dL_law_872 : decode cL_law 872 = .ok (.iconst 1, 1) := by decide +kernel
theorem dL_law_873 : decode cL_law 873 = .ok (.iadd, 1) := by decide +kernel
theorem dL_law_874 : decode cL_law 874 = .ok (.iaload, 1) := by decide +kernel
theorem dL_law_875 : decode cL_law 875 = .ok (.invokevirtual 126, 3) := by decide +kernel
theorem dL_law_878 : decode cL_law 878 = .ok (.aload_n 2, 1) := by decide +kernel
theorem dL_law_879 : decode cL_law 879 = .ok (.aload_n 0, 1) := by decide +kernel
theorem dL_law_880 : decode cL_law 880 = .ok (.iload_n 3, 1) := by decide +kernel
theorem dL_law_881 : decode cL_law 881 = .ok (.iconst 1, 1) := by decide +kernel
theorem dL_law_882 : decode cL_law 882 = .ok (.iadd, 1) := by decide +kernel
theorem dL_law_883 : decode cL_law 883 = .ok (.iaload, 1) := by decide +kernel
theorem dL_law_884 : decode cL_law 884 = .ok (.invokevirtual 129, 3) := by decide +kernel
theorem dL_law_887 : decode cL_law 887 = .ok (.if_icmp .eq 163, 3) := by decide +kernel
theorem dL_law_890 : decode cL_law 890 = .ok (.iconst 0, 1) := by decide +kernel
theorem dL_law_891 : decode cL_law 891 = .ok (.ireturn, 1) := by decide +kernel
theorem dL_law_892 : decode cL_law 892 = .ok (.aload_n 1, 1) := by decide +kernel
theorem dL_law_893 : decode cL_law 893 = .ok (.invokevirtual 130, 3) := by decide +kernel
theorem dL_law_896 : decode cL_law 896 = .ok (.aload_n 2, 1) := by decide +kernel
theorem dL_law_897 : decode cL_law 897 = .ok (.invokevirtual 133, 3) := by decide +kernel
theorem dL_law_900 : decode cL_law 900 = .ok (.if_icmp .eq 150, 3) := by decide +kernel
theorem dL_law_903 : decode cL_law 903 = .ok (.iconst 0, 1) := by decide +kernel
theorem dL_law_904 : decode cL_law 904 = .ok (.ireturn, 1) := by decide +kernel
theorem dL_law_905 : decode cL_law 905 = .ok (.aload_n 1, 1) := by decide +kernel
theorem dL_law_906 : decode cL_law 906 = .ok (.invokevirtual 134, 3) := by decide +kernel
theorem dL_law_909 : decode cL_law 909 = .ok (.aload_n 2, 1) := by decide +kernel
theorem dL_law_910 : decode cL_law 910 = .ok (.invokevirtual 137, 3) := by decide +kernel
theorem dL_law_913 : decode cL_law 913 = .ok (.if_icmp .eq 137, 3) := by decide +kernel
theorem dL_law_916 : decode cL_law 916 = .ok (.iconst 0, 1) := by decide +kernel
theorem dL_law_917 : decode cL_law 917 = .ok (.ireturn, 1) := by decide +kernel
theorem dL_law_918 : decode cL_law 918 = .ok (.aload_n 1, 1) := by decide +kernel
theorem dL_law_919 : decode cL_law 919 = .ok (.aload_n 0, 1) := by decide +kernel
theorem dL_law_920 : decode cL_law 920 = .ok (.iload_n 3, 1) := by decide +kernel
theorem dL_law_921 : decode cL_law 921 = .ok (.iconst 1, 1) := by decide +kernel
theorem dL_law_922 : decode cL_law 922 = .ok (.iadd, 1) := by decide +kernel
theorem dL_law_923 : decode cL_law 923 = .ok (.iaload, 1) := by decide +kernel
theorem dL_law_924 : decode cL_law 924 = .ok (.invokevirtual 138, 3) := by decide +kernel
theorem dL_law_927 : decode cL_law 927 = .ok (.aload_n 2, 1) := by decide +kernel
theorem dL_law_928 : decode cL_law 928 = .ok (.aload_n 0, 1) := by decide +kernel
theorem dL_law_929 : decode cL_law 929 = .ok (.iload_n 3, 1) := by decide +kernel
theorem dL_law_930 : decode cL_law 930 = .ok (.iconst 1, 1) := by decide +kernel
theorem dL_law_931 : decode cL_law 931 = .ok (.iadd, 1) := by decide +kernel
theorem dL_law_932 : decode cL_law 932 = .ok (.iaload, 1) := by decide +kernel
theorem dL_law_933 : decode cL_law 933 = .ok (.invokevirtual 141, 3) := by decide +kernel
theorem dL_law_936 : decode cL_law 936 = .ok (.if_icmp .eq 114, 3) := by decide +kernel
theorem dL_law_939 : decode cL_law 939 = .ok (.iconst 0, 1) := by decide +kernel
theorem dL_law_940 : decode cL_law 940 = .ok (.ireturn, 1) := by decide +kernel
theorem dL_law_941 : decode cL_law 941 = .ok (.aload_n 1, 1) := by decide +kernel
theorem dL_law_942 : decode cL_law 942 = .ok (.invokevirtual 142, 3) := by decide +kernel
theorem dL_law_945 : decode cL_law 945 = .ok (.aload_n 2, 1) := by decide +kernel
theorem dL_law_946 : decode cL_law 946 = .ok (.invokevirtual 145, 3) := by decide +kernel
theorem dL_law_949 : decode cL_law 949 = .ok (.if_icmp .eq 101, 3) := by decide +kernel
theorem dL_law_952 : decode cL_law 952 = .ok (.iconst 0, 1) := by decide +kernel
theorem dL_law_953 : decode cL_law 953 = .ok (.ireturn, 1) := by decide +kernel
theorem dL_law_954 : decode cL_law 954 = .ok (.aload_n 1, 1) := by decide +kernel
theorem dL_law_955 : decode cL_law 955 = .ok (.aload_n 0, 1) := by decide +kernel
theorem dL_law_956 : decode cL_law 956 = .ok (.iload_n 3, 1) := by decide +kernel
theorem dL_law_957 : decode cL_law 957 = .ok (.iconst 1, 1) := by decide +kernel
theorem dL_law_958 : decode cL_law 958 = .ok (.iadd, 1) := by decide +kernel
theorem dL_law_959 : decode cL_law 959 = .ok (.iaload, 1) := by decide +kernel
theorem dL_law_960 : decode cL_law 960 = .ok (.invokevirtual 146, 3) := by decide +kernel
theorem dL_law_963 : decode cL_law 963 = .ok (.aload_n 2, 1) := by decide +kernel
theorem dL_law_964 : decode cL_law 964 = .ok (.aload_n 0, 1) := by decide +kernel
theorem dL_law_965 : decode cL_law 965 = .ok (.iload_n 3, 1) := by decide +kernel
theorem dL_law_966 : decode cL_law 966 = .ok (.iconst 1, 1) := by decide +kernel
theorem dL_law_967 : decode cL_law 967 = .ok (.iadd, 1) := by decide +kernel
theorem dL_law_968 : decode cL_law 968 = .ok (.iaload, 1) := by decide +kernel
theorem dL_law_969 : decode cL_law 969 = .ok (.invokevirtual 149, 3) := by decide +kernel
theorem dL_law_972 : decode cL_law 972 = .ok (.if_icmp .eq 78, 3) := by decide +kernel
theorem dL_law_975 : decode cL_law 975 = .ok (.iconst 0, 1) := by decide +kernel
theorem dL_law_976 : decode cL_law 976 = .ok (.ireturn, 1) := by decide +kernel
theorem dL_law_977 : decode cL_law 977 = .ok (.aload_n 1, 1) := by decide +kernel
theorem dL_law_978 : decode cL_law 978 = .ok (.invokevirtual 150, 3) := by decide +kernel
theorem dL_law_981 : decode cL_law 981 = .ok (.aload_n 2, 1) := by decide +kernel
theorem dL_law_982 : decode cL_law 982 = .ok (.invokevirtual 153, 3) := by decide +kernel
theorem dL_law_985 : decode cL_law 985 = .ok (.if_icmp .eq 65, 3) := by decide +kernel
theorem dL_law_988 : decode cL_law 988 = .ok (.iconst 0, 1) := by decide +kernel
theorem dL_law_989 : decode cL_law 989 = .ok (.ireturn, 1) := by decide +kernel
theorem dL_law_990 : decode cL_law 990 = .ok (.aload_n 1, 1) := by decide +kernel
theorem dL_law_991 : decode cL_law 991 = .ok (.invokevirtual 154, 3) := by decide +kernel
theorem dL_law_994 : decode cL_law 994 = .ok (.aload_n 2, 1) := by decide +kernel
theorem dL_law_995 : decode cL_law 995 = .ok (.invokevirtual 157, 3) := by decide +kernel
theorem dL_law_998 : decode cL_law 998 = .ok (.if_icmp .eq 52, 3) := by decide +kernel
theorem dL_law_1001 : decode cL_law 1001 = .ok (.iconst 0, 1) := by decide +kernel
theorem dL_law_1002 : decode cL_law 1002 = .ok (.ireturn, 1) := by decide +kernel
theorem dL_law_1003 : decode cL_law 1003 = .ok (.aload_n 1, 1) := by decide +kernel
theorem dL_law_1004 : decode cL_law 1004 = .ok (.aload_n 0, 1) := by decide +kernel
theorem dL_law_1005 : decode cL_law 1005 = .ok (.iload_n 3, 1) := by decide +kernel
theorem dL_law_1006 : decode cL_law 1006 = .ok (.iconst 1, 1) := by decide +kernel
theorem dL_law_1007 : decode cL_law 1007 = .ok (.iadd, 1) := by decide +kernel
theorem dL_law_1008 : decode cL_law 1008 = .ok (.iaload, 1) := by decide +kernel
theorem dL_law_1009 : decode cL_law 1009 = .ok (.aload_n 0, 1) := by decide +kernel
theorem dL_law_1010 : decode cL_law 1010 = .ok (.iload_n 3, 1) := by decide +kernel
theorem dL_law_1011 : decode cL_law 1011 = .ok (.iconst 2, 1) := by decide +kernel
theorem dL_law_1012 : decode cL_law 1012 = .ok (.iadd, 1) := by decide +kernel
theorem dL_law_1013 : decode cL_law 1013 = .ok (.iaload, 1) := by decide +kernel
theorem dL_law_1014 : decode cL_law 1014 = .ok (.invokevirtual 158, 3) := by decide +kernel
theorem dL_law_1017 : decode cL_law 1017 = .ok (.aload_n 2, 1) := by decide +kernel
theorem dL_law_1018 : decode cL_law 1018 = .ok (.aload_n 0, 1) := by decide +kernel
theorem dL_law_1019 : decode cL_law 1019 = .ok (.iload_n 3, 1) := by decide +kernel
theorem dL_law_1020 : decode cL_law 1020 = .ok (.iconst 1, 1) := by decide +kernel
theorem dL_law_1021 : decode cL_law 1021 = .ok (.iadd, 1) := by decide +kernel
theorem dL_law_1022 : decode cL_law 1022 = .ok (.iaload, 1) := by decide +kernel
theorem dL_law_1023 : decode cL_law 1023 = .ok (.aload_n 0, 1) := by decide +kernel
theorem dL_law_1024 : decode cL_law 1024 = .ok (.iload_n 3, 1) := by decide +kernel
theorem dL_law_1025 : decode cL_law 1025 = .ok (.iconst 2, 1) := by decide +kernel
theorem dL_law_1026 : decode cL_law 1026 = .ok (.iadd, 1) := by decide +kernel
theorem dL_law_1027 : decode cL_law 1027 = .ok (.iaload, 1) := by decide +kernel
theorem dL_law_1028 : decode cL_law 1028 = .ok (.invokevirtual 161, 3) := by decide +kernel
theorem dL_law_1031 : decode cL_law 1031 = .ok (.if_icmp .eq 19, 3) := by decide +kernel
theorem dL_law_1034 : decode cL_law 1034 = .ok (.iconst 0, 1) := by decide +kernel
theorem dL_law_1035 : decode cL_law 1035 = .ok (.ireturn, 1) := by decide +kernel
theorem dL_law_1036 : decode cL_law 1036 = .ok (.aload_n 1, 1) := by decide +kernel
theorem dL_law_1037 : decode cL_law 1037 = .ok (.invokevirtual 162, 3) := by decide +kernel
theorem dL_law_1040 : decode cL_law 1040 = .ok (.aload_n 2, 1) := by decide +kernel
theorem dL_law_1041 : decode cL_law 1041 = .ok (.invokevirtual 166, 3) := by decide +kernel
theorem dL_law_1044 : decode cL_law 1044 = .ok (.lcmp, 1) := by decide +kernel
theorem dL_law_1045 : decode cL_law 1045 = .ok (.ifCond .eq 5, 3) := by decide +kernel
theorem dL_law_1048 : decode cL_law 1048 = .ok (.iconst 0, 1) := by decide +kernel
theorem dL_law_1049 : decode cL_law 1049 = .ok (.ireturn, 1) := by decide +kernel
theorem dL_law_1050 : decode cL_law 1050 = .ok (.iinc 3 4, 3) := by decide +kernel
theorem dL_law_1053 : decode cL_law 1053 = .ok (.goto (-1035), 3) := by decide +kernel
theorem dL_law_1056 : decode cL_law 1056 = .ok (.iconst 1, 1) := by decide +kernel
theorem dL_law_1057 : decode cL_law 1057 = .ok (.ireturn, 1) := by decide +kernel
abbrev rm_L_law : Room := room_1
section
variable {p : Program} {l : Launch} {e : Env} {s : State} {m : MethodId} {args : Array Value} {below : List Frame} {meth : Method} {c : Code} {Q : State → Prop} {G : va_G} {aC : Nat → ClassId} {t b0 : Nat} {b L : Nat} {xs : Nat → Int32}
def f_L_law_J457 (L : Nat) (xs : Nat → Int32) (k18 : Int32 → AH → Option (Int32 × AH)) (k476 : AH → Option (Int32 × AH)) (v1 : Nat) (v2 : Nat) (v3 : Int32) (w0 : Int32) (w1 : Nat) (w2 : Int32) (N : AH) : Option (Int32 × AH) := ob (xS L xs (v3 + (2 : Int32))) (fun x87 => if x87 = 0 then ob2 (f_X10_setRules w1 w2 (0 : Int32) N) (fun x90 N89 => if w0 = x90 then k18 (v3 + (4 : Int32)) N89 else k476 N89) else ob2 (f_X10_setRules w1 w2 (1 : Int32) N) (fun x93 N92 => if w0 = x93 then k18 (v3 + (4 : Int32)) N92 else k476 N92))
set_option maxHeartbeats 4000000 in
set_option maxRecDepth 100000 in
theorem w_L_law_J457 {P : Int32 × AH → Prop} (X : CX cL_law RL 4 G aC t b0 p s m args c) (hr : RtZ p l e rm_L_law s m args below meth c 836 20932 Q cL_law G aC b0 P) (hX : va_X b L xs s s.heap ∧ b < s.heap.size ∧ ¬ b0 ≤ b) (v1 : Nat) (v2 : Nat) (v3 : Int32) (w0 : Int32) (w1 : Nat) (w2 : Int32) {k18 : Int32 → AH → Option (Int32 × AH)} {k476 : AH → Option (Int32 × AH)}
    (hk18 : ∀ (v3 : Int32) (N : AH) (H : Heap) (locs : List Loc) (ls : Array Slot), Rp G aC b0 N H → va_S (fun q => b0 ≤ q) s.heap H locs → lv_has ls 4 [(0, .ref b), (1, .ref v1), (2, .ref v2), (3, .int v3)] → owp (k18 v3 N) P → W p l e rm_L_law s m args below meth c H locs 836 20932 Q (F0 m 18 ls []))
    (hk476 : ∀ (N : AH) (H : Heap) (locs : List Loc) (ls : Array Slot), Rp G aC b0 N H → va_S (fun q => b0 ≤ q) s.heap H locs → lv_has ls 4 [] → owp (k476 N) P → W p l e rm_L_law s m args below meth c H locs 836 20932 Q (F0 m 476 ls [])) (N : AH) (H : Heap) (locs : List Loc) (ls : Array Slot) (hR : Rp G aC b0 N H) (hS : va_S (fun q => b0 ≤ q) s.heap H locs) (hl : lv_has ls 4 [(0, .ref b), (1, .ref v1), (2, .ref v2), (3, .int v3)]) (hp : owp (f_L_law_J457 L xs k18 k476 v1 v2 v3 w0 w1 w2 N) P) : W p l e rm_L_law s m args below meth c H locs 836 20932 Q (F0 m 457 ls [.int w2, .ref w1, .int w0]) := by
  have hx := X.1.1
  have hb := X.1.2.1
  unfold f_L_law_J457 at hp
  refine lv_aload_n hx hb dL_law_457 rfl (lv_at hl 0 rfl) ?_
  refine lv_iload_n hx hb dL_law_458 rfl (lv_at hl 3 rfl) ?_
  refine lv_iconst (v := (2)) hx hb dL_law_459 (by decide) ?_
  refine lv_iadd hx hb dL_law_460 ?_
  obtain ⟨x87, e_x87, hp⟩ := owp_ob hp
  refine ab_sld X hS hX e_x87 dL_law_461 ?_
  refine lv_if_eq (tgt := 469) hx hb dL_law_462 (by decide) (fun k88 => ?_) (fun k88 => ?_)
  · have hp := owp_t k88 hp
    refine lv_iconst (v := (0)) hx hb dL_law_469 (by decide) ?_
    obtain ⟨x90, N89, e_N89, hp⟩ := owp_ob2 hp
    refine iv_X10_setRules (rest := [.int w0]) mw_L_57 X hR hS e_N89 hl.1 (Nat.le_of_ble_eq_true rfl) ⟨Nat.le_of_ble_eq_true rfl, Nat.le_of_ble_eq_true rfl⟩ ⟨Nat.le_of_ble_eq_true rfl, Nat.le_of_ble_eq_true rfl⟩ dL_law_470 (fun H locs hR hS => ?_)
    refine lv_icmp_eq (tgt := 1050) hx hb dL_law_473 (by decide) (fun k91 => ?_) (fun k91 => ?_)
    · have hp := owp_t k91 hp
      refine lv_iinc (v := v3 + (4 : Int32)) (lv' := [(3, .int (v3 + (4 : Int32))), (0, .ref b), (1, .ref v1), (2, .ref v2)]) hx hb dL_law_1050 hl (k := 3) rfl rfl (by decide) rfl (fun ls hl => ?_)
      refine lv_goto (tgt := 18) hx hb dL_law_1053 (by decide) ?_
      exact hk18 _ _ _ _ _ hR hS (lv_sub hl [1, 2, 3, 0] rfl) hp
    · have hp := owp_f k91 hp
      exact hk476 _ _ _ _ hR hS (lv_sub hl [] rfl) hp
  · have hp := owp_f k88 hp
    refine lv_iconst (v := (1)) hx hb dL_law_465 (by decide) ?_
    refine lv_goto (tgt := 470) hx hb dL_law_466 (by decide) ?_
    obtain ⟨x93, N92, e_N92, hp⟩ := owp_ob2 hp
    refine iv_X10_setRules (rest := [.int w0]) mw_L_57 X hR hS e_N92 hl.1 (Nat.le_of_ble_eq_true rfl) ⟨Nat.le_of_ble_eq_true rfl, Nat.le_of_ble_eq_true rfl⟩ ⟨Nat.le_of_ble_eq_true rfl, Nat.le_of_ble_eq_true rfl⟩ dL_law_470 (fun H locs hR hS => ?_)
    refine lv_icmp_eq (tgt := 1050) hx hb dL_law_473 (by decide) (fun k94 => ?_) (fun k94 => ?_)
    · have hp := owp_t k94 hp
      refine lv_iinc (v := v3 + (4 : Int32)) (lv' := [(3, .int (v3 + (4 : Int32))), (0, .ref b), (1, .ref v1), (2, .ref v2)]) hx hb dL_law_1050 hl (k := 3) rfl rfl (by decide) rfl (fun ls hl => ?_)
      refine lv_goto (tgt := 18) hx hb dL_law_1053 (by decide) ?_
      exact hk18 _ _ _ _ _ hR hS (lv_sub hl [1, 2, 3, 0] rfl) hp
    · have hp := owp_f k94 hp
      exact hk476 _ _ _ _ hR hS (lv_sub hl [] rfl) hp
def f_L_law_J440 (L : Nat) (xs : Nat → Int32) (k18 : Int32 → AH → Option (Int32 × AH)) (k476 : AH → Option (Int32 × AH)) (v1 : Nat) (v2 : Nat) (v3 : Int32) (w0 : Nat) (w1 : Int32) (w2 : Int32) (N : AH) : Option (Int32 × AH) := ob2 (f_X9_setRules w0 w1 w2 N) (fun x84 N83 => ob (xS L xs (v3 + (1 : Int32))) (fun x85 => if x85 = 0 then f_L_law_J457 L xs k18 k476 v1 v2 v3 x84 v2 (0 : Int32) N83 else f_L_law_J457 L xs k18 k476 v1 v2 v3 x84 v2 (1 : Int32) N83))
set_option maxHeartbeats 4000000 in
set_option maxRecDepth 100000 in
theorem w_L_law_J440 {P : Int32 × AH → Prop} (X : CX cL_law RL 4 G aC t b0 p s m args c) (hr : RtZ p l e rm_L_law s m args below meth c 836 20932 Q cL_law G aC b0 P) (hX : va_X b L xs s s.heap ∧ b < s.heap.size ∧ ¬ b0 ≤ b) (v1 : Nat) (v2 : Nat) (v3 : Int32) (w0 : Nat) (w1 : Int32) (w2 : Int32) {k18 : Int32 → AH → Option (Int32 × AH)} {k476 : AH → Option (Int32 × AH)}
    (hk18 : ∀ (v3 : Int32) (N : AH) (H : Heap) (locs : List Loc) (ls : Array Slot), Rp G aC b0 N H → va_S (fun q => b0 ≤ q) s.heap H locs → lv_has ls 4 [(0, .ref b), (1, .ref v1), (2, .ref v2), (3, .int v3)] → owp (k18 v3 N) P → W p l e rm_L_law s m args below meth c H locs 836 20932 Q (F0 m 18 ls []))
    (hk476 : ∀ (N : AH) (H : Heap) (locs : List Loc) (ls : Array Slot), Rp G aC b0 N H → va_S (fun q => b0 ≤ q) s.heap H locs → lv_has ls 4 [] → owp (k476 N) P → W p l e rm_L_law s m args below meth c H locs 836 20932 Q (F0 m 476 ls [])) (N : AH) (H : Heap) (locs : List Loc) (ls : Array Slot) (hR : Rp G aC b0 N H) (hS : va_S (fun q => b0 ≤ q) s.heap H locs) (hl : lv_has ls 4 [(0, .ref b), (1, .ref v1), (2, .ref v2), (3, .int v3)]) (hp : owp (f_L_law_J440 L xs k18 k476 v1 v2 v3 w0 w1 w2 N) P) : W p l e rm_L_law s m args below meth c H locs 836 20932 Q (F0 m 440 ls [.int w2, .int w1, .ref w0]) := by
  have hx := X.1.1
  have hb := X.1.2.1
  unfold f_L_law_J440 at hp
  obtain ⟨x84, N83, e_N83, hp⟩ := owp_ob2 hp
  refine iv_X9_setRules (rest := []) mw_L_53 X hR hS e_N83 hl.1 (Nat.le_of_ble_eq_true rfl) ⟨Nat.le_of_ble_eq_true rfl, Nat.le_of_ble_eq_true rfl⟩ ⟨Nat.le_of_ble_eq_true rfl, Nat.le_of_ble_eq_true rfl⟩ dL_law_440 (fun H locs hR hS => ?_)
  refine lv_aload_n hx hb dL_law_443 rfl (lv_at hl 2 rfl) ?_
  refine lv_aload_n hx hb dL_law_444 rfl (lv_at hl 0 rfl) ?_
  refine lv_iload_n hx hb dL_law_445 rfl (lv_at hl 3 rfl) ?_
  refine lv_iconst (v := (1)) hx hb dL_law_446 (by decide) ?_
  refine lv_iadd hx hb dL_law_447 ?_
  obtain ⟨x85, e_x85, hp⟩ := owp_ob hp
  refine ab_sld X hS hX e_x85 dL_law_448 ?_
  refine lv_if_eq (tgt := 456) hx hb dL_law_449 (by decide) (fun k86 => ?_) (fun k86 => ?_)
  · have hp := owp_t k86 hp
    refine lv_iconst (v := (0)) hx hb dL_law_456 (by decide) ?_
    exact w_L_law_J457 X hr hX _ _ _ _ _ _ hk18 hk476 _ _ _ _ hR hS hl hp
  · have hp := owp_f k86 hp
    refine lv_iconst (v := (1)) hx hb dL_law_452 (by decide) ?_
    refine lv_goto (tgt := 457) hx hb dL_law_453 (by decide) ?_
    exact w_L_law_J457 X hr hX _ _ _ _ _ _ hk18 hk476 _ _ _ _ hR hS hl hp
def f_L_law_J427 (L : Nat) (xs : Nat → Int32) (k18 : Int32 → AH → Option (Int32 × AH)) (k476 : AH → Option (Int32 × AH)) (v1 : Nat) (v2 : Nat) (v3 : Int32) (w0 : Nat) (w1 : Int32) (N : AH) : Option (Int32 × AH) := ob (xS L xs (v3 + (2 : Int32))) (fun x81 => if x81 = 0 then f_L_law_J440 L xs k18 k476 v1 v2 v3 w0 w1 (0 : Int32) N else f_L_law_J440 L xs k18 k476 v1 v2 v3 w0 w1 (1 : Int32) N)
set_option maxHeartbeats 4000000 in
set_option maxRecDepth 100000 in
theorem w_L_law_J427 {P : Int32 × AH → Prop} (X : CX cL_law RL 4 G aC t b0 p s m args c) (hr : RtZ p l e rm_L_law s m args below meth c 836 20932 Q cL_law G aC b0 P) (hX : va_X b L xs s s.heap ∧ b < s.heap.size ∧ ¬ b0 ≤ b) (v1 : Nat) (v2 : Nat) (v3 : Int32) (w0 : Nat) (w1 : Int32) {k18 : Int32 → AH → Option (Int32 × AH)} {k476 : AH → Option (Int32 × AH)}
    (hk18 : ∀ (v3 : Int32) (N : AH) (H : Heap) (locs : List Loc) (ls : Array Slot), Rp G aC b0 N H → va_S (fun q => b0 ≤ q) s.heap H locs → lv_has ls 4 [(0, .ref b), (1, .ref v1), (2, .ref v2), (3, .int v3)] → owp (k18 v3 N) P → W p l e rm_L_law s m args below meth c H locs 836 20932 Q (F0 m 18 ls []))
    (hk476 : ∀ (N : AH) (H : Heap) (locs : List Loc) (ls : Array Slot), Rp G aC b0 N H → va_S (fun q => b0 ≤ q) s.heap H locs → lv_has ls 4 [] → owp (k476 N) P → W p l e rm_L_law s m args below meth c H locs 836 20932 Q (F0 m 476 ls [])) (N : AH) (H : Heap) (locs : List Loc) (ls : Array Slot) (hR : Rp G aC b0 N H) (hS : va_S (fun q => b0 ≤ q) s.heap H locs) (hl : lv_has ls 4 [(0, .ref b), (1, .ref v1), (2, .ref v2), (3, .int v3)]) (hp : owp (f_L_law_J427 L xs k18 k476 v1 v2 v3 w0 w1 N) P) : W p l e rm_L_law s m args below meth c H locs 836 20932 Q (F0 m 427 ls [.int w1, .ref w0]) := by
  have hx := X.1.1
  have hb := X.1.2.1
  unfold f_L_law_J427 at hp
  refine lv_aload_n hx hb dL_law_427 rfl (lv_at hl 0 rfl) ?_
  refine lv_iload_n hx hb dL_law_428 rfl (lv_at hl 3 rfl) ?_
  refine lv_iconst (v := (2)) hx hb dL_law_429 (by decide) ?_
  refine lv_iadd hx hb dL_law_430 ?_
  obtain ⟨x81, e_x81, hp⟩ := owp_ob hp
  refine ab_sld X hS hX e_x81 dL_law_431 ?_
  refine lv_if_eq (tgt := 439) hx hb dL_law_432 (by decide) (fun k82 => ?_) (fun k82 => ?_)
  · have hp := owp_t k82 hp
    refine lv_iconst (v := (0)) hx hb dL_law_439 (by decide) ?_
    exact w_L_law_J440 X hr hX _ _ _ _ _ _ hk18 hk476 _ _ _ _ hR hS hl hp
  · have hp := owp_f k82 hp
    refine lv_iconst (v := (1)) hx hb dL_law_435 (by decide) ?_
    refine lv_goto (tgt := 440) hx hb dL_law_436 (by decide) ?_
    exact w_L_law_J440 X hr hX _ _ _ _ _ _ hk18 hk476 _ _ _ _ hR hS hl hp
def f_L_law_L18 (L : Nat) (xs : Nat → Int32) (v1 : Nat) (v2 : Nat) (k217 : AH → Option (Int32 × AH)) (k230 : AH → Option (Int32 × AH)) (k243 : AH → Option (Int32 × AH)) (k286 : AH → Option (Int32 × AH)) (k299 : AH → Option (Int32 × AH)) (k312 : AH → Option (Int32 × AH)) (k355 : AH → Option (Int32 × AH)) (k388 : AH → Option (Int32 × AH)) (k411 : AH → Option (Int32 × AH)) (k476 : AH → Option (Int32 × AH)) (k499 : AH → Option (Int32 × AH)) (k512 : AH → Option (Int32 × AH)) (k525 : AH → Option (Int32 × AH)) (k538 : AH → Option (Int32 × AH)) (k561 : AH → Option (Int32 × AH)) (k584 : AH → Option (Int32 × AH)) (k607 : AH → Option (Int32 × AH)) (k630 : AH → Option (Int32 × AH)) (k673 : AH → Option (Int32 × AH)) (k696 : AH → Option (Int32 × AH)) (k719 : AH → Option (Int32 × AH)) (k742 : AH → Option (Int32 × AH)) (k765 : AH → Option (Int32 × AH)) (k788 : AH → Option (Int32 × AH)) (k821 : AH → Option (Int32 × AH)) (k844 : AH → Option (Int32 × AH)) (k867 : AH → Option (Int32 × AH)) (k890 : AH → Option (Int32 × AH)) (k903 : AH → Option (Int32 × AH)) (k916 : AH → Option (Int32 × AH)) (k939 : AH → Option (Int32 × AH)) (k952 : AH → Option (Int32 × AH)) (k975 : AH → Option (Int32 × AH)) (k988 : AH → Option (Int32 × AH)) (k1001 : AH → Option (Int32 × AH)) (k1034 : AH → Option (Int32 × AH)) (k1048 : AH → Option (Int32 × AH)) (k1056 : AH → Option (Int32 × AH)) : Nat → Int32 → AH → Option (Int32 × AH)
  | 0, _, _ => none
  | n + 1, v3, N => if ((Int32.ofNat L) - (4 : Int32)) < v3 then k1056 N else ob (xS L xs v3) (fun x4 => if (x4 &&& (63 : Int32)) = 0 then ob (xS L xs (v3 + (1 : Int32))) (fun x5 => ob2 (f_X9_type v1 x5 N) (fun x7 N6 => ob (xS L xs (v3 + (1 : Int32))) (fun x8 => ob2 (f_X10_type v2 x8 N6) (fun x10 N9 => if x7 = x10 then f_L_law_L18 L xs v1 v2 k217 k230 k243 k286 k299 k312 k355 k388 k411 k476 k499 k512 k525 k538 k561 k584 k607 k630 k673 k696 k719 k742 k765 k788 k821 k844 k867 k890 k903 k916 k939 k952 k975 k988 k1001 k1034 k1048 k1056 n (v3 + (4 : Int32)) N9 else k217 N9)))) else if (x4 &&& (63 : Int32)) = 1 then ob2 (f_X9_clearText v1 N) (fun x14 N13 => ob2 (f_X10_clearText v2 N13) (fun x16 N15 => if x14 = x16 then f_L_law_L18 L xs v1 v2 k217 k230 k243 k286 k299 k312 k355 k388 k411 k476 k499 k512 k525 k538 k561 k584 k607 k630 k673 k696 k719 k742 k765 k788 k821 k844 k867 k890 k903 k916 k939 k952 k975 k988 k1001 k1034 k1048 k1056 n (v3 + (4 : Int32)) N15 else k230 N15)) else if (x4 &&& (63 : Int32)) = 2 then ob2 (f_X9_textFault v1 N) (fun x20 N19 => ob2 (f_X10_textFault v2 N19) (fun x22 N21 => if x20 = x22 then f_L_law_L18 L xs v1 v2 k217 k230 k243 k286 k299 k312 k355 k388 k411 k476 k499 k512 k525 k538 k561 k584 k607 k630 k673 k696 k719 k742 k765 k788 k821 k844 k867 k890 k903 k916 k939 k952 k975 k988 k1001 k1034 k1048 k1056 n (v3 + (4 : Int32)) N21 else k243 N21)) else if (x4 &&& (63 : Int32)) = 3 then ob (xS L xs (v3 + (1 : Int32))) (fun x25 => ob (xS L xs (v3 + (2 : Int32))) (fun x26 => ob (xS L xs (v3 + (3 : Int32))) (fun x27 => ob2 (f_X9_flow v1 x25 x26 x27 N) (fun x29 N28 => ob (xS L xs (v3 + (1 : Int32))) (fun x30 => ob (xS L xs (v3 + (2 : Int32))) (fun x31 => ob (xS L xs (v3 + (3 : Int32))) (fun x32 => ob2 (f_X10_flow v2 x30 x31 x32 N28) (fun x34 N33 => if x29 = x34 then f_L_law_L18 L xs v1 v2 k217 k230 k243 k286 k299 k312 k355 k388 k411 k476 k499 k512 k525 k538 k561 k584 k607 k630 k673 k696 k719 k742 k765 k788 k821 k844 k867 k890 k903 k916 k939 k952 k975 k988 k1001 k1034 k1048 k1056 n (v3 + (4 : Int32)) N33 else k286 N33)))))))) else if (x4 &&& (63 : Int32)) = 4 then ob2 (f_X9_read v1 N) (fun x38 N37 => ob2 (f_X10_read v2 N37) (fun x40 N39 => if x38 = x40 then f_L_law_L18 L xs v1 v2 k217 k230 k243 k286 k299 k312 k355 k388 k411 k476 k499 k512 k525 k538 k561 k584 k607 k630 k673 k696 k719 k742 k765 k788 k821 k844 k867 k890 k903 k916 k939 k952 k975 k988 k1001 k1034 k1048 k1056 n (v3 + (4 : Int32)) N39 else k299 N39)) else if (x4 &&& (63 : Int32)) = 5 then ob2 (f_X9_dropDraft v1 N) (fun x44 N43 => ob2 (f_X10_dropDraft v2 N43) (fun x46 N45 => if x44 = x46 then f_L_law_L18 L xs v1 v2 k217 k230 k243 k286 k299 k312 k355 k388 k411 k476 k499 k512 k525 k538 k561 k584 k607 k630 k673 k696 k719 k742 k765 k788 k821 k844 k867 k890 k903 k916 k939 k952 k975 k988 k1001 k1034 k1048 k1056 n (v3 + (4 : Int32)) N45 else k312 N45)) else if (x4 &&& (63 : Int32)) = 6 then ob (xS L xs (v3 + (1 : Int32))) (fun x49 => ob (xS L xs (v3 + (2 : Int32))) (fun x50 => ob (xS L xs (v3 + (3 : Int32))) (fun x51 => ob2 (f_X9_addGroup v1 x49 x50 x51 N) (fun x53 N52 => ob (xS L xs (v3 + (1 : Int32))) (fun x54 => ob (xS L xs (v3 + (2 : Int32))) (fun x55 => ob (xS L xs (v3 + (3 : Int32))) (fun x56 => ob2 (f_X10_addGroup v2 x54 x55 x56 N52) (fun x58 N57 => if x53 = x58 then f_L_law_L18 L xs v1 v2 k217 k230 k243 k286 k299 k312 k355 k388 k411 k476 k499 k512 k525 k538 k561 k584 k607 k630 k673 k696 k719 k742 k765 k788 k821 k844 k867 k890 k903 k916 k939 k952 k975 k988 k1001 k1034 k1048 k1056 n (v3 + (4 : Int32)) N57 else k355 N57)))))))) else if (x4 &&& (63 : Int32)) = 7 then ob (xS L xs (v3 + (1 : Int32))) (fun x61 => ob (xS L xs (v3 + (2 : Int32))) (fun x62 => ob2 (f_X9_setCapacity v1 x61 x62 N) (fun x64 N63 => ob (xS L xs (v3 + (1 : Int32))) (fun x65 => ob (xS L xs (v3 + (2 : Int32))) (fun x66 => ob2 (f_X10_setCapacity v2 x65 x66 N63) (fun x68 N67 => if x64 = x68 then f_L_law_L18 L xs v1 v2 k217 k230 k243 k286 k299 k312 k355 k388 k411 k476 k499 k512 k525 k538 k561 k584 k607 k630 k673 k696 k719 k742 k765 k788 k821 k844 k867 k890 k903 k916 k939 k952 k975 k988 k1001 k1034 k1048 k1056 n (v3 + (4 : Int32)) N67 else k388 N67)))))) else if (x4 &&& (63 : Int32)) = 8 then ob (xS L xs (v3 + (1 : Int32))) (fun x71 => ob2 (f_X9_setPolicy v1 x71 N) (fun x73 N72 => ob (xS L xs (v3 + (1 : Int32))) (fun x74 => ob2 (f_X10_setPolicy v2 x74 N72) (fun x76 N75 => if x73 = x76 then f_L_law_L18 L xs v1 v2 k217 k230 k243 k286 k299 k312 k355 k388 k411 k476 k499 k512 k525 k538 k561 k584 k607 k630 k673 k696 k719 k742 k765 k788 k821 k844 k867 k890 k903 k916 k939 k952 k975 k988 k1001 k1034 k1048 k1056 n (v3 + (4 : Int32)) N75 else k411 N75)))) else if (x4 &&& (63 : Int32)) = 9 then ob (xS L xs (v3 + (1 : Int32))) (fun x79 => if x79 = 0 then f_L_law_J427 L xs (f_L_law_L18 L xs v1 v2 k217 k230 k243 k286 k299 k312 k355 k388 k411 k476 k499 k512 k525 k538 k561 k584 k607 k630 k673 k696 k719 k742 k765 k788 k821 k844 k867 k890 k903 k916 k939 k952 k975 k988 k1001 k1034 k1048 k1056 n) k476 v1 v2 v3 v1 (0 : Int32) N else f_L_law_J427 L xs (f_L_law_L18 L xs v1 v2 k217 k230 k243 k286 k299 k312 k355 k388 k411 k476 k499 k512 k525 k538 k561 k584 k607 k630 k673 k696 k719 k742 k765 k788 k821 k844 k867 k890 k903 k916 k939 k952 k975 k988 k1001 k1034 k1048 k1056 n) k476 v1 v2 v3 v1 (1 : Int32) N) else if (x4 &&& (63 : Int32)) = 10 then ob (xS L xs (v3 + (1 : Int32))) (fun x96 => ob2 (f_X9_pass v1 x96 N) (fun x98 N97 => ob (xS L xs (v3 + (1 : Int32))) (fun x99 => ob2 (f_X10_pass v2 x99 N97) (fun x101 N100 => if x98 = x101 then f_L_law_L18 L xs v1 v2 k217 k230 k243 k286 k299 k312 k355 k388 k411 k476 k499 k512 k525 k538 k561 k584 k607 k630 k673 k696 k719 k742 k765 k788 k821 k844 k867 k890 k903 k916 k939 k952 k975 k988 k1001 k1034 k1048 k1056 n (v3 + (4 : Int32)) N100 else k499 N100)))) else if (x4 &&& (63 : Int32)) = 11 then ob2 (f_X9_undo v1 N) (fun x105 N104 => ob2 (f_X10_undo v2 N104) (fun x107 N106 => if x105 = x107 then f_L_law_L18 L xs v1 v2 k217 k230 k243 k286 k299 k312 k355 k388 k411 k476 k499 k512 k525 k538 k561 k584 k607 k630 k673 k696 k719 k742 k765 k788 k821 k844 k867 k890 k903 k916 k939 k952 k975 k988 k1001 k1034 k1048 k1056 n (v3 + (4 : Int32)) N106 else k512 N106)) else if (x4 &&& (63 : Int32)) = 12 then ob2 (f_X9_time v1 N) (fun x111 N110 => ob2 (f_X10_time v2 N110) (fun x113 N112 => if x111 = x113 then f_L_law_L18 L xs v1 v2 k217 k230 k243 k286 k299 k312 k355 k388 k411 k476 k499 k512 k525 k538 k561 k584 k607 k630 k673 k696 k719 k742 k765 k788 k821 k844 k867 k890 k903 k916 k939 k952 k975 k988 k1001 k1034 k1048 k1056 n (v3 + (4 : Int32)) N112 else k525 N112)) else if (x4 &&& (63 : Int32)) = 13 then ob2 (f_X9_groupCount v1 N) (fun x117 N116 => ob2 (f_X10_groupCount v2 N116) (fun x119 N118 => if x117 = x119 then f_L_law_L18 L xs v1 v2 k217 k230 k243 k286 k299 k312 k355 k388 k411 k476 k499 k512 k525 k538 k561 k584 k607 k630 k673 k696 k719 k742 k765 k788 k821 k844 k867 k890 k903 k916 k939 k952 k975 k988 k1001 k1034 k1048 k1056 n (v3 + (4 : Int32)) N118 else k538 N118)) else if (x4 &&& (63 : Int32)) = 14 then ob (xS L xs (v3 + (1 : Int32))) (fun x122 => ob2 (f_X9_state v1 x122 N) (fun x124 N123 => ob (xS L xs (v3 + (1 : Int32))) (fun x125 => ob2 (f_X10_state v2 x125 N123) (fun x127 N126 => if x124 = x127 then f_L_law_L18 L xs v1 v2 k217 k230 k243 k286 k299 k312 k355 k388 k411 k476 k499 k512 k525 k538 k561 k584 k607 k630 k673 k696 k719 k742 k765 k788 k821 k844 k867 k890 k903 k916 k939 k952 k975 k988 k1001 k1034 k1048 k1056 n (v3 + (4 : Int32)) N126 else k561 N126)))) else if (x4 &&& (63 : Int32)) = 15 then ob (xS L xs (v3 + (1 : Int32))) (fun x130 => ob2 (f_X9_arrival v1 x130 N) (fun x132 N131 => ob (xS L xs (v3 + (1 : Int32))) (fun x133 => ob2 (f_X10_arrival v2 x133 N131) (fun x135 N134 => if x132 = x135 then f_L_law_L18 L xs v1 v2 k217 k230 k243 k286 k299 k312 k355 k388 k411 k476 k499 k512 k525 k538 k561 k584 k607 k630 k673 k696 k719 k742 k765 k788 k821 k844 k867 k890 k903 k916 k939 k952 k975 k988 k1001 k1034 k1048 k1056 n (v3 + (4 : Int32)) N134 else k584 N134)))) else if (x4 &&& (63 : Int32)) = 16 then ob (xS L xs (v3 + (1 : Int32))) (fun x138 => ob2 (f_X9_end v1 x138 N) (fun x140 N139 => ob (xS L xs (v3 + (1 : Int32))) (fun x141 => ob2 (f_X10_end v2 x141 N139) (fun x143 N142 => if x140 = x143 then f_L_law_L18 L xs v1 v2 k217 k230 k243 k286 k299 k312 k355 k388 k411 k476 k499 k512 k525 k538 k561 k584 k607 k630 k673 k696 k719 k742 k765 k788 k821 k844 k867 k890 k903 k916 k939 k952 k975 k988 k1001 k1034 k1048 k1056 n (v3 + (4 : Int32)) N142 else k607 N142)))) else if (x4 &&& (63 : Int32)) = 17 then ob (xS L xs (v3 + (1 : Int32))) (fun x146 => ob2 (f_X9_flowCount v1 x146 N) (fun x148 N147 => ob (xS L xs (v3 + (1 : Int32))) (fun x149 => ob2 (f_X10_flowCount v2 x149 N147) (fun x151 N150 => if x148 = x151 then f_L_law_L18 L xs v1 v2 k217 k230 k243 k286 k299 k312 k355 k388 k411 k476 k499 k512 k525 k538 k561 k584 k607 k630 k673 k696 k719 k742 k765 k788 k821 k844 k867 k890 k903 k916 k939 k952 k975 k988 k1001 k1034 k1048 k1056 n (v3 + (4 : Int32)) N150 else k630 N150)))) else if (x4 &&& (63 : Int32)) = 18 then ob (xS L xs (v3 + (1 : Int32))) (fun x154 => ob (xS L xs (v3 + (2 : Int32))) (fun x155 => ob (xS L xs (v3 + (3 : Int32))) (fun x156 => ob2 (f_X9_flowPart v1 x154 x155 x156 N) (fun x158 N157 => ob (xS L xs (v3 + (1 : Int32))) (fun x159 => ob (xS L xs (v3 + (2 : Int32))) (fun x160 => ob (xS L xs (v3 + (3 : Int32))) (fun x161 => ob2 (f_X10_flowPart v2 x159 x160 x161 N157) (fun x163 N162 => if x158 = x163 then f_L_law_L18 L xs v1 v2 k217 k230 k243 k286 k299 k312 k355 k388 k411 k476 k499 k512 k525 k538 k561 k584 k607 k630 k673 k696 k719 k742 k765 k788 k821 k844 k867 k890 k903 k916 k939 k952 k975 k988 k1001 k1034 k1048 k1056 n (v3 + (4 : Int32)) N162 else k673 N162)))))))) else if (x4 &&& (63 : Int32)) = 19 then ob (xS L xs (v3 + (1 : Int32))) (fun x166 => ob2 (f_X9_rest v1 x166 N) (fun x168 N167 => ob (xS L xs (v3 + (1 : Int32))) (fun x169 => ob2 (f_X10_rest v2 x169 N167) (fun x171 N170 => if x168 = x171 then f_L_law_L18 L xs v1 v2 k217 k230 k243 k286 k299 k312 k355 k388 k411 k476 k499 k512 k525 k538 k561 k584 k607 k630 k673 k696 k719 k742 k765 k788 k821 k844 k867 k890 k903 k916 k939 k952 k975 k988 k1001 k1034 k1048 k1056 n (v3 + (4 : Int32)) N170 else k696 N170)))) else if (x4 &&& (63 : Int32)) = 20 then ob (xS L xs (v3 + (1 : Int32))) (fun x174 => ob2 (f_X9_level v1 x174 N) (fun x176 N175 => ob (xS L xs (v3 + (1 : Int32))) (fun x177 => ob2 (f_X10_level v2 x177 N175) (fun x179 N178 => if x176 = x179 then f_L_law_L18 L xs v1 v2 k217 k230 k243 k286 k299 k312 k355 k388 k411 k476 k499 k512 k525 k538 k561 k584 k607 k630 k673 k696 k719 k742 k765 k788 k821 k844 k867 k890 k903 k916 k939 k952 k975 k988 k1001 k1034 k1048 k1056 n (v3 + (4 : Int32)) N178 else k719 N178)))) else if (x4 &&& (63 : Int32)) = 21 then ob (xS L xs (v3 + (1 : Int32))) (fun x182 => ob2 (f_X9_loneSpan v1 x182 N) (fun x184 N183 => ob (xS L xs (v3 + (1 : Int32))) (fun x185 => ob2 (f_X10_loneSpan v2 x185 N183) (fun x187 N186 => if x184 = x187 then f_L_law_L18 L xs v1 v2 k217 k230 k243 k286 k299 k312 k355 k388 k411 k476 k499 k512 k525 k538 k561 k584 k607 k630 k673 k696 k719 k742 k765 k788 k821 k844 k867 k890 k903 k916 k939 k952 k975 k988 k1001 k1034 k1048 k1056 n (v3 + (4 : Int32)) N186 else k742 N186)))) else if (x4 &&& (63 : Int32)) = 22 then ob (xS L xs (v3 + (1 : Int32))) (fun x190 => ob2 (f_X9_place v1 x190 N) (fun x192 N191 => ob (xS L xs (v3 + (1 : Int32))) (fun x193 => ob2 (f_X10_place v2 x193 N191) (fun x195 N194 => if x192 = x195 then f_L_law_L18 L xs v1 v2 k217 k230 k243 k286 k299 k312 k355 k388 k411 k476 k499 k512 k525 k538 k561 k584 k607 k630 k673 k696 k719 k742 k765 k788 k821 k844 k867 k890 k903 k916 k939 k952 k975 k988 k1001 k1034 k1048 k1056 n (v3 + (4 : Int32)) N194 else k765 N194)))) else if (x4 &&& (63 : Int32)) = 23 then ob (xS L xs (v3 + (1 : Int32))) (fun x198 => ob2 (f_X9_nextSpan v1 x198 N) (fun x200 N199 => ob (xS L xs (v3 + (1 : Int32))) (fun x201 => ob2 (f_X10_nextSpan v2 x201 N199) (fun x203 N202 => if x200 = x203 then f_L_law_L18 L xs v1 v2 k217 k230 k243 k286 k299 k312 k355 k388 k411 k476 k499 k512 k525 k538 k561 k584 k607 k630 k673 k696 k719 k742 k765 k788 k821 k844 k867 k890 k903 k916 k939 k952 k975 k988 k1001 k1034 k1048 k1056 n (v3 + (4 : Int32)) N202 else k788 N202)))) else if (x4 &&& (63 : Int32)) = 24 then ob (xS L xs (v3 + (1 : Int32))) (fun x206 => ob (xS L xs (v3 + (2 : Int32))) (fun x207 => ob2 (f_X9_nextRate v1 x206 x207 N) (fun x209 N208 => ob (xS L xs (v3 + (1 : Int32))) (fun x210 => ob (xS L xs (v3 + (2 : Int32))) (fun x211 => ob2 (f_X10_nextRate v2 x210 x211 N208) (fun x213 N212 => if x209 = x213 then f_L_law_L18 L xs v1 v2 k217 k230 k243 k286 k299 k312 k355 k388 k411 k476 k499 k512 k525 k538 k561 k584 k607 k630 k673 k696 k719 k742 k765 k788 k821 k844 k867 k890 k903 k916 k939 k952 k975 k988 k1001 k1034 k1048 k1056 n (v3 + (4 : Int32)) N212 else k821 N212)))))) else if (x4 &&& (63 : Int32)) = 25 then ob (xS L xs (v3 + (1 : Int32))) (fun x216 => ob2 (f_X9_spare v1 x216 N) (fun x218 N217 => ob (xS L xs (v3 + (1 : Int32))) (fun x219 => ob2 (f_X10_spare v2 x219 N217) (fun x221 N220 => if x218 = x221 then f_L_law_L18 L xs v1 v2 k217 k230 k243 k286 k299 k312 k355 k388 k411 k476 k499 k512 k525 k538 k561 k584 k607 k630 k673 k696 k719 k742 k765 k788 k821 k844 k867 k890 k903 k916 k939 k952 k975 k988 k1001 k1034 k1048 k1056 n (v3 + (4 : Int32)) N220 else k844 N220)))) else if (x4 &&& (63 : Int32)) = 26 then ob (xS L xs (v3 + (1 : Int32))) (fun x224 => ob2 (f_X9_outlook v1 x224 N) (fun x226 N225 => ob (xS L xs (v3 + (1 : Int32))) (fun x227 => ob2 (f_X10_outlook v2 x227 N225) (fun x229 N228 => if x226 = x229 then f_L_law_L18 L xs v1 v2 k217 k230 k243 k286 k299 k312 k355 k388 k411 k476 k499 k512 k525 k538 k561 k584 k607 k630 k673 k696 k719 k742 k765 k788 k821 k844 k867 k890 k903 k916 k939 k952 k975 k988 k1001 k1034 k1048 k1056 n (v3 + (4 : Int32)) N228 else k867 N228)))) else if (x4 &&& (63 : Int32)) = 27 then ob (xS L xs (v3 + (1 : Int32))) (fun x232 => ob2 (f_X9_total v1 x232 N) (fun x234 N233 => ob (xS L xs (v3 + (1 : Int32))) (fun x235 => ob2 (f_X10_total v2 x235 N233) (fun x237 N236 => if x234 = x237 then f_L_law_L18 L xs v1 v2 k217 k230 k243 k286 k299 k312 k355 k388 k411 k476 k499 k512 k525 k538 k561 k584 k607 k630 k673 k696 k719 k742 k765 k788 k821 k844 k867 k890 k903 k916 k939 k952 k975 k988 k1001 k1034 k1048 k1056 n (v3 + (4 : Int32)) N236 else k890 N236)))) else if (x4 &&& (63 : Int32)) = 28 then ob2 (f_X9_bestPolicy v1 N) (fun x241 N240 => ob2 (f_X10_bestPolicy v2 N240) (fun x243 N242 => if x241 = x243 then f_L_law_L18 L xs v1 v2 k217 k230 k243 k286 k299 k312 k355 k388 k411 k476 k499 k512 k525 k538 k561 k584 k607 k630 k673 k696 k719 k742 k765 k788 k821 k844 k867 k890 k903 k916 k939 k952 k975 k988 k1001 k1034 k1048 k1056 n (v3 + (4 : Int32)) N242 else k903 N242)) else if (x4 &&& (63 : Int32)) = 29 then ob2 (f_X9_bestOrder v1 N) (fun x247 N246 => ob2 (f_X10_bestOrder v2 N246) (fun x249 N248 => if x247 = x249 then f_L_law_L18 L xs v1 v2 k217 k230 k243 k286 k299 k312 k355 k388 k411 k476 k499 k512 k525 k538 k561 k584 k607 k630 k673 k696 k719 k742 k765 k788 k821 k844 k867 k890 k903 k916 k939 k952 k975 k988 k1001 k1034 k1048 k1056 n (v3 + (4 : Int32)) N248 else k916 N248)) else if (x4 &&& (63 : Int32)) = 30 then ob (xS L xs (v3 + (1 : Int32))) (fun x252 => ob2 (f_X9_bestOrderAt v1 x252 N) (fun x254 N253 => ob (xS L xs (v3 + (1 : Int32))) (fun x255 => ob2 (f_X10_bestOrderAt v2 x255 N253) (fun x257 N256 => if x254 = x257 then f_L_law_L18 L xs v1 v2 k217 k230 k243 k286 k299 k312 k355 k388 k411 k476 k499 k512 k525 k538 k561 k584 k607 k630 k673 k696 k719 k742 k765 k788 k821 k844 k867 k890 k903 k916 k939 k952 k975 k988 k1001 k1034 k1048 k1056 n (v3 + (4 : Int32)) N256 else k939 N256)))) else if (x4 &&& (63 : Int32)) = 31 then ob2 (f_X9_bound v1 N) (fun x261 N260 => ob2 (f_X10_bound v2 N260) (fun x263 N262 => if x261 = x263 then f_L_law_L18 L xs v1 v2 k217 k230 k243 k286 k299 k312 k355 k388 k411 k476 k499 k512 k525 k538 k561 k584 k607 k630 k673 k696 k719 k742 k765 k788 k821 k844 k867 k890 k903 k916 k939 k952 k975 k988 k1001 k1034 k1048 k1056 n (v3 + (4 : Int32)) N262 else k952 N262)) else if (x4 &&& (63 : Int32)) = 32 then ob (xS L xs (v3 + (1 : Int32))) (fun x266 => ob2 (f_X9_moved v1 x266 N) (fun x268 N267 => ob (xS L xs (v3 + (1 : Int32))) (fun x269 => ob2 (f_X10_moved v2 x269 N267) (fun x271 N270 => if x268 = x271 then f_L_law_L18 L xs v1 v2 k217 k230 k243 k286 k299 k312 k355 k388 k411 k476 k499 k512 k525 k538 k561 k584 k607 k630 k673 k696 k719 k742 k765 k788 k821 k844 k867 k890 k903 k916 k939 k952 k975 k988 k1001 k1034 k1048 k1056 n (v3 + (4 : Int32)) N270 else k975 N270)))) else if (x4 &&& (63 : Int32)) = 33 then ob2 (f_X9_preemptions v1 N) (fun x275 N274 => ob2 (f_X10_preemptions v2 N274) (fun x277 N276 => if x275 = x277 then f_L_law_L18 L xs v1 v2 k217 k230 k243 k286 k299 k312 k355 k388 k411 k476 k499 k512 k525 k538 k561 k584 k607 k630 k673 k696 k719 k742 k765 k788 k821 k844 k867 k890 k903 k916 k939 k952 k975 k988 k1001 k1034 k1048 k1056 n (v3 + (4 : Int32)) N276 else k988 N276)) else if (x4 &&& (63 : Int32)) = 34 then ob2 (f_X9_eventCount v1 N) (fun x281 N280 => ob2 (f_X10_eventCount v2 N280) (fun x283 N282 => if x281 = x283 then f_L_law_L18 L xs v1 v2 k217 k230 k243 k286 k299 k312 k355 k388 k411 k476 k499 k512 k525 k538 k561 k584 k607 k630 k673 k696 k719 k742 k765 k788 k821 k844 k867 k890 k903 k916 k939 k952 k975 k988 k1001 k1034 k1048 k1056 n (v3 + (4 : Int32)) N282 else k1001 N282)) else if (x4 &&& (63 : Int32)) = 35 then ob (xS L xs (v3 + (1 : Int32))) (fun x286 => ob (xS L xs (v3 + (2 : Int32))) (fun x287 => ob2 (f_X9_event v1 x286 x287 N) (fun x289 N288 => ob (xS L xs (v3 + (1 : Int32))) (fun x290 => ob (xS L xs (v3 + (2 : Int32))) (fun x291 => ob2 (f_X10_event v2 x290 x291 N288) (fun x293 N292 => if x289 = x293 then f_L_law_L18 L xs v1 v2 k217 k230 k243 k286 k299 k312 k355 k388 k411 k476 k499 k512 k525 k538 k561 k584 k607 k630 k673 k696 k719 k742 k765 k788 k821 k844 k867 k890 k903 k916 k939 k952 k975 k988 k1001 k1034 k1048 k1056 n (v3 + (4 : Int32)) N292 else k1034 N292)))))) else if (x4 &&& (63 : Int32)) = 36 then ob2 (f_X9_digest v1 N) (fun x297 N296 => ob2 (f_X10_digest v2 N296) (fun x299 N298 => if (lg_cmp x297 x299) = 0 then f_L_law_L18 L xs v1 v2 k217 k230 k243 k286 k299 k312 k355 k388 k411 k476 k499 k512 k525 k538 k561 k584 k607 k630 k673 k696 k719 k742 k765 k788 k821 k844 k867 k890 k903 k916 k939 k952 k975 k988 k1001 k1034 k1048 k1056 n (v3 + (4 : Int32)) N298 else k1048 N298)) else f_L_law_L18 L xs v1 v2 k217 k230 k243 k286 k299 k312 k355 k388 k411 k476 k499 k512 k525 k538 k561 k584 k607 k630 k673 k696 k719 k742 k765 k788 k821 k844 k867 k890 k903 k916 k939 k952 k975 k988 k1001 k1034 k1048 k1056 n (v3 + (4 : Int32)) N)
set_option maxHeartbeats 4000000 in
set_option maxRecDepth 100000 in
theorem w_L_law_L18 {P : Int32 × AH → Prop} (X : CX cL_law RL 4 G aC t b0 p s m args c) (hr : RtZ p l e rm_L_law s m args below meth c 836 20932 Q cL_law G aC b0 P) (hX : va_X b L xs s s.heap ∧ b < s.heap.size ∧ ¬ b0 ≤ b) (v1 : Nat) (v2 : Nat) {k217 : AH → Option (Int32 × AH)} {k230 : AH → Option (Int32 × AH)} {k243 : AH → Option (Int32 × AH)} {k286 : AH → Option (Int32 × AH)} {k299 : AH → Option (Int32 × AH)} {k312 : AH → Option (Int32 × AH)} {k355 : AH → Option (Int32 × AH)} {k388 : AH → Option (Int32 × AH)} {k411 : AH → Option (Int32 × AH)} {k476 : AH → Option (Int32 × AH)} {k499 : AH → Option (Int32 × AH)} {k512 : AH → Option (Int32 × AH)} {k525 : AH → Option (Int32 × AH)} {k538 : AH → Option (Int32 × AH)} {k561 : AH → Option (Int32 × AH)} {k584 : AH → Option (Int32 × AH)} {k607 : AH → Option (Int32 × AH)} {k630 : AH → Option (Int32 × AH)} {k673 : AH → Option (Int32 × AH)} {k696 : AH → Option (Int32 × AH)} {k719 : AH → Option (Int32 × AH)} {k742 : AH → Option (Int32 × AH)} {k765 : AH → Option (Int32 × AH)} {k788 : AH → Option (Int32 × AH)} {k821 : AH → Option (Int32 × AH)} {k844 : AH → Option (Int32 × AH)} {k867 : AH → Option (Int32 × AH)} {k890 : AH → Option (Int32 × AH)} {k903 : AH → Option (Int32 × AH)} {k916 : AH → Option (Int32 × AH)} {k939 : AH → Option (Int32 × AH)} {k952 : AH → Option (Int32 × AH)} {k975 : AH → Option (Int32 × AH)} {k988 : AH → Option (Int32 × AH)} {k1001 : AH → Option (Int32 × AH)} {k1034 : AH → Option (Int32 × AH)} {k1048 : AH → Option (Int32 × AH)} {k1056 : AH → Option (Int32 × AH)}
    (hk217 : ∀ (N : AH) (H : Heap) (locs : List Loc) (ls : Array Slot), Rp G aC b0 N H → va_S (fun q => b0 ≤ q) s.heap H locs → lv_has ls 4 [] → owp (k217 N) P → W p l e rm_L_law s m args below meth c H locs 836 20932 Q (F0 m 217 ls []))
    (hk230 : ∀ (N : AH) (H : Heap) (locs : List Loc) (ls : Array Slot), Rp G aC b0 N H → va_S (fun q => b0 ≤ q) s.heap H locs → lv_has ls 4 [] → owp (k230 N) P → W p l e rm_L_law s m args below meth c H locs 836 20932 Q (F0 m 230 ls []))
    (hk243 : ∀ (N : AH) (H : Heap) (locs : List Loc) (ls : Array Slot), Rp G aC b0 N H → va_S (fun q => b0 ≤ q) s.heap H locs → lv_has ls 4 [] → owp (k243 N) P → W p l e rm_L_law s m args below meth c H locs 836 20932 Q (F0 m 243 ls []))
    (hk286 : ∀ (N : AH) (H : Heap) (locs : List Loc) (ls : Array Slot), Rp G aC b0 N H → va_S (fun q => b0 ≤ q) s.heap H locs → lv_has ls 4 [] → owp (k286 N) P → W p l e rm_L_law s m args below meth c H locs 836 20932 Q (F0 m 286 ls []))
    (hk299 : ∀ (N : AH) (H : Heap) (locs : List Loc) (ls : Array Slot), Rp G aC b0 N H → va_S (fun q => b0 ≤ q) s.heap H locs → lv_has ls 4 [] → owp (k299 N) P → W p l e rm_L_law s m args below meth c H locs 836 20932 Q (F0 m 299 ls []))
    (hk312 : ∀ (N : AH) (H : Heap) (locs : List Loc) (ls : Array Slot), Rp G aC b0 N H → va_S (fun q => b0 ≤ q) s.heap H locs → lv_has ls 4 [] → owp (k312 N) P → W p l e rm_L_law s m args below meth c H locs 836 20932 Q (F0 m 312 ls []))
    (hk355 : ∀ (N : AH) (H : Heap) (locs : List Loc) (ls : Array Slot), Rp G aC b0 N H → va_S (fun q => b0 ≤ q) s.heap H locs → lv_has ls 4 [] → owp (k355 N) P → W p l e rm_L_law s m args below meth c H locs 836 20932 Q (F0 m 355 ls []))
    (hk388 : ∀ (N : AH) (H : Heap) (locs : List Loc) (ls : Array Slot), Rp G aC b0 N H → va_S (fun q => b0 ≤ q) s.heap H locs → lv_has ls 4 [] → owp (k388 N) P → W p l e rm_L_law s m args below meth c H locs 836 20932 Q (F0 m 388 ls []))
    (hk411 : ∀ (N : AH) (H : Heap) (locs : List Loc) (ls : Array Slot), Rp G aC b0 N H → va_S (fun q => b0 ≤ q) s.heap H locs → lv_has ls 4 [] → owp (k411 N) P → W p l e rm_L_law s m args below meth c H locs 836 20932 Q (F0 m 411 ls []))
    (hk476 : ∀ (N : AH) (H : Heap) (locs : List Loc) (ls : Array Slot), Rp G aC b0 N H → va_S (fun q => b0 ≤ q) s.heap H locs → lv_has ls 4 [] → owp (k476 N) P → W p l e rm_L_law s m args below meth c H locs 836 20932 Q (F0 m 476 ls []))
    (hk499 : ∀ (N : AH) (H : Heap) (locs : List Loc) (ls : Array Slot), Rp G aC b0 N H → va_S (fun q => b0 ≤ q) s.heap H locs → lv_has ls 4 [] → owp (k499 N) P → W p l e rm_L_law s m args below meth c H locs 836 20932 Q (F0 m 499 ls []))
    (hk512 : ∀ (N : AH) (H : Heap) (locs : List Loc) (ls : Array Slot), Rp G aC b0 N H → va_S (fun q => b0 ≤ q) s.heap H locs → lv_has ls 4 [] → owp (k512 N) P → W p l e rm_L_law s m args below meth c H locs 836 20932 Q (F0 m 512 ls []))
    (hk525 : ∀ (N : AH) (H : Heap) (locs : List Loc) (ls : Array Slot), Rp G aC b0 N H → va_S (fun q => b0 ≤ q) s.heap H locs → lv_has ls 4 [] → owp (k525 N) P → W p l e rm_L_law s m args below meth c H locs 836 20932 Q (F0 m 525 ls []))
    (hk538 : ∀ (N : AH) (H : Heap) (locs : List Loc) (ls : Array Slot), Rp G aC b0 N H → va_S (fun q => b0 ≤ q) s.heap H locs → lv_has ls 4 [] → owp (k538 N) P → W p l e rm_L_law s m args below meth c H locs 836 20932 Q (F0 m 538 ls []))
    (hk561 : ∀ (N : AH) (H : Heap) (locs : List Loc) (ls : Array Slot), Rp G aC b0 N H → va_S (fun q => b0 ≤ q) s.heap H locs → lv_has ls 4 [] → owp (k561 N) P → W p l e rm_L_law s m args below meth c H locs 836 20932 Q (F0 m 561 ls []))
    (hk584 : ∀ (N : AH) (H : Heap) (locs : List Loc) (ls : Array Slot), Rp G aC b0 N H → va_S (fun q => b0 ≤ q) s.heap H locs → lv_has ls 4 [] → owp (k584 N) P → W p l e rm_L_law s m args below meth c H locs 836 20932 Q (F0 m 584 ls []))
    (hk607 : ∀ (N : AH) (H : Heap) (locs : List Loc) (ls : Array Slot), Rp G aC b0 N H → va_S (fun q => b0 ≤ q) s.heap H locs → lv_has ls 4 [] → owp (k607 N) P → W p l e rm_L_law s m args below meth c H locs 836 20932 Q (F0 m 607 ls []))
    (hk630 : ∀ (N : AH) (H : Heap) (locs : List Loc) (ls : Array Slot), Rp G aC b0 N H → va_S (fun q => b0 ≤ q) s.heap H locs → lv_has ls 4 [] → owp (k630 N) P → W p l e rm_L_law s m args below meth c H locs 836 20932 Q (F0 m 630 ls []))
    (hk673 : ∀ (N : AH) (H : Heap) (locs : List Loc) (ls : Array Slot), Rp G aC b0 N H → va_S (fun q => b0 ≤ q) s.heap H locs → lv_has ls 4 [] → owp (k673 N) P → W p l e rm_L_law s m args below meth c H locs 836 20932 Q (F0 m 673 ls []))
    (hk696 : ∀ (N : AH) (H : Heap) (locs : List Loc) (ls : Array Slot), Rp G aC b0 N H → va_S (fun q => b0 ≤ q) s.heap H locs → lv_has ls 4 [] → owp (k696 N) P → W p l e rm_L_law s m args below meth c H locs 836 20932 Q (F0 m 696 ls []))
    (hk719 : ∀ (N : AH) (H : Heap) (locs : List Loc) (ls : Array Slot), Rp G aC b0 N H → va_S (fun q => b0 ≤ q) s.heap H locs → lv_has ls 4 [] → owp (k719 N) P → W p l e rm_L_law s m args below meth c H locs 836 20932 Q (F0 m 719 ls []))
    (hk742 : ∀ (N : AH) (H : Heap) (locs : List Loc) (ls : Array Slot), Rp G aC b0 N H → va_S (fun q => b0 ≤ q) s.heap H locs → lv_has ls 4 [] → owp (k742 N) P → W p l e rm_L_law s m args below meth c H locs 836 20932 Q (F0 m 742 ls []))
    (hk765 : ∀ (N : AH) (H : Heap) (locs : List Loc) (ls : Array Slot), Rp G aC b0 N H → va_S (fun q => b0 ≤ q) s.heap H locs → lv_has ls 4 [] → owp (k765 N) P → W p l e rm_L_law s m args below meth c H locs 836 20932 Q (F0 m 765 ls []))
    (hk788 : ∀ (N : AH) (H : Heap) (locs : List Loc) (ls : Array Slot), Rp G aC b0 N H → va_S (fun q => b0 ≤ q) s.heap H locs → lv_has ls 4 [] → owp (k788 N) P → W p l e rm_L_law s m args below meth c H locs 836 20932 Q (F0 m 788 ls []))
    (hk821 : ∀ (N : AH) (H : Heap) (locs : List Loc) (ls : Array Slot), Rp G aC b0 N H → va_S (fun q => b0 ≤ q) s.heap H locs → lv_has ls 4 [] → owp (k821 N) P → W p l e rm_L_law s m args below meth c H locs 836 20932 Q (F0 m 821 ls []))
    (hk844 : ∀ (N : AH) (H : Heap) (locs : List Loc) (ls : Array Slot), Rp G aC b0 N H → va_S (fun q => b0 ≤ q) s.heap H locs → lv_has ls 4 [] → owp (k844 N) P → W p l e rm_L_law s m args below meth c H locs 836 20932 Q (F0 m 844 ls []))
    (hk867 : ∀ (N : AH) (H : Heap) (locs : List Loc) (ls : Array Slot), Rp G aC b0 N H → va_S (fun q => b0 ≤ q) s.heap H locs → lv_has ls 4 [] → owp (k867 N) P → W p l e rm_L_law s m args below meth c H locs 836 20932 Q (F0 m 867 ls []))
    (hk890 : ∀ (N : AH) (H : Heap) (locs : List Loc) (ls : Array Slot), Rp G aC b0 N H → va_S (fun q => b0 ≤ q) s.heap H locs → lv_has ls 4 [] → owp (k890 N) P → W p l e rm_L_law s m args below meth c H locs 836 20932 Q (F0 m 890 ls []))
    (hk903 : ∀ (N : AH) (H : Heap) (locs : List Loc) (ls : Array Slot), Rp G aC b0 N H → va_S (fun q => b0 ≤ q) s.heap H locs → lv_has ls 4 [] → owp (k903 N) P → W p l e rm_L_law s m args below meth c H locs 836 20932 Q (F0 m 903 ls []))
    (hk916 : ∀ (N : AH) (H : Heap) (locs : List Loc) (ls : Array Slot), Rp G aC b0 N H → va_S (fun q => b0 ≤ q) s.heap H locs → lv_has ls 4 [] → owp (k916 N) P → W p l e rm_L_law s m args below meth c H locs 836 20932 Q (F0 m 916 ls []))
    (hk939 : ∀ (N : AH) (H : Heap) (locs : List Loc) (ls : Array Slot), Rp G aC b0 N H → va_S (fun q => b0 ≤ q) s.heap H locs → lv_has ls 4 [] → owp (k939 N) P → W p l e rm_L_law s m args below meth c H locs 836 20932 Q (F0 m 939 ls []))
    (hk952 : ∀ (N : AH) (H : Heap) (locs : List Loc) (ls : Array Slot), Rp G aC b0 N H → va_S (fun q => b0 ≤ q) s.heap H locs → lv_has ls 4 [] → owp (k952 N) P → W p l e rm_L_law s m args below meth c H locs 836 20932 Q (F0 m 952 ls []))
    (hk975 : ∀ (N : AH) (H : Heap) (locs : List Loc) (ls : Array Slot), Rp G aC b0 N H → va_S (fun q => b0 ≤ q) s.heap H locs → lv_has ls 4 [] → owp (k975 N) P → W p l e rm_L_law s m args below meth c H locs 836 20932 Q (F0 m 975 ls []))
    (hk988 : ∀ (N : AH) (H : Heap) (locs : List Loc) (ls : Array Slot), Rp G aC b0 N H → va_S (fun q => b0 ≤ q) s.heap H locs → lv_has ls 4 [] → owp (k988 N) P → W p l e rm_L_law s m args below meth c H locs 836 20932 Q (F0 m 988 ls []))
    (hk1001 : ∀ (N : AH) (H : Heap) (locs : List Loc) (ls : Array Slot), Rp G aC b0 N H → va_S (fun q => b0 ≤ q) s.heap H locs → lv_has ls 4 [] → owp (k1001 N) P → W p l e rm_L_law s m args below meth c H locs 836 20932 Q (F0 m 1001 ls []))
    (hk1034 : ∀ (N : AH) (H : Heap) (locs : List Loc) (ls : Array Slot), Rp G aC b0 N H → va_S (fun q => b0 ≤ q) s.heap H locs → lv_has ls 4 [] → owp (k1034 N) P → W p l e rm_L_law s m args below meth c H locs 836 20932 Q (F0 m 1034 ls []))
    (hk1048 : ∀ (N : AH) (H : Heap) (locs : List Loc) (ls : Array Slot), Rp G aC b0 N H → va_S (fun q => b0 ≤ q) s.heap H locs → lv_has ls 4 [] → owp (k1048 N) P → W p l e rm_L_law s m args below meth c H locs 836 20932 Q (F0 m 1048 ls []))
    (hk1056 : ∀ (N : AH) (H : Heap) (locs : List Loc) (ls : Array Slot), Rp G aC b0 N H → va_S (fun q => b0 ≤ q) s.heap H locs → lv_has ls 4 [] → owp (k1056 N) P → W p l e rm_L_law s m args below meth c H locs 836 20932 Q (F0 m 1056 ls [])) :
    ∀ (n : Nat) (v3 : Int32) (N : AH) (H : Heap) (locs : List Loc) (ls : Array Slot), Rp G aC b0 N H → va_S (fun q => b0 ≤ q) s.heap H locs → lv_has ls 4 [(0, .ref b), (1, .ref v1), (2, .ref v2), (3, .int v3)] → owp (f_L_law_L18 L xs v1 v2 k217 k230 k243 k286 k299 k312 k355 k388 k411 k476 k499 k512 k525 k538 k561 k584 k607 k630 k673 k696 k719 k742 k765 k788 k821 k844 k867 k890 k903 k916 k939 k952 k975 k988 k1001 k1034 k1048 k1056 n v3 N) P → W p l e rm_L_law s m args below meth c H locs 836 20932 Q (F0 m 18 ls []) := by
  have hx := X.1.1
  have hb := X.1.2.1
  intro n
  induction n with
  | zero =>
    intro v3 N H locs ls hR hS hl hp
    exact (show False from hp).elim
  | succ n ih =>
    intro v3 N H locs ls hR hS hl hp
    rw [f_L_law_L18] at hp
    refine lv_iload_n hx hb dL_law_18 rfl (lv_at hl 3 rfl) ?_
    refine lv_aload_n hx hb dL_law_19 rfl (lv_at hl 0 rfl) ?_
    refine ab_slen X hS hX dL_law_20 ?_
    refine lv_iconst (v := (4)) hx hb dL_law_21 (by decide) ?_
    refine lv_isub hx hb dL_law_22 ?_
    refine lv_icmp_gt (tgt := 1056) hx hb dL_law_23 (by decide) (fun k3 => ?_) (fun k3 => ?_)
    · have hp := owp_t k3 hp
      exact hk1056 _ _ _ _ hR hS (lv_sub hl [] rfl) hp
    · have hp := owp_f k3 hp
      refine lv_aload_n hx hb dL_law_26 rfl (lv_at hl 0 rfl) ?_
      refine lv_iload_n hx hb dL_law_27 rfl (lv_at hl 3 rfl) ?_
      obtain ⟨x4, e_x4, hp⟩ := owp_ob hp
      refine ab_sld X hS hX e_x4 dL_law_28 ?_
      refine lv_bipush (v := (63)) hx hb dL_law_29 (by decide) ?_
      refine lv_iand hx hb dL_law_31 ?_
      by_cases k12 : (x4 &&& (63 : Int32)) = 0
      · have hp := owp_t k12 hp
        refine lv_tableIn (tgt := 196) (off := 164) hx hb dL_law_32 (by rw [k12]; decide) (by rw [k12]; decide) (by rw [k12]; rfl) (by decide) ?_
        refine lv_aload_n hx hb dL_law_196 rfl (lv_at hl 1 rfl) ?_
        refine lv_aload_n hx hb dL_law_197 rfl (lv_at hl 0 rfl) ?_
        refine lv_iload_n hx hb dL_law_198 rfl (lv_at hl 3 rfl) ?_
        refine lv_iconst (v := (1)) hx hb dL_law_199 (by decide) ?_
        refine lv_iadd hx hb dL_law_200 ?_
        obtain ⟨x5, e_x5, hp⟩ := owp_ob hp
        refine ab_sld X hS hX e_x5 dL_law_201 ?_
        obtain ⟨x7, N6, e_N6, hp⟩ := owp_ob2 hp
        refine iv_X9_type (rest := []) mw_L_13 X hR hS e_N6 hl.1 (Nat.le_of_ble_eq_true rfl) ⟨Nat.le_of_ble_eq_true rfl, Nat.le_of_ble_eq_true rfl⟩ ⟨Nat.le_of_ble_eq_true rfl, Nat.le_of_ble_eq_true rfl⟩ dL_law_202 (fun H locs hR hS => ?_)
        refine lv_aload_n hx hb dL_law_205 rfl (lv_at hl 2 rfl) ?_
        refine lv_aload_n hx hb dL_law_206 rfl (lv_at hl 0 rfl) ?_
        refine lv_iload_n hx hb dL_law_207 rfl (lv_at hl 3 rfl) ?_
        refine lv_iconst (v := (1)) hx hb dL_law_208 (by decide) ?_
        refine lv_iadd hx hb dL_law_209 ?_
        obtain ⟨x8, e_x8, hp⟩ := owp_ob hp
        refine ab_sld X hS hX e_x8 dL_law_210 ?_
        obtain ⟨x10, N9, e_N9, hp⟩ := owp_ob2 hp
        refine iv_X10_type (rest := [.int x7]) mw_L_17 X hR hS e_N9 hl.1 (Nat.le_of_ble_eq_true rfl) ⟨Nat.le_of_ble_eq_true rfl, Nat.le_of_ble_eq_true rfl⟩ ⟨Nat.le_of_ble_eq_true rfl, Nat.le_of_ble_eq_true rfl⟩ dL_law_211 (fun H locs hR hS => ?_)
        refine lv_icmp_eq (tgt := 1050) hx hb dL_law_214 (by decide) (fun k11 => ?_) (fun k11 => ?_)
        · have hp := owp_t k11 hp
          refine lv_iinc (v := v3 + (4 : Int32)) (lv' := [(3, .int (v3 + (4 : Int32))), (0, .ref b), (1, .ref v1), (2, .ref v2)]) hx hb dL_law_1050 hl (k := 3) rfl rfl (by decide) rfl (fun ls hl => ?_)
          refine lv_goto (tgt := 18) hx hb dL_law_1053 (by decide) ?_
          exact ih _ _ _ _ _ hR hS (lv_sub hl [1, 2, 3, 0] rfl) hp
        · have hp := owp_f k11 hp
          exact hk217 _ _ _ _ hR hS (lv_sub hl [] rfl) hp
      have hp := owp_f k12 hp
      by_cases k18 : (x4 &&& (63 : Int32)) = 1
      · have hp := owp_t k18 hp
        refine lv_tableIn (tgt := 219) (off := 187) hx hb dL_law_32 (by rw [k18]; decide) (by rw [k18]; decide) (by rw [k18]; rfl) (by decide) ?_
        refine lv_aload_n hx hb dL_law_219 rfl (lv_at hl 1 rfl) ?_
        obtain ⟨x14, N13, e_N13, hp⟩ := owp_ob2 hp
        refine iv_X9_clearText (rest := []) mw_L_18 X hR hS e_N13 hl.1 (Nat.le_of_ble_eq_true rfl) ⟨Nat.le_of_ble_eq_true rfl, Nat.le_of_ble_eq_true rfl⟩ ⟨Nat.le_of_ble_eq_true rfl, Nat.le_of_ble_eq_true rfl⟩ dL_law_220 (fun H locs hR hS => ?_)
        refine lv_aload_n hx hb dL_law_223 rfl (lv_at hl 2 rfl) ?_
        obtain ⟨x16, N15, e_N15, hp⟩ := owp_ob2 hp
        refine iv_X10_clearText (rest := [.int x14]) mw_L_22 X hR hS e_N15 hl.1 (Nat.le_of_ble_eq_true rfl) ⟨Nat.le_of_ble_eq_true rfl, Nat.le_of_ble_eq_true rfl⟩ ⟨Nat.le_of_ble_eq_true rfl, Nat.le_of_ble_eq_true rfl⟩ dL_law_224 (fun H locs hR hS => ?_)
        refine lv_icmp_eq (tgt := 1050) hx hb dL_law_227 (by decide) (fun k17 => ?_) (fun k17 => ?_)
        · have hp := owp_t k17 hp
          refine lv_iinc (v := v3 + (4 : Int32)) (lv' := [(3, .int (v3 + (4 : Int32))), (0, .ref b), (1, .ref v1), (2, .ref v2)]) hx hb dL_law_1050 hl (k := 3) rfl rfl (by decide) rfl (fun ls hl => ?_)
          refine lv_goto (tgt := 18) hx hb dL_law_1053 (by decide) ?_
          exact ih _ _ _ _ _ hR hS (lv_sub hl [1, 2, 3, 0] rfl) hp
        · have hp := owp_f k17 hp
          exact hk230 _ _ _ _ hR hS (lv_sub hl [] rfl) hp
      have hp := owp_f k18 hp
      by_cases k24 : (x4 &&& (63 : Int32)) = 2
      · have hp := owp_t k24 hp
        refine lv_tableIn (tgt := 232) (off := 200) hx hb dL_law_32 (by rw [k24]; decide) (by rw [k24]; decide) (by rw [k24]; rfl) (by decide) ?_
        refine lv_aload_n hx hb dL_law_232 rfl (lv_at hl 1 rfl) ?_
        obtain ⟨x20, N19, e_N19, hp⟩ := owp_ob2 hp
        refine iv_X9_textFault (rest := []) mw_L_23 X hR hS e_N19 hl.1 (Nat.le_of_ble_eq_true rfl) ⟨Nat.le_of_ble_eq_true rfl, Nat.le_of_ble_eq_true rfl⟩ ⟨Nat.le_of_ble_eq_true rfl, Nat.le_of_ble_eq_true rfl⟩ dL_law_233 (fun H locs hR hS => ?_)
        refine lv_aload_n hx hb dL_law_236 rfl (lv_at hl 2 rfl) ?_
        obtain ⟨x22, N21, e_N21, hp⟩ := owp_ob2 hp
        refine iv_X10_textFault (rest := [.int x20]) mw_L_26 X hR hS e_N21 hl.1 (Nat.le_of_ble_eq_true rfl) ⟨Nat.le_of_ble_eq_true rfl, Nat.le_of_ble_eq_true rfl⟩ ⟨Nat.le_of_ble_eq_true rfl, Nat.le_of_ble_eq_true rfl⟩ dL_law_237 (fun H locs hR hS => ?_)
        refine lv_icmp_eq (tgt := 1050) hx hb dL_law_240 (by decide) (fun k23 => ?_) (fun k23 => ?_)
        · have hp := owp_t k23 hp
          refine lv_iinc (v := v3 + (4 : Int32)) (lv' := [(3, .int (v3 + (4 : Int32))), (0, .ref b), (1, .ref v1), (2, .ref v2)]) hx hb dL_law_1050 hl (k := 3) rfl rfl (by decide) rfl (fun ls hl => ?_)
          refine lv_goto (tgt := 18) hx hb dL_law_1053 (by decide) ?_
          exact ih _ _ _ _ _ hR hS (lv_sub hl [1, 2, 3, 0] rfl) hp
        · have hp := owp_f k23 hp
          exact hk243 _ _ _ _ hR hS (lv_sub hl [] rfl) hp
      have hp := owp_f k24 hp
      by_cases k36 : (x4 &&& (63 : Int32)) = 3
      · have hp := owp_t k36 hp
        refine lv_tableIn (tgt := 245) (off := 213) hx hb dL_law_32 (by rw [k36]; decide) (by rw [k36]; decide) (by rw [k36]; rfl) (by decide) ?_
        refine lv_aload_n hx hb dL_law_245 rfl (lv_at hl 1 rfl) ?_
        refine lv_aload_n hx hb dL_law_246 rfl (lv_at hl 0 rfl) ?_
        refine lv_iload_n hx hb dL_law_247 rfl (lv_at hl 3 rfl) ?_
        refine lv_iconst (v := (1)) hx hb dL_law_248 (by decide) ?_
        refine lv_iadd hx hb dL_law_249 ?_
        obtain ⟨x25, e_x25, hp⟩ := owp_ob hp
        refine ab_sld X hS hX e_x25 dL_law_250 ?_
        refine lv_aload_n hx hb dL_law_251 rfl (lv_at hl 0 rfl) ?_
        refine lv_iload_n hx hb dL_law_252 rfl (lv_at hl 3 rfl) ?_
        refine lv_iconst (v := (2)) hx hb dL_law_253 (by decide) ?_
        refine lv_iadd hx hb dL_law_254 ?_
        obtain ⟨x26, e_x26, hp⟩ := owp_ob hp
        refine ab_sld X hS hX e_x26 dL_law_255 ?_
        refine lv_aload_n hx hb dL_law_256 rfl (lv_at hl 0 rfl) ?_
        refine lv_iload_n hx hb dL_law_257 rfl (lv_at hl 3 rfl) ?_
        refine lv_iconst (v := (3)) hx hb dL_law_258 (by decide) ?_
        refine lv_iadd hx hb dL_law_259 ?_
        obtain ⟨x27, e_x27, hp⟩ := owp_ob hp
        refine ab_sld X hS hX e_x27 dL_law_260 ?_
        obtain ⟨x29, N28, e_N28, hp⟩ := owp_ob2 hp
        refine iv_X9_flow (rest := []) mw_L_27 X hR hS e_N28 hl.1 (Nat.le_of_ble_eq_true rfl) ⟨Nat.le_of_ble_eq_true rfl, Nat.le_of_ble_eq_true rfl⟩ ⟨Nat.le_of_ble_eq_true rfl, Nat.le_of_ble_eq_true rfl⟩ dL_law_261 (fun H locs hR hS => ?_)
        refine lv_aload_n hx hb dL_law_264 rfl (lv_at hl 2 rfl) ?_
        refine lv_aload_n hx hb dL_law_265 rfl (lv_at hl 0 rfl) ?_
        refine lv_iload_n hx hb dL_law_266 rfl (lv_at hl 3 rfl) ?_
        refine lv_iconst (v := (1)) hx hb dL_law_267 (by decide) ?_
        refine lv_iadd hx hb dL_law_268 ?_
        obtain ⟨x30, e_x30, hp⟩ := owp_ob hp
        refine ab_sld X hS hX e_x30 dL_law_269 ?_
        refine lv_aload_n hx hb dL_law_270 rfl (lv_at hl 0 rfl) ?_
        refine lv_iload_n hx hb dL_law_271 rfl (lv_at hl 3 rfl) ?_
        refine lv_iconst (v := (2)) hx hb dL_law_272 (by decide) ?_
        refine lv_iadd hx hb dL_law_273 ?_
        obtain ⟨x31, e_x31, hp⟩ := owp_ob hp
        refine ab_sld X hS hX e_x31 dL_law_274 ?_
        refine lv_aload_n hx hb dL_law_275 rfl (lv_at hl 0 rfl) ?_
        refine lv_iload_n hx hb dL_law_276 rfl (lv_at hl 3 rfl) ?_
        refine lv_iconst (v := (3)) hx hb dL_law_277 (by decide) ?_
        refine lv_iadd hx hb dL_law_278 ?_
        obtain ⟨x32, e_x32, hp⟩ := owp_ob hp
        refine ab_sld X hS hX e_x32 dL_law_279 ?_
        obtain ⟨x34, N33, e_N33, hp⟩ := owp_ob2 hp
        refine iv_X10_flow (rest := [.int x29]) mw_L_31 X hR hS e_N33 hl.1 (Nat.le_of_ble_eq_true rfl) ⟨Nat.le_of_ble_eq_true rfl, Nat.le_of_ble_eq_true rfl⟩ ⟨Nat.le_of_ble_eq_true rfl, Nat.le_of_ble_eq_true rfl⟩ dL_law_280 (fun H locs hR hS => ?_)
        refine lv_icmp_eq (tgt := 1050) hx hb dL_law_283 (by decide) (fun k35 => ?_) (fun k35 => ?_)
        · have hp := owp_t k35 hp
          refine lv_iinc (v := v3 + (4 : Int32)) (lv' := [(3, .int (v3 + (4 : Int32))), (0, .ref b), (1, .ref v1), (2, .ref v2)]) hx hb dL_law_1050 hl (k := 3) rfl rfl (by decide) rfl (fun ls hl => ?_)
          refine lv_goto (tgt := 18) hx hb dL_law_1053 (by decide) ?_
          exact ih _ _ _ _ _ hR hS (lv_sub hl [1, 2, 3, 0] rfl) hp
        · have hp := owp_f k35 hp
          exact hk286 _ _ _ _ hR hS (lv_sub hl [] rfl) hp
      have hp := owp_f k36 hp
      by_cases k42 : (x4 &&& (63 : Int32)) = 4
      · have hp := owp_t k42 hp
        refine lv_tableIn (tgt := 288) (off := 256) hx hb dL_law_32 (by rw [k42]; decide) (by rw [k42]; decide) (by rw [k42]; rfl) (by decide) ?_
        refine lv_aload_n hx hb dL_law_288 rfl (lv_at hl 1 rfl) ?_
        obtain ⟨x38, N37, e_N37, hp⟩ := owp_ob2 hp
        refine iv_X9_read (rest := []) mw_L_32 X hR hS e_N37 hl.1 (Nat.le_of_ble_eq_true rfl) ⟨Nat.le_of_ble_eq_true rfl, Nat.le_of_ble_eq_true rfl⟩ ⟨Nat.le_of_ble_eq_true rfl, Nat.le_of_ble_eq_true rfl⟩ dL_law_289 (fun H locs hR hS => ?_)
        refine lv_aload_n hx hb dL_law_292 rfl (lv_at hl 2 rfl) ?_
        obtain ⟨x40, N39, e_N39, hp⟩ := owp_ob2 hp
        refine iv_X10_read (rest := [.int x38]) mw_L_35 X hR hS e_N39 hl.1 (Nat.le_of_ble_eq_true rfl) ⟨Nat.le_of_ble_eq_true rfl, Nat.le_of_ble_eq_true rfl⟩ ⟨Nat.le_of_ble_eq_true rfl, Nat.le_of_ble_eq_true rfl⟩ dL_law_293 (fun H locs hR hS => ?_)
        refine lv_icmp_eq (tgt := 1050) hx hb dL_law_296 (by decide) (fun k41 => ?_) (fun k41 => ?_)
        · have hp := owp_t k41 hp
          refine lv_iinc (v := v3 + (4 : Int32)) (lv' := [(3, .int (v3 + (4 : Int32))), (0, .ref b), (1, .ref v1), (2, .ref v2)]) hx hb dL_law_1050 hl (k := 3) rfl rfl (by decide) rfl (fun ls hl => ?_)
          refine lv_goto (tgt := 18) hx hb dL_law_1053 (by decide) ?_
          exact ih _ _ _ _ _ hR hS (lv_sub hl [1, 2, 3, 0] rfl) hp
        · have hp := owp_f k41 hp
          exact hk299 _ _ _ _ hR hS (lv_sub hl [] rfl) hp
      have hp := owp_f k42 hp
      by_cases k48 : (x4 &&& (63 : Int32)) = 5
      · have hp := owp_t k48 hp
        refine lv_tableIn (tgt := 301) (off := 269) hx hb dL_law_32 (by rw [k48]; decide) (by rw [k48]; decide) (by rw [k48]; rfl) (by decide) ?_
        refine lv_aload_n hx hb dL_law_301 rfl (lv_at hl 1 rfl) ?_
        obtain ⟨x44, N43, e_N43, hp⟩ := owp_ob2 hp
        refine iv_X9_dropDraft (rest := []) mw_L_36 X hR hS e_N43 hl.1 (Nat.le_of_ble_eq_true rfl) ⟨Nat.le_of_ble_eq_true rfl, Nat.le_of_ble_eq_true rfl⟩ ⟨Nat.le_of_ble_eq_true rfl, Nat.le_of_ble_eq_true rfl⟩ dL_law_302 (fun H locs hR hS => ?_)
        refine lv_aload_n hx hb dL_law_305 rfl (lv_at hl 2 rfl) ?_
        obtain ⟨x46, N45, e_N45, hp⟩ := owp_ob2 hp
        refine iv_X10_dropDraft (rest := [.int x44]) mw_L_39 X hR hS e_N45 hl.1 (Nat.le_of_ble_eq_true rfl) ⟨Nat.le_of_ble_eq_true rfl, Nat.le_of_ble_eq_true rfl⟩ ⟨Nat.le_of_ble_eq_true rfl, Nat.le_of_ble_eq_true rfl⟩ dL_law_306 (fun H locs hR hS => ?_)
        refine lv_icmp_eq (tgt := 1050) hx hb dL_law_309 (by decide) (fun k47 => ?_) (fun k47 => ?_)
        · have hp := owp_t k47 hp
          refine lv_iinc (v := v3 + (4 : Int32)) (lv' := [(3, .int (v3 + (4 : Int32))), (0, .ref b), (1, .ref v1), (2, .ref v2)]) hx hb dL_law_1050 hl (k := 3) rfl rfl (by decide) rfl (fun ls hl => ?_)
          refine lv_goto (tgt := 18) hx hb dL_law_1053 (by decide) ?_
          exact ih _ _ _ _ _ hR hS (lv_sub hl [1, 2, 3, 0] rfl) hp
        · have hp := owp_f k47 hp
          exact hk312 _ _ _ _ hR hS (lv_sub hl [] rfl) hp
      have hp := owp_f k48 hp
      by_cases k60 : (x4 &&& (63 : Int32)) = 6
      · have hp := owp_t k60 hp
        refine lv_tableIn (tgt := 314) (off := 282) hx hb dL_law_32 (by rw [k60]; decide) (by rw [k60]; decide) (by rw [k60]; rfl) (by decide) ?_
        refine lv_aload_n hx hb dL_law_314 rfl (lv_at hl 1 rfl) ?_
        refine lv_aload_n hx hb dL_law_315 rfl (lv_at hl 0 rfl) ?_
        refine lv_iload_n hx hb dL_law_316 rfl (lv_at hl 3 rfl) ?_
        refine lv_iconst (v := (1)) hx hb dL_law_317 (by decide) ?_
        refine lv_iadd hx hb dL_law_318 ?_
        obtain ⟨x49, e_x49, hp⟩ := owp_ob hp
        refine ab_sld X hS hX e_x49 dL_law_319 ?_
        refine lv_aload_n hx hb dL_law_320 rfl (lv_at hl 0 rfl) ?_
        refine lv_iload_n hx hb dL_law_321 rfl (lv_at hl 3 rfl) ?_
        refine lv_iconst (v := (2)) hx hb dL_law_322 (by decide) ?_
        refine lv_iadd hx hb dL_law_323 ?_
        obtain ⟨x50, e_x50, hp⟩ := owp_ob hp
        refine ab_sld X hS hX e_x50 dL_law_324 ?_
        refine lv_aload_n hx hb dL_law_325 rfl (lv_at hl 0 rfl) ?_
        refine lv_iload_n hx hb dL_law_326 rfl (lv_at hl 3 rfl) ?_
        refine lv_iconst (v := (3)) hx hb dL_law_327 (by decide) ?_
        refine lv_iadd hx hb dL_law_328 ?_
        obtain ⟨x51, e_x51, hp⟩ := owp_ob hp
        refine ab_sld X hS hX e_x51 dL_law_329 ?_
        obtain ⟨x53, N52, e_N52, hp⟩ := owp_ob2 hp
        refine iv_X9_addGroup (rest := []) mw_L_40 X hR hS e_N52 hl.1 (Nat.le_of_ble_eq_true rfl) ⟨Nat.le_of_ble_eq_true rfl, Nat.le_of_ble_eq_true rfl⟩ ⟨Nat.le_of_ble_eq_true rfl, Nat.le_of_ble_eq_true rfl⟩ dL_law_330 (fun H locs hR hS => ?_)
        refine lv_aload_n hx hb dL_law_333 rfl (lv_at hl 2 rfl) ?_
        refine lv_aload_n hx hb dL_law_334 rfl (lv_at hl 0 rfl) ?_
        refine lv_iload_n hx hb dL_law_335 rfl (lv_at hl 3 rfl) ?_
        refine lv_iconst (v := (1)) hx hb dL_law_336 (by decide) ?_
        refine lv_iadd hx hb dL_law_337 ?_
        obtain ⟨x54, e_x54, hp⟩ := owp_ob hp
        refine ab_sld X hS hX e_x54 dL_law_338 ?_
        refine lv_aload_n hx hb dL_law_339 rfl (lv_at hl 0 rfl) ?_
        refine lv_iload_n hx hb dL_law_340 rfl (lv_at hl 3 rfl) ?_
        refine lv_iconst (v := (2)) hx hb dL_law_341 (by decide) ?_
        refine lv_iadd hx hb dL_law_342 ?_
        obtain ⟨x55, e_x55, hp⟩ := owp_ob hp
        refine ab_sld X hS hX e_x55 dL_law_343 ?_
        refine lv_aload_n hx hb dL_law_344 rfl (lv_at hl 0 rfl) ?_
        refine lv_iload_n hx hb dL_law_345 rfl (lv_at hl 3 rfl) ?_
        refine lv_iconst (v := (3)) hx hb dL_law_346 (by decide) ?_
        refine lv_iadd hx hb dL_law_347 ?_
        obtain ⟨x56, e_x56, hp⟩ := owp_ob hp
        refine ab_sld X hS hX e_x56 dL_law_348 ?_
        obtain ⟨x58, N57, e_N57, hp⟩ := owp_ob2 hp
        refine iv_X10_addGroup (rest := [.int x53]) mw_L_43 X hR hS e_N57 hl.1 (Nat.le_of_ble_eq_true rfl) ⟨Nat.le_of_ble_eq_true rfl, Nat.le_of_ble_eq_true rfl⟩ ⟨Nat.le_of_ble_eq_true rfl, Nat.le_of_ble_eq_true rfl⟩ dL_law_349 (fun H locs hR hS => ?_)
        refine lv_icmp_eq (tgt := 1050) hx hb dL_law_352 (by decide) (fun k59 => ?_) (fun k59 => ?_)
        · have hp := owp_t k59 hp
          refine lv_iinc (v := v3 + (4 : Int32)) (lv' := [(3, .int (v3 + (4 : Int32))), (0, .ref b), (1, .ref v1), (2, .ref v2)]) hx hb dL_law_1050 hl (k := 3) rfl rfl (by decide) rfl (fun ls hl => ?_)
          refine lv_goto (tgt := 18) hx hb dL_law_1053 (by decide) ?_
          exact ih _ _ _ _ _ hR hS (lv_sub hl [1, 2, 3, 0] rfl) hp
        · have hp := owp_f k59 hp
          exact hk355 _ _ _ _ hR hS (lv_sub hl [] rfl) hp
      have hp := owp_f k60 hp
      by_cases k70 : (x4 &&& (63 : Int32)) = 7
      · have hp := owp_t k70 hp
        refine lv_tableIn (tgt := 357) (off := 325) hx hb dL_law_32 (by rw [k70]; decide) (by rw [k70]; decide) (by rw [k70]; rfl) (by decide) ?_
        refine lv_aload_n hx hb dL_law_357 rfl (lv_at hl 1 rfl) ?_
        refine lv_aload_n hx hb dL_law_358 rfl (lv_at hl 0 rfl) ?_
        refine lv_iload_n hx hb dL_law_359 rfl (lv_at hl 3 rfl) ?_
        refine lv_iconst (v := (1)) hx hb dL_law_360 (by decide) ?_
        refine lv_iadd hx hb dL_law_361 ?_
        obtain ⟨x61, e_x61, hp⟩ := owp_ob hp
        refine ab_sld X hS hX e_x61 dL_law_362 ?_
        refine lv_aload_n hx hb dL_law_363 rfl (lv_at hl 0 rfl) ?_
        refine lv_iload_n hx hb dL_law_364 rfl (lv_at hl 3 rfl) ?_
        refine lv_iconst (v := (2)) hx hb dL_law_365 (by decide) ?_
        refine lv_iadd hx hb dL_law_366 ?_
        obtain ⟨x62, e_x62, hp⟩ := owp_ob hp
        refine ab_sld X hS hX e_x62 dL_law_367 ?_
        obtain ⟨x64, N63, e_N63, hp⟩ := owp_ob2 hp
        refine iv_X9_setCapacity (rest := []) mw_L_44 X hR hS e_N63 hl.1 (Nat.le_of_ble_eq_true rfl) ⟨Nat.le_of_ble_eq_true rfl, Nat.le_of_ble_eq_true rfl⟩ ⟨Nat.le_of_ble_eq_true rfl, Nat.le_of_ble_eq_true rfl⟩ dL_law_368 (fun H locs hR hS => ?_)
        refine lv_aload_n hx hb dL_law_371 rfl (lv_at hl 2 rfl) ?_
        refine lv_aload_n hx hb dL_law_372 rfl (lv_at hl 0 rfl) ?_
        refine lv_iload_n hx hb dL_law_373 rfl (lv_at hl 3 rfl) ?_
        refine lv_iconst (v := (1)) hx hb dL_law_374 (by decide) ?_
        refine lv_iadd hx hb dL_law_375 ?_
        obtain ⟨x65, e_x65, hp⟩ := owp_ob hp
        refine ab_sld X hS hX e_x65 dL_law_376 ?_
        refine lv_aload_n hx hb dL_law_377 rfl (lv_at hl 0 rfl) ?_
        refine lv_iload_n hx hb dL_law_378 rfl (lv_at hl 3 rfl) ?_
        refine lv_iconst (v := (2)) hx hb dL_law_379 (by decide) ?_
        refine lv_iadd hx hb dL_law_380 ?_
        obtain ⟨x66, e_x66, hp⟩ := owp_ob hp
        refine ab_sld X hS hX e_x66 dL_law_381 ?_
        obtain ⟨x68, N67, e_N67, hp⟩ := owp_ob2 hp
        refine iv_X10_setCapacity (rest := [.int x64]) mw_L_48 X hR hS e_N67 hl.1 (Nat.le_of_ble_eq_true rfl) ⟨Nat.le_of_ble_eq_true rfl, Nat.le_of_ble_eq_true rfl⟩ ⟨Nat.le_of_ble_eq_true rfl, Nat.le_of_ble_eq_true rfl⟩ dL_law_382 (fun H locs hR hS => ?_)
        refine lv_icmp_eq (tgt := 1050) hx hb dL_law_385 (by decide) (fun k69 => ?_) (fun k69 => ?_)
        · have hp := owp_t k69 hp
          refine lv_iinc (v := v3 + (4 : Int32)) (lv' := [(3, .int (v3 + (4 : Int32))), (0, .ref b), (1, .ref v1), (2, .ref v2)]) hx hb dL_law_1050 hl (k := 3) rfl rfl (by decide) rfl (fun ls hl => ?_)
          refine lv_goto (tgt := 18) hx hb dL_law_1053 (by decide) ?_
          exact ih _ _ _ _ _ hR hS (lv_sub hl [1, 2, 3, 0] rfl) hp
        · have hp := owp_f k69 hp
          exact hk388 _ _ _ _ hR hS (lv_sub hl [] rfl) hp
      have hp := owp_f k70 hp
      by_cases k78 : (x4 &&& (63 : Int32)) = 8
      · have hp := owp_t k78 hp
        refine lv_tableIn (tgt := 390) (off := 358) hx hb dL_law_32 (by rw [k78]; decide) (by rw [k78]; decide) (by rw [k78]; rfl) (by decide) ?_
        refine lv_aload_n hx hb dL_law_390 rfl (lv_at hl 1 rfl) ?_
        refine lv_aload_n hx hb dL_law_391 rfl (lv_at hl 0 rfl) ?_
        refine lv_iload_n hx hb dL_law_392 rfl (lv_at hl 3 rfl) ?_
        refine lv_iconst (v := (1)) hx hb dL_law_393 (by decide) ?_
        refine lv_iadd hx hb dL_law_394 ?_
        obtain ⟨x71, e_x71, hp⟩ := owp_ob hp
        refine ab_sld X hS hX e_x71 dL_law_395 ?_
        obtain ⟨x73, N72, e_N72, hp⟩ := owp_ob2 hp
        refine iv_X9_setPolicy (rest := []) mw_L_49 X hR hS e_N72 hl.1 (Nat.le_of_ble_eq_true rfl) ⟨Nat.le_of_ble_eq_true rfl, Nat.le_of_ble_eq_true rfl⟩ ⟨Nat.le_of_ble_eq_true rfl, Nat.le_of_ble_eq_true rfl⟩ dL_law_396 (fun H locs hR hS => ?_)
        refine lv_aload_n hx hb dL_law_399 rfl (lv_at hl 2 rfl) ?_
        refine lv_aload_n hx hb dL_law_400 rfl (lv_at hl 0 rfl) ?_
        refine lv_iload_n hx hb dL_law_401 rfl (lv_at hl 3 rfl) ?_
        refine lv_iconst (v := (1)) hx hb dL_law_402 (by decide) ?_
        refine lv_iadd hx hb dL_law_403 ?_
        obtain ⟨x74, e_x74, hp⟩ := owp_ob hp
        refine ab_sld X hS hX e_x74 dL_law_404 ?_
        obtain ⟨x76, N75, e_N75, hp⟩ := owp_ob2 hp
        refine iv_X10_setPolicy (rest := [.int x73]) mw_L_52 X hR hS e_N75 hl.1 (Nat.le_of_ble_eq_true rfl) ⟨Nat.le_of_ble_eq_true rfl, Nat.le_of_ble_eq_true rfl⟩ ⟨Nat.le_of_ble_eq_true rfl, Nat.le_of_ble_eq_true rfl⟩ dL_law_405 (fun H locs hR hS => ?_)
        refine lv_icmp_eq (tgt := 1050) hx hb dL_law_408 (by decide) (fun k77 => ?_) (fun k77 => ?_)
        · have hp := owp_t k77 hp
          refine lv_iinc (v := v3 + (4 : Int32)) (lv' := [(3, .int (v3 + (4 : Int32))), (0, .ref b), (1, .ref v1), (2, .ref v2)]) hx hb dL_law_1050 hl (k := 3) rfl rfl (by decide) rfl (fun ls hl => ?_)
          refine lv_goto (tgt := 18) hx hb dL_law_1053 (by decide) ?_
          exact ih _ _ _ _ _ hR hS (lv_sub hl [1, 2, 3, 0] rfl) hp
        · have hp := owp_f k77 hp
          exact hk411 _ _ _ _ hR hS (lv_sub hl [] rfl) hp
      have hp := owp_f k78 hp
      by_cases k95 : (x4 &&& (63 : Int32)) = 9
      · have hp := owp_t k95 hp
        refine lv_tableIn (tgt := 413) (off := 381) hx hb dL_law_32 (by rw [k95]; decide) (by rw [k95]; decide) (by rw [k95]; rfl) (by decide) ?_
        refine lv_aload_n hx hb dL_law_413 rfl (lv_at hl 1 rfl) ?_
        refine lv_aload_n hx hb dL_law_414 rfl (lv_at hl 0 rfl) ?_
        refine lv_iload_n hx hb dL_law_415 rfl (lv_at hl 3 rfl) ?_
        refine lv_iconst (v := (1)) hx hb dL_law_416 (by decide) ?_
        refine lv_iadd hx hb dL_law_417 ?_
        obtain ⟨x79, e_x79, hp⟩ := owp_ob hp
        refine ab_sld X hS hX e_x79 dL_law_418 ?_
        refine lv_if_eq (tgt := 426) hx hb dL_law_419 (by decide) (fun k80 => ?_) (fun k80 => ?_)
        · have hp := owp_t k80 hp
          refine lv_iconst (v := (0)) hx hb dL_law_426 (by decide) ?_
          exact w_L_law_J427 X hr hX _ _ _ _ _ ih hk476 _ _ _ _ hR hS hl hp
        · have hp := owp_f k80 hp
          refine lv_iconst (v := (1)) hx hb dL_law_422 (by decide) ?_
          refine lv_goto (tgt := 427) hx hb dL_law_423 (by decide) ?_
          exact w_L_law_J427 X hr hX _ _ _ _ _ ih hk476 _ _ _ _ hR hS hl hp
      have hp := owp_f k95 hp
      by_cases k103 : (x4 &&& (63 : Int32)) = 10
      · have hp := owp_t k103 hp
        refine lv_tableIn (tgt := 478) (off := 446) hx hb dL_law_32 (by rw [k103]; decide) (by rw [k103]; decide) (by rw [k103]; rfl) (by decide) ?_
        refine lv_aload_n hx hb dL_law_478 rfl (lv_at hl 1 rfl) ?_
        refine lv_aload_n hx hb dL_law_479 rfl (lv_at hl 0 rfl) ?_
        refine lv_iload_n hx hb dL_law_480 rfl (lv_at hl 3 rfl) ?_
        refine lv_iconst (v := (1)) hx hb dL_law_481 (by decide) ?_
        refine lv_iadd hx hb dL_law_482 ?_
        obtain ⟨x96, e_x96, hp⟩ := owp_ob hp
        refine ab_sld X hS hX e_x96 dL_law_483 ?_
        obtain ⟨x98, N97, e_N97, hp⟩ := owp_ob2 hp
        refine iv_X9_pass (rest := []) mw_L_58 X hR hS e_N97 hl.1 (Nat.le_of_ble_eq_true rfl) ⟨Nat.le_of_ble_eq_true rfl, Nat.le_of_ble_eq_true rfl⟩ ⟨Nat.le_of_ble_eq_true rfl, Nat.le_of_ble_eq_true rfl⟩ dL_law_484 (fun H locs hR hS => ?_)
        refine lv_aload_n hx hb dL_law_487 rfl (lv_at hl 2 rfl) ?_
        refine lv_aload_n hx hb dL_law_488 rfl (lv_at hl 0 rfl) ?_
        refine lv_iload_n hx hb dL_law_489 rfl (lv_at hl 3 rfl) ?_
        refine lv_iconst (v := (1)) hx hb dL_law_490 (by decide) ?_
        refine lv_iadd hx hb dL_law_491 ?_
        obtain ⟨x99, e_x99, hp⟩ := owp_ob hp
        refine ab_sld X hS hX e_x99 dL_law_492 ?_
        obtain ⟨x101, N100, e_N100, hp⟩ := owp_ob2 hp
        refine iv_X10_pass (rest := [.int x98]) mw_L_61 X hR hS e_N100 hl.1 (Nat.le_of_ble_eq_true rfl) ⟨Nat.le_of_ble_eq_true rfl, Nat.le_of_ble_eq_true rfl⟩ ⟨Nat.le_of_ble_eq_true rfl, Nat.le_of_ble_eq_true rfl⟩ dL_law_493 (fun H locs hR hS => ?_)
        refine lv_icmp_eq (tgt := 1050) hx hb dL_law_496 (by decide) (fun k102 => ?_) (fun k102 => ?_)
        · have hp := owp_t k102 hp
          refine lv_iinc (v := v3 + (4 : Int32)) (lv' := [(3, .int (v3 + (4 : Int32))), (0, .ref b), (1, .ref v1), (2, .ref v2)]) hx hb dL_law_1050 hl (k := 3) rfl rfl (by decide) rfl (fun ls hl => ?_)
          refine lv_goto (tgt := 18) hx hb dL_law_1053 (by decide) ?_
          exact ih _ _ _ _ _ hR hS (lv_sub hl [1, 2, 3, 0] rfl) hp
        · have hp := owp_f k102 hp
          exact hk499 _ _ _ _ hR hS (lv_sub hl [] rfl) hp
      have hp := owp_f k103 hp
      by_cases k109 : (x4 &&& (63 : Int32)) = 11
      · have hp := owp_t k109 hp
        refine lv_tableIn (tgt := 501) (off := 469) hx hb dL_law_32 (by rw [k109]; decide) (by rw [k109]; decide) (by rw [k109]; rfl) (by decide) ?_
        refine lv_aload_n hx hb dL_law_501 rfl (lv_at hl 1 rfl) ?_
        obtain ⟨x105, N104, e_N104, hp⟩ := owp_ob2 hp
        refine iv_X9_undo (rest := []) mw_L_62 X hR hS e_N104 hl.1 (Nat.le_of_ble_eq_true rfl) ⟨Nat.le_of_ble_eq_true rfl, Nat.le_of_ble_eq_true rfl⟩ ⟨Nat.le_of_ble_eq_true rfl, Nat.le_of_ble_eq_true rfl⟩ dL_law_502 (fun H locs hR hS => ?_)
        refine lv_aload_n hx hb dL_law_505 rfl (lv_at hl 2 rfl) ?_
        obtain ⟨x107, N106, e_N106, hp⟩ := owp_ob2 hp
        refine iv_X10_undo (rest := [.int x105]) mw_L_65 X hR hS e_N106 hl.1 (Nat.le_of_ble_eq_true rfl) ⟨Nat.le_of_ble_eq_true rfl, Nat.le_of_ble_eq_true rfl⟩ ⟨Nat.le_of_ble_eq_true rfl, Nat.le_of_ble_eq_true rfl⟩ dL_law_506 (fun H locs hR hS => ?_)
        refine lv_icmp_eq (tgt := 1050) hx hb dL_law_509 (by decide) (fun k108 => ?_) (fun k108 => ?_)
        · have hp := owp_t k108 hp
          refine lv_iinc (v := v3 + (4 : Int32)) (lv' := [(3, .int (v3 + (4 : Int32))), (0, .ref b), (1, .ref v1), (2, .ref v2)]) hx hb dL_law_1050 hl (k := 3) rfl rfl (by decide) rfl (fun ls hl => ?_)
          refine lv_goto (tgt := 18) hx hb dL_law_1053 (by decide) ?_
          exact ih _ _ _ _ _ hR hS (lv_sub hl [1, 2, 3, 0] rfl) hp
        · have hp := owp_f k108 hp
          exact hk512 _ _ _ _ hR hS (lv_sub hl [] rfl) hp
      have hp := owp_f k109 hp
      by_cases k115 : (x4 &&& (63 : Int32)) = 12
      · have hp := owp_t k115 hp
        refine lv_tableIn (tgt := 514) (off := 482) hx hb dL_law_32 (by rw [k115]; decide) (by rw [k115]; decide) (by rw [k115]; rfl) (by decide) ?_
        refine lv_aload_n hx hb dL_law_514 rfl (lv_at hl 1 rfl) ?_
        obtain ⟨x111, N110, e_N110, hp⟩ := owp_ob2 hp
        refine iv_X9_time (rest := []) mw_L_66 X hR hS e_N110 hl.1 (Nat.le_of_ble_eq_true rfl) ⟨Nat.le_of_ble_eq_true rfl, Nat.le_of_ble_eq_true rfl⟩ ⟨Nat.le_of_ble_eq_true rfl, Nat.le_of_ble_eq_true rfl⟩ dL_law_515 (fun H locs hR hS => ?_)
        refine lv_aload_n hx hb dL_law_518 rfl (lv_at hl 2 rfl) ?_
        obtain ⟨x113, N112, e_N112, hp⟩ := owp_ob2 hp
        refine iv_X10_time (rest := [.int x111]) mw_L_69 X hR hS e_N112 hl.1 (Nat.le_of_ble_eq_true rfl) ⟨Nat.le_of_ble_eq_true rfl, Nat.le_of_ble_eq_true rfl⟩ ⟨Nat.le_of_ble_eq_true rfl, Nat.le_of_ble_eq_true rfl⟩ dL_law_519 (fun H locs hR hS => ?_)
        refine lv_icmp_eq (tgt := 1050) hx hb dL_law_522 (by decide) (fun k114 => ?_) (fun k114 => ?_)
        · have hp := owp_t k114 hp
          refine lv_iinc (v := v3 + (4 : Int32)) (lv' := [(3, .int (v3 + (4 : Int32))), (0, .ref b), (1, .ref v1), (2, .ref v2)]) hx hb dL_law_1050 hl (k := 3) rfl rfl (by decide) rfl (fun ls hl => ?_)
          refine lv_goto (tgt := 18) hx hb dL_law_1053 (by decide) ?_
          exact ih _ _ _ _ _ hR hS (lv_sub hl [1, 2, 3, 0] rfl) hp
        · have hp := owp_f k114 hp
          exact hk525 _ _ _ _ hR hS (lv_sub hl [] rfl) hp
      have hp := owp_f k115 hp
      by_cases k121 : (x4 &&& (63 : Int32)) = 13
      · have hp := owp_t k121 hp
        refine lv_tableIn (tgt := 527) (off := 495) hx hb dL_law_32 (by rw [k121]; decide) (by rw [k121]; decide) (by rw [k121]; rfl) (by decide) ?_
        refine lv_aload_n hx hb dL_law_527 rfl (lv_at hl 1 rfl) ?_
        obtain ⟨x117, N116, e_N116, hp⟩ := owp_ob2 hp
        refine iv_X9_groupCount (rest := []) mw_L_70 X hR hS e_N116 hl.1 (Nat.le_of_ble_eq_true rfl) ⟨Nat.le_of_ble_eq_true rfl, Nat.le_of_ble_eq_true rfl⟩ ⟨Nat.le_of_ble_eq_true rfl, Nat.le_of_ble_eq_true rfl⟩ dL_law_528 (fun H locs hR hS => ?_)
        refine lv_aload_n hx hb dL_law_531 rfl (lv_at hl 2 rfl) ?_
        obtain ⟨x119, N118, e_N118, hp⟩ := owp_ob2 hp
        refine iv_X10_groupCount (rest := [.int x117]) mw_L_73 X hR hS e_N118 hl.1 (Nat.le_of_ble_eq_true rfl) ⟨Nat.le_of_ble_eq_true rfl, Nat.le_of_ble_eq_true rfl⟩ ⟨Nat.le_of_ble_eq_true rfl, Nat.le_of_ble_eq_true rfl⟩ dL_law_532 (fun H locs hR hS => ?_)
        refine lv_icmp_eq (tgt := 1050) hx hb dL_law_535 (by decide) (fun k120 => ?_) (fun k120 => ?_)
        · have hp := owp_t k120 hp
          refine lv_iinc (v := v3 + (4 : Int32)) (lv' := [(3, .int (v3 + (4 : Int32))), (0, .ref b), (1, .ref v1), (2, .ref v2)]) hx hb dL_law_1050 hl (k := 3) rfl rfl (by decide) rfl (fun ls hl => ?_)
          refine lv_goto (tgt := 18) hx hb dL_law_1053 (by decide) ?_
          exact ih _ _ _ _ _ hR hS (lv_sub hl [1, 2, 3, 0] rfl) hp
        · have hp := owp_f k120 hp
          exact hk538 _ _ _ _ hR hS (lv_sub hl [] rfl) hp
      have hp := owp_f k121 hp
      by_cases k129 : (x4 &&& (63 : Int32)) = 14
      · have hp := owp_t k129 hp
        refine lv_tableIn (tgt := 540) (off := 508) hx hb dL_law_32 (by rw [k129]; decide) (by rw [k129]; decide) (by rw [k129]; rfl) (by decide) ?_
        refine lv_aload_n hx hb dL_law_540 rfl (lv_at hl 1 rfl) ?_
        refine lv_aload_n hx hb dL_law_541 rfl (lv_at hl 0 rfl) ?_
        refine lv_iload_n hx hb dL_law_542 rfl (lv_at hl 3 rfl) ?_
        refine lv_iconst (v := (1)) hx hb dL_law_543 (by decide) ?_
        refine lv_iadd hx hb dL_law_544 ?_
        obtain ⟨x122, e_x122, hp⟩ := owp_ob hp
        refine ab_sld X hS hX e_x122 dL_law_545 ?_
        obtain ⟨x124, N123, e_N123, hp⟩ := owp_ob2 hp
        refine iv_X9_state (rest := []) mw_L_74 X hR hS e_N123 hl.1 (Nat.le_of_ble_eq_true rfl) ⟨Nat.le_of_ble_eq_true rfl, Nat.le_of_ble_eq_true rfl⟩ ⟨Nat.le_of_ble_eq_true rfl, Nat.le_of_ble_eq_true rfl⟩ dL_law_546 (fun H locs hR hS => ?_)
        refine lv_aload_n hx hb dL_law_549 rfl (lv_at hl 2 rfl) ?_
        refine lv_aload_n hx hb dL_law_550 rfl (lv_at hl 0 rfl) ?_
        refine lv_iload_n hx hb dL_law_551 rfl (lv_at hl 3 rfl) ?_
        refine lv_iconst (v := (1)) hx hb dL_law_552 (by decide) ?_
        refine lv_iadd hx hb dL_law_553 ?_
        obtain ⟨x125, e_x125, hp⟩ := owp_ob hp
        refine ab_sld X hS hX e_x125 dL_law_554 ?_
        obtain ⟨x127, N126, e_N126, hp⟩ := owp_ob2 hp
        refine iv_X10_state (rest := [.int x124]) mw_L_77 X hR hS e_N126 hl.1 (Nat.le_of_ble_eq_true rfl) ⟨Nat.le_of_ble_eq_true rfl, Nat.le_of_ble_eq_true rfl⟩ ⟨Nat.le_of_ble_eq_true rfl, Nat.le_of_ble_eq_true rfl⟩ dL_law_555 (fun H locs hR hS => ?_)
        refine lv_icmp_eq (tgt := 1050) hx hb dL_law_558 (by decide) (fun k128 => ?_) (fun k128 => ?_)
        · have hp := owp_t k128 hp
          refine lv_iinc (v := v3 + (4 : Int32)) (lv' := [(3, .int (v3 + (4 : Int32))), (0, .ref b), (1, .ref v1), (2, .ref v2)]) hx hb dL_law_1050 hl (k := 3) rfl rfl (by decide) rfl (fun ls hl => ?_)
          refine lv_goto (tgt := 18) hx hb dL_law_1053 (by decide) ?_
          exact ih _ _ _ _ _ hR hS (lv_sub hl [1, 2, 3, 0] rfl) hp
        · have hp := owp_f k128 hp
          exact hk561 _ _ _ _ hR hS (lv_sub hl [] rfl) hp
      have hp := owp_f k129 hp
      by_cases k137 : (x4 &&& (63 : Int32)) = 15
      · have hp := owp_t k137 hp
        refine lv_tableIn (tgt := 563) (off := 531) hx hb dL_law_32 (by rw [k137]; decide) (by rw [k137]; decide) (by rw [k137]; rfl) (by decide) ?_
        refine lv_aload_n hx hb dL_law_563 rfl (lv_at hl 1 rfl) ?_
        refine lv_aload_n hx hb dL_law_564 rfl (lv_at hl 0 rfl) ?_
        refine lv_iload_n hx hb dL_law_565 rfl (lv_at hl 3 rfl) ?_
        refine lv_iconst (v := (1)) hx hb dL_law_566 (by decide) ?_
        refine lv_iadd hx hb dL_law_567 ?_
        obtain ⟨x130, e_x130, hp⟩ := owp_ob hp
        refine ab_sld X hS hX e_x130 dL_law_568 ?_
        obtain ⟨x132, N131, e_N131, hp⟩ := owp_ob2 hp
        refine iv_X9_arrival (rest := []) mw_L_78 X hR hS e_N131 hl.1 (Nat.le_of_ble_eq_true rfl) ⟨Nat.le_of_ble_eq_true rfl, Nat.le_of_ble_eq_true rfl⟩ ⟨Nat.le_of_ble_eq_true rfl, Nat.le_of_ble_eq_true rfl⟩ dL_law_569 (fun H locs hR hS => ?_)
        refine lv_aload_n hx hb dL_law_572 rfl (lv_at hl 2 rfl) ?_
        refine lv_aload_n hx hb dL_law_573 rfl (lv_at hl 0 rfl) ?_
        refine lv_iload_n hx hb dL_law_574 rfl (lv_at hl 3 rfl) ?_
        refine lv_iconst (v := (1)) hx hb dL_law_575 (by decide) ?_
        refine lv_iadd hx hb dL_law_576 ?_
        obtain ⟨x133, e_x133, hp⟩ := owp_ob hp
        refine ab_sld X hS hX e_x133 dL_law_577 ?_
        obtain ⟨x135, N134, e_N134, hp⟩ := owp_ob2 hp
        refine iv_X10_arrival (rest := [.int x132]) mw_L_81 X hR hS e_N134 hl.1 (Nat.le_of_ble_eq_true rfl) ⟨Nat.le_of_ble_eq_true rfl, Nat.le_of_ble_eq_true rfl⟩ ⟨Nat.le_of_ble_eq_true rfl, Nat.le_of_ble_eq_true rfl⟩ dL_law_578 (fun H locs hR hS => ?_)
        refine lv_icmp_eq (tgt := 1050) hx hb dL_law_581 (by decide) (fun k136 => ?_) (fun k136 => ?_)
        · have hp := owp_t k136 hp
          refine lv_iinc (v := v3 + (4 : Int32)) (lv' := [(3, .int (v3 + (4 : Int32))), (0, .ref b), (1, .ref v1), (2, .ref v2)]) hx hb dL_law_1050 hl (k := 3) rfl rfl (by decide) rfl (fun ls hl => ?_)
          refine lv_goto (tgt := 18) hx hb dL_law_1053 (by decide) ?_
          exact ih _ _ _ _ _ hR hS (lv_sub hl [1, 2, 3, 0] rfl) hp
        · have hp := owp_f k136 hp
          exact hk584 _ _ _ _ hR hS (lv_sub hl [] rfl) hp
      have hp := owp_f k137 hp
      by_cases k145 : (x4 &&& (63 : Int32)) = 16
      · have hp := owp_t k145 hp
        refine lv_tableIn (tgt := 586) (off := 554) hx hb dL_law_32 (by rw [k145]; decide) (by rw [k145]; decide) (by rw [k145]; rfl) (by decide) ?_
        refine lv_aload_n hx hb dL_law_586 rfl (lv_at hl 1 rfl) ?_
        refine lv_aload_n hx hb dL_law_587 rfl (lv_at hl 0 rfl) ?_
        refine lv_iload_n hx hb dL_law_588 rfl (lv_at hl 3 rfl) ?_
        refine lv_iconst (v := (1)) hx hb dL_law_589 (by decide) ?_
        refine lv_iadd hx hb dL_law_590 ?_
        obtain ⟨x138, e_x138, hp⟩ := owp_ob hp
        refine ab_sld X hS hX e_x138 dL_law_591 ?_
        obtain ⟨x140, N139, e_N139, hp⟩ := owp_ob2 hp
        refine iv_X9_end (rest := []) mw_L_82 X hR hS e_N139 hl.1 (Nat.le_of_ble_eq_true rfl) ⟨Nat.le_of_ble_eq_true rfl, Nat.le_of_ble_eq_true rfl⟩ ⟨Nat.le_of_ble_eq_true rfl, Nat.le_of_ble_eq_true rfl⟩ dL_law_592 (fun H locs hR hS => ?_)
        refine lv_aload_n hx hb dL_law_595 rfl (lv_at hl 2 rfl) ?_
        refine lv_aload_n hx hb dL_law_596 rfl (lv_at hl 0 rfl) ?_
        refine lv_iload_n hx hb dL_law_597 rfl (lv_at hl 3 rfl) ?_
        refine lv_iconst (v := (1)) hx hb dL_law_598 (by decide) ?_
        refine lv_iadd hx hb dL_law_599 ?_
        obtain ⟨x141, e_x141, hp⟩ := owp_ob hp
        refine ab_sld X hS hX e_x141 dL_law_600 ?_
        obtain ⟨x143, N142, e_N142, hp⟩ := owp_ob2 hp
        refine iv_X10_end (rest := [.int x140]) mw_L_85 X hR hS e_N142 hl.1 (Nat.le_of_ble_eq_true rfl) ⟨Nat.le_of_ble_eq_true rfl, Nat.le_of_ble_eq_true rfl⟩ ⟨Nat.le_of_ble_eq_true rfl, Nat.le_of_ble_eq_true rfl⟩ dL_law_601 (fun H locs hR hS => ?_)
        refine lv_icmp_eq (tgt := 1050) hx hb dL_law_604 (by decide) (fun k144 => ?_) (fun k144 => ?_)
        · have hp := owp_t k144 hp
          refine lv_iinc (v := v3 + (4 : Int32)) (lv' := [(3, .int (v3 + (4 : Int32))), (0, .ref b), (1, .ref v1), (2, .ref v2)]) hx hb dL_law_1050 hl (k := 3) rfl rfl (by decide) rfl (fun ls hl => ?_)
          refine lv_goto (tgt := 18) hx hb dL_law_1053 (by decide) ?_
          exact ih _ _ _ _ _ hR hS (lv_sub hl [1, 2, 3, 0] rfl) hp
        · have hp := owp_f k144 hp
          exact hk607 _ _ _ _ hR hS (lv_sub hl [] rfl) hp
      have hp := owp_f k145 hp
      by_cases k153 : (x4 &&& (63 : Int32)) = 17
      · have hp := owp_t k153 hp
        refine lv_tableIn (tgt := 609) (off := 577) hx hb dL_law_32 (by rw [k153]; decide) (by rw [k153]; decide) (by rw [k153]; rfl) (by decide) ?_
        refine lv_aload_n hx hb dL_law_609 rfl (lv_at hl 1 rfl) ?_
        refine lv_aload_n hx hb dL_law_610 rfl (lv_at hl 0 rfl) ?_
        refine lv_iload_n hx hb dL_law_611 rfl (lv_at hl 3 rfl) ?_
        refine lv_iconst (v := (1)) hx hb dL_law_612 (by decide) ?_
        refine lv_iadd hx hb dL_law_613 ?_
        obtain ⟨x146, e_x146, hp⟩ := owp_ob hp
        refine ab_sld X hS hX e_x146 dL_law_614 ?_
        obtain ⟨x148, N147, e_N147, hp⟩ := owp_ob2 hp
        refine iv_X9_flowCount (rest := []) mw_L_86 X hR hS e_N147 hl.1 (Nat.le_of_ble_eq_true rfl) ⟨Nat.le_of_ble_eq_true rfl, Nat.le_of_ble_eq_true rfl⟩ ⟨Nat.le_of_ble_eq_true rfl, Nat.le_of_ble_eq_true rfl⟩ dL_law_615 (fun H locs hR hS => ?_)
        refine lv_aload_n hx hb dL_law_618 rfl (lv_at hl 2 rfl) ?_
        refine lv_aload_n hx hb dL_law_619 rfl (lv_at hl 0 rfl) ?_
        refine lv_iload_n hx hb dL_law_620 rfl (lv_at hl 3 rfl) ?_
        refine lv_iconst (v := (1)) hx hb dL_law_621 (by decide) ?_
        refine lv_iadd hx hb dL_law_622 ?_
        obtain ⟨x149, e_x149, hp⟩ := owp_ob hp
        refine ab_sld X hS hX e_x149 dL_law_623 ?_
        obtain ⟨x151, N150, e_N150, hp⟩ := owp_ob2 hp
        refine iv_X10_flowCount (rest := [.int x148]) mw_L_89 X hR hS e_N150 hl.1 (Nat.le_of_ble_eq_true rfl) ⟨Nat.le_of_ble_eq_true rfl, Nat.le_of_ble_eq_true rfl⟩ ⟨Nat.le_of_ble_eq_true rfl, Nat.le_of_ble_eq_true rfl⟩ dL_law_624 (fun H locs hR hS => ?_)
        refine lv_icmp_eq (tgt := 1050) hx hb dL_law_627 (by decide) (fun k152 => ?_) (fun k152 => ?_)
        · have hp := owp_t k152 hp
          refine lv_iinc (v := v3 + (4 : Int32)) (lv' := [(3, .int (v3 + (4 : Int32))), (0, .ref b), (1, .ref v1), (2, .ref v2)]) hx hb dL_law_1050 hl (k := 3) rfl rfl (by decide) rfl (fun ls hl => ?_)
          refine lv_goto (tgt := 18) hx hb dL_law_1053 (by decide) ?_
          exact ih _ _ _ _ _ hR hS (lv_sub hl [1, 2, 3, 0] rfl) hp
        · have hp := owp_f k152 hp
          exact hk630 _ _ _ _ hR hS (lv_sub hl [] rfl) hp
      have hp := owp_f k153 hp
      by_cases k165 : (x4 &&& (63 : Int32)) = 18
      · have hp := owp_t k165 hp
        refine lv_tableIn (tgt := 632) (off := 600) hx hb dL_law_32 (by rw [k165]; decide) (by rw [k165]; decide) (by rw [k165]; rfl) (by decide) ?_
        refine lv_aload_n hx hb dL_law_632 rfl (lv_at hl 1 rfl) ?_
        refine lv_aload_n hx hb dL_law_633 rfl (lv_at hl 0 rfl) ?_
        refine lv_iload_n hx hb dL_law_634 rfl (lv_at hl 3 rfl) ?_
        refine lv_iconst (v := (1)) hx hb dL_law_635 (by decide) ?_
        refine lv_iadd hx hb dL_law_636 ?_
        obtain ⟨x154, e_x154, hp⟩ := owp_ob hp
        refine ab_sld X hS hX e_x154 dL_law_637 ?_
        refine lv_aload_n hx hb dL_law_638 rfl (lv_at hl 0 rfl) ?_
        refine lv_iload_n hx hb dL_law_639 rfl (lv_at hl 3 rfl) ?_
        refine lv_iconst (v := (2)) hx hb dL_law_640 (by decide) ?_
        refine lv_iadd hx hb dL_law_641 ?_
        obtain ⟨x155, e_x155, hp⟩ := owp_ob hp
        refine ab_sld X hS hX e_x155 dL_law_642 ?_
        refine lv_aload_n hx hb dL_law_643 rfl (lv_at hl 0 rfl) ?_
        refine lv_iload_n hx hb dL_law_644 rfl (lv_at hl 3 rfl) ?_
        refine lv_iconst (v := (3)) hx hb dL_law_645 (by decide) ?_
        refine lv_iadd hx hb dL_law_646 ?_
        obtain ⟨x156, e_x156, hp⟩ := owp_ob hp
        refine ab_sld X hS hX e_x156 dL_law_647 ?_
        obtain ⟨x158, N157, e_N157, hp⟩ := owp_ob2 hp
        refine iv_X9_flowPart (rest := []) mw_L_90 X hR hS e_N157 hl.1 (Nat.le_of_ble_eq_true rfl) ⟨Nat.le_of_ble_eq_true rfl, Nat.le_of_ble_eq_true rfl⟩ ⟨Nat.le_of_ble_eq_true rfl, Nat.le_of_ble_eq_true rfl⟩ dL_law_648 (fun H locs hR hS => ?_)
        refine lv_aload_n hx hb dL_law_651 rfl (lv_at hl 2 rfl) ?_
        refine lv_aload_n hx hb dL_law_652 rfl (lv_at hl 0 rfl) ?_
        refine lv_iload_n hx hb dL_law_653 rfl (lv_at hl 3 rfl) ?_
        refine lv_iconst (v := (1)) hx hb dL_law_654 (by decide) ?_
        refine lv_iadd hx hb dL_law_655 ?_
        obtain ⟨x159, e_x159, hp⟩ := owp_ob hp
        refine ab_sld X hS hX e_x159 dL_law_656 ?_
        refine lv_aload_n hx hb dL_law_657 rfl (lv_at hl 0 rfl) ?_
        refine lv_iload_n hx hb dL_law_658 rfl (lv_at hl 3 rfl) ?_
        refine lv_iconst (v := (2)) hx hb dL_law_659 (by decide) ?_
        refine lv_iadd hx hb dL_law_660 ?_
        obtain ⟨x160, e_x160, hp⟩ := owp_ob hp
        refine ab_sld X hS hX e_x160 dL_law_661 ?_
        refine lv_aload_n hx hb dL_law_662 rfl (lv_at hl 0 rfl) ?_
        refine lv_iload_n hx hb dL_law_663 rfl (lv_at hl 3 rfl) ?_
        refine lv_iconst (v := (3)) hx hb dL_law_664 (by decide) ?_
        refine lv_iadd hx hb dL_law_665 ?_
        obtain ⟨x161, e_x161, hp⟩ := owp_ob hp
        refine ab_sld X hS hX e_x161 dL_law_666 ?_
        obtain ⟨x163, N162, e_N162, hp⟩ := owp_ob2 hp
        refine iv_X10_flowPart (rest := [.int x158]) mw_L_93 X hR hS e_N162 hl.1 (Nat.le_of_ble_eq_true rfl) ⟨Nat.le_of_ble_eq_true rfl, Nat.le_of_ble_eq_true rfl⟩ ⟨Nat.le_of_ble_eq_true rfl, Nat.le_of_ble_eq_true rfl⟩ dL_law_667 (fun H locs hR hS => ?_)
        refine lv_icmp_eq (tgt := 1050) hx hb dL_law_670 (by decide) (fun k164 => ?_) (fun k164 => ?_)
        · have hp := owp_t k164 hp
          refine lv_iinc (v := v3 + (4 : Int32)) (lv' := [(3, .int (v3 + (4 : Int32))), (0, .ref b), (1, .ref v1), (2, .ref v2)]) hx hb dL_law_1050 hl (k := 3) rfl rfl (by decide) rfl (fun ls hl => ?_)
          refine lv_goto (tgt := 18) hx hb dL_law_1053 (by decide) ?_
          exact ih _ _ _ _ _ hR hS (lv_sub hl [1, 2, 3, 0] rfl) hp
        · have hp := owp_f k164 hp
          exact hk673 _ _ _ _ hR hS (lv_sub hl [] rfl) hp
      have hp := owp_f k165 hp
      by_cases k173 : (x4 &&& (63 : Int32)) = 19
      · have hp := owp_t k173 hp
        refine lv_tableIn (tgt := 675) (off := 643) hx hb dL_law_32 (by rw [k173]; decide) (by rw [k173]; decide) (by rw [k173]; rfl) (by decide) ?_
        refine lv_aload_n hx hb dL_law_675 rfl (lv_at hl 1 rfl) ?_
        refine lv_aload_n hx hb dL_law_676 rfl (lv_at hl 0 rfl) ?_
        refine lv_iload_n hx hb dL_law_677 rfl (lv_at hl 3 rfl) ?_
        refine lv_iconst (v := (1)) hx hb dL_law_678 (by decide) ?_
        refine lv_iadd hx hb dL_law_679 ?_
        obtain ⟨x166, e_x166, hp⟩ := owp_ob hp
        refine ab_sld X hS hX e_x166 dL_law_680 ?_
        obtain ⟨x168, N167, e_N167, hp⟩ := owp_ob2 hp
        refine iv_X9_rest (rest := []) mw_L_94 X hR hS e_N167 hl.1 (Nat.le_of_ble_eq_true rfl) ⟨Nat.le_of_ble_eq_true rfl, Nat.le_of_ble_eq_true rfl⟩ ⟨Nat.le_of_ble_eq_true rfl, Nat.le_of_ble_eq_true rfl⟩ dL_law_681 (fun H locs hR hS => ?_)
        refine lv_aload_n hx hb dL_law_684 rfl (lv_at hl 2 rfl) ?_
        refine lv_aload_n hx hb dL_law_685 rfl (lv_at hl 0 rfl) ?_
        refine lv_iload_n hx hb dL_law_686 rfl (lv_at hl 3 rfl) ?_
        refine lv_iconst (v := (1)) hx hb dL_law_687 (by decide) ?_
        refine lv_iadd hx hb dL_law_688 ?_
        obtain ⟨x169, e_x169, hp⟩ := owp_ob hp
        refine ab_sld X hS hX e_x169 dL_law_689 ?_
        obtain ⟨x171, N170, e_N170, hp⟩ := owp_ob2 hp
        refine iv_X10_rest (rest := [.int x168]) mw_L_97 X hR hS e_N170 hl.1 (Nat.le_of_ble_eq_true rfl) ⟨Nat.le_of_ble_eq_true rfl, Nat.le_of_ble_eq_true rfl⟩ ⟨Nat.le_of_ble_eq_true rfl, Nat.le_of_ble_eq_true rfl⟩ dL_law_690 (fun H locs hR hS => ?_)
        refine lv_icmp_eq (tgt := 1050) hx hb dL_law_693 (by decide) (fun k172 => ?_) (fun k172 => ?_)
        · have hp := owp_t k172 hp
          refine lv_iinc (v := v3 + (4 : Int32)) (lv' := [(3, .int (v3 + (4 : Int32))), (0, .ref b), (1, .ref v1), (2, .ref v2)]) hx hb dL_law_1050 hl (k := 3) rfl rfl (by decide) rfl (fun ls hl => ?_)
          refine lv_goto (tgt := 18) hx hb dL_law_1053 (by decide) ?_
          exact ih _ _ _ _ _ hR hS (lv_sub hl [1, 2, 3, 0] rfl) hp
        · have hp := owp_f k172 hp
          exact hk696 _ _ _ _ hR hS (lv_sub hl [] rfl) hp
      have hp := owp_f k173 hp
      by_cases k181 : (x4 &&& (63 : Int32)) = 20
      · have hp := owp_t k181 hp
        refine lv_tableIn (tgt := 698) (off := 666) hx hb dL_law_32 (by rw [k181]; decide) (by rw [k181]; decide) (by rw [k181]; rfl) (by decide) ?_
        refine lv_aload_n hx hb dL_law_698 rfl (lv_at hl 1 rfl) ?_
        refine lv_aload_n hx hb dL_law_699 rfl (lv_at hl 0 rfl) ?_
        refine lv_iload_n hx hb dL_law_700 rfl (lv_at hl 3 rfl) ?_
        refine lv_iconst (v := (1)) hx hb dL_law_701 (by decide) ?_
        refine lv_iadd hx hb dL_law_702 ?_
        obtain ⟨x174, e_x174, hp⟩ := owp_ob hp
        refine ab_sld X hS hX e_x174 dL_law_703 ?_
        obtain ⟨x176, N175, e_N175, hp⟩ := owp_ob2 hp
        refine iv_X9_level (rest := []) mw_L_98 X hR hS e_N175 hl.1 (Nat.le_of_ble_eq_true rfl) ⟨Nat.le_of_ble_eq_true rfl, Nat.le_of_ble_eq_true rfl⟩ ⟨Nat.le_of_ble_eq_true rfl, Nat.le_of_ble_eq_true rfl⟩ dL_law_704 (fun H locs hR hS => ?_)
        refine lv_aload_n hx hb dL_law_707 rfl (lv_at hl 2 rfl) ?_
        refine lv_aload_n hx hb dL_law_708 rfl (lv_at hl 0 rfl) ?_
        refine lv_iload_n hx hb dL_law_709 rfl (lv_at hl 3 rfl) ?_
        refine lv_iconst (v := (1)) hx hb dL_law_710 (by decide) ?_
        refine lv_iadd hx hb dL_law_711 ?_
        obtain ⟨x177, e_x177, hp⟩ := owp_ob hp
        refine ab_sld X hS hX e_x177 dL_law_712 ?_
        obtain ⟨x179, N178, e_N178, hp⟩ := owp_ob2 hp
        refine iv_X10_level (rest := [.int x176]) mw_L_101 X hR hS e_N178 hl.1 (Nat.le_of_ble_eq_true rfl) ⟨Nat.le_of_ble_eq_true rfl, Nat.le_of_ble_eq_true rfl⟩ ⟨Nat.le_of_ble_eq_true rfl, Nat.le_of_ble_eq_true rfl⟩ dL_law_713 (fun H locs hR hS => ?_)
        refine lv_icmp_eq (tgt := 1050) hx hb dL_law_716 (by decide) (fun k180 => ?_) (fun k180 => ?_)
        · have hp := owp_t k180 hp
          refine lv_iinc (v := v3 + (4 : Int32)) (lv' := [(3, .int (v3 + (4 : Int32))), (0, .ref b), (1, .ref v1), (2, .ref v2)]) hx hb dL_law_1050 hl (k := 3) rfl rfl (by decide) rfl (fun ls hl => ?_)
          refine lv_goto (tgt := 18) hx hb dL_law_1053 (by decide) ?_
          exact ih _ _ _ _ _ hR hS (lv_sub hl [1, 2, 3, 0] rfl) hp
        · have hp := owp_f k180 hp
          exact hk719 _ _ _ _ hR hS (lv_sub hl [] rfl) hp
      have hp := owp_f k181 hp
      by_cases k189 : (x4 &&& (63 : Int32)) = 21
      · have hp := owp_t k189 hp
        refine lv_tableIn (tgt := 721) (off := 689) hx hb dL_law_32 (by rw [k189]; decide) (by rw [k189]; decide) (by rw [k189]; rfl) (by decide) ?_
        refine lv_aload_n hx hb dL_law_721 rfl (lv_at hl 1 rfl) ?_
        refine lv_aload_n hx hb dL_law_722 rfl (lv_at hl 0 rfl) ?_
        refine lv_iload_n hx hb dL_law_723 rfl (lv_at hl 3 rfl) ?_
        refine lv_iconst (v := (1)) hx hb dL_law_724 (by decide) ?_
        refine lv_iadd hx hb dL_law_725 ?_
        obtain ⟨x182, e_x182, hp⟩ := owp_ob hp
        refine ab_sld X hS hX e_x182 dL_law_726 ?_
        obtain ⟨x184, N183, e_N183, hp⟩ := owp_ob2 hp
        refine iv_X9_loneSpan (rest := []) mw_L_102 X hR hS e_N183 hl.1 (Nat.le_of_ble_eq_true rfl) ⟨Nat.le_of_ble_eq_true rfl, Nat.le_of_ble_eq_true rfl⟩ ⟨Nat.le_of_ble_eq_true rfl, Nat.le_of_ble_eq_true rfl⟩ dL_law_727 (fun H locs hR hS => ?_)
        refine lv_aload_n hx hb dL_law_730 rfl (lv_at hl 2 rfl) ?_
        refine lv_aload_n hx hb dL_law_731 rfl (lv_at hl 0 rfl) ?_
        refine lv_iload_n hx hb dL_law_732 rfl (lv_at hl 3 rfl) ?_
        refine lv_iconst (v := (1)) hx hb dL_law_733 (by decide) ?_
        refine lv_iadd hx hb dL_law_734 ?_
        obtain ⟨x185, e_x185, hp⟩ := owp_ob hp
        refine ab_sld X hS hX e_x185 dL_law_735 ?_
        obtain ⟨x187, N186, e_N186, hp⟩ := owp_ob2 hp
        refine iv_X10_loneSpan (rest := [.int x184]) mw_L_105 X hR hS e_N186 hl.1 (Nat.le_of_ble_eq_true rfl) ⟨Nat.le_of_ble_eq_true rfl, Nat.le_of_ble_eq_true rfl⟩ ⟨Nat.le_of_ble_eq_true rfl, Nat.le_of_ble_eq_true rfl⟩ dL_law_736 (fun H locs hR hS => ?_)
        refine lv_icmp_eq (tgt := 1050) hx hb dL_law_739 (by decide) (fun k188 => ?_) (fun k188 => ?_)
        · have hp := owp_t k188 hp
          refine lv_iinc (v := v3 + (4 : Int32)) (lv' := [(3, .int (v3 + (4 : Int32))), (0, .ref b), (1, .ref v1), (2, .ref v2)]) hx hb dL_law_1050 hl (k := 3) rfl rfl (by decide) rfl (fun ls hl => ?_)
          refine lv_goto (tgt := 18) hx hb dL_law_1053 (by decide) ?_
          exact ih _ _ _ _ _ hR hS (lv_sub hl [1, 2, 3, 0] rfl) hp
        · have hp := owp_f k188 hp
          exact hk742 _ _ _ _ hR hS (lv_sub hl [] rfl) hp
      have hp := owp_f k189 hp
      by_cases k197 : (x4 &&& (63 : Int32)) = 22
      · have hp := owp_t k197 hp
        refine lv_tableIn (tgt := 744) (off := 712) hx hb dL_law_32 (by rw [k197]; decide) (by rw [k197]; decide) (by rw [k197]; rfl) (by decide) ?_
        refine lv_aload_n hx hb dL_law_744 rfl (lv_at hl 1 rfl) ?_
        refine lv_aload_n hx hb dL_law_745 rfl (lv_at hl 0 rfl) ?_
        refine lv_iload_n hx hb dL_law_746 rfl (lv_at hl 3 rfl) ?_
        refine lv_iconst (v := (1)) hx hb dL_law_747 (by decide) ?_
        refine lv_iadd hx hb dL_law_748 ?_
        obtain ⟨x190, e_x190, hp⟩ := owp_ob hp
        refine ab_sld X hS hX e_x190 dL_law_749 ?_
        obtain ⟨x192, N191, e_N191, hp⟩ := owp_ob2 hp
        refine iv_X9_place (rest := []) mw_L_106 X hR hS e_N191 hl.1 (Nat.le_of_ble_eq_true rfl) ⟨Nat.le_of_ble_eq_true rfl, Nat.le_of_ble_eq_true rfl⟩ ⟨Nat.le_of_ble_eq_true rfl, Nat.le_of_ble_eq_true rfl⟩ dL_law_750 (fun H locs hR hS => ?_)
        refine lv_aload_n hx hb dL_law_753 rfl (lv_at hl 2 rfl) ?_
        refine lv_aload_n hx hb dL_law_754 rfl (lv_at hl 0 rfl) ?_
        refine lv_iload_n hx hb dL_law_755 rfl (lv_at hl 3 rfl) ?_
        refine lv_iconst (v := (1)) hx hb dL_law_756 (by decide) ?_
        refine lv_iadd hx hb dL_law_757 ?_
        obtain ⟨x193, e_x193, hp⟩ := owp_ob hp
        refine ab_sld X hS hX e_x193 dL_law_758 ?_
        obtain ⟨x195, N194, e_N194, hp⟩ := owp_ob2 hp
        refine iv_X10_place (rest := [.int x192]) mw_L_109 X hR hS e_N194 hl.1 (Nat.le_of_ble_eq_true rfl) ⟨Nat.le_of_ble_eq_true rfl, Nat.le_of_ble_eq_true rfl⟩ ⟨Nat.le_of_ble_eq_true rfl, Nat.le_of_ble_eq_true rfl⟩ dL_law_759 (fun H locs hR hS => ?_)
        refine lv_icmp_eq (tgt := 1050) hx hb dL_law_762 (by decide) (fun k196 => ?_) (fun k196 => ?_)
        · have hp := owp_t k196 hp
          refine lv_iinc (v := v3 + (4 : Int32)) (lv' := [(3, .int (v3 + (4 : Int32))), (0, .ref b), (1, .ref v1), (2, .ref v2)]) hx hb dL_law_1050 hl (k := 3) rfl rfl (by decide) rfl (fun ls hl => ?_)
          refine lv_goto (tgt := 18) hx hb dL_law_1053 (by decide) ?_
          exact ih _ _ _ _ _ hR hS (lv_sub hl [1, 2, 3, 0] rfl) hp
        · have hp := owp_f k196 hp
          exact hk765 _ _ _ _ hR hS (lv_sub hl [] rfl) hp
      have hp := owp_f k197 hp
      by_cases k205 : (x4 &&& (63 : Int32)) = 23
      · have hp := owp_t k205 hp
        refine lv_tableIn (tgt := 767) (off := 735) hx hb dL_law_32 (by rw [k205]; decide) (by rw [k205]; decide) (by rw [k205]; rfl) (by decide) ?_
        refine lv_aload_n hx hb dL_law_767 rfl (lv_at hl 1 rfl) ?_
        refine lv_aload_n hx hb dL_law_768 rfl (lv_at hl 0 rfl) ?_
        refine lv_iload_n hx hb dL_law_769 rfl (lv_at hl 3 rfl) ?_
        refine lv_iconst (v := (1)) hx hb dL_law_770 (by decide) ?_
        refine lv_iadd hx hb dL_law_771 ?_
        obtain ⟨x198, e_x198, hp⟩ := owp_ob hp
        refine ab_sld X hS hX e_x198 dL_law_772 ?_
        obtain ⟨x200, N199, e_N199, hp⟩ := owp_ob2 hp
        refine iv_X9_nextSpan (rest := []) mw_L_110 X hR hS e_N199 hl.1 (Nat.le_of_ble_eq_true rfl) ⟨Nat.le_of_ble_eq_true rfl, Nat.le_of_ble_eq_true rfl⟩ ⟨Nat.le_of_ble_eq_true rfl, Nat.le_of_ble_eq_true rfl⟩ dL_law_773 (fun H locs hR hS => ?_)
        refine lv_aload_n hx hb dL_law_776 rfl (lv_at hl 2 rfl) ?_
        refine lv_aload_n hx hb dL_law_777 rfl (lv_at hl 0 rfl) ?_
        refine lv_iload_n hx hb dL_law_778 rfl (lv_at hl 3 rfl) ?_
        refine lv_iconst (v := (1)) hx hb dL_law_779 (by decide) ?_
        refine lv_iadd hx hb dL_law_780 ?_
        obtain ⟨x201, e_x201, hp⟩ := owp_ob hp
        refine ab_sld X hS hX e_x201 dL_law_781 ?_
        obtain ⟨x203, N202, e_N202, hp⟩ := owp_ob2 hp
        refine iv_X10_nextSpan (rest := [.int x200]) mw_L_113 X hR hS e_N202 hl.1 (Nat.le_of_ble_eq_true rfl) ⟨Nat.le_of_ble_eq_true rfl, Nat.le_of_ble_eq_true rfl⟩ ⟨Nat.le_of_ble_eq_true rfl, Nat.le_of_ble_eq_true rfl⟩ dL_law_782 (fun H locs hR hS => ?_)
        refine lv_icmp_eq (tgt := 1050) hx hb dL_law_785 (by decide) (fun k204 => ?_) (fun k204 => ?_)
        · have hp := owp_t k204 hp
          refine lv_iinc (v := v3 + (4 : Int32)) (lv' := [(3, .int (v3 + (4 : Int32))), (0, .ref b), (1, .ref v1), (2, .ref v2)]) hx hb dL_law_1050 hl (k := 3) rfl rfl (by decide) rfl (fun ls hl => ?_)
          refine lv_goto (tgt := 18) hx hb dL_law_1053 (by decide) ?_
          exact ih _ _ _ _ _ hR hS (lv_sub hl [1, 2, 3, 0] rfl) hp
        · have hp := owp_f k204 hp
          exact hk788 _ _ _ _ hR hS (lv_sub hl [] rfl) hp
      have hp := owp_f k205 hp
      by_cases k215 : (x4 &&& (63 : Int32)) = 24
      · have hp := owp_t k215 hp
        refine lv_tableIn (tgt := 790) (off := 758) hx hb dL_law_32 (by rw [k215]; decide) (by rw [k215]; decide) (by rw [k215]; rfl) (by decide) ?_
        refine lv_aload_n hx hb dL_law_790 rfl (lv_at hl 1 rfl) ?_
        refine lv_aload_n hx hb dL_law_791 rfl (lv_at hl 0 rfl) ?_
        refine lv_iload_n hx hb dL_law_792 rfl (lv_at hl 3 rfl) ?_
        refine lv_iconst (v := (1)) hx hb dL_law_793 (by decide) ?_
        refine lv_iadd hx hb dL_law_794 ?_
        obtain ⟨x206, e_x206, hp⟩ := owp_ob hp
        refine ab_sld X hS hX e_x206 dL_law_795 ?_
        refine lv_aload_n hx hb dL_law_796 rfl (lv_at hl 0 rfl) ?_
        refine lv_iload_n hx hb dL_law_797 rfl (lv_at hl 3 rfl) ?_
        refine lv_iconst (v := (2)) hx hb dL_law_798 (by decide) ?_
        refine lv_iadd hx hb dL_law_799 ?_
        obtain ⟨x207, e_x207, hp⟩ := owp_ob hp
        refine ab_sld X hS hX e_x207 dL_law_800 ?_
        obtain ⟨x209, N208, e_N208, hp⟩ := owp_ob2 hp
        refine iv_X9_nextRate (rest := []) mw_L_114 X hR hS e_N208 hl.1 (Nat.le_of_ble_eq_true rfl) ⟨Nat.le_of_ble_eq_true rfl, Nat.le_of_ble_eq_true rfl⟩ ⟨Nat.le_of_ble_eq_true rfl, Nat.le_of_ble_eq_true rfl⟩ dL_law_801 (fun H locs hR hS => ?_)
        refine lv_aload_n hx hb dL_law_804 rfl (lv_at hl 2 rfl) ?_
        refine lv_aload_n hx hb dL_law_805 rfl (lv_at hl 0 rfl) ?_
        refine lv_iload_n hx hb dL_law_806 rfl (lv_at hl 3 rfl) ?_
        refine lv_iconst (v := (1)) hx hb dL_law_807 (by decide) ?_
        refine lv_iadd hx hb dL_law_808 ?_
        obtain ⟨x210, e_x210, hp⟩ := owp_ob hp
        refine ab_sld X hS hX e_x210 dL_law_809 ?_
        refine lv_aload_n hx hb dL_law_810 rfl (lv_at hl 0 rfl) ?_
        refine lv_iload_n hx hb dL_law_811 rfl (lv_at hl 3 rfl) ?_
        refine lv_iconst (v := (2)) hx hb dL_law_812 (by decide) ?_
        refine lv_iadd hx hb dL_law_813 ?_
        obtain ⟨x211, e_x211, hp⟩ := owp_ob hp
        refine ab_sld X hS hX e_x211 dL_law_814 ?_
        obtain ⟨x213, N212, e_N212, hp⟩ := owp_ob2 hp
        refine iv_X10_nextRate (rest := [.int x209]) mw_L_117 X hR hS e_N212 hl.1 (Nat.le_of_ble_eq_true rfl) ⟨Nat.le_of_ble_eq_true rfl, Nat.le_of_ble_eq_true rfl⟩ ⟨Nat.le_of_ble_eq_true rfl, Nat.le_of_ble_eq_true rfl⟩ dL_law_815 (fun H locs hR hS => ?_)
        refine lv_icmp_eq (tgt := 1050) hx hb dL_law_818 (by decide) (fun k214 => ?_) (fun k214 => ?_)
        · have hp := owp_t k214 hp
          refine lv_iinc (v := v3 + (4 : Int32)) (lv' := [(3, .int (v3 + (4 : Int32))), (0, .ref b), (1, .ref v1), (2, .ref v2)]) hx hb dL_law_1050 hl (k := 3) rfl rfl (by decide) rfl (fun ls hl => ?_)
          refine lv_goto (tgt := 18) hx hb dL_law_1053 (by decide) ?_
          exact ih _ _ _ _ _ hR hS (lv_sub hl [1, 2, 3, 0] rfl) hp
        · have hp := owp_f k214 hp
          exact hk821 _ _ _ _ hR hS (lv_sub hl [] rfl) hp
      have hp := owp_f k215 hp
      by_cases k223 : (x4 &&& (63 : Int32)) = 25
      · have hp := owp_t k223 hp
        refine lv_tableIn (tgt := 823) (off := 791) hx hb dL_law_32 (by rw [k223]; decide) (by rw [k223]; decide) (by rw [k223]; rfl) (by decide) ?_
        refine lv_aload_n hx hb dL_law_823 rfl (lv_at hl 1 rfl) ?_
        refine lv_aload_n hx hb dL_law_824 rfl (lv_at hl 0 rfl) ?_
        refine lv_iload_n hx hb dL_law_825 rfl (lv_at hl 3 rfl) ?_
        refine lv_iconst (v := (1)) hx hb dL_law_826 (by decide) ?_
        refine lv_iadd hx hb dL_law_827 ?_
        obtain ⟨x216, e_x216, hp⟩ := owp_ob hp
        refine ab_sld X hS hX e_x216 dL_law_828 ?_
        obtain ⟨x218, N217, e_N217, hp⟩ := owp_ob2 hp
        refine iv_X9_spare (rest := []) mw_L_118 X hR hS e_N217 hl.1 (Nat.le_of_ble_eq_true rfl) ⟨Nat.le_of_ble_eq_true rfl, Nat.le_of_ble_eq_true rfl⟩ ⟨Nat.le_of_ble_eq_true rfl, Nat.le_of_ble_eq_true rfl⟩ dL_law_829 (fun H locs hR hS => ?_)
        refine lv_aload_n hx hb dL_law_832 rfl (lv_at hl 2 rfl) ?_
        refine lv_aload_n hx hb dL_law_833 rfl (lv_at hl 0 rfl) ?_
        refine lv_iload_n hx hb dL_law_834 rfl (lv_at hl 3 rfl) ?_
        refine lv_iconst (v := (1)) hx hb dL_law_835 (by decide) ?_
        refine lv_iadd hx hb dL_law_836 ?_
        obtain ⟨x219, e_x219, hp⟩ := owp_ob hp
        refine ab_sld X hS hX e_x219 dL_law_837 ?_
        obtain ⟨x221, N220, e_N220, hp⟩ := owp_ob2 hp
        refine iv_X10_spare (rest := [.int x218]) mw_L_121 X hR hS e_N220 hl.1 (Nat.le_of_ble_eq_true rfl) ⟨Nat.le_of_ble_eq_true rfl, Nat.le_of_ble_eq_true rfl⟩ ⟨Nat.le_of_ble_eq_true rfl, Nat.le_of_ble_eq_true rfl⟩ dL_law_838 (fun H locs hR hS => ?_)
        refine lv_icmp_eq (tgt := 1050) hx hb dL_law_841 (by decide) (fun k222 => ?_) (fun k222 => ?_)
        · have hp := owp_t k222 hp
          refine lv_iinc (v := v3 + (4 : Int32)) (lv' := [(3, .int (v3 + (4 : Int32))), (0, .ref b), (1, .ref v1), (2, .ref v2)]) hx hb dL_law_1050 hl (k := 3) rfl rfl (by decide) rfl (fun ls hl => ?_)
          refine lv_goto (tgt := 18) hx hb dL_law_1053 (by decide) ?_
          exact ih _ _ _ _ _ hR hS (lv_sub hl [1, 2, 3, 0] rfl) hp
        · have hp := owp_f k222 hp
          exact hk844 _ _ _ _ hR hS (lv_sub hl [] rfl) hp
      have hp := owp_f k223 hp
      by_cases k231 : (x4 &&& (63 : Int32)) = 26
      · have hp := owp_t k231 hp
        refine lv_tableIn (tgt := 846) (off := 814) hx hb dL_law_32 (by rw [k231]; decide) (by rw [k231]; decide) (by rw [k231]; rfl) (by decide) ?_
        refine lv_aload_n hx hb dL_law_846 rfl (lv_at hl 1 rfl) ?_
        refine lv_aload_n hx hb dL_law_847 rfl (lv_at hl 0 rfl) ?_
        refine lv_iload_n hx hb dL_law_848 rfl (lv_at hl 3 rfl) ?_
        refine lv_iconst (v := (1)) hx hb dL_law_849 (by decide) ?_
        refine lv_iadd hx hb dL_law_850 ?_
        obtain ⟨x224, e_x224, hp⟩ := owp_ob hp
        refine ab_sld X hS hX e_x224 dL_law_851 ?_
        obtain ⟨x226, N225, e_N225, hp⟩ := owp_ob2 hp
        refine iv_X9_outlook (rest := []) mw_L_122 X hR hS e_N225 hl.1 (Nat.le_of_ble_eq_true rfl) ⟨Nat.le_of_ble_eq_true rfl, Nat.le_of_ble_eq_true rfl⟩ ⟨Nat.le_of_ble_eq_true rfl, Nat.le_of_ble_eq_true rfl⟩ dL_law_852 (fun H locs hR hS => ?_)
        refine lv_aload_n hx hb dL_law_855 rfl (lv_at hl 2 rfl) ?_
        refine lv_aload_n hx hb dL_law_856 rfl (lv_at hl 0 rfl) ?_
        refine lv_iload_n hx hb dL_law_857 rfl (lv_at hl 3 rfl) ?_
        refine lv_iconst (v := (1)) hx hb dL_law_858 (by decide) ?_
        refine lv_iadd hx hb dL_law_859 ?_
        obtain ⟨x227, e_x227, hp⟩ := owp_ob hp
        refine ab_sld X hS hX e_x227 dL_law_860 ?_
        obtain ⟨x229, N228, e_N228, hp⟩ := owp_ob2 hp
        refine iv_X10_outlook (rest := [.int x226]) mw_L_125 X hR hS e_N228 hl.1 (Nat.le_of_ble_eq_true rfl) ⟨Nat.le_of_ble_eq_true rfl, Nat.le_of_ble_eq_true rfl⟩ ⟨Nat.le_of_ble_eq_true rfl, Nat.le_of_ble_eq_true rfl⟩ dL_law_861 (fun H locs hR hS => ?_)
        refine lv_icmp_eq (tgt := 1050) hx hb dL_law_864 (by decide) (fun k230 => ?_) (fun k230 => ?_)
        · have hp := owp_t k230 hp
          refine lv_iinc (v := v3 + (4 : Int32)) (lv' := [(3, .int (v3 + (4 : Int32))), (0, .ref b), (1, .ref v1), (2, .ref v2)]) hx hb dL_law_1050 hl (k := 3) rfl rfl (by decide) rfl (fun ls hl => ?_)
          refine lv_goto (tgt := 18) hx hb dL_law_1053 (by decide) ?_
          exact ih _ _ _ _ _ hR hS (lv_sub hl [1, 2, 3, 0] rfl) hp
        · have hp := owp_f k230 hp
          exact hk867 _ _ _ _ hR hS (lv_sub hl [] rfl) hp
      have hp := owp_f k231 hp
      by_cases k239 : (x4 &&& (63 : Int32)) = 27
      · have hp := owp_t k239 hp
        refine lv_tableIn (tgt := 869) (off := 837) hx hb dL_law_32 (by rw [k239]; decide) (by rw [k239]; decide) (by rw [k239]; rfl) (by decide) ?_
        refine lv_aload_n hx hb dL_law_869 rfl (lv_at hl 1 rfl) ?_
        refine lv_aload_n hx hb dL_law_870 rfl (lv_at hl 0 rfl) ?_
        refine lv_iload_n hx hb dL_law_871 rfl (lv_at hl 3 rfl) ?_
        refine lv_iconst (v := (1)) hx hb dL_law_872 (by decide) ?_
        refine lv_iadd hx hb dL_law_873 ?_
        obtain ⟨x232, e_x232, hp⟩ := owp_ob hp
        refine ab_sld X hS hX e_x232 dL_law_874 ?_
        obtain ⟨x234, N233, e_N233, hp⟩ := owp_ob2 hp
        refine iv_X9_total (rest := []) mw_L_126 X hR hS e_N233 hl.1 (Nat.le_of_ble_eq_true rfl) ⟨Nat.le_of_ble_eq_true rfl, Nat.le_of_ble_eq_true rfl⟩ ⟨Nat.le_of_ble_eq_true rfl, Nat.le_of_ble_eq_true rfl⟩ dL_law_875 (fun H locs hR hS => ?_)
        refine lv_aload_n hx hb dL_law_878 rfl (lv_at hl 2 rfl) ?_
        refine lv_aload_n hx hb dL_law_879 rfl (lv_at hl 0 rfl) ?_
        refine lv_iload_n hx hb dL_law_880 rfl (lv_at hl 3 rfl) ?_
        refine lv_iconst (v := (1)) hx hb dL_law_881 (by decide) ?_
        refine lv_iadd hx hb dL_law_882 ?_
        obtain ⟨x235, e_x235, hp⟩ := owp_ob hp
        refine ab_sld X hS hX e_x235 dL_law_883 ?_
        obtain ⟨x237, N236, e_N236, hp⟩ := owp_ob2 hp
        refine iv_X10_total (rest := [.int x234]) mw_L_129 X hR hS e_N236 hl.1 (Nat.le_of_ble_eq_true rfl) ⟨Nat.le_of_ble_eq_true rfl, Nat.le_of_ble_eq_true rfl⟩ ⟨Nat.le_of_ble_eq_true rfl, Nat.le_of_ble_eq_true rfl⟩ dL_law_884 (fun H locs hR hS => ?_)
        refine lv_icmp_eq (tgt := 1050) hx hb dL_law_887 (by decide) (fun k238 => ?_) (fun k238 => ?_)
        · have hp := owp_t k238 hp
          refine lv_iinc (v := v3 + (4 : Int32)) (lv' := [(3, .int (v3 + (4 : Int32))), (0, .ref b), (1, .ref v1), (2, .ref v2)]) hx hb dL_law_1050 hl (k := 3) rfl rfl (by decide) rfl (fun ls hl => ?_)
          refine lv_goto (tgt := 18) hx hb dL_law_1053 (by decide) ?_
          exact ih _ _ _ _ _ hR hS (lv_sub hl [1, 2, 3, 0] rfl) hp
        · have hp := owp_f k238 hp
          exact hk890 _ _ _ _ hR hS (lv_sub hl [] rfl) hp
      have hp := owp_f k239 hp
      by_cases k245 : (x4 &&& (63 : Int32)) = 28
      · have hp := owp_t k245 hp
        refine lv_tableIn (tgt := 892) (off := 860) hx hb dL_law_32 (by rw [k245]; decide) (by rw [k245]; decide) (by rw [k245]; rfl) (by decide) ?_
        refine lv_aload_n hx hb dL_law_892 rfl (lv_at hl 1 rfl) ?_
        obtain ⟨x241, N240, e_N240, hp⟩ := owp_ob2 hp
        refine iv_X9_bestPolicy (rest := []) mw_L_130 X hR hS e_N240 hl.1 (Nat.le_of_ble_eq_true rfl) ⟨Nat.le_of_ble_eq_true rfl, Nat.le_of_ble_eq_true rfl⟩ ⟨Nat.le_of_ble_eq_true rfl, Nat.le_of_ble_eq_true rfl⟩ dL_law_893 (fun H locs hR hS => ?_)
        refine lv_aload_n hx hb dL_law_896 rfl (lv_at hl 2 rfl) ?_
        obtain ⟨x243, N242, e_N242, hp⟩ := owp_ob2 hp
        refine iv_X10_bestPolicy (rest := [.int x241]) mw_L_133 X hR hS e_N242 hl.1 (Nat.le_of_ble_eq_true rfl) ⟨Nat.le_of_ble_eq_true rfl, Nat.le_of_ble_eq_true rfl⟩ ⟨Nat.le_of_ble_eq_true rfl, Nat.le_of_ble_eq_true rfl⟩ dL_law_897 (fun H locs hR hS => ?_)
        refine lv_icmp_eq (tgt := 1050) hx hb dL_law_900 (by decide) (fun k244 => ?_) (fun k244 => ?_)
        · have hp := owp_t k244 hp
          refine lv_iinc (v := v3 + (4 : Int32)) (lv' := [(3, .int (v3 + (4 : Int32))), (0, .ref b), (1, .ref v1), (2, .ref v2)]) hx hb dL_law_1050 hl (k := 3) rfl rfl (by decide) rfl (fun ls hl => ?_)
          refine lv_goto (tgt := 18) hx hb dL_law_1053 (by decide) ?_
          exact ih _ _ _ _ _ hR hS (lv_sub hl [1, 2, 3, 0] rfl) hp
        · have hp := owp_f k244 hp
          exact hk903 _ _ _ _ hR hS (lv_sub hl [] rfl) hp
      have hp := owp_f k245 hp
      by_cases k251 : (x4 &&& (63 : Int32)) = 29
      · have hp := owp_t k251 hp
        refine lv_tableIn (tgt := 905) (off := 873) hx hb dL_law_32 (by rw [k251]; decide) (by rw [k251]; decide) (by rw [k251]; rfl) (by decide) ?_
        refine lv_aload_n hx hb dL_law_905 rfl (lv_at hl 1 rfl) ?_
        obtain ⟨x247, N246, e_N246, hp⟩ := owp_ob2 hp
        refine iv_X9_bestOrder (rest := []) mw_L_134 X hR hS e_N246 hl.1 (Nat.le_of_ble_eq_true rfl) ⟨Nat.le_of_ble_eq_true rfl, Nat.le_of_ble_eq_true rfl⟩ ⟨Nat.le_of_ble_eq_true rfl, Nat.le_of_ble_eq_true rfl⟩ dL_law_906 (fun H locs hR hS => ?_)
        refine lv_aload_n hx hb dL_law_909 rfl (lv_at hl 2 rfl) ?_
        obtain ⟨x249, N248, e_N248, hp⟩ := owp_ob2 hp
        refine iv_X10_bestOrder (rest := [.int x247]) mw_L_137 X hR hS e_N248 hl.1 (Nat.le_of_ble_eq_true rfl) ⟨Nat.le_of_ble_eq_true rfl, Nat.le_of_ble_eq_true rfl⟩ ⟨Nat.le_of_ble_eq_true rfl, Nat.le_of_ble_eq_true rfl⟩ dL_law_910 (fun H locs hR hS => ?_)
        refine lv_icmp_eq (tgt := 1050) hx hb dL_law_913 (by decide) (fun k250 => ?_) (fun k250 => ?_)
        · have hp := owp_t k250 hp
          refine lv_iinc (v := v3 + (4 : Int32)) (lv' := [(3, .int (v3 + (4 : Int32))), (0, .ref b), (1, .ref v1), (2, .ref v2)]) hx hb dL_law_1050 hl (k := 3) rfl rfl (by decide) rfl (fun ls hl => ?_)
          refine lv_goto (tgt := 18) hx hb dL_law_1053 (by decide) ?_
          exact ih _ _ _ _ _ hR hS (lv_sub hl [1, 2, 3, 0] rfl) hp
        · have hp := owp_f k250 hp
          exact hk916 _ _ _ _ hR hS (lv_sub hl [] rfl) hp
      have hp := owp_f k251 hp
      by_cases k259 : (x4 &&& (63 : Int32)) = 30
      · have hp := owp_t k259 hp
        refine lv_tableIn (tgt := 918) (off := 886) hx hb dL_law_32 (by rw [k259]; decide) (by rw [k259]; decide) (by rw [k259]; rfl) (by decide) ?_
        refine lv_aload_n hx hb dL_law_918 rfl (lv_at hl 1 rfl) ?_
        refine lv_aload_n hx hb dL_law_919 rfl (lv_at hl 0 rfl) ?_
        refine lv_iload_n hx hb dL_law_920 rfl (lv_at hl 3 rfl) ?_
        refine lv_iconst (v := (1)) hx hb dL_law_921 (by decide) ?_
        refine lv_iadd hx hb dL_law_922 ?_
        obtain ⟨x252, e_x252, hp⟩ := owp_ob hp
        refine ab_sld X hS hX e_x252 dL_law_923 ?_
        obtain ⟨x254, N253, e_N253, hp⟩ := owp_ob2 hp
        refine iv_X9_bestOrderAt (rest := []) mw_L_138 X hR hS e_N253 hl.1 (Nat.le_of_ble_eq_true rfl) ⟨Nat.le_of_ble_eq_true rfl, Nat.le_of_ble_eq_true rfl⟩ ⟨Nat.le_of_ble_eq_true rfl, Nat.le_of_ble_eq_true rfl⟩ dL_law_924 (fun H locs hR hS => ?_)
        refine lv_aload_n hx hb dL_law_927 rfl (lv_at hl 2 rfl) ?_
        refine lv_aload_n hx hb dL_law_928 rfl (lv_at hl 0 rfl) ?_
        refine lv_iload_n hx hb dL_law_929 rfl (lv_at hl 3 rfl) ?_
        refine lv_iconst (v := (1)) hx hb dL_law_930 (by decide) ?_
        refine lv_iadd hx hb dL_law_931 ?_
        obtain ⟨x255, e_x255, hp⟩ := owp_ob hp
        refine ab_sld X hS hX e_x255 dL_law_932 ?_
        obtain ⟨x257, N256, e_N256, hp⟩ := owp_ob2 hp
        refine iv_X10_bestOrderAt (rest := [.int x254]) mw_L_141 X hR hS e_N256 hl.1 (Nat.le_of_ble_eq_true rfl) ⟨Nat.le_of_ble_eq_true rfl, Nat.le_of_ble_eq_true rfl⟩ ⟨Nat.le_of_ble_eq_true rfl, Nat.le_of_ble_eq_true rfl⟩ dL_law_933 (fun H locs hR hS => ?_)
        refine lv_icmp_eq (tgt := 1050) hx hb dL_law_936 (by decide) (fun k258 => ?_) (fun k258 => ?_)
        · have hp := owp_t k258 hp
          refine lv_iinc (v := v3 + (4 : Int32)) (lv' := [(3, .int (v3 + (4 : Int32))), (0, .ref b), (1, .ref v1), (2, .ref v2)]) hx hb dL_law_1050 hl (k := 3) rfl rfl (by decide) rfl (fun ls hl => ?_)
          refine lv_goto (tgt := 18) hx hb dL_law_1053 (by decide) ?_
          exact ih _ _ _ _ _ hR hS (lv_sub hl [1, 2, 3, 0] rfl) hp
        · have hp := owp_f k258 hp
          exact hk939 _ _ _ _ hR hS (lv_sub hl [] rfl) hp
      have hp := owp_f k259 hp
      by_cases k265 : (x4 &&& (63 : Int32)) = 31
      · have hp := owp_t k265 hp
        refine lv_tableIn (tgt := 941) (off := 909) hx hb dL_law_32 (by rw [k265]; decide) (by rw [k265]; decide) (by rw [k265]; rfl) (by decide) ?_
        refine lv_aload_n hx hb dL_law_941 rfl (lv_at hl 1 rfl) ?_
        obtain ⟨x261, N260, e_N260, hp⟩ := owp_ob2 hp
        refine iv_X9_bound (rest := []) mw_L_142 X hR hS e_N260 hl.1 (Nat.le_of_ble_eq_true rfl) ⟨Nat.le_of_ble_eq_true rfl, Nat.le_of_ble_eq_true rfl⟩ ⟨Nat.le_of_ble_eq_true rfl, Nat.le_of_ble_eq_true rfl⟩ dL_law_942 (fun H locs hR hS => ?_)
        refine lv_aload_n hx hb dL_law_945 rfl (lv_at hl 2 rfl) ?_
        obtain ⟨x263, N262, e_N262, hp⟩ := owp_ob2 hp
        refine iv_X10_bound (rest := [.int x261]) mw_L_145 X hR hS e_N262 hl.1 (Nat.le_of_ble_eq_true rfl) ⟨Nat.le_of_ble_eq_true rfl, Nat.le_of_ble_eq_true rfl⟩ ⟨Nat.le_of_ble_eq_true rfl, Nat.le_of_ble_eq_true rfl⟩ dL_law_946 (fun H locs hR hS => ?_)
        refine lv_icmp_eq (tgt := 1050) hx hb dL_law_949 (by decide) (fun k264 => ?_) (fun k264 => ?_)
        · have hp := owp_t k264 hp
          refine lv_iinc (v := v3 + (4 : Int32)) (lv' := [(3, .int (v3 + (4 : Int32))), (0, .ref b), (1, .ref v1), (2, .ref v2)]) hx hb dL_law_1050 hl (k := 3) rfl rfl (by decide) rfl (fun ls hl => ?_)
          refine lv_goto (tgt := 18) hx hb dL_law_1053 (by decide) ?_
          exact ih _ _ _ _ _ hR hS (lv_sub hl [1, 2, 3, 0] rfl) hp
        · have hp := owp_f k264 hp
          exact hk952 _ _ _ _ hR hS (lv_sub hl [] rfl) hp
      have hp := owp_f k265 hp
      by_cases k273 : (x4 &&& (63 : Int32)) = 32
      · have hp := owp_t k273 hp
        refine lv_tableIn (tgt := 954) (off := 922) hx hb dL_law_32 (by rw [k273]; decide) (by rw [k273]; decide) (by rw [k273]; rfl) (by decide) ?_
        refine lv_aload_n hx hb dL_law_954 rfl (lv_at hl 1 rfl) ?_
        refine lv_aload_n hx hb dL_law_955 rfl (lv_at hl 0 rfl) ?_
        refine lv_iload_n hx hb dL_law_956 rfl (lv_at hl 3 rfl) ?_
        refine lv_iconst (v := (1)) hx hb dL_law_957 (by decide) ?_
        refine lv_iadd hx hb dL_law_958 ?_
        obtain ⟨x266, e_x266, hp⟩ := owp_ob hp
        refine ab_sld X hS hX e_x266 dL_law_959 ?_
        obtain ⟨x268, N267, e_N267, hp⟩ := owp_ob2 hp
        refine iv_X9_moved (rest := []) mw_L_146 X hR hS e_N267 hl.1 (Nat.le_of_ble_eq_true rfl) ⟨Nat.le_of_ble_eq_true rfl, Nat.le_of_ble_eq_true rfl⟩ ⟨Nat.le_of_ble_eq_true rfl, Nat.le_of_ble_eq_true rfl⟩ dL_law_960 (fun H locs hR hS => ?_)
        refine lv_aload_n hx hb dL_law_963 rfl (lv_at hl 2 rfl) ?_
        refine lv_aload_n hx hb dL_law_964 rfl (lv_at hl 0 rfl) ?_
        refine lv_iload_n hx hb dL_law_965 rfl (lv_at hl 3 rfl) ?_
        refine lv_iconst (v := (1)) hx hb dL_law_966 (by decide) ?_
        refine lv_iadd hx hb dL_law_967 ?_
        obtain ⟨x269, e_x269, hp⟩ := owp_ob hp
        refine ab_sld X hS hX e_x269 dL_law_968 ?_
        obtain ⟨x271, N270, e_N270, hp⟩ := owp_ob2 hp
        refine iv_X10_moved (rest := [.int x268]) mw_L_149 X hR hS e_N270 hl.1 (Nat.le_of_ble_eq_true rfl) ⟨Nat.le_of_ble_eq_true rfl, Nat.le_of_ble_eq_true rfl⟩ ⟨Nat.le_of_ble_eq_true rfl, Nat.le_of_ble_eq_true rfl⟩ dL_law_969 (fun H locs hR hS => ?_)
        refine lv_icmp_eq (tgt := 1050) hx hb dL_law_972 (by decide) (fun k272 => ?_) (fun k272 => ?_)
        · have hp := owp_t k272 hp
          refine lv_iinc (v := v3 + (4 : Int32)) (lv' := [(3, .int (v3 + (4 : Int32))), (0, .ref b), (1, .ref v1), (2, .ref v2)]) hx hb dL_law_1050 hl (k := 3) rfl rfl (by decide) rfl (fun ls hl => ?_)
          refine lv_goto (tgt := 18) hx hb dL_law_1053 (by decide) ?_
          exact ih _ _ _ _ _ hR hS (lv_sub hl [1, 2, 3, 0] rfl) hp
        · have hp := owp_f k272 hp
          exact hk975 _ _ _ _ hR hS (lv_sub hl [] rfl) hp
      have hp := owp_f k273 hp
      by_cases k279 : (x4 &&& (63 : Int32)) = 33
      · have hp := owp_t k279 hp
        refine lv_tableIn (tgt := 977) (off := 945) hx hb dL_law_32 (by rw [k279]; decide) (by rw [k279]; decide) (by rw [k279]; rfl) (by decide) ?_
        refine lv_aload_n hx hb dL_law_977 rfl (lv_at hl 1 rfl) ?_
        obtain ⟨x275, N274, e_N274, hp⟩ := owp_ob2 hp
        refine iv_X9_preemptions (rest := []) mw_L_150 X hR hS e_N274 hl.1 (Nat.le_of_ble_eq_true rfl) ⟨Nat.le_of_ble_eq_true rfl, Nat.le_of_ble_eq_true rfl⟩ ⟨Nat.le_of_ble_eq_true rfl, Nat.le_of_ble_eq_true rfl⟩ dL_law_978 (fun H locs hR hS => ?_)
        refine lv_aload_n hx hb dL_law_981 rfl (lv_at hl 2 rfl) ?_
        obtain ⟨x277, N276, e_N276, hp⟩ := owp_ob2 hp
        refine iv_X10_preemptions (rest := [.int x275]) mw_L_153 X hR hS e_N276 hl.1 (Nat.le_of_ble_eq_true rfl) ⟨Nat.le_of_ble_eq_true rfl, Nat.le_of_ble_eq_true rfl⟩ ⟨Nat.le_of_ble_eq_true rfl, Nat.le_of_ble_eq_true rfl⟩ dL_law_982 (fun H locs hR hS => ?_)
        refine lv_icmp_eq (tgt := 1050) hx hb dL_law_985 (by decide) (fun k278 => ?_) (fun k278 => ?_)
        · have hp := owp_t k278 hp
          refine lv_iinc (v := v3 + (4 : Int32)) (lv' := [(3, .int (v3 + (4 : Int32))), (0, .ref b), (1, .ref v1), (2, .ref v2)]) hx hb dL_law_1050 hl (k := 3) rfl rfl (by decide) rfl (fun ls hl => ?_)
          refine lv_goto (tgt := 18) hx hb dL_law_1053 (by decide) ?_
          exact ih _ _ _ _ _ hR hS (lv_sub hl [1, 2, 3, 0] rfl) hp
        · have hp := owp_f k278 hp
          exact hk988 _ _ _ _ hR hS (lv_sub hl [] rfl) hp
      have hp := owp_f k279 hp
      by_cases k285 : (x4 &&& (63 : Int32)) = 34
      · have hp := owp_t k285 hp
        refine lv_tableIn (tgt := 990) (off := 958) hx hb dL_law_32 (by rw [k285]; decide) (by rw [k285]; decide) (by rw [k285]; rfl) (by decide) ?_
        refine lv_aload_n hx hb dL_law_990 rfl (lv_at hl 1 rfl) ?_
        obtain ⟨x281, N280, e_N280, hp⟩ := owp_ob2 hp
        refine iv_X9_eventCount (rest := []) mw_L_154 X hR hS e_N280 hl.1 (Nat.le_of_ble_eq_true rfl) ⟨Nat.le_of_ble_eq_true rfl, Nat.le_of_ble_eq_true rfl⟩ ⟨Nat.le_of_ble_eq_true rfl, Nat.le_of_ble_eq_true rfl⟩ dL_law_991 (fun H locs hR hS => ?_)
        refine lv_aload_n hx hb dL_law_994 rfl (lv_at hl 2 rfl) ?_
        obtain ⟨x283, N282, e_N282, hp⟩ := owp_ob2 hp
        refine iv_X10_eventCount (rest := [.int x281]) mw_L_157 X hR hS e_N282 hl.1 (Nat.le_of_ble_eq_true rfl) ⟨Nat.le_of_ble_eq_true rfl, Nat.le_of_ble_eq_true rfl⟩ ⟨Nat.le_of_ble_eq_true rfl, Nat.le_of_ble_eq_true rfl⟩ dL_law_995 (fun H locs hR hS => ?_)
        refine lv_icmp_eq (tgt := 1050) hx hb dL_law_998 (by decide) (fun k284 => ?_) (fun k284 => ?_)
        · have hp := owp_t k284 hp
          refine lv_iinc (v := v3 + (4 : Int32)) (lv' := [(3, .int (v3 + (4 : Int32))), (0, .ref b), (1, .ref v1), (2, .ref v2)]) hx hb dL_law_1050 hl (k := 3) rfl rfl (by decide) rfl (fun ls hl => ?_)
          refine lv_goto (tgt := 18) hx hb dL_law_1053 (by decide) ?_
          exact ih _ _ _ _ _ hR hS (lv_sub hl [1, 2, 3, 0] rfl) hp
        · have hp := owp_f k284 hp
          exact hk1001 _ _ _ _ hR hS (lv_sub hl [] rfl) hp
      have hp := owp_f k285 hp
      by_cases k295 : (x4 &&& (63 : Int32)) = 35
      · have hp := owp_t k295 hp
        refine lv_tableIn (tgt := 1003) (off := 971) hx hb dL_law_32 (by rw [k295]; decide) (by rw [k295]; decide) (by rw [k295]; rfl) (by decide) ?_
        refine lv_aload_n hx hb dL_law_1003 rfl (lv_at hl 1 rfl) ?_
        refine lv_aload_n hx hb dL_law_1004 rfl (lv_at hl 0 rfl) ?_
        refine lv_iload_n hx hb dL_law_1005 rfl (lv_at hl 3 rfl) ?_
        refine lv_iconst (v := (1)) hx hb dL_law_1006 (by decide) ?_
        refine lv_iadd hx hb dL_law_1007 ?_
        obtain ⟨x286, e_x286, hp⟩ := owp_ob hp
        refine ab_sld X hS hX e_x286 dL_law_1008 ?_
        refine lv_aload_n hx hb dL_law_1009 rfl (lv_at hl 0 rfl) ?_
        refine lv_iload_n hx hb dL_law_1010 rfl (lv_at hl 3 rfl) ?_
        refine lv_iconst (v := (2)) hx hb dL_law_1011 (by decide) ?_
        refine lv_iadd hx hb dL_law_1012 ?_
        obtain ⟨x287, e_x287, hp⟩ := owp_ob hp
        refine ab_sld X hS hX e_x287 dL_law_1013 ?_
        obtain ⟨x289, N288, e_N288, hp⟩ := owp_ob2 hp
        refine iv_X9_event (rest := []) mw_L_158 X hR hS e_N288 hl.1 (Nat.le_of_ble_eq_true rfl) ⟨Nat.le_of_ble_eq_true rfl, Nat.le_of_ble_eq_true rfl⟩ ⟨Nat.le_of_ble_eq_true rfl, Nat.le_of_ble_eq_true rfl⟩ dL_law_1014 (fun H locs hR hS => ?_)
        refine lv_aload_n hx hb dL_law_1017 rfl (lv_at hl 2 rfl) ?_
        refine lv_aload_n hx hb dL_law_1018 rfl (lv_at hl 0 rfl) ?_
        refine lv_iload_n hx hb dL_law_1019 rfl (lv_at hl 3 rfl) ?_
        refine lv_iconst (v := (1)) hx hb dL_law_1020 (by decide) ?_
        refine lv_iadd hx hb dL_law_1021 ?_
        obtain ⟨x290, e_x290, hp⟩ := owp_ob hp
        refine ab_sld X hS hX e_x290 dL_law_1022 ?_
        refine lv_aload_n hx hb dL_law_1023 rfl (lv_at hl 0 rfl) ?_
        refine lv_iload_n hx hb dL_law_1024 rfl (lv_at hl 3 rfl) ?_
        refine lv_iconst (v := (2)) hx hb dL_law_1025 (by decide) ?_
        refine lv_iadd hx hb dL_law_1026 ?_
        obtain ⟨x291, e_x291, hp⟩ := owp_ob hp
        refine ab_sld X hS hX e_x291 dL_law_1027 ?_
        obtain ⟨x293, N292, e_N292, hp⟩ := owp_ob2 hp
        refine iv_X10_event (rest := [.int x289]) mw_L_161 X hR hS e_N292 hl.1 (Nat.le_of_ble_eq_true rfl) ⟨Nat.le_of_ble_eq_true rfl, Nat.le_of_ble_eq_true rfl⟩ ⟨Nat.le_of_ble_eq_true rfl, Nat.le_of_ble_eq_true rfl⟩ dL_law_1028 (fun H locs hR hS => ?_)
        refine lv_icmp_eq (tgt := 1050) hx hb dL_law_1031 (by decide) (fun k294 => ?_) (fun k294 => ?_)
        · have hp := owp_t k294 hp
          refine lv_iinc (v := v3 + (4 : Int32)) (lv' := [(3, .int (v3 + (4 : Int32))), (0, .ref b), (1, .ref v1), (2, .ref v2)]) hx hb dL_law_1050 hl (k := 3) rfl rfl (by decide) rfl (fun ls hl => ?_)
          refine lv_goto (tgt := 18) hx hb dL_law_1053 (by decide) ?_
          exact ih _ _ _ _ _ hR hS (lv_sub hl [1, 2, 3, 0] rfl) hp
        · have hp := owp_f k294 hp
          exact hk1034 _ _ _ _ hR hS (lv_sub hl [] rfl) hp
      have hp := owp_f k295 hp
      by_cases k301 : (x4 &&& (63 : Int32)) = 36
      · have hp := owp_t k301 hp
        refine lv_tableIn (tgt := 1036) (off := 1004) hx hb dL_law_32 (by rw [k301]; decide) (by rw [k301]; decide) (by rw [k301]; rfl) (by decide) ?_
        refine lv_aload_n hx hb dL_law_1036 rfl (lv_at hl 1 rfl) ?_
        obtain ⟨x297, N296, e_N296, hp⟩ := owp_ob2 hp
        refine iv_X9_digest (rest := []) mw_L_162 X hR hS e_N296 hl.1 (Nat.le_of_ble_eq_true rfl) ⟨Nat.le_of_ble_eq_true rfl, Nat.le_of_ble_eq_true rfl⟩ ⟨Nat.le_of_ble_eq_true rfl, Nat.le_of_ble_eq_true rfl⟩ dL_law_1037 (fun H locs hR hS => ?_)
        refine lv_aload_n hx hb dL_law_1040 rfl (lv_at hl 2 rfl) ?_
        obtain ⟨x299, N298, e_N298, hp⟩ := owp_ob2 hp
        refine iv_X10_digest (rest := [.long x297]) mw_L_166 X hR hS e_N298 hl.1 (Nat.le_of_ble_eq_true rfl) ⟨Nat.le_of_ble_eq_true rfl, Nat.le_of_ble_eq_true rfl⟩ ⟨Nat.le_of_ble_eq_true rfl, Nat.le_of_ble_eq_true rfl⟩ dL_law_1041 (fun H locs hR hS => ?_)
        refine W.lcmp hx hb dL_law_1044 ?_
        refine lv_if_eq (tgt := 1050) hx hb dL_law_1045 (by decide) (fun k300 => ?_) (fun k300 => ?_)
        · have hp := owp_t k300 hp
          refine lv_iinc (v := v3 + (4 : Int32)) (lv' := [(3, .int (v3 + (4 : Int32))), (0, .ref b), (1, .ref v1), (2, .ref v2)]) hx hb dL_law_1050 hl (k := 3) rfl rfl (by decide) rfl (fun ls hl => ?_)
          refine lv_goto (tgt := 18) hx hb dL_law_1053 (by decide) ?_
          exact ih _ _ _ _ _ hR hS (lv_sub hl [1, 2, 3, 0] rfl) hp
        · have hp := owp_f k300 hp
          exact hk1048 _ _ _ _ hR hS (lv_sub hl [] rfl) hp
      have hp := owp_f k301 hp
      have hout : Int32.toInt (x4 &&& (63 : Int32)) < 0 ∨ 36 < Int32.toInt (x4 &&& (63 : Int32)) := by
        have qk12 := lv_neT (a := 0) k12 (by decide)
        have qk18 := lv_neT (a := 1) k18 (by decide)
        have qk24 := lv_neT (a := 2) k24 (by decide)
        have qk36 := lv_neT (a := 3) k36 (by decide)
        have qk42 := lv_neT (a := 4) k42 (by decide)
        have qk48 := lv_neT (a := 5) k48 (by decide)
        have qk60 := lv_neT (a := 6) k60 (by decide)
        have qk70 := lv_neT (a := 7) k70 (by decide)
        have qk78 := lv_neT (a := 8) k78 (by decide)
        have qk95 := lv_neT (a := 9) k95 (by decide)
        have qk103 := lv_neT (a := 10) k103 (by decide)
        have qk109 := lv_neT (a := 11) k109 (by decide)
        have qk115 := lv_neT (a := 12) k115 (by decide)
        have qk121 := lv_neT (a := 13) k121 (by decide)
        have qk129 := lv_neT (a := 14) k129 (by decide)
        have qk137 := lv_neT (a := 15) k137 (by decide)
        have qk145 := lv_neT (a := 16) k145 (by decide)
        have qk153 := lv_neT (a := 17) k153 (by decide)
        have qk165 := lv_neT (a := 18) k165 (by decide)
        have qk173 := lv_neT (a := 19) k173 (by decide)
        have qk181 := lv_neT (a := 20) k181 (by decide)
        have qk189 := lv_neT (a := 21) k189 (by decide)
        have qk197 := lv_neT (a := 22) k197 (by decide)
        have qk205 := lv_neT (a := 23) k205 (by decide)
        have qk215 := lv_neT (a := 24) k215 (by decide)
        have qk223 := lv_neT (a := 25) k223 (by decide)
        have qk231 := lv_neT (a := 26) k231 (by decide)
        have qk239 := lv_neT (a := 27) k239 (by decide)
        have qk245 := lv_neT (a := 28) k245 (by decide)
        have qk251 := lv_neT (a := 29) k251 (by decide)
        have qk259 := lv_neT (a := 30) k259 (by decide)
        have qk265 := lv_neT (a := 31) k265 (by decide)
        have qk273 := lv_neT (a := 32) k273 (by decide)
        have qk279 := lv_neT (a := 33) k279 (by decide)
        have qk285 := lv_neT (a := 34) k285 (by decide)
        have qk295 := lv_neT (a := 35) k295 (by decide)
        have qk301 := lv_neT (a := 36) k301 (by decide)
        omega
      refine lv_tableOut (tgt := 1050) hx hb dL_law_32 hout (by decide) ?_
      refine lv_iinc (v := v3 + (4 : Int32)) (lv' := [(3, .int (v3 + (4 : Int32))), (0, .ref b), (1, .ref v1), (2, .ref v2)]) hx hb dL_law_1050 hl (k := 3) rfl rfl (by decide) rfl (fun ls hl => ?_)
      refine lv_goto (tgt := 18) hx hb dL_law_1053 (by decide) ?_
      exact ih _ _ _ _ _ hR hS (lv_sub hl [1, 2, 3, 0] rfl) hp
def f_L_law (L : Nat) (xs : Nat → Int32) (N : AH) : Option (Int32 × AH) := ob2 (f_X9_init N.1 (nO N 9 zX9)) (fun _ N1 => ob2 (f_X10_init N1.1 (nO N1 10 zX10)) (fun _ N2 => f_L_law_L18 L xs N.1 N1.1 (fun N302 => some ((0 : Int32), N302)) (fun N303 => some ((0 : Int32), N303)) (fun N304 => some ((0 : Int32), N304)) (fun N305 => some ((0 : Int32), N305)) (fun N306 => some ((0 : Int32), N306)) (fun N307 => some ((0 : Int32), N307)) (fun N308 => some ((0 : Int32), N308)) (fun N309 => some ((0 : Int32), N309)) (fun N310 => some ((0 : Int32), N310)) (fun N311 => some ((0 : Int32), N311)) (fun N312 => some ((0 : Int32), N312)) (fun N313 => some ((0 : Int32), N313)) (fun N314 => some ((0 : Int32), N314)) (fun N315 => some ((0 : Int32), N315)) (fun N316 => some ((0 : Int32), N316)) (fun N317 => some ((0 : Int32), N317)) (fun N318 => some ((0 : Int32), N318)) (fun N319 => some ((0 : Int32), N319)) (fun N320 => some ((0 : Int32), N320)) (fun N321 => some ((0 : Int32), N321)) (fun N322 => some ((0 : Int32), N322)) (fun N323 => some ((0 : Int32), N323)) (fun N324 => some ((0 : Int32), N324)) (fun N325 => some ((0 : Int32), N325)) (fun N326 => some ((0 : Int32), N326)) (fun N327 => some ((0 : Int32), N327)) (fun N328 => some ((0 : Int32), N328)) (fun N329 => some ((0 : Int32), N329)) (fun N330 => some ((0 : Int32), N330)) (fun N331 => some ((0 : Int32), N331)) (fun N332 => some ((0 : Int32), N332)) (fun N333 => some ((0 : Int32), N333)) (fun N334 => some ((0 : Int32), N334)) (fun N335 => some ((0 : Int32), N335)) (fun N336 => some ((0 : Int32), N336)) (fun N337 => some ((0 : Int32), N337)) (fun N338 => some ((0 : Int32), N338)) (fun N339 => some ((1 : Int32), N339)) FU (0 : Int32) N2))
set_option maxHeartbeats 4000000 in
set_option maxRecDepth 100000 in
theorem wk_L_law {P : Int32 × AH → Prop} (X : CX cL_law RL 4 G aC t b0 p s m args c) (hr : RtZ p l e rm_L_law s m args below meth c 836 20932 Q cL_law G aC b0 P) (hX : va_X b L xs s s.heap ∧ b < s.heap.size ∧ ¬ b0 ≤ b) (N : AH) (H : Heap) (locs : List Loc) (ls : Array Slot) (hR : Rp G aC b0 N H) (hS : va_S (fun q => b0 ≤ q) s.heap H locs) (hl : lv_has ls 4 [(0, .ref b)]) (hp : owp (f_L_law L xs N) P) : W p l e rm_L_law s m args below meth c H locs 0 0 Q (F0 m 0 ls []) := by
  have hx := X.1.1
  have hb := X.1.2.1
  unfold f_L_law at hp
  refine no_X9 (own := RL) X hR hS (WT_of 95 (by decide +kernel) (by decide +kernel)) (Nat.le_of_ble_eq_true rfl) (Nat.le_of_ble_eq_true rfl) dL_law_0 (fun H hR hS => ?_)
  refine W.widen (k := 1) (n := 6) (Nat.le_of_ble_eq_true rfl) (Nat.le_of_ble_eq_true rfl) ?_
  refine lv_dup hx hb dL_law_3 rfl ?_
  obtain ⟨_, N1, e_N1, hp⟩ := owp_ob2 hp
  refine iv_X9_init (rest := [.ref N.1]) mw_L_9 X hR hS e_N1 hl.1 (Nat.le_of_ble_eq_true rfl) ⟨Nat.le_of_ble_eq_true rfl, Nat.le_of_ble_eq_true rfl⟩ ⟨Nat.le_of_ble_eq_true rfl, Nat.le_of_ble_eq_true rfl⟩ dL_law_4 (fun H locs hR hS => ?_)
  refine W.widen (k := 824) (n := 11056) (Nat.le_of_ble_eq_true rfl) (Nat.le_of_ble_eq_true rfl) ?_
  refine lv_astore_n (lv' := [(1, .ref N.1), (0, .ref b)]) hx hb dL_law_7 rfl hl (by decide) rfl (fun ls hl => ?_)
  refine no_X10 (own := RL) X hR hS (WT_of 942 (by decide +kernel) (by decide +kernel)) (Nat.le_of_ble_eq_true rfl) (Nat.le_of_ble_eq_true rfl) dL_law_8 (fun H hR hS => ?_)
  refine W.widen (k := 825) (n := 11076) (Nat.le_of_ble_eq_true rfl) (Nat.le_of_ble_eq_true rfl) ?_
  refine lv_dup hx hb dL_law_11 rfl ?_
  obtain ⟨_, N2, e_N2, hp⟩ := owp_ob2 hp
  refine iv_X10_init (rest := [.ref N1.1]) mw_L_12 X hR hS e_N2 hl.1 (Nat.le_of_ble_eq_true rfl) ⟨Nat.le_of_ble_eq_true rfl, Nat.le_of_ble_eq_true rfl⟩ ⟨Nat.le_of_ble_eq_true rfl, Nat.le_of_ble_eq_true rfl⟩ dL_law_12 (fun H locs hR hS => ?_)
  refine W.widen (k := 836) (n := 20932) (Nat.le_of_ble_eq_true rfl) (Nat.le_of_ble_eq_true rfl) ?_
  refine lv_astore_n (lv' := [(2, .ref N1.1), (1, .ref N.1), (0, .ref b)]) hx hb dL_law_15 rfl hl (by decide) rfl (fun ls hl => ?_)
  refine lv_iconst (v := (0)) hx hb dL_law_16 (by decide) ?_
  refine lv_istore_n (lv' := [(3, .int (0 : Int32)), (2, .ref N1.1), (1, .ref N.1), (0, .ref b)]) hx hb dL_law_17 rfl hl (by decide) rfl (fun ls hl => ?_)
  refine w_L_law_L18 X hr hX _ _ (fun N302 H locs ls hR hS hl hp => ?_) (fun N303 H locs ls hR hS hl hp => ?_) (fun N304 H locs ls hR hS hl hp => ?_) (fun N305 H locs ls hR hS hl hp => ?_) (fun N306 H locs ls hR hS hl hp => ?_) (fun N307 H locs ls hR hS hl hp => ?_) (fun N308 H locs ls hR hS hl hp => ?_) (fun N309 H locs ls hR hS hl hp => ?_) (fun N310 H locs ls hR hS hl hp => ?_) (fun N311 H locs ls hR hS hl hp => ?_) (fun N312 H locs ls hR hS hl hp => ?_) (fun N313 H locs ls hR hS hl hp => ?_) (fun N314 H locs ls hR hS hl hp => ?_) (fun N315 H locs ls hR hS hl hp => ?_) (fun N316 H locs ls hR hS hl hp => ?_) (fun N317 H locs ls hR hS hl hp => ?_) (fun N318 H locs ls hR hS hl hp => ?_) (fun N319 H locs ls hR hS hl hp => ?_) (fun N320 H locs ls hR hS hl hp => ?_) (fun N321 H locs ls hR hS hl hp => ?_) (fun N322 H locs ls hR hS hl hp => ?_) (fun N323 H locs ls hR hS hl hp => ?_) (fun N324 H locs ls hR hS hl hp => ?_) (fun N325 H locs ls hR hS hl hp => ?_) (fun N326 H locs ls hR hS hl hp => ?_) (fun N327 H locs ls hR hS hl hp => ?_) (fun N328 H locs ls hR hS hl hp => ?_) (fun N329 H locs ls hR hS hl hp => ?_) (fun N330 H locs ls hR hS hl hp => ?_) (fun N331 H locs ls hR hS hl hp => ?_) (fun N332 H locs ls hR hS hl hp => ?_) (fun N333 H locs ls hR hS hl hp => ?_) (fun N334 H locs ls hR hS hl hp => ?_) (fun N335 H locs ls hR hS hl hp => ?_) (fun N336 H locs ls hR hS hl hp => ?_) (fun N337 H locs ls hR hS hl hp => ?_) (fun N338 H locs ls hR hS hl hp => ?_) (fun N339 H locs ls hR hS hl hp => ?_) _ _ _ _ _ _ hR hS (lv_sub hl [3, 2, 1, 0] rfl) hp
  · refine lv_iconst (v := (0)) hx hb dL_law_217 (by decide) ?_
    exact hr _ _ _ _ _ _ hR hS dL_law_218 (rZ_0 hp)
  · refine lv_iconst (v := (0)) hx hb dL_law_230 (by decide) ?_
    exact hr _ _ _ _ _ _ hR hS dL_law_231 (rZ_0 hp)
  · refine lv_iconst (v := (0)) hx hb dL_law_243 (by decide) ?_
    exact hr _ _ _ _ _ _ hR hS dL_law_244 (rZ_0 hp)
  · refine lv_iconst (v := (0)) hx hb dL_law_286 (by decide) ?_
    exact hr _ _ _ _ _ _ hR hS dL_law_287 (rZ_0 hp)
  · refine lv_iconst (v := (0)) hx hb dL_law_299 (by decide) ?_
    exact hr _ _ _ _ _ _ hR hS dL_law_300 (rZ_0 hp)
  · refine lv_iconst (v := (0)) hx hb dL_law_312 (by decide) ?_
    exact hr _ _ _ _ _ _ hR hS dL_law_313 (rZ_0 hp)
  · refine lv_iconst (v := (0)) hx hb dL_law_355 (by decide) ?_
    exact hr _ _ _ _ _ _ hR hS dL_law_356 (rZ_0 hp)
  · refine lv_iconst (v := (0)) hx hb dL_law_388 (by decide) ?_
    exact hr _ _ _ _ _ _ hR hS dL_law_389 (rZ_0 hp)
  · refine lv_iconst (v := (0)) hx hb dL_law_411 (by decide) ?_
    exact hr _ _ _ _ _ _ hR hS dL_law_412 (rZ_0 hp)
  · refine lv_iconst (v := (0)) hx hb dL_law_476 (by decide) ?_
    exact hr _ _ _ _ _ _ hR hS dL_law_477 (rZ_0 hp)
  · refine lv_iconst (v := (0)) hx hb dL_law_499 (by decide) ?_
    exact hr _ _ _ _ _ _ hR hS dL_law_500 (rZ_0 hp)
  · refine lv_iconst (v := (0)) hx hb dL_law_512 (by decide) ?_
    exact hr _ _ _ _ _ _ hR hS dL_law_513 (rZ_0 hp)
  · refine lv_iconst (v := (0)) hx hb dL_law_525 (by decide) ?_
    exact hr _ _ _ _ _ _ hR hS dL_law_526 (rZ_0 hp)
  · refine lv_iconst (v := (0)) hx hb dL_law_538 (by decide) ?_
    exact hr _ _ _ _ _ _ hR hS dL_law_539 (rZ_0 hp)
  · refine lv_iconst (v := (0)) hx hb dL_law_561 (by decide) ?_
    exact hr _ _ _ _ _ _ hR hS dL_law_562 (rZ_0 hp)
  · refine lv_iconst (v := (0)) hx hb dL_law_584 (by decide) ?_
    exact hr _ _ _ _ _ _ hR hS dL_law_585 (rZ_0 hp)
  · refine lv_iconst (v := (0)) hx hb dL_law_607 (by decide) ?_
    exact hr _ _ _ _ _ _ hR hS dL_law_608 (rZ_0 hp)
  · refine lv_iconst (v := (0)) hx hb dL_law_630 (by decide) ?_
    exact hr _ _ _ _ _ _ hR hS dL_law_631 (rZ_0 hp)
  · refine lv_iconst (v := (0)) hx hb dL_law_673 (by decide) ?_
    exact hr _ _ _ _ _ _ hR hS dL_law_674 (rZ_0 hp)
  · refine lv_iconst (v := (0)) hx hb dL_law_696 (by decide) ?_
    exact hr _ _ _ _ _ _ hR hS dL_law_697 (rZ_0 hp)
  · refine lv_iconst (v := (0)) hx hb dL_law_719 (by decide) ?_
    exact hr _ _ _ _ _ _ hR hS dL_law_720 (rZ_0 hp)
  · refine lv_iconst (v := (0)) hx hb dL_law_742 (by decide) ?_
    exact hr _ _ _ _ _ _ hR hS dL_law_743 (rZ_0 hp)
  · refine lv_iconst (v := (0)) hx hb dL_law_765 (by decide) ?_
    exact hr _ _ _ _ _ _ hR hS dL_law_766 (rZ_0 hp)
  · refine lv_iconst (v := (0)) hx hb dL_law_788 (by decide) ?_
    exact hr _ _ _ _ _ _ hR hS dL_law_789 (rZ_0 hp)
  · refine lv_iconst (v := (0)) hx hb dL_law_821 (by decide) ?_
    exact hr _ _ _ _ _ _ hR hS dL_law_822 (rZ_0 hp)
  · refine lv_iconst (v := (0)) hx hb dL_law_844 (by decide) ?_
    exact hr _ _ _ _ _ _ hR hS dL_law_845 (rZ_0 hp)
  · refine lv_iconst (v := (0)) hx hb dL_law_867 (by decide) ?_
    exact hr _ _ _ _ _ _ hR hS dL_law_868 (rZ_0 hp)
  · refine lv_iconst (v := (0)) hx hb dL_law_890 (by decide) ?_
    exact hr _ _ _ _ _ _ hR hS dL_law_891 (rZ_0 hp)
  · refine lv_iconst (v := (0)) hx hb dL_law_903 (by decide) ?_
    exact hr _ _ _ _ _ _ hR hS dL_law_904 (rZ_0 hp)
  · refine lv_iconst (v := (0)) hx hb dL_law_916 (by decide) ?_
    exact hr _ _ _ _ _ _ hR hS dL_law_917 (rZ_0 hp)
  · refine lv_iconst (v := (0)) hx hb dL_law_939 (by decide) ?_
    exact hr _ _ _ _ _ _ hR hS dL_law_940 (rZ_0 hp)
  · refine lv_iconst (v := (0)) hx hb dL_law_952 (by decide) ?_
    exact hr _ _ _ _ _ _ hR hS dL_law_953 (rZ_0 hp)
  · refine lv_iconst (v := (0)) hx hb dL_law_975 (by decide) ?_
    exact hr _ _ _ _ _ _ hR hS dL_law_976 (rZ_0 hp)
  · refine lv_iconst (v := (0)) hx hb dL_law_988 (by decide) ?_
    exact hr _ _ _ _ _ _ hR hS dL_law_989 (rZ_0 hp)
  · refine lv_iconst (v := (0)) hx hb dL_law_1001 (by decide) ?_
    exact hr _ _ _ _ _ _ hR hS dL_law_1002 (rZ_0 hp)
  · refine lv_iconst (v := (0)) hx hb dL_law_1034 (by decide) ?_
    exact hr _ _ _ _ _ _ hR hS dL_law_1035 (rZ_0 hp)
  · refine lv_iconst (v := (0)) hx hb dL_law_1048 (by decide) ?_
    exact hr _ _ _ _ _ _ hR hS dL_law_1049 (rZ_0 hp)
  · refine lv_iconst (v := (1)) hx hb dL_law_1056 (by decide) ?_
    exact hr _ _ _ _ _ _ hR hS dL_law_1057 (rZ_1 hp)
end
